import java.lang.reflect.Constructor;
import java.lang.reflect.Field;
import java.lang.reflect.Method;
import java.lang.reflect.Modifier;
import java.nio.file.Files;
import java.nio.file.Path;
import java.util.Set;
import java.util.TreeSet;
import java.util.regex.Matcher;
import java.util.regex.Pattern;

/** The public face of the document, and those rules of LANGUAGE.md that can be seen from outside or by words. */
public final class FaceTest {
    private static final Set<String> METHODS = Set.of(
        "int node(int,int,int)", "int forget()", "boolean set(int,int,int)", "boolean aim(int,int,int)",
        "int input(int,int)", "int isVector(int)", "int value(int,int,int)", "int slope(int,int,int)",
        "int bend(int,int,int,int)", "int along(int,int,int)", "int slopeOfAll(int,int)",
        "boolean step(int,int,int,int)", "boolean level(int)");

    public static void main(String[] args) throws Exception {
        constants();
        theClass();
        methods();
        fields();
        words();
        longRunsNeverThrow();
        Check.end();
    }

    private static void constants() {
        Check.due("BAD", GradientCompiler.BAD, -1);
        Check.due("FULL", GradientCompiler.FULL, -2);
        Check.due("WRONG", GradientCompiler.WRONG, -3);
    }

    private static void theClass() {
        Class<?> face = GradientCompiler.class;
        Check.due("public and final", face.getModifiers(), Modifier.PUBLIC | Modifier.FINAL);
        Check.due("in no package", face.getPackageName().isEmpty(), true);
        Check.due("nested classes", face.getDeclaredClasses().length, 0);
        Check.due("over Object alone", face.getSuperclass() == Object.class && face.getInterfaces().length == 0, true);
        Constructor<?>[] made = face.getDeclaredConstructors();
        Check.due("constructors", made.length, 1);
        Check.due("the constructor is public", Modifier.isPublic(made[0].getModifiers()), true);
        Check.due("the constructor's parameters", made[0].getParameterCount(), 0);
    }

    private static void methods() {
        Set<String> seen = new TreeSet<>();
        Set<String> publicNames = new TreeSet<>();
        for (Method method : GradientCompiler.class.getDeclaredMethods()) {
            Check.due(method + " has at most seven parameters", method.getParameterCount() <= 7, true);
            if (!Modifier.isPrivate(method.getModifiers())) {
                Check.due(method + " is plainly public", method.getModifiers(), Modifier.PUBLIC);
                seen.add(form(method));
                publicNames.add(method.getName());
            }
        }
        Check.due("the methods of the face: " + seen, seen.equals(METHODS), true);
        for (Method method : GradientCompiler.class.getDeclaredMethods()) {
            boolean hidden = Modifier.isPrivate(method.getModifiers());
            Check.due(method + " bears a public name", hidden && publicNames.contains(method.getName()), false);
            Check.due(method + " answers an array", method.getReturnType().isArray(), false);
        }
    }

    private static String form(Method method) {
        StringBuilder form = new StringBuilder(method.getReturnType() + " " + method.getName() + "(");
        for (Class<?> type : method.getParameterTypes()) {
            form.append(form.charAt(form.length() - 1) == '(' ? "" : ",").append(type.getName());
        }
        return form.append(")").toString();
    }

    private static void fields() {
        Set<String> constants = Set.of("BAD", "FULL", "WRONG");
        Set<Class<?>> types = Set.of(int.class, long.class, short.class, byte.class, char.class, boolean.class);
        int others = 0;
        int open = 0;
        for (Field field : GradientCompiler.class.getDeclaredFields()) {
            int modifiers = field.getModifiers();
            if (Modifier.isStatic(modifiers)) {
                boolean plain = field.getType() == int.class || field.getType() == long.class;
                Check.due(field + " is a constant", plain && Modifier.isFinal(modifiers), true);
            } else {
                others++;
                Class<?> type = field.getType().isArray() ? field.getType().getComponentType() : field.getType();
                Check.due(field + " is of a plain type", types.contains(type), true);
            }
            if (!Modifier.isPrivate(modifiers)) {
                open++;
                Check.due(field + " is of the face", constants.contains(field.getName()) && Modifier.isPublic(modifiers), true);
            }
        }
        Check.due("public constants", open, 3);
        Check.due("at most forty fields", others <= 40, true);
    }

    private static void words() throws Exception {
        String source = Files.readString(Path.of("src/main/java/GradientCompiler.java"));
        String code = source.replaceAll("(?s)/\\*.*?\\*/", " ").replaceAll("//[^\n]*", " ");
        Pattern refused = Pattern.compile("\\b(import|package|throw|throws|try|catch|synchronized|assert|instanceof|null"
            + "|float|double|String|Math|Integer|System|Arrays|Object|record|enum|interface)\\b|->|::|\"");
        Matcher found = refused.matcher(code);
        while (found.find()) {
            Check.due("the program's code has " + found.group(), true, false);
        }
        Check.due("classes in the file", code.split("\\bclass\\b", -1).length - 1, 1);
    }

    /** After 512 calls answers are free, but LANGUAGE.md lets no call throw in any state. */
    private static void longRunsNeverThrow() {
        int[] ints = {Integer.MIN_VALUE, -1, 0, 1, 2, 3, 4, 11, 12, Integer.MAX_VALUE};
        GradientCompiler g = new GradientCompiler();
        for (int kind = -1; kind <= 11; kind++) {
            for (int a : ints) {
                for (int b : ints) {
                    for (int c : ints) {
                        g.node(kind, a, b);
                        g.level(c);
                        g.set(a, b, c);
                        g.aim(a, b, c);
                        g.input(a, b);
                        g.isVector(a);
                        g.value(a, b, c);
                        g.slope(a, b, c);
                        g.bend(a, b, b, c);
                        g.along(a, b, c);
                        g.slopeOfAll(a, b);
                        g.step(a, b, c, kind);
                    }
                }
            }
            if (kind % 3 == 0) {
                g.forget();
            }
        }
        g.forget();
        Check.due("forget after a long run", g.forget(), 0);
    }
}
