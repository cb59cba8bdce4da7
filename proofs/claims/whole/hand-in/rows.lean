section
section GCA
/-! the pure picture: tables of nodes, their values, first and second derivatives -/
theorem gc_us {f : Nat → Int32} {k : Nat} {x : Int32} : upd f k x k = x := if_pos rfl
theorem gc_un {f : Nat → Int32} {k j : Nat} {x : Int32} (h : j ≠ k) : upd f k x j = f j := if_neg h
theorem gc_uu {f : Nat → Int32} {k : Nat} {x y : Int32} : upd (upd f k x) k y = upd f k y := by
  funext j
  by_cases h : j = k
  · subst h; rw [gc_us, gc_us]
  · rw [gc_un h, gc_un h, gc_un h]
theorem gc_mul (a b : Nat) : nI a * nI b = nI (a * b) := (Int32.ofNat_mul a b).symm
def gc_tb (r : (Nat → Nat → Int32) → Nat → Nat → Int32) : Nat → Nat → Nat → Int32
  | 0 => fun _ _ => 0
  | k + 1 => fun m i => if m = k then r (gc_tb r k) k i else gc_tb r k m i
def gc_fx (r : (Nat → Nat → Int32) → Nat → Nat → Int32) (m i : Nat) : Int32 := r (gc_tb r m) m i
theorem gc_tb_fx (r : (Nat → Nat → Int32) → Nat → Nat → Int32) : ∀ k m i : Nat, m < k → gc_tb r k m i = gc_fx r m i := by
  intro k
  induction k with
  | zero => intro m i h; omega
  | succ k ih =>
    intro m i h
    by_cases e : m = k
    · subst e
      exact if_pos rfl
    · have e' : gc_tb r (k + 1) m i = gc_tb r k m i := if_neg e
      rw [e']
      exact ih m i (by omega)
theorem gc_fx_congr {r r' : (Nat → Nat → Int32) → Nat → Nat → Int32} (k : Nat) (h : ∀ m, m < k → ∀ c c' : Nat → Nat → Int32, (∀ a, a < m → ∀ j, j < 4 → c a j = c' a j) → ∀ i, i < 4 → r c m i = r' c' m i) : ∀ m, m < k → ∀ i, i < 4 → gc_fx r m i = gc_fx r' m i := by
  intro m
  induction m using Nat.strongRecOn with
  | ind m ih =>
    intro hm i hi
    refine h m hm _ _ ?_ i hi
    intro a ha j hj
    rw [gc_tb_fx r m a j ha, gc_tb_fx r' m a j ha]
    exact ih a ha (by omega) j hj
def gc_sm (f : Nat → Int32) : Nat → Int32
  | 0 => 0
  | n + 1 => gc_sm f n + f n
theorem gc_sm_s (f : Nat → Int32) (n : Nat) : gc_sm f (n + 1) = gc_sm f n + f n := rfl
theorem gc_sm_congr {f g : Nat → Int32} : ∀ n : Nat, (∀ j, j < n → f j = g j) → gc_sm f n = gc_sm g n := by
  intro n
  induction n with
  | zero => intro _; rfl
  | succ n ih =>
    intro h
    rw [gc_sm_s, gc_sm_s, ih (fun j hj => h j (by omega)), h n (by omega)]
theorem gc_sm_lin {f g h : Nat → Int32} {z : Int32} : ∀ n : Nat, (∀ j, j < n → f j = g j + h j * z) → gc_sm f n = gc_sm g n + gc_sm h n * z := by
  intro n
  induction n with
  | zero =>
    intro _
    show (0 : Int32) = 0 + 0 * z
    grind
  | succ n ih =>
    intro e
    have e1 := ih (fun j hj => e j (by omega))
    have e2 := e n (by omega)
    rw [gc_sm_s, gc_sm_s, gc_sm_s, e1, e2]
    grind
def gc_co (k x y : Int32) (c : Nat → Nat → Int32) (i : Nat) : Int32 :=
  if k = 2 then c x.toNatClampNeg i + c y.toNatClampNeg i
  else if k = 3 then c x.toNatClampNeg i - c y.toNatClampNeg i
  else if k = 5 then gc_sm (c x.toNatClampNeg) 4
  else if k = 6 then c x.toNatClampNeg ((i + 1) % 4)
  else if k = 7 then c x.toNatClampNeg y.toNatClampNeg
  else if k = 8 then c x.toNatClampNeg i
  else gc_sm (c x.toNatClampNeg) (i + 1)
def gc_ru (k x y : Int32) (A : Nat → Int32) (b : Int32) (M : Nat → Nat → Int32) (Z : Nat → Int32) (c : Nat → Nat → Int32) (i : Nat) : Int32 :=
  if k = 0 then A (4 * x.toNatClampNeg + i)
  else if k = 1 then b
  else if k = 4 then M x.toNatClampNeg y.toNatClampNeg
  else if k = 9 then Z x.toNatClampNeg
  else gc_co k x y c i
section CASES
variable {x y : Int32} {p q i : Nat} {A : Nat → Int32} {b : Int32} {M : Nat → Nat → Int32} {Z : Nat → Int32} {c : Nat → Nat → Int32}
theorem gc_ru_0 (hp : p < 2 ^ 31) : gc_ru 0 (nI p) y A b M Z c i = A (4 * p + i) := by
  unfold gc_ru; rw [if_pos rfl, nI_clamp hp]
theorem gc_ru_1 : gc_ru 1 x y A b M Z c i = b := by
  unfold gc_ru; rw [if_neg (by decide), if_pos rfl]
theorem gc_ru_4 (hp : p < 2 ^ 31) (hq : q < 2 ^ 31) : gc_ru 4 (nI p) (nI q) A b M Z c i = M p q := by
  unfold gc_ru; rw [if_neg (by decide), if_neg (by decide), if_pos rfl, nI_clamp hp, nI_clamp hq]
theorem gc_ru_9 (hp : p < 2 ^ 31) : gc_ru 9 (nI p) y A b M Z c i = Z p := by
  unfold gc_ru; rw [if_neg (by decide), if_neg (by decide), if_neg (by decide), if_pos rfl, nI_clamp hp]
theorem gc_co_2 (hp : p < 2 ^ 31) (hq : q < 2 ^ 31) : gc_co 2 (nI p) (nI q) c i = c p i + c q i := by
  unfold gc_co; rw [if_pos rfl, nI_clamp hp, nI_clamp hq]
theorem gc_co_3 (hp : p < 2 ^ 31) (hq : q < 2 ^ 31) : gc_co 3 (nI p) (nI q) c i = c p i - c q i := by
  unfold gc_co; rw [if_neg (by decide), if_pos rfl, nI_clamp hp, nI_clamp hq]
theorem gc_co_5 (hp : p < 2 ^ 31) : gc_co 5 (nI p) y c i = gc_sm (c p) 4 := by
  unfold gc_co; rw [if_neg (by decide), if_neg (by decide), if_pos rfl, nI_clamp hp]
theorem gc_co_6 (hp : p < 2 ^ 31) : gc_co 6 (nI p) y c i = c p ((i + 1) % 4) := by
  unfold gc_co; rw [if_neg (by decide), if_neg (by decide), if_neg (by decide), if_pos rfl, nI_clamp hp]
theorem gc_co_7 (hp : p < 2 ^ 31) (hq : q < 2 ^ 31) : gc_co 7 (nI p) (nI q) c i = c p q := by
  unfold gc_co; rw [if_neg (by decide), if_neg (by decide), if_neg (by decide), if_neg (by decide), if_pos rfl, nI_clamp hp, nI_clamp hq]
theorem gc_co_8 (hp : p < 2 ^ 31) : gc_co 8 (nI p) y c i = c p i := by
  unfold gc_co; rw [if_neg (by decide), if_neg (by decide), if_neg (by decide), if_neg (by decide), if_neg (by decide), if_pos rfl, nI_clamp hp]
theorem gc_co_10 (hp : p < 2 ^ 31) : gc_co 10 (nI p) y c i = gc_sm (c p) (i + 1) := by
  unfold gc_co; rw [if_neg (by decide), if_neg (by decide), if_neg (by decide), if_neg (by decide), if_neg (by decide), if_neg (by decide), nI_clamp hp]
theorem gc_ru_co {k : Int32} (h0 : ¬ k = 0) (h1 : ¬ k = 1) (h4 : ¬ k = 4) (h9 : ¬ k = 9) : gc_ru k x y A b M Z c i = gc_co k x y c i := by
  unfold gc_ru; rw [if_neg h0, if_neg h1, if_neg h4, if_neg h9]
theorem gc_ru_2 (hp : p < 2 ^ 31) (hq : q < 2 ^ 31) : gc_ru 2 (nI p) (nI q) A b M Z c i = c p i + c q i := by
  rw [gc_ru_co (by decide) (by decide) (by decide) (by decide), gc_co_2 hp hq]
theorem gc_ru_3 (hp : p < 2 ^ 31) (hq : q < 2 ^ 31) : gc_ru 3 (nI p) (nI q) A b M Z c i = c p i - c q i := by
  rw [gc_ru_co (by decide) (by decide) (by decide) (by decide), gc_co_3 hp hq]
theorem gc_ru_5 (hp : p < 2 ^ 31) : gc_ru 5 (nI p) y A b M Z c i = gc_sm (c p) 4 := by
  rw [gc_ru_co (by decide) (by decide) (by decide) (by decide), gc_co_5 hp]
theorem gc_ru_6 (hp : p < 2 ^ 31) : gc_ru 6 (nI p) y A b M Z c i = c p ((i + 1) % 4) := by
  rw [gc_ru_co (by decide) (by decide) (by decide) (by decide), gc_co_6 hp]
theorem gc_ru_7 (hp : p < 2 ^ 31) (hq : q < 2 ^ 31) : gc_ru 7 (nI p) (nI q) A b M Z c i = c p q := by
  rw [gc_ru_co (by decide) (by decide) (by decide) (by decide), gc_co_7 hp hq]
theorem gc_ru_8 (hp : p < 2 ^ 31) : gc_ru 8 (nI p) y A b M Z c i = c p i := by
  rw [gc_ru_co (by decide) (by decide) (by decide) (by decide), gc_co_8 hp]
theorem gc_ru_10 (hp : p < 2 ^ 31) : gc_ru 10 (nI p) y A b M Z c i = gc_sm (c p) (i + 1) := by
  rw [gc_ru_co (by decide) (by decide) (by decide) (by decide), gc_co_10 hp]
end CASES
def gc_or (p q : Int32) : Int32 := if p = 0 then (if q = 0 then 0 else 1) else 1
theorem gc_or_0 {p q : Int32} (h : (0 : Int32) = gc_or p q) : p = 0 ∧ q = 0 := by
  unfold gc_or at h
  by_cases hp : p = 0
  · rw [if_pos hp] at h
    by_cases hq : q = 0
    · exact ⟨hp, hq⟩
    · rw [if_neg hq] at h
      exact absurd h (by decide)
  · rw [if_neg hp] at h
    exact absurd h (by decide)
theorem gc_or_01 (p q : Int32) : gc_or p q = 0 ∨ gc_or p q = 1 := by
  unfold gc_or
  by_cases hp : p = 0
  · rw [if_pos hp]
    by_cases hq : q = 0
    · rw [if_pos hq]; exact Or.inl rfl
    · rw [if_neg hq]; exact Or.inr rfl
  · rw [if_neg hp]; exact Or.inr rfl
/-- a well made node m: its kind k, operands x and y, and whether it is a vector, v; V tells the earlier ones -/
def gc_N (V : Nat → Int32) (m : Nat) (k x y v : Int32) : Prop :=
  (k = 0 ∧ v = 1 ∧ ∃ p, p < 3 ∧ x = nI p) ∨
  (k = 1 ∧ v = 0) ∨
  (k = 2 ∧ ∃ p q, p < m ∧ q < m ∧ x = nI p ∧ y = nI q ∧ v = gc_or (V p) (V q)) ∨
  (k = 3 ∧ ∃ p q, p < m ∧ q < m ∧ x = nI p ∧ y = nI q ∧ v = gc_or (V p) (V q)) ∨
  (k = 4 ∧ ∃ p q, p < m ∧ q < m ∧ x = nI p ∧ y = nI q ∧ v = gc_or (V p) (V q)) ∨
  (k = 5 ∧ v = 0 ∧ ∃ p, p < m ∧ x = nI p ∧ V p = 1) ∨
  (k = 6 ∧ v = 1 ∧ ∃ p, p < m ∧ x = nI p ∧ V p = 1) ∨
  (k = 7 ∧ v = 0 ∧ ∃ p, p < m ∧ x = nI p ∧ V p = 1 ∧ ∃ q, q < 4 ∧ y = nI q) ∨
  (k = 8 ∧ v = 1 ∧ ∃ p, p < m ∧ x = nI p ∧ V p = 0) ∨
  (k = 9 ∧ ∃ p, p < m ∧ x = nI p ∧ v = V p) ∨
  (k = 10 ∧ v = 1 ∧ ∃ p, p < m ∧ x = nI p ∧ V p = 1)
theorem gc_ru_congr {V : Nat → Int32} {m : Nat} {k x y v : Int32} (hm : m ≤ 12) (w : gc_N V m k x y v) {A A' : Nat → Int32} {b b' : Int32} {M M' : Nat → Nat → Int32} {Z Z' : Nat → Int32} {c c' : Nat → Nat → Int32} {i : Nat} (hi : i < 4)
    (hA : ∀ p, p < 12 → A p = A' p) (hb : b = b') (hM : ∀ p q, p < m → q < m → M p q = M' p q) (hZ : ∀ p, p < m → Z p = Z' p) (hc : ∀ p, p < m → ∀ j, j < 4 → c p j = c' p j) :
    gc_ru k x y A b M Z c i = gc_ru k x y A' b' M' Z' c' i := by
  rcases w with ⟨rfl, hv, p, hp, rfl⟩ | ⟨rfl, hv⟩ | ⟨rfl, p, q, hp, hq, rfl, rfl, hv⟩ | ⟨rfl, p, q, hp, hq, rfl, rfl, hv⟩ | ⟨rfl, p, q, hp, hq, rfl, rfl, hv⟩ | ⟨rfl, hv, p, hp, rfl, hw⟩ | ⟨rfl, hv, p, hp, rfl, hw⟩ | ⟨rfl, hv, p, hp, rfl, hw, q, hq, rfl⟩ | ⟨rfl, hv, p, hp, rfl, hw⟩ | ⟨rfl, p, hp, rfl, hv⟩ | ⟨rfl, hv, p, hp, rfl, hw⟩
  · rw [gc_ru_0 (by omega), gc_ru_0 (by omega)]; exact hA _ (by omega)
  · rw [gc_ru_1, gc_ru_1]; exact hb
  · rw [gc_ru_2 (by omega) (by omega), gc_ru_2 (by omega) (by omega), hc p hp i hi, hc q hq i hi]
  · rw [gc_ru_3 (by omega) (by omega), gc_ru_3 (by omega) (by omega), hc p hp i hi, hc q hq i hi]
  · rw [gc_ru_4 (by omega) (by omega), gc_ru_4 (by omega) (by omega)]; exact hM p q hp hq
  · rw [gc_ru_5 (by omega), gc_ru_5 (by omega)]; exact gc_sm_congr 4 (fun j hj => hc p hp j hj)
  · rw [gc_ru_6 (by omega), gc_ru_6 (by omega)]; exact hc p hp _ (Nat.mod_lt _ (by omega))
  · rw [gc_ru_7 (by omega) (by omega), gc_ru_7 (by omega) (by omega)]; exact hc p hp q hq
  · rw [gc_ru_8 (by omega), gc_ru_8 (by omega)]; exact hc p hp i hi
  · rw [gc_ru_9 (by omega), gc_ru_9 (by omega)]; exact hZ p hp
  · rw [gc_ru_10 (by omega), gc_ru_10 (by omega)]; exact gc_sm_congr (i + 1) (fun j hj => hc p hp j (by omega))
theorem gc_01 : ¬ (0 : Int32) = 1 := by decide
theorem gc_ru_uni {V : Nat → Int32} {m : Nat} {k x y : Int32} (hm : m ≤ 12) (w : gc_N V m k x y 0) {A : Nat → Int32} {b : Int32} (M : Nat → Nat → Nat → Int32) (Z : Nat → Nat → Int32) {c : Nat → Nat → Int32} {i : Nat}
    (hM : ∀ p q, p < m → q < m → V p = 0 → V q = 0 → M i p q = M 0 p q) (hZ : ∀ p, p < m → V p = 0 → Z i p = Z 0 p) (hc : ∀ p, p < m → V p = 0 → c p i = c p 0) :
    gc_ru k x y A b (M i) (Z i) c i = gc_ru k x y A b (M 0) (Z 0) c 0 := by
  rcases w with ⟨rfl, hv, p, hp, rfl⟩ | ⟨rfl, hv⟩ | ⟨rfl, p, q, hp, hq, rfl, rfl, hv⟩ | ⟨rfl, p, q, hp, hq, rfl, rfl, hv⟩ | ⟨rfl, p, q, hp, hq, rfl, rfl, hv⟩ | ⟨rfl, hv, p, hp, rfl, hw⟩ | ⟨rfl, hv, p, hp, rfl, hw⟩ | ⟨rfl, hv, p, hp, rfl, hw, q, hq, rfl⟩ | ⟨rfl, hv, p, hp, rfl, hw⟩ | ⟨rfl, p, hp, rfl, hv⟩ | ⟨rfl, hv, p, hp, rfl, hw⟩
  · exact absurd hv gc_01
  · rw [gc_ru_1, gc_ru_1]
  · obtain ⟨h1, h2⟩ := gc_or_0 hv
    rw [gc_ru_2 (by omega) (by omega), gc_ru_2 (by omega) (by omega), hc p hp h1, hc q hq h2]
  · obtain ⟨h1, h2⟩ := gc_or_0 hv
    rw [gc_ru_3 (by omega) (by omega), gc_ru_3 (by omega) (by omega), hc p hp h1, hc q hq h2]
  · obtain ⟨h1, h2⟩ := gc_or_0 hv
    rw [gc_ru_4 (by omega) (by omega), gc_ru_4 (by omega) (by omega)]; exact hM p q hp hq h1 h2
  · rw [gc_ru_5 (by omega), gc_ru_5 (by omega)]
  · exact absurd hv gc_01
  · rw [gc_ru_7 (by omega) (by omega), gc_ru_7 (by omega) (by omega)]
  · exact absurd hv gc_01
  · rw [gc_ru_9 (by omega), gc_ru_9 (by omega)]; exact hZ p hp hv.symm
  · exact absurd hv gc_01
theorem gc_ru_lin {V : Nat → Int32} {m : Nat} {k x y v : Int32} (hm : m ≤ 12) (w : gc_N V m k x y v) {A B C : Nat → Int32} {z : Int32} {va c d e : Nat → Nat → Int32} {i : Nat} (hi : i < 4)
    (hA : ∀ p, p < 12 → A p = B p + C p * z) (hc : ∀ p, p < m → ∀ j, j < 4 → c p j = d p j + e p j * z) :
    gc_ru k x y A 0 (fun p q => c p i * va q i + va p i * c q i) (fun p => if 0 < va p i then c p i else 0) c i
      = gc_ru k x y B 0 (fun p q => d p i * va q i + va p i * d q i) (fun p => if 0 < va p i then d p i else 0) d i
        + gc_ru k x y C 0 (fun p q => e p i * va q i + va p i * e q i) (fun p => if 0 < va p i then e p i else 0) e i * z := by
  rcases w with ⟨rfl, hv, p, hp, rfl⟩ | ⟨rfl, hv⟩ | ⟨rfl, p, q, hp, hq, rfl, rfl, hv⟩ | ⟨rfl, p, q, hp, hq, rfl, rfl, hv⟩ | ⟨rfl, p, q, hp, hq, rfl, rfl, hv⟩ | ⟨rfl, hv, p, hp, rfl, hw⟩ | ⟨rfl, hv, p, hp, rfl, hw⟩ | ⟨rfl, hv, p, hp, rfl, hw, q, hq, rfl⟩ | ⟨rfl, hv, p, hp, rfl, hw⟩ | ⟨rfl, p, hp, rfl, hv⟩ | ⟨rfl, hv, p, hp, rfl, hw⟩
  · rw [gc_ru_0 (by omega), gc_ru_0 (by omega), gc_ru_0 (by omega)]; exact hA _ (by omega)
  · rw [gc_ru_1, gc_ru_1, gc_ru_1]; grind
  · have h1 := hc p hp i hi
    have h2 := hc q hq i hi
    rw [gc_ru_2 (by omega) (by omega), gc_ru_2 (by omega) (by omega), gc_ru_2 (by omega) (by omega), h1, h2]; grind
  · have h1 := hc p hp i hi
    have h2 := hc q hq i hi
    rw [gc_ru_3 (by omega) (by omega), gc_ru_3 (by omega) (by omega), gc_ru_3 (by omega) (by omega), h1, h2]; grind
  · have h1 := hc p hp i hi
    have h2 := hc q hq i hi
    rw [gc_ru_4 (by omega) (by omega), gc_ru_4 (by omega) (by omega), gc_ru_4 (by omega) (by omega)]
    try dsimp only
    rw [h1, h2]; grind
  · rw [gc_ru_5 (by omega), gc_ru_5 (by omega), gc_ru_5 (by omega)]; exact gc_sm_lin 4 (fun j hj => hc p hp j hj)
  · rw [gc_ru_6 (by omega), gc_ru_6 (by omega), gc_ru_6 (by omega)]; exact hc p hp _ (Nat.mod_lt _ (by omega))
  · rw [gc_ru_7 (by omega) (by omega), gc_ru_7 (by omega) (by omega), gc_ru_7 (by omega) (by omega)]; exact hc p hp q hq
  · rw [gc_ru_8 (by omega), gc_ru_8 (by omega), gc_ru_8 (by omega)]; exact hc p hp i hi
  · have h1 := hc p hp i hi
    rw [gc_ru_9 (by omega), gc_ru_9 (by omega), gc_ru_9 (by omega)]
    try dsimp only
    by_cases hz : 0 < va p i
    · rw [if_pos hz, if_pos hz, if_pos hz]; exact h1
    · rw [if_neg hz, if_neg hz, if_neg hz]; grind
  · rw [gc_ru_10 (by omega), gc_ru_10 (by omega), gc_ru_10 (by omega)]; exact gc_sm_lin (i + 1) (fun j hj => hc p hp j (by omega))
end GCA
end
section
section GCB
/-! values, derivatives, second derivatives over the tables K (kinds), X, Y (operands) -/
def gc_rv (K X Y s : Nat → Int32) (c : Nat → Nat → Int32) (m i : Nat) : Int32 :=
  gc_ru (K m) (X m) (Y m) s (X m) (fun p q => c p i * c q i) (fun p => if 0 < c p i then c p i else 0) c i
def gc_rd (K X Y t : Nat → Int32) (v c : Nat → Nat → Int32) (m i : Nat) : Int32 :=
  gc_ru (K m) (X m) (Y m) t 0 (fun p q => c p i * v q i + v p i * c q i) (fun p => if 0 < v p i then c p i else 0) c i
def gc_rb (K X Y : Nat → Int32) (v d e c : Nat → Nat → Int32) (m i : Nat) : Int32 :=
  gc_ru (K m) (X m) (Y m) (fun _ => 0) 0 (fun p q => c p i * v q i + d p i * e q i + e p i * d q i + v p i * c q i) (fun p => if 0 < v p i then c p i else 0) c i
def gc_V (K X Y s : Nat → Int32) : Nat → Nat → Int32 := gc_fx (gc_rv K X Y s)
def gc_D (K X Y s t : Nat → Int32) : Nat → Nat → Int32 := gc_fx (gc_rd K X Y t (gc_V K X Y s))
def gc_B (K X Y s t r : Nat → Int32) : Nat → Nat → Int32 := gc_fx (gc_rb K X Y (gc_V K X Y s) (gc_D K X Y s t) (gc_D K X Y s r))
def gc_W (K X Y V : Nat → Int32) (n : Nat) : Prop := ∀ m, m < n → gc_N V m (K m) (X m) (Y m) (V m) ∧ (V m = 0 ∨ V m = 1)
section STEPS
variable {K X Y V s t r A : Nat → Int32} {n m i : Nat} {v d e c : Nat → Nat → Int32}
theorem gc_V_eq : gc_V K X Y s m i = gc_rv K X Y s (gc_tb (gc_rv K X Y s) m) m i := rfl
theorem gc_D_eq : gc_D K X Y s t m i = gc_rd K X Y t (gc_V K X Y s) (gc_tb (gc_rd K X Y t (gc_V K X Y s)) m) m i := rfl
theorem gc_B_eq : gc_B K X Y s t r m i = gc_rb K X Y (gc_V K X Y s) (gc_D K X Y s t) (gc_D K X Y s r) (gc_tb (gc_rb K X Y (gc_V K X Y s) (gc_D K X Y s t) (gc_D K X Y s r)) m) m i := rfl
theorem gc_V_st (hn : n ≤ 12) (w : gc_W K X Y V n) (hm : m < n) (hi : i < 4) (hA : ∀ p, p < 12 → A p = s p) (hc : ∀ p, p < m → ∀ j, j < 4 → c p j = gc_V K X Y s p j) :
    gc_rv K X Y A c m i = gc_V K X Y s m i := by
  have hc' : ∀ p, p < m → ∀ j, j < 4 → c p j = gc_tb (gc_rv K X Y s) m p j := fun p hp j hj => (hc p hp j hj).trans (gc_tb_fx (gc_rv K X Y s) m p j hp).symm
  rw [gc_V_eq]
  generalize gc_tb (gc_rv K X Y s) m = T at hc' ⊢
  unfold gc_rv
  refine gc_ru_congr (by omega) (w m hm).1 hi hA rfl ?_ ?_ hc'
  · intro p q hp hq
    try dsimp only
    rw [hc' p hp i hi, hc' q hq i hi]
  · intro p hp
    try dsimp only
    rw [hc' p hp i hi]
theorem gc_D_st (hn : n ≤ 12) (w : gc_W K X Y V n) (hm : m < n) (hi : i < 4) (hA : ∀ p, p < 12 → A p = t p) (hv : ∀ p, p < m → ∀ j, j < 4 → v p j = gc_V K X Y s p j) (hc : ∀ p, p < m → ∀ j, j < 4 → c p j = gc_D K X Y s t p j) :
    gc_rd K X Y A v c m i = gc_D K X Y s t m i := by
  have hc' : ∀ p, p < m → ∀ j, j < 4 → c p j = gc_tb (gc_rd K X Y t (gc_V K X Y s)) m p j := fun p hp j hj => (hc p hp j hj).trans (gc_tb_fx (gc_rd K X Y t (gc_V K X Y s)) m p j hp).symm
  rw [gc_D_eq]
  generalize gc_tb (gc_rd K X Y t (gc_V K X Y s)) m = T at hc' ⊢
  unfold gc_rd
  refine gc_ru_congr (by omega) (w m hm).1 hi hA rfl ?_ ?_ hc'
  · intro p q hp hq
    try dsimp only
    rw [hc' p hp i hi, hc' q hq i hi, hv p hp i hi, hv q hq i hi]
  · intro p hp
    try dsimp only
    rw [hc' p hp i hi, hv p hp i hi]
theorem gc_B_st (hn : n ≤ 12) (w : gc_W K X Y V n) (hm : m < n) (hi : i < 4) (hv : ∀ p, p < m → ∀ j, j < 4 → v p j = gc_V K X Y s p j) (hd : ∀ p, p < m → ∀ j, j < 4 → d p j = gc_D K X Y s t p j) (he : ∀ p, p < m → ∀ j, j < 4 → e p j = gc_D K X Y s r p j) (hc : ∀ p, p < m → ∀ j, j < 4 → c p j = gc_B K X Y s t r p j) :
    gc_rb K X Y v d e c m i = gc_B K X Y s t r m i := by
  have hc' : ∀ p, p < m → ∀ j, j < 4 → c p j = gc_tb (gc_rb K X Y (gc_V K X Y s) (gc_D K X Y s t) (gc_D K X Y s r)) m p j := fun p hp j hj => (hc p hp j hj).trans (gc_tb_fx (gc_rb K X Y (gc_V K X Y s) (gc_D K X Y s t) (gc_D K X Y s r)) m p j hp).symm
  rw [gc_B_eq]
  generalize gc_tb (gc_rb K X Y (gc_V K X Y s) (gc_D K X Y s t) (gc_D K X Y s r)) m = T at hc' ⊢
  unfold gc_rb
  refine gc_ru_congr (by omega) (w m hm).1 hi (fun _ _ => rfl) rfl ?_ ?_ hc'
  · intro p q hp hq
    try dsimp only
    rw [hc' p hp i hi, hc' q hq i hi, hv p hp i hi, hv q hq i hi, hd p hp i hi, hd q hq i hi, he p hp i hi, he q hq i hi]
  · intro p hp
    try dsimp only
    rw [hc' p hp i hi, hv p hp i hi]
theorem gc_V_uni (hn : n ≤ 12) (w : gc_W K X Y V n) : ∀ m, m < n → V m = 0 → ∀ i, i < 4 → gc_V K X Y s m i = gc_V K X Y s m 0 := by
  intro m
  induction m using Nat.strongRecOn with
  | ind m ih =>
    intro hm h0 i hi
    have w' := (w m hm).1
    rw [h0] at w'
    have hu : ∀ p, p < m → V p = 0 → gc_tb (gc_rv K X Y s) m p i = gc_tb (gc_rv K X Y s) m p 0 := by
      intro p hp hz
      rw [gc_tb_fx _ m p i hp, gc_tb_fx _ m p 0 hp]
      exact ih p hp (by omega) hz i hi
    refine gc_ru_uni (by omega) w' (fun i p q => gc_tb (gc_rv K X Y s) m p i * gc_tb (gc_rv K X Y s) m q i) (fun i p => if 0 < gc_tb (gc_rv K X Y s) m p i then gc_tb (gc_rv K X Y s) m p i else 0) ?_ ?_ hu
    · intro p q hp hq h1 h2
      try dsimp only
      rw [hu p hp h1, hu q hq h2]
    · intro p hp h1
      try dsimp only
      rw [hu p hp h1]
theorem gc_D_uni (hn : n ≤ 12) (w : gc_W K X Y V n) : ∀ m, m < n → V m = 0 → ∀ i, i < 4 → gc_D K X Y s t m i = gc_D K X Y s t m 0 := by
  intro m
  induction m using Nat.strongRecOn with
  | ind m ih =>
    intro hm h0 i hi
    have w' := (w m hm).1
    rw [h0] at w'
    have hu : ∀ p, p < m → V p = 0 → gc_tb (gc_rd K X Y t (gc_V K X Y s)) m p i = gc_tb (gc_rd K X Y t (gc_V K X Y s)) m p 0 := by
      intro p hp hz
      rw [gc_tb_fx _ m p i hp, gc_tb_fx _ m p 0 hp]
      exact ih p hp (by omega) hz i hi
    have hq : ∀ p, p < m → V p = 0 → gc_V K X Y s p i = gc_V K X Y s p 0 := fun p hp hz => gc_V_uni hn w p (by omega) hz i hi
    refine gc_ru_uni (by omega) w' (fun i p q => gc_tb (gc_rd K X Y t (gc_V K X Y s)) m p i * gc_V K X Y s q i + gc_V K X Y s p i * gc_tb (gc_rd K X Y t (gc_V K X Y s)) m q i) (fun i p => if 0 < gc_V K X Y s p i then gc_tb (gc_rd K X Y t (gc_V K X Y s)) m p i else 0) ?_ ?_ hu
    · intro p q hp hq' h1 h2
      try dsimp only
      rw [hu p hp h1, hu q hq' h2, hq p hp h1, hq q hq' h2]
    · intro p hp h1
      try dsimp only
      rw [hu p hp h1, hq p hp h1]
theorem gc_B_uni (hn : n ≤ 12) (w : gc_W K X Y V n) : ∀ m, m < n → V m = 0 → ∀ i, i < 4 → gc_B K X Y s t r m i = gc_B K X Y s t r m 0 := by
  intro m
  induction m using Nat.strongRecOn with
  | ind m ih =>
    intro hm h0 i hi
    have w' := (w m hm).1
    rw [h0] at w'
    have hu : ∀ p, p < m → V p = 0 → gc_tb (gc_rb K X Y (gc_V K X Y s) (gc_D K X Y s t) (gc_D K X Y s r)) m p i = gc_tb (gc_rb K X Y (gc_V K X Y s) (gc_D K X Y s t) (gc_D K X Y s r)) m p 0 := by
      intro p hp hz
      rw [gc_tb_fx _ m p i hp, gc_tb_fx _ m p 0 hp]
      exact ih p hp (by omega) hz i hi
    have hq : ∀ p, p < m → V p = 0 → gc_V K X Y s p i = gc_V K X Y s p 0 := fun p hp hz => gc_V_uni hn w p (by omega) hz i hi
    have hd : ∀ p, p < m → V p = 0 → gc_D K X Y s t p i = gc_D K X Y s t p 0 := fun p hp hz => gc_D_uni hn w p (by omega) hz i hi
    have he : ∀ p, p < m → V p = 0 → gc_D K X Y s r p i = gc_D K X Y s r p 0 := fun p hp hz => gc_D_uni hn w p (by omega) hz i hi
    rw [gc_B_eq, gc_B_eq]
    generalize gc_tb (gc_rb K X Y (gc_V K X Y s) (gc_D K X Y s t) (gc_D K X Y s r)) m = T at hu ⊢
    unfold gc_rb
    refine gc_ru_uni (by omega) w' (fun i p q => T p i * gc_V K X Y s q i + gc_D K X Y s t p i * gc_D K X Y s r q i + gc_D K X Y s r p i * gc_D K X Y s t q i + gc_V K X Y s p i * T q i) (fun i p => if 0 < gc_V K X Y s p i then T p i else 0) ?_ ?_ hu
    · intro p q hp hq' h1 h2
      try dsimp only
      rw [hu p hp h1, hu q hq' h2, hq p hp h1, hq q hq' h2, hd p hp h1, hd q hq' h2, he p hp h1, he q hq' h2]
    · intro p hp h1
      try dsimp only
      rw [hu p hp h1, hq p hp h1]
/-- other tables and inputs that agree as far as is looked -/
theorem gc_V_congr {K' X' Y' s' : Nat → Int32} (hn : n ≤ 12) (w : gc_W K X Y V n) (hK : ∀ m, m < n → K' m = K m ∧ X' m = X m ∧ Y' m = Y m) (hs : ∀ p, p < 12 → s p = s' p) : ∀ m, m < n → ∀ i, i < 4 → gc_V K X Y s m i = gc_V K' X' Y' s' m i := by
  refine gc_fx_congr n ?_
  intro m hm c c' hc i hi
  obtain ⟨e1, e2, e3⟩ := hK m hm
  unfold gc_rv
  rw [e1, e2, e3]
  refine gc_ru_congr (by omega) (w m hm).1 hi hs rfl ?_ ?_ hc
  · intro p q hp hq
    try dsimp only
    rw [hc p hp i hi, hc q hq i hi]
  · intro p hp
    try dsimp only
    rw [hc p hp i hi]
theorem gc_D_lin {u : Nat → Int32} {z : Int32} (hn : n ≤ 12) (w : gc_W K X Y V n) (h : ∀ p, p < 12 → t p = u p + r p * z) : ∀ m, m < n → ∀ i, i < 4 → gc_D K X Y s t m i = gc_D K X Y s u m i + gc_D K X Y s r m i * z := by
  intro m
  induction m using Nat.strongRecOn with
  | ind m ih =>
    intro hm i hi
    have e (t : Nat → Int32) : gc_D K X Y s t m i = gc_rd K X Y t (gc_V K X Y s) (gc_D K X Y s t) m i :=
      (gc_D_st hn w hm hi (fun _ _ => rfl) (fun _ _ _ _ => rfl) (fun _ _ _ _ => rfl)).symm
    rw [e t, e u, e r]
    exact gc_ru_lin (by omega) (w m hm).1 hi h (fun p hp j hj => ih p hp (by omega) j hj)
theorem gc_D_seed {u : Nat → Int32} (hn : n ≤ 12) (w : gc_W K X Y V n) (h : ∀ p, p < 12 → t p = u p) (hm : m < n) (hi : i < 4) : gc_D K X Y s t m i = gc_D K X Y s u m i := by
  have := gc_D_lin (s := s) (t := t) (u := u) (r := t) (z := 0) hn w (fun p hp => by rw [h p hp]; grind) m hm i hi
  rw [this]; grind
theorem gc_D_zero (hn : n ≤ 12) (w : gc_W K X Y V n) (h : ∀ p, p < 12 → t p = 0) (hm : m < n) (hi : i < 4) : gc_D K X Y s t m i = 0 := by
  have := gc_D_lin (s := s) (t := t) (u := t) (r := t) (z := 1) hn w (fun p hp => by rw [h p hp]; decide) m hm i hi
  grind
end STEPS
end GCB
end
section
section GCK
/-! numbers within, kept values, cells written one by one -/
def gc_in (N : Nat) (x : Int32) : Prop := ∃ j, j < N ∧ x = nI j
theorem gc_in_iff {N : Nat} {x : Int32} (hN : N < 2 ^ 31) : gc_in N x ↔ 0 ≤ x.toInt ∧ x.toInt < N := by
  constructor
  · intro ⟨j, hj, e⟩
    rw [e, nI_toInt (by omega)]
    omega
  · intro h
    exact vp_in_of (vp_in_iff.mpr h) hN
theorem gc_m4 (a : Nat) : nI a * 4 = nI (a * 4) := gc_mul a 4
theorem gc_m12 (a : Nat) : nI a * 12 = nI (a * 12) := gc_mul a 12
theorem gc_4m (a : Nat) : 4 * nI a = nI (4 * a) := gc_mul 4 a
theorem gc_12m (a : Nat) : 12 * nI a = nI (12 * a) := gc_mul 12 a
theorem gc_im {a b : Nat} (h : nI a = nI b) (ha : a < 2 ^ 31) (hb : b < 2 ^ 31) : a = b := (nI_eq ha hb).mp h
theorem gc_10 : ¬ (1 : Int32) = 0 := by decide
def gc_C (K X Y IN va st : Nat → Int32) (n : Nat) : Prop := ∀ e, e < 3 → ∃ q, q ≤ n ∧ st e = nI q ∧ ∀ p, p < q → ∀ j, j < 4 → va ((e * 12 + p) * 4 + j) = gc_V K X Y (fun c => IN (12 * e + c)) p j
def gc_P (F : Nat → Nat → Int32) (e : Nat) (va : Nat → Int32) (m i : Nat) : Prop := (∀ p, p < m → ∀ j, j < 4 → va ((e * 12 + p) * 4 + j) = F p j) ∧ (∀ j, j < i → va ((e * 12 + m) * 4 + j) = F m j)
section
variable {K X Y V IN va st : Nat → Int32} {n e m i : Nat} {F : Nat → Nat → Int32}
theorem gc_P_0 : gc_P F e va 0 0 := ⟨fun p hp => absurd hp (Nat.not_lt_zero p), fun j hj => absurd hj (Nat.not_lt_zero j)⟩
theorem gc_P_s (h : gc_P F e va m 4) : gc_P F e va (m + 1) 0 := by
  refine ⟨fun p hp j hj => ?_, fun j hj => absurd hj (Nat.not_lt_zero j)⟩
  by_cases E : p = m
  · subst E; exact h.2 j hj
  · exact h.1 p (by omega) j hj
theorem gc_P_w (hi : i < 4) (h : gc_P F e va m i) : gc_P F e (upd va ((e * 12 + m) * 4 + i) (F m i)) m (i + 1) := by
  refine ⟨fun p hp j hj => ?_, fun j hj => ?_⟩
  · rw [gc_un (by omega)]; exact h.1 p hp j hj
  · by_cases E : j = i
    · subst E; exact gc_us
    · rw [gc_un (by omega)]; exact h.2 j (by omega)
theorem gc_P_at (h : gc_P F e va (m + 1) 0) (hi : i < 4) : va ((e * 12 + m) * 4 + i) = F m i := h.1 m (by omega) i hi
theorem gc_C_w (hn : n ≤ 12) (he : e < 3) (hm : m < 12) (hi : i < 4) (C : gc_C K X Y IN va st n) : gc_C K X Y IN (upd va ((e * 12 + m) * 4 + i) (gc_V K X Y (fun c => IN (12 * e + c)) m i)) st n := by
  intro e' he'
  obtain ⟨q, hq, hs, h⟩ := C e' he'
  refine ⟨q, hq, hs, fun p hp j hj => ?_⟩
  by_cases E : (e' * 12 + p) * 4 + j = (e * 12 + m) * 4 + i
  · have e1 : e' = e := by omega
    subst e1
    have e2 : p = m := by omega
    subst e2
    have e3 : j = i := by omega
    subst e3
    exact gc_us
  · rw [gc_un E]; exact h p hp j hj
theorem gc_C_st {q : Nat} (he : e < 3) (hq : q ≤ n) (h : ∀ p, p < q → ∀ j, j < 4 → va ((e * 12 + p) * 4 + j) = gc_V K X Y (fun c => IN (12 * e + c)) p j) (C : gc_C K X Y IN va st n) : gc_C K X Y IN va (upd st e (nI q)) n := by
  intro e' he'
  by_cases E : e' = e
  · subst E; exact ⟨q, hq, gc_us, h⟩
  · obtain ⟨q', hq', hs, h'⟩ := C e' he'
    exact ⟨q', hq', by rw [gc_un E]; exact hs, h'⟩
theorem gc_C_0 {IN' : Nat → Int32} (hn : n ≤ 12) (w : gc_W K X Y V n) (h : ∀ e', e' < 3 → e' ≠ e → ∀ c, c < 12 → IN (12 * e' + c) = IN' (12 * e' + c)) (C : gc_C K X Y IN va st n) : gc_C K X Y IN' va (upd st e 0) n := by
  intro e' he'
  by_cases E : e' = e
  · subst E; exact ⟨0, Nat.zero_le _, gc_us, fun p hp => absurd hp (Nat.not_lt_zero p)⟩
  · obtain ⟨q', hq', hs, h'⟩ := C e' he'
    refine ⟨q', hq', by rw [gc_un E]; exact hs, fun p hp j hj => ?_⟩
    rw [h' p hp j hj]
    exact gc_V_congr hn w (fun _ _ => ⟨rfl, rfl, rfl⟩) (h e' he' E) p (by omega) j hj
theorem gc_C_node {k x y : Int32} (hn : n ≤ 12) (w : gc_W K X Y V n) (C : gc_C K X Y IN va st n) : gc_C (upd K n k) (upd X n x) (upd Y n y) IN va st (n + 1) := by
  intro e' he'
  obtain ⟨q', hq', hs, h'⟩ := C e' he'
  refine ⟨q', by omega, hs, fun p hp j hj => ?_⟩
  rw [h' p hp j hj]
  exact gc_V_congr hn w (fun m hm => ⟨gc_un (by omega), gc_un (by omega), gc_un (by omega)⟩) (fun _ _ => rfl) p (by omega) j hj
theorem gc_C_forget (h : ∀ e, e < 3 → st e = 0) : gc_C K X Y IN va st 0 :=
  fun e he => ⟨0, Nat.le_refl _, h e he, fun p hp => absurd hp (Nat.not_lt_zero p)⟩
theorem gc_N_V {V' : Nat → Int32} {k x y v : Int32} (h : ∀ p, p < m → V' p = V p) (w : gc_N V m k x y v) : gc_N V' m k x y v := by
  unfold gc_N at w ⊢
  rcases w with w | w | ⟨e, p, q, hp, hq, w1, w2, w3⟩ | ⟨e, p, q, hp, hq, w1, w2, w3⟩ | ⟨e, p, q, hp, hq, w1, w2, w3⟩ | ⟨e, f, p, hp, w1, w2⟩ | ⟨e, f, p, hp, w1, w2⟩ | ⟨e, f, p, hp, w1, w2, w3⟩ | ⟨e, f, p, hp, w1, w2⟩ | ⟨e, p, hp, w1, w2⟩ | ⟨e, f, p, hp, w1, w2⟩
  · exact Or.inl w
  · exact Or.inr (Or.inl w)
  · exact Or.inr (Or.inr (Or.inl ⟨e, p, q, hp, hq, w1, w2, by rw [h p hp, h q hq]; exact w3⟩))
  · exact Or.inr (Or.inr (Or.inr (Or.inl ⟨e, p, q, hp, hq, w1, w2, by rw [h p hp, h q hq]; exact w3⟩)))
  · exact Or.inr (Or.inr (Or.inr (Or.inr (Or.inl ⟨e, p, q, hp, hq, w1, w2, by rw [h p hp, h q hq]; exact w3⟩))))
  · exact Or.inr (Or.inr (Or.inr (Or.inr (Or.inr (Or.inl ⟨e, f, p, hp, w1, by rw [h p hp]; exact w2⟩)))))
  · exact Or.inr (Or.inr (Or.inr (Or.inr (Or.inr (Or.inr (Or.inl ⟨e, f, p, hp, w1, by rw [h p hp]; exact w2⟩))))))
  · exact Or.inr (Or.inr (Or.inr (Or.inr (Or.inr (Or.inr (Or.inr (Or.inl ⟨e, f, p, hp, w1, by rw [h p hp]; exact w2, w3⟩)))))))
  · exact Or.inr (Or.inr (Or.inr (Or.inr (Or.inr (Or.inr (Or.inr (Or.inr (Or.inl ⟨e, f, p, hp, w1, by rw [h p hp]; exact w2⟩))))))))
  · exact Or.inr (Or.inr (Or.inr (Or.inr (Or.inr (Or.inr (Or.inr (Or.inr (Or.inr (Or.inl ⟨e, p, hp, w1, by rw [h p hp]; exact w2⟩)))))))))
  · exact Or.inr (Or.inr (Or.inr (Or.inr (Or.inr (Or.inr (Or.inr (Or.inr (Or.inr (Or.inr ⟨e, f, p, hp, w1, by rw [h p hp]; exact w2⟩)))))))))
theorem gc_W_node {k x y v : Int32} (w : gc_W K X Y V n) (hv : v = 0 ∨ v = 1) (h : gc_N V n k x y v) : gc_W (upd K n k) (upd X n x) (upd Y n y) (upd V n v) (n + 1) := by
  intro m hm
  by_cases E : m = n
  · subst E
    rw [gc_us, gc_us, gc_us, gc_us]
    exact ⟨gc_N_V (fun p hp => gc_un (by omega)) h, hv⟩
  · rw [gc_un E, gc_un E, gc_un E, gc_un E]
    have := w m (by omega)
    exact ⟨gc_N_V (fun p hp => gc_un (by omega)) this.1, this.2⟩
theorem gc_W_0 : gc_W K X Y V 0 := fun m hm => absurd hm (Nat.not_lt_zero m)
end
/-! the reference's cells: a number has one, a vector four -/
def gc_ac (V pl : Nat → Int32) (p j : Nat) : Int32 := pl (4 * p + (if V p = 0 then 0 else j))
def gc_Q (V : Nat → Int32) (F : Nat → Nat → Int32) (pl : Nat → Int32) (m i : Nat) : Prop := (∀ p, p < m → ∀ j, j < 4 → gc_ac V pl p j = F p j) ∧ (∀ j, j < i → (V m = 0 → j = 0) → pl (4 * m + j) = F m j)
section
variable {V pl : Nat → Int32} {m i : Nat} {F : Nat → Nat → Int32}
theorem gc_ac_0 {p j : Nat} (h : V p = 0) : gc_ac V pl p j = pl (4 * p) := by
  unfold gc_ac; rw [if_pos h]; rfl
theorem gc_ac_1 {p j : Nat} (h : ¬ V p = 0) : gc_ac V pl p j = pl (4 * p + j) := by
  unfold gc_ac; rw [if_neg h]
theorem gc_ac_v {p j : Nat} (h : V p = 1) : gc_ac V pl p j = pl (4 * p + j) := gc_ac_1 (by rw [h]; exact gc_10)
theorem gc_ac_c {p j : Nat} (h : V p = 0 → j = 0) : gc_ac V pl p j = pl (4 * p + j) := by
  by_cases z : V p = 0
  · rw [gc_ac_0 z, h z]; rfl
  · exact gc_ac_1 z
theorem gc_Q_0 : gc_Q V F pl 0 0 := ⟨fun p hp => absurd hp (Nat.not_lt_zero p), fun j hj => absurd hj (Nat.not_lt_zero j)⟩
theorem gc_Q_s (hu : V m = 0 → ∀ j, j < 4 → F m j = F m 0) (h : gc_Q V F pl m 4) : gc_Q V F pl (m + 1) 0 := by
  refine ⟨fun p hp j hj => ?_, fun j hj => absurd hj (Nat.not_lt_zero j)⟩
  by_cases E : p = m
  · subst E
    by_cases z : V p = 0
    · rw [gc_ac_0 z, hu z j hj]; exact h.2 0 (by omega) (fun _ => rfl)
    · rw [gc_ac_1 z]; exact h.2 j hj (fun z' => absurd z' z)
  · exact h.1 p (by omega) j hj
theorem gc_Q_w (hi : i < 4) (h : gc_Q V F pl m i) : gc_Q V F (upd pl (4 * m + i) (F m i)) m (i + 1) := by
  refine ⟨fun p hp j hj => ?_, fun j hj z => ?_⟩
  · rw [← h.1 p hp j hj]
    unfold gc_ac
    by_cases z : V p = 0
    · rw [if_pos z]; exact gc_un (by omega)
    · rw [if_neg z]; exact gc_un (by omega)
  · by_cases E : j = i
    · subst E; exact gc_us
    · rw [gc_un (by omega)]; exact h.2 j (by omega) z
theorem gc_Q_skip (hz : V m = 0) (hi : i ≠ 0) (h : gc_Q V F pl m i) : gc_Q V F pl m (i + 1) := by
  refine ⟨h.1, fun j hj z => ?_⟩
  by_cases E : j = i
  · exact absurd (z hz) (by omega)
  · exact h.2 j (by omega) z
theorem gc_Q_at {n : Nat} (h : gc_Q V F pl n 0) (hm : m < n) (hi : i < 4) (z : V m = 0 → i = 0) : pl (4 * m + i) = F m i := by
  exact (gc_ac_c (pl := pl) z).symm.trans (h.1 m hm i hi)
end
end GCK
end
section
section GXA
/-! the component: tests of arguments, the rules of one node -/
theorem gc_nb {v : Int32} (h : v = 0 ∨ v = 1) : narrow .boolean (.int v) = .int v := by
  rcases h with rfl | rfl
  · rfl
  · rfl
theorem gc_vb {v : Int32} (h : v = 0 ∨ v = 1) : vp_nar .boolean v = v := by
  rcases h with rfl | rfl
  · decide
  · decide
theorem gc_br {N : Nat} {x M : Int32} {A B : Prop} (hM : M = nI N) (hN : N < 2 ^ 31) (h1 : gc_in N x → B) (h0 : ¬ gc_in N x → A) : (x < 0 → A) ∧ (¬ x < 0 → ((M ≤ x → A) ∧ (¬ M ≤ x → B))) := by
  subst hM
  refine br_c (fun a => h0 ?_) (fun a => br_c (fun b => h0 ?_) (fun b => h1 ?_))
  · intro ⟨j, hj, e⟩
    rw [e] at a
    exact nI_pos (by omega) a
  · intro ⟨j, hj, e⟩
    rw [e] at b
    have := (nI_leI hN (by omega)).mp b
    omega
  · obtain ⟨j, hj, e⟩ := nI_of a
    rw [e] at b
    have : ¬ N ≤ j := fun z => b ((nI_leI hN hj).mpr z)
    exact ⟨j, by omega, e⟩
theorem gc_vi {a b N : Nat} (h : a + b < N) (hN : N < 2 ^ 31) : vp_in (nI a + nI b) N := by
  rw [nI_add]; exact vp_in_nI h hN
theorem gc_ix {a b : Nat} (h : a + b < 2 ^ 31) : (nI a + nI b).toNatClampNeg = a + b := by
  rw [nI_add]; exact nI_clamp h
theorem gc_and3 {i : Nat} (hi : i < 4) : nI i + 1 &&& 3 = nI ((i + 1) % 4) := by
  have : i = 0 ∨ i = 1 ∨ i = 2 ∨ i = 3 := by omega
  rcases this with rfl | rfl | rfl | rfl <;> decide
theorem gc_and3' {i : Nat} (hi : i < 4) : nI i &&& 3 = nI i := by
  have : i = 0 ∨ i = 1 ∨ i = 2 ∨ i = 3 := by omega
  rcases this with rfl | rfl | rfl | rfl <;> decide
def gc_num (n : Nat) (V : Nat → Int32) (x : Int32) : Prop := ∃ m, m < n ∧ x = nI m ∧ V m = 0
def gc_cmp (n : Nat) (V : Nat → Int32) (x i : Int32) : Prop := ∃ m, m < n ∧ x = nI m ∧ gc_in (if V m = 0 then 1 else 4) i
def gc_sd (DI : Nat → Int32) (e : Nat) (t : Int32) (q : Nat) : Int32 := if t = -1 then DI (12 * e + q) else if nI q = t then 1 else 0
section
variable {n : Nat} {lv : Int32} {IN DI sp K X Y V va fi se bo st : Nat → Int32} {post : Int32 → Prop} {x y t : Int32} {m i e p q : Nat}
theorem gx_isNode (hn : n ≤ 12) (h1 : gc_in n x → post 1) (h0 : ¬ gc_in n x → post 0) : wpX_isNode post (nI n, lv, IN, DI, sp, K, X, Y, V, va, fi, se, bo, st) x :=
  gc_br rfl (by omega) h1 h0
theorem gx_isPlace (h1 : gc_in 12 x → post 1) (h0 : ¬ gc_in 12 x → post 0) : wpX_isPlace post x :=
  gc_br (N := 12) rfl (by omega) h1 h0
theorem gx_isExample (h1 : gc_in 3 x → post 1) (h0 : ¬ gc_in 3 x → post 0) : wpX_isExample post x :=
  gc_br (N := 3) rfl (by omega) h1 h0
theorem gx_isNumber (hn : n ≤ 12) (h1 : gc_num n V x → post 1) (h0 : ¬ gc_num n V x → post 0) : wpX_isNumber post (nI n, lv, IN, DI, sp, K, X, Y, V, va, fi, se, bo, st) x := by
  unfold wpX_isNumber
  refine gx_isNode hn (fun h => br_f gc_10 ?_) (fun h => br_t rfl (h0 ?_))
  · obtain ⟨m, hm, rfl⟩ := h
    refine ⟨vp_in_nI (by omega) (by omega), ?_⟩
    rw [nI_clamp (by omega)]
    refine br_c (fun z => h1 ⟨m, hm, rfl, z⟩) (fun z => h0 ?_)
    intro ⟨m', hm', e', z'⟩
    have := gc_im e' (by omega) (by omega)
    subst this
    exact z z'
  · intro ⟨m, hm, e, z⟩
    exact h ⟨m, hm, e⟩
theorem gx_hasComponent (hn : n ≤ 12) (h1 : gc_cmp n V x y → post 1) (h0 : ¬ gc_cmp n V x y → post 0) : wpX_hasComponent post (nI n, lv, IN, DI, sp, K, X, Y, V, va, fi, se, bo, st) x y := by
  unfold wpX_hasComponent
  refine gx_isNode hn (fun h => br_f gc_10 ?_) (fun h => br_t rfl (h0 ?_))
  · obtain ⟨m, hm, rfl⟩ := h
    have hj : ∀ {m' : Nat}, m' < n → nI m = nI m' → m' = m := fun h e => (gc_im e (by omega) (by omega)).symm
    by_cases z : V m = 0
    · have H : (y < 0 → post 0) ∧ (¬ y < 0 → ((1 ≤ y → post 0) ∧ (¬ 1 ≤ y → post 1))) := by
        refine gc_br (N := 1) rfl (by omega) (fun g => h1 ⟨m, hm, rfl, by rw [if_pos z]; exact g⟩) (fun g => h0 ?_)
        intro ⟨m', hm', e', g'⟩
        have := hj hm' e'
        subst this
        rw [if_pos z] at g'
        exact g g'
      refine ⟨H.1, fun c => ⟨vp_in_nI (by omega) (by omega), ?_⟩⟩
      rw [nI_clamp (by omega)]
      exact br_t z (H.2 c)
    · have H : (y < 0 → post 0) ∧ (¬ y < 0 → ((4 ≤ y → post 0) ∧ (¬ 4 ≤ y → post 1))) := by
        refine gc_br (N := 4) rfl (by omega) (fun g => h1 ⟨m, hm, rfl, by rw [if_neg z]; exact g⟩) (fun g => h0 ?_)
        intro ⟨m', hm', e', g'⟩
        have := hj hm' e'
        subst this
        rw [if_neg z] at g'
        exact g g'
      refine ⟨H.1, fun c => ⟨vp_in_nI (by omega) (by omega), ?_⟩⟩
      rw [nI_clamp (by omega)]
      exact br_f z (H.2 c)
  · intro ⟨m, hm, e, z⟩
    exact h ⟨m, hm, e⟩
theorem gx_fc (hx : x = nI p) (h : post (nI ((e * 12 + p) * 4))) : wpX_firstCell post x (nI e) := by
  subst hx
  unfold wpX_firstCell
  rw [gc_m12, nI_add, gc_m4]
  exact h
theorem gx_fa (h : ∀ r, post r) : wpX_firstCell post x y := h _
theorem gx_startOf (hx : x = nI q) (hq : q < 12) (he : e < 3) (h : post (gc_sd DI e t q)) : wpX_startOf post (nI n, lv, IN, DI, sp, K, X, Y, V, va, fi, se, bo, st) x t (nI e) := by
  subst hx
  unfold gc_sd at h
  by_cases z : t = -1
  · rw [if_pos z] at h
    have ei : nI e * 12 + nI q = nI (12 * e + q) := by
      rw [gc_m12, nI_add, Nat.mul_comm]
    refine br_t z (And.intro ?_ ?_)
    · rw [ei]; exact vp_in_nI (by omega) (by omega)
    · rw [ei, nI_clamp (by omega)]; exact h
  · rw [if_neg z] at h
    by_cases z' : nI q = t
    · rw [if_pos z'] at h; exact br_f z (br_t z' h)
    · rw [if_neg z'] at h; exact br_f z (br_f z' h)
theorem gx_sum_values {a L : Nat} (hL : a + L ≤ 144) (hp : post (gc_sm (fun t => va (a + t)) L)) : ∀ d j : Nat, j + d = L → wX_sumOf__values_5 post (nI a) (nI L) (nI n) lv IN DI sp K X Y V va fi se bo st (d + 1) (gc_sm (fun t => va (a + t)) j) (nI j) := by
  intro d
  induction d with
  | zero =>
    intro j hj
    have e : j = L := by omega
    subst e
    exact br_t (nI_le (Nat.le_refl _) (by omega)) hp
  | succ d ih =>
    intro j hj
    refine br_f (nI_ge (by omega) (by omega)) ⟨gc_vi (by omega) (by omega), nm_r (e' := gc_sm (fun t => va (a + t)) (j + 1)) ?_ (nm_r (nI_1 j) (ih (j + 1) (by omega)))⟩
    rw [gc_ix (by omega), gc_sm_s]
theorem gx_sumOf_values {a L : Nat} (hL : a + L ≤ 144) (hp : post (gc_sm (fun t => va (a + t)) L)) : wpX_sumOf__values post (nI n, lv, IN, DI, sp, K, X, Y, V, va, fi, se, bo, st) (nI a) (nI L) :=
  ⟨L + 1, gx_sum_values hL hp L 0 (Nat.zero_add L)⟩
theorem gx_combined_values (hm : m < 12) (hi : i < 4) (he : e < 3) (w : gc_N V m (K m) (X m) (Y m) (V m)) (g0 : ¬ K m = 0) (g1 : ¬ K m = 1) (g4 : ¬ K m = 4) (g9 : ¬ K m = 9) (h : post (gc_co (K m) (X m) (Y m) (fun p j => va ((e * 12 + p) * 4 + j)) i)) : wpX_combined__values post (nI n, lv, IN, DI, sp, K, X, Y, V, va, fi, se, bo, st) (nI m) (nI i) (nI e) := by
  have hk : (nI m).toNatClampNeg = m := nI_clamp (by omega)
  have hm' : vp_in (nI m) 12 := vp_in_nI (by omega) (by omega)
  unfold wpX_combined__values
  dsimp only
  rw [hk]
  rcases w with ⟨ek, hv, p, hp, ex⟩ | ⟨ek, hv⟩ | ⟨ek, p, q, hp, hq, ex, ey, hv⟩ | ⟨ek, p, q, hp, hq, ex, ey, hv⟩ | ⟨ek, p, q, hp, hq, ex, ey, hv⟩ | ⟨ek, hv, p, hp, ex, hw⟩ | ⟨ek, hv, p, hp, ex, hw⟩ | ⟨ek, hv, p, hp, ex, hw, q, hq, ey⟩ | ⟨ek, hv, p, hp, ex, hw⟩ | ⟨ek, p, hp, ex, hv⟩ | ⟨ek, hv, p, hp, ex, hw⟩
  · exact absurd ek g0
  · exact absurd ek g1
  · rw [ek, ex, ey, gc_co_2 (by omega) (by omega)] at h
    refine ⟨hm', gx_fc ex ⟨hm', gx_fc ey ⟨hm', nm_r ek (br_f (by decide) (br_f (by decide) (br_t rfl ⟨gc_vi (by omega) (by omega), gc_vi (by omega) (by omega), ?_⟩)))⟩⟩⟩
    rw [gc_ix (by omega), gc_ix (by omega)]
    exact h
  · rw [ek, ex, ey, gc_co_3 (by omega) (by omega)] at h
    refine ⟨hm', gx_fc ex ⟨hm', gx_fc ey ⟨hm', nm_r ek (br_f (by decide) (br_f (by decide) (br_f (by decide) (br_t rfl ⟨gc_vi (by omega) (by omega), gc_vi (by omega) (by omega), ?_⟩))))⟩⟩⟩
    rw [gc_ix (by omega), gc_ix (by omega)]
    exact h
  · exact absurd ek g4
  · rw [ek, ex, gc_co_5 (by omega)] at h
    exact ⟨hm', gx_fc ex ⟨hm', gx_fa fun r => ⟨hm', nm_r ek (br_f (by decide) (br_f (by decide) (br_f (by decide) (br_f (by decide) (br_f (by decide) (br_t rfl (gx_sumOf_values (L := 4) (by omega) h)))))))⟩⟩⟩
  · rw [ek, ex, gc_co_6 (by omega)] at h
    have ei : nI i + 1 &&& 3 = nI ((i + 1) % 4) := gc_and3 hi
    refine ⟨hm', gx_fc ex ⟨hm', gx_fa fun r => ⟨hm', nm_r ek (br_f (by decide) (br_f (by decide) (br_f (by decide) (br_f (by decide) (br_f (by decide) (br_f (by decide) (br_t rfl ⟨?_, ?_⟩)))))))⟩⟩⟩
    · rw [ei]; exact gc_vi (by omega) (by omega)
    · rw [ei, gc_ix (by omega)]; exact h
  · rw [ek, ex, ey, gc_co_7 (by omega) (by omega)] at h
    refine ⟨hm', gx_fc ex ⟨hm', gx_fa fun r => ⟨hm', nm_r ek (br_f (by decide) (br_f (by decide) (br_f (by decide) (br_f (by decide) (br_f (by decide) (br_f (by decide) (br_f (by decide) (br_t rfl ⟨hm', ?_, ?_⟩))))))))⟩⟩⟩
    · rw [ey]; exact gc_vi (by omega) (by omega)
    · rw [ey, gc_ix (by omega)]; exact h
  · rw [ek, ex, gc_co_8 (by omega)] at h
    refine ⟨hm', gx_fc ex ⟨hm', gx_fa fun r => ⟨hm', nm_r ek (br_f (by decide) (br_f (by decide) (br_f (by decide) (br_f (by decide) (br_f (by decide) (br_f (by decide) (br_f (by decide) (br_f (by decide) (br_t rfl ⟨gc_vi (by omega) (by omega), ?_⟩)))))))))⟩⟩⟩
    rw [gc_ix (by omega)]
    exact h
  · exact absurd ek g9
  · rw [ek, ex, gc_co_10 (by omega)] at h
    refine ⟨hm', gx_fc ex ⟨hm', gx_fa fun r => ⟨hm', nm_r ek (br_f (by decide) (br_f (by decide) (br_f (by decide) (br_f (by decide) (br_f (by decide) (br_f (by decide) (br_f (by decide) (br_f (by decide) (br_f (by decide) (br_f (by decide) (br_t rfl ?_)))))))))))⟩⟩⟩
    rw [nI_1]
    exact gx_sumOf_values (by omega) h
theorem gx_sum_byFirst {a L : Nat} (hL : a + L ≤ 144) (hp : post (gc_sm (fun t => fi (a + t)) L)) : ∀ d j : Nat, j + d = L → wX_sumOf__byFirst_5 post (nI a) (nI L) (nI n) lv IN DI sp K X Y V va fi se bo st (d + 1) (gc_sm (fun t => fi (a + t)) j) (nI j) := by
  intro d
  induction d with
  | zero =>
    intro j hj
    have e : j = L := by omega
    subst e
    exact br_t (nI_le (Nat.le_refl _) (by omega)) hp
  | succ d ih =>
    intro j hj
    refine br_f (nI_ge (by omega) (by omega)) ⟨gc_vi (by omega) (by omega), nm_r (e' := gc_sm (fun t => fi (a + t)) (j + 1)) ?_ (nm_r (nI_1 j) (ih (j + 1) (by omega)))⟩
    rw [gc_ix (by omega), gc_sm_s]
theorem gx_sumOf_byFirst {a L : Nat} (hL : a + L ≤ 144) (hp : post (gc_sm (fun t => fi (a + t)) L)) : wpX_sumOf__byFirst post (nI n, lv, IN, DI, sp, K, X, Y, V, va, fi, se, bo, st) (nI a) (nI L) :=
  ⟨L + 1, gx_sum_byFirst hL hp L 0 (Nat.zero_add L)⟩
theorem gx_combined_byFirst (hm : m < 12) (hi : i < 4) (he : e < 3) (w : gc_N V m (K m) (X m) (Y m) (V m)) (g0 : ¬ K m = 0) (g1 : ¬ K m = 1) (g4 : ¬ K m = 4) (g9 : ¬ K m = 9) (h : post (gc_co (K m) (X m) (Y m) (fun p j => fi ((e * 12 + p) * 4 + j)) i)) : wpX_combined__byFirst post (nI n, lv, IN, DI, sp, K, X, Y, V, va, fi, se, bo, st) (nI m) (nI i) (nI e) := by
  have hk : (nI m).toNatClampNeg = m := nI_clamp (by omega)
  have hm' : vp_in (nI m) 12 := vp_in_nI (by omega) (by omega)
  unfold wpX_combined__byFirst
  dsimp only
  rw [hk]
  rcases w with ⟨ek, hv, p, hp, ex⟩ | ⟨ek, hv⟩ | ⟨ek, p, q, hp, hq, ex, ey, hv⟩ | ⟨ek, p, q, hp, hq, ex, ey, hv⟩ | ⟨ek, p, q, hp, hq, ex, ey, hv⟩ | ⟨ek, hv, p, hp, ex, hw⟩ | ⟨ek, hv, p, hp, ex, hw⟩ | ⟨ek, hv, p, hp, ex, hw, q, hq, ey⟩ | ⟨ek, hv, p, hp, ex, hw⟩ | ⟨ek, p, hp, ex, hv⟩ | ⟨ek, hv, p, hp, ex, hw⟩
  · exact absurd ek g0
  · exact absurd ek g1
  · rw [ek, ex, ey, gc_co_2 (by omega) (by omega)] at h
    refine ⟨hm', gx_fc ex ⟨hm', gx_fc ey ⟨hm', nm_r ek (br_f (by decide) (br_f (by decide) (br_t rfl ⟨gc_vi (by omega) (by omega), gc_vi (by omega) (by omega), ?_⟩)))⟩⟩⟩
    rw [gc_ix (by omega), gc_ix (by omega)]
    exact h
  · rw [ek, ex, ey, gc_co_3 (by omega) (by omega)] at h
    refine ⟨hm', gx_fc ex ⟨hm', gx_fc ey ⟨hm', nm_r ek (br_f (by decide) (br_f (by decide) (br_f (by decide) (br_t rfl ⟨gc_vi (by omega) (by omega), gc_vi (by omega) (by omega), ?_⟩))))⟩⟩⟩
    rw [gc_ix (by omega), gc_ix (by omega)]
    exact h
  · exact absurd ek g4
  · rw [ek, ex, gc_co_5 (by omega)] at h
    exact ⟨hm', gx_fc ex ⟨hm', gx_fa fun r => ⟨hm', nm_r ek (br_f (by decide) (br_f (by decide) (br_f (by decide) (br_f (by decide) (br_f (by decide) (br_t rfl (gx_sumOf_byFirst (L := 4) (by omega) h)))))))⟩⟩⟩
  · rw [ek, ex, gc_co_6 (by omega)] at h
    have ei : nI i + 1 &&& 3 = nI ((i + 1) % 4) := gc_and3 hi
    refine ⟨hm', gx_fc ex ⟨hm', gx_fa fun r => ⟨hm', nm_r ek (br_f (by decide) (br_f (by decide) (br_f (by decide) (br_f (by decide) (br_f (by decide) (br_f (by decide) (br_t rfl ⟨?_, ?_⟩)))))))⟩⟩⟩
    · rw [ei]; exact gc_vi (by omega) (by omega)
    · rw [ei, gc_ix (by omega)]; exact h
  · rw [ek, ex, ey, gc_co_7 (by omega) (by omega)] at h
    refine ⟨hm', gx_fc ex ⟨hm', gx_fa fun r => ⟨hm', nm_r ek (br_f (by decide) (br_f (by decide) (br_f (by decide) (br_f (by decide) (br_f (by decide) (br_f (by decide) (br_f (by decide) (br_t rfl ⟨hm', ?_, ?_⟩))))))))⟩⟩⟩
    · rw [ey]; exact gc_vi (by omega) (by omega)
    · rw [ey, gc_ix (by omega)]; exact h
  · rw [ek, ex, gc_co_8 (by omega)] at h
    refine ⟨hm', gx_fc ex ⟨hm', gx_fa fun r => ⟨hm', nm_r ek (br_f (by decide) (br_f (by decide) (br_f (by decide) (br_f (by decide) (br_f (by decide) (br_f (by decide) (br_f (by decide) (br_f (by decide) (br_t rfl ⟨gc_vi (by omega) (by omega), ?_⟩)))))))))⟩⟩⟩
    rw [gc_ix (by omega)]
    exact h
  · exact absurd ek g9
  · rw [ek, ex, gc_co_10 (by omega)] at h
    refine ⟨hm', gx_fc ex ⟨hm', gx_fa fun r => ⟨hm', nm_r ek (br_f (by decide) (br_f (by decide) (br_f (by decide) (br_f (by decide) (br_f (by decide) (br_f (by decide) (br_f (by decide) (br_f (by decide) (br_f (by decide) (br_f (by decide) (br_t rfl ?_)))))))))))⟩⟩⟩
    rw [nI_1]
    exact gx_sumOf_byFirst (by omega) h
theorem gx_sum_byBoth {a L : Nat} (hL : a + L ≤ 144) (hp : post (gc_sm (fun t => bo (a + t)) L)) : ∀ d j : Nat, j + d = L → wX_sumOf__byBoth_5 post (nI a) (nI L) (nI n) lv IN DI sp K X Y V va fi se bo st (d + 1) (gc_sm (fun t => bo (a + t)) j) (nI j) := by
  intro d
  induction d with
  | zero =>
    intro j hj
    have e : j = L := by omega
    subst e
    exact br_t (nI_le (Nat.le_refl _) (by omega)) hp
  | succ d ih =>
    intro j hj
    refine br_f (nI_ge (by omega) (by omega)) ⟨gc_vi (by omega) (by omega), nm_r (e' := gc_sm (fun t => bo (a + t)) (j + 1)) ?_ (nm_r (nI_1 j) (ih (j + 1) (by omega)))⟩
    rw [gc_ix (by omega), gc_sm_s]
theorem gx_sumOf_byBoth {a L : Nat} (hL : a + L ≤ 144) (hp : post (gc_sm (fun t => bo (a + t)) L)) : wpX_sumOf__byBoth post (nI n, lv, IN, DI, sp, K, X, Y, V, va, fi, se, bo, st) (nI a) (nI L) :=
  ⟨L + 1, gx_sum_byBoth hL hp L 0 (Nat.zero_add L)⟩
theorem gx_combined_byBoth (hm : m < 12) (hi : i < 4) (he : e < 3) (w : gc_N V m (K m) (X m) (Y m) (V m)) (g0 : ¬ K m = 0) (g1 : ¬ K m = 1) (g4 : ¬ K m = 4) (g9 : ¬ K m = 9) (h : post (gc_co (K m) (X m) (Y m) (fun p j => bo ((e * 12 + p) * 4 + j)) i)) : wpX_combined__byBoth post (nI n, lv, IN, DI, sp, K, X, Y, V, va, fi, se, bo, st) (nI m) (nI i) (nI e) := by
  have hk : (nI m).toNatClampNeg = m := nI_clamp (by omega)
  have hm' : vp_in (nI m) 12 := vp_in_nI (by omega) (by omega)
  unfold wpX_combined__byBoth
  dsimp only
  rw [hk]
  rcases w with ⟨ek, hv, p, hp, ex⟩ | ⟨ek, hv⟩ | ⟨ek, p, q, hp, hq, ex, ey, hv⟩ | ⟨ek, p, q, hp, hq, ex, ey, hv⟩ | ⟨ek, p, q, hp, hq, ex, ey, hv⟩ | ⟨ek, hv, p, hp, ex, hw⟩ | ⟨ek, hv, p, hp, ex, hw⟩ | ⟨ek, hv, p, hp, ex, hw, q, hq, ey⟩ | ⟨ek, hv, p, hp, ex, hw⟩ | ⟨ek, p, hp, ex, hv⟩ | ⟨ek, hv, p, hp, ex, hw⟩
  · exact absurd ek g0
  · exact absurd ek g1
  · rw [ek, ex, ey, gc_co_2 (by omega) (by omega)] at h
    refine ⟨hm', gx_fc ex ⟨hm', gx_fc ey ⟨hm', nm_r ek (br_f (by decide) (br_f (by decide) (br_t rfl ⟨gc_vi (by omega) (by omega), gc_vi (by omega) (by omega), ?_⟩)))⟩⟩⟩
    rw [gc_ix (by omega), gc_ix (by omega)]
    exact h
  · rw [ek, ex, ey, gc_co_3 (by omega) (by omega)] at h
    refine ⟨hm', gx_fc ex ⟨hm', gx_fc ey ⟨hm', nm_r ek (br_f (by decide) (br_f (by decide) (br_f (by decide) (br_t rfl ⟨gc_vi (by omega) (by omega), gc_vi (by omega) (by omega), ?_⟩))))⟩⟩⟩
    rw [gc_ix (by omega), gc_ix (by omega)]
    exact h
  · exact absurd ek g4
  · rw [ek, ex, gc_co_5 (by omega)] at h
    exact ⟨hm', gx_fc ex ⟨hm', gx_fa fun r => ⟨hm', nm_r ek (br_f (by decide) (br_f (by decide) (br_f (by decide) (br_f (by decide) (br_f (by decide) (br_t rfl (gx_sumOf_byBoth (L := 4) (by omega) h)))))))⟩⟩⟩
  · rw [ek, ex, gc_co_6 (by omega)] at h
    have ei : nI i + 1 &&& 3 = nI ((i + 1) % 4) := gc_and3 hi
    refine ⟨hm', gx_fc ex ⟨hm', gx_fa fun r => ⟨hm', nm_r ek (br_f (by decide) (br_f (by decide) (br_f (by decide) (br_f (by decide) (br_f (by decide) (br_f (by decide) (br_t rfl ⟨?_, ?_⟩)))))))⟩⟩⟩
    · rw [ei]; exact gc_vi (by omega) (by omega)
    · rw [ei, gc_ix (by omega)]; exact h
  · rw [ek, ex, ey, gc_co_7 (by omega) (by omega)] at h
    refine ⟨hm', gx_fc ex ⟨hm', gx_fa fun r => ⟨hm', nm_r ek (br_f (by decide) (br_f (by decide) (br_f (by decide) (br_f (by decide) (br_f (by decide) (br_f (by decide) (br_f (by decide) (br_t rfl ⟨hm', ?_, ?_⟩))))))))⟩⟩⟩
    · rw [ey]; exact gc_vi (by omega) (by omega)
    · rw [ey, gc_ix (by omega)]; exact h
  · rw [ek, ex, gc_co_8 (by omega)] at h
    refine ⟨hm', gx_fc ex ⟨hm', gx_fa fun r => ⟨hm', nm_r ek (br_f (by decide) (br_f (by decide) (br_f (by decide) (br_f (by decide) (br_f (by decide) (br_f (by decide) (br_f (by decide) (br_f (by decide) (br_t rfl ⟨gc_vi (by omega) (by omega), ?_⟩)))))))))⟩⟩⟩
    rw [gc_ix (by omega)]
    exact h
  · exact absurd ek g9
  · rw [ek, ex, gc_co_10 (by omega)] at h
    refine ⟨hm', gx_fc ex ⟨hm', gx_fa fun r => ⟨hm', nm_r ek (br_f (by decide) (br_f (by decide) (br_f (by decide) (br_f (by decide) (br_f (by decide) (br_f (by decide) (br_f (by decide) (br_f (by decide) (br_f (by decide) (br_f (by decide) (br_t rfl ?_)))))))))))⟩⟩⟩
    rw [nI_1]
    exact gx_sumOf_byBoth (by omega) h
theorem gx_sum_bySecond {a L : Nat} (hL : a + L ≤ 144) (hp : post (gc_sm (fun t => se (a + t)) L)) : ∀ d j : Nat, j + d = L → wX_sumOf__bySecond_5 post (nI a) (nI L) (nI n) lv IN DI sp K X Y V va fi se bo st (d + 1) (gc_sm (fun t => se (a + t)) j) (nI j) := by
  intro d
  induction d with
  | zero =>
    intro j hj
    have e : j = L := by omega
    subst e
    exact br_t (nI_le (Nat.le_refl _) (by omega)) hp
  | succ d ih =>
    intro j hj
    refine br_f (nI_ge (by omega) (by omega)) ⟨gc_vi (by omega) (by omega), nm_r (e' := gc_sm (fun t => se (a + t)) (j + 1)) ?_ (nm_r (nI_1 j) (ih (j + 1) (by omega)))⟩
    rw [gc_ix (by omega), gc_sm_s]
theorem gx_sumOf_bySecond {a L : Nat} (hL : a + L ≤ 144) (hp : post (gc_sm (fun t => se (a + t)) L)) : wpX_sumOf__bySecond post (nI n, lv, IN, DI, sp, K, X, Y, V, va, fi, se, bo, st) (nI a) (nI L) :=
  ⟨L + 1, gx_sum_bySecond hL hp L 0 (Nat.zero_add L)⟩
theorem gx_combined_bySecond (hm : m < 12) (hi : i < 4) (he : e < 3) (w : gc_N V m (K m) (X m) (Y m) (V m)) (g0 : ¬ K m = 0) (g1 : ¬ K m = 1) (g4 : ¬ K m = 4) (g9 : ¬ K m = 9) (h : post (gc_co (K m) (X m) (Y m) (fun p j => se ((e * 12 + p) * 4 + j)) i)) : wpX_combined__bySecond post (nI n, lv, IN, DI, sp, K, X, Y, V, va, fi, se, bo, st) (nI m) (nI i) (nI e) := by
  have hk : (nI m).toNatClampNeg = m := nI_clamp (by omega)
  have hm' : vp_in (nI m) 12 := vp_in_nI (by omega) (by omega)
  unfold wpX_combined__bySecond
  dsimp only
  rw [hk]
  rcases w with ⟨ek, hv, p, hp, ex⟩ | ⟨ek, hv⟩ | ⟨ek, p, q, hp, hq, ex, ey, hv⟩ | ⟨ek, p, q, hp, hq, ex, ey, hv⟩ | ⟨ek, p, q, hp, hq, ex, ey, hv⟩ | ⟨ek, hv, p, hp, ex, hw⟩ | ⟨ek, hv, p, hp, ex, hw⟩ | ⟨ek, hv, p, hp, ex, hw, q, hq, ey⟩ | ⟨ek, hv, p, hp, ex, hw⟩ | ⟨ek, p, hp, ex, hv⟩ | ⟨ek, hv, p, hp, ex, hw⟩
  · exact absurd ek g0
  · exact absurd ek g1
  · rw [ek, ex, ey, gc_co_2 (by omega) (by omega)] at h
    refine ⟨hm', gx_fc ex ⟨hm', gx_fc ey ⟨hm', nm_r ek (br_f (by decide) (br_f (by decide) (br_t rfl ⟨gc_vi (by omega) (by omega), gc_vi (by omega) (by omega), ?_⟩)))⟩⟩⟩
    rw [gc_ix (by omega), gc_ix (by omega)]
    exact h
  · rw [ek, ex, ey, gc_co_3 (by omega) (by omega)] at h
    refine ⟨hm', gx_fc ex ⟨hm', gx_fc ey ⟨hm', nm_r ek (br_f (by decide) (br_f (by decide) (br_f (by decide) (br_t rfl ⟨gc_vi (by omega) (by omega), gc_vi (by omega) (by omega), ?_⟩))))⟩⟩⟩
    rw [gc_ix (by omega), gc_ix (by omega)]
    exact h
  · exact absurd ek g4
  · rw [ek, ex, gc_co_5 (by omega)] at h
    exact ⟨hm', gx_fc ex ⟨hm', gx_fa fun r => ⟨hm', nm_r ek (br_f (by decide) (br_f (by decide) (br_f (by decide) (br_f (by decide) (br_f (by decide) (br_t rfl (gx_sumOf_bySecond (L := 4) (by omega) h)))))))⟩⟩⟩
  · rw [ek, ex, gc_co_6 (by omega)] at h
    have ei : nI i + 1 &&& 3 = nI ((i + 1) % 4) := gc_and3 hi
    refine ⟨hm', gx_fc ex ⟨hm', gx_fa fun r => ⟨hm', nm_r ek (br_f (by decide) (br_f (by decide) (br_f (by decide) (br_f (by decide) (br_f (by decide) (br_f (by decide) (br_t rfl ⟨?_, ?_⟩)))))))⟩⟩⟩
    · rw [ei]; exact gc_vi (by omega) (by omega)
    · rw [ei, gc_ix (by omega)]; exact h
  · rw [ek, ex, ey, gc_co_7 (by omega) (by omega)] at h
    refine ⟨hm', gx_fc ex ⟨hm', gx_fa fun r => ⟨hm', nm_r ek (br_f (by decide) (br_f (by decide) (br_f (by decide) (br_f (by decide) (br_f (by decide) (br_f (by decide) (br_f (by decide) (br_t rfl ⟨hm', ?_, ?_⟩))))))))⟩⟩⟩
    · rw [ey]; exact gc_vi (by omega) (by omega)
    · rw [ey, gc_ix (by omega)]; exact h
  · rw [ek, ex, gc_co_8 (by omega)] at h
    refine ⟨hm', gx_fc ex ⟨hm', gx_fa fun r => ⟨hm', nm_r ek (br_f (by decide) (br_f (by decide) (br_f (by decide) (br_f (by decide) (br_f (by decide) (br_f (by decide) (br_f (by decide) (br_f (by decide) (br_t rfl ⟨gc_vi (by omega) (by omega), ?_⟩)))))))))⟩⟩⟩
    rw [gc_ix (by omega)]
    exact h
  · exact absurd ek g9
  · rw [ek, ex, gc_co_10 (by omega)] at h
    refine ⟨hm', gx_fc ex ⟨hm', gx_fa fun r => ⟨hm', nm_r ek (br_f (by decide) (br_f (by decide) (br_f (by decide) (br_f (by decide) (br_f (by decide) (br_f (by decide) (br_f (by decide) (br_f (by decide) (br_f (by decide) (br_f (by decide) (br_t rfl ?_)))))))))))⟩⟩⟩
    rw [nI_1]
    exact gx_sumOf_bySecond (by omega) h
theorem gx_valueOf (hm : m < 12) (hi : i < 4) (he : e < 3) (w : gc_N V m (K m) (X m) (Y m) (V m)) (h : post (gc_rv K X Y (fun c => IN (12 * e + c)) (fun p j => va ((e * 12 + p) * 4 + j)) m i)) : wpX_valueOf post (nI n, lv, IN, DI, sp, K, X, Y, V, va, fi, se, bo, st) (nI m) (nI i) (nI e) := by
  have hk : (nI m).toNatClampNeg = m := nI_clamp (by omega)
  have hm' : vp_in (nI m) 12 := vp_in_nI (by omega) (by omega)
  unfold wpX_valueOf
  dsimp only
  rw [hk]
  unfold gc_rv at h
  have w0 := w
  rcases w with ⟨ek, hv, p, hp, ex⟩ | ⟨ek, hv⟩ | ⟨ek, p, q, hp, hq, ex, ey, hv⟩ | ⟨ek, p, q, hp, hq, ex, ey, hv⟩ | ⟨ek, p, q, hp, hq, ex, ey, hv⟩ | ⟨ek, hv, p, hp, ex, hw⟩ | ⟨ek, hv, p, hp, ex, hw⟩ | ⟨ek, hv, p, hp, ex, hw, q, hq, ey⟩ | ⟨ek, hv, p, hp, ex, hw⟩ | ⟨ek, p, hp, ex, hv⟩ | ⟨ek, hv, p, hp, ex, hw⟩
  · rw [ek, ex, gc_ru_0 (by omega)] at h
    have ei : nI e * 12 + 4 * X m + nI i = nI (12 * e + (4 * p + i)) := by
      rw [ex, gc_m12, gc_4m, nI_add, nI_add]
      congr 1
      omega
    refine ⟨hm', gx_fa fun r4 x4 e4 => ⟨hm', gx_fa fun r5 x5 e5 => ⟨hm', nm_r ek (br_f (by decide) (br_f (by decide) (br_t rfl ⟨hm', ?_, ?_⟩)))⟩⟩⟩
    · rw [ei]; exact vp_in_nI (by omega) (by omega)
    · rw [ei, nI_clamp (by omega)]; exact h
  · rw [ek, gc_ru_1] at h
    exact ⟨hm', gx_fa fun r4 x4 e4 => ⟨hm', gx_fa fun r5 x5 e5 => ⟨hm', nm_r ek (br_f (by decide) (br_f (by decide) (br_f (by decide) (br_t rfl ⟨hm', h⟩))))⟩⟩⟩
  · have h0 : ¬ K m = 0 := by rw [ek]; decide
    have h1 : ¬ K m = 1 := by rw [ek]; decide
    have h4 : ¬ K m = 4 := by rw [ek]; decide
    have h9 : ¬ K m = 9 := by rw [ek]; decide
    rw [gc_ru_co h0 h1 h4 h9] at h
    exact ⟨hm', gx_fa fun r4 x4 e4 => ⟨hm', gx_fa fun r5 x5 e5 => ⟨hm', nm_r ek (br_f (by decide) (br_f (by decide) (br_f (by decide) (br_f (by decide) (br_t rfl (gx_combined_values hm hi he w0 h0 h1 h4 h9 h))))))⟩⟩⟩
  · have h0 : ¬ K m = 0 := by rw [ek]; decide
    have h1 : ¬ K m = 1 := by rw [ek]; decide
    have h4 : ¬ K m = 4 := by rw [ek]; decide
    have h9 : ¬ K m = 9 := by rw [ek]; decide
    rw [gc_ru_co h0 h1 h4 h9] at h
    exact ⟨hm', gx_fa fun r4 x4 e4 => ⟨hm', gx_fa fun r5 x5 e5 => ⟨hm', nm_r ek (br_f (by decide) (br_f (by decide) (br_f (by decide) (br_f (by decide) (br_f (by decide) (br_t rfl (gx_combined_values hm hi he w0 h0 h1 h4 h9 h)))))))⟩⟩⟩
  · rw [ek, ex, ey, gc_ru_4 (by omega) (by omega)] at h
    have c1 : vp_in (nI ((e * 12 + p) * 4 + i)) 144 := vp_in_nI (by omega) (by omega)
    have c2 : vp_in (nI ((e * 12 + q) * 4 + i)) 144 := vp_in_nI (by omega) (by omega)
    have d1 : (nI ((e * 12 + p) * 4 + i)).toNatClampNeg = (e * 12 + p) * 4 + i := nI_clamp (by omega)
    have d2 : (nI ((e * 12 + q) * 4 + i)).toNatClampNeg = (e * 12 + q) * 4 + i := nI_clamp (by omega)
    refine ⟨hm', gx_fc ex (nm_r (nI_add _ _) ⟨hm', gx_fc ey (nm_r (nI_add _ _) ⟨hm', nm_r ek (br_f (by decide) (br_f (by decide) (br_f (by decide) (br_f (by decide) (br_f (by decide) (br_f (by decide) (br_t rfl ⟨c1, c2, ?_⟩)))))))⟩)⟩)⟩
    rw [d1, d2]
    exact h
  · have h0 : ¬ K m = 0 := by rw [ek]; decide
    have h1 : ¬ K m = 1 := by rw [ek]; decide
    have h4 : ¬ K m = 4 := by rw [ek]; decide
    have h9 : ¬ K m = 9 := by rw [ek]; decide
    rw [gc_ru_co h0 h1 h4 h9] at h
    exact ⟨hm', gx_fa fun r4 x4 e4 => ⟨hm', gx_fa fun r5 x5 e5 => ⟨hm', nm_r ek (br_f (by decide) (br_f (by decide) (br_f (by decide) (br_f (by decide) (br_f (by decide) (br_f (by decide) (br_f (by decide) (br_t rfl (gx_combined_values hm hi he w0 h0 h1 h4 h9 h)))))))))⟩⟩⟩
  · have h0 : ¬ K m = 0 := by rw [ek]; decide
    have h1 : ¬ K m = 1 := by rw [ek]; decide
    have h4 : ¬ K m = 4 := by rw [ek]; decide
    have h9 : ¬ K m = 9 := by rw [ek]; decide
    rw [gc_ru_co h0 h1 h4 h9] at h
    exact ⟨hm', gx_fa fun r4 x4 e4 => ⟨hm', gx_fa fun r5 x5 e5 => ⟨hm', nm_r ek (br_f (by decide) (br_f (by decide) (br_f (by decide) (br_f (by decide) (br_f (by decide) (br_f (by decide) (br_f (by decide) (br_f (by decide) (br_t rfl (gx_combined_values hm hi he w0 h0 h1 h4 h9 h))))))))))⟩⟩⟩
  · have h0 : ¬ K m = 0 := by rw [ek]; decide
    have h1 : ¬ K m = 1 := by rw [ek]; decide
    have h4 : ¬ K m = 4 := by rw [ek]; decide
    have h9 : ¬ K m = 9 := by rw [ek]; decide
    rw [gc_ru_co h0 h1 h4 h9] at h
    exact ⟨hm', gx_fa fun r4 x4 e4 => ⟨hm', gx_fa fun r5 x5 e5 => ⟨hm', nm_r ek (br_f (by decide) (br_f (by decide) (br_f (by decide) (br_f (by decide) (br_f (by decide) (br_f (by decide) (br_f (by decide) (br_f (by decide) (br_f (by decide) (br_t rfl (gx_combined_values hm hi he w0 h0 h1 h4 h9 h)))))))))))⟩⟩⟩
  · have h0 : ¬ K m = 0 := by rw [ek]; decide
    have h1 : ¬ K m = 1 := by rw [ek]; decide
    have h4 : ¬ K m = 4 := by rw [ek]; decide
    have h9 : ¬ K m = 9 := by rw [ek]; decide
    rw [gc_ru_co h0 h1 h4 h9] at h
    exact ⟨hm', gx_fa fun r4 x4 e4 => ⟨hm', gx_fa fun r5 x5 e5 => ⟨hm', nm_r ek (br_f (by decide) (br_f (by decide) (br_f (by decide) (br_f (by decide) (br_f (by decide) (br_f (by decide) (br_f (by decide) (br_f (by decide) (br_f (by decide) (br_f (by decide) (br_t rfl (gx_combined_values hm hi he w0 h0 h1 h4 h9 h))))))))))))⟩⟩⟩
  · rw [ek, ex, gc_ru_9 (by omega)] at h
    have c1 : vp_in (nI ((e * 12 + p) * 4 + i)) 144 := vp_in_nI (by omega) (by omega)
    have d1 : (nI ((e * 12 + p) * 4 + i)).toNatClampNeg = (e * 12 + p) * 4 + i := nI_clamp (by omega)
    refine ⟨hm', gx_fc ex (nm_r (nI_add _ _) ⟨hm', gx_fa fun r5 x5 e5 => ⟨hm', nm_r ek (br_f (by decide) (br_f (by decide) (br_f (by decide) (br_f (by decide) (br_f (by decide) (br_f (by decide) (br_f (by decide) (br_f (by decide) (br_f (by decide) (br_f (by decide) (br_f (by decide) (br_t rfl ⟨c1, ?_⟩))))))))))))⟩⟩)⟩
    rw [d1]
    try dsimp only at h
    by_cases z : va ((e * 12 + p) * 4 + i) ≤ 0
    · rw [if_neg (Int32.not_lt.mpr z)] at h
      exact br_t z h
    · rw [if_pos (Int32.not_le.mp z)] at h
      exact br_f z ⟨c1, h⟩
  · have h0 : ¬ K m = 0 := by rw [ek]; decide
    have h1 : ¬ K m = 1 := by rw [ek]; decide
    have h4 : ¬ K m = 4 := by rw [ek]; decide
    have h9 : ¬ K m = 9 := by rw [ek]; decide
    rw [gc_ru_co h0 h1 h4 h9] at h
    exact ⟨hm', gx_fa fun r4 x4 e4 => ⟨hm', gx_fa fun r5 x5 e5 => ⟨hm', nm_r ek (br_f (by decide) (br_t (by decide) (gx_combined_values hm hi he w0 h0 h1 h4 h9 h)))⟩⟩⟩
theorem gx_derivativeOf_byFirst (hm : m < 12) (hi : i < 4) (he : e < 3) (w : gc_N V m (K m) (X m) (Y m) (V m)) (h : post (gc_rd K X Y (gc_sd DI e t) (fun p j => va ((e * 12 + p) * 4 + j)) (fun p j => fi ((e * 12 + p) * 4 + j)) m i)) : wpX_derivativeOf__byFirst post (nI n, lv, IN, DI, sp, K, X, Y, V, va, fi, se, bo, st) (nI m) (nI i) t (nI e) := by
  have hk : (nI m).toNatClampNeg = m := nI_clamp (by omega)
  have hm' : vp_in (nI m) 12 := vp_in_nI (by omega) (by omega)
  unfold wpX_derivativeOf__byFirst
  dsimp only
  rw [hk]
  unfold gc_rd at h
  have w0 := w
  rcases w with ⟨ek, hv, p, hp, ex⟩ | ⟨ek, hv⟩ | ⟨ek, p, q, hp, hq, ex, ey, hv⟩ | ⟨ek, p, q, hp, hq, ex, ey, hv⟩ | ⟨ek, p, q, hp, hq, ex, ey, hv⟩ | ⟨ek, hv, p, hp, ex, hw⟩ | ⟨ek, hv, p, hp, ex, hw⟩ | ⟨ek, hv, p, hp, ex, hw, q, hq, ey⟩ | ⟨ek, hv, p, hp, ex, hw⟩ | ⟨ek, p, hp, ex, hv⟩ | ⟨ek, hv, p, hp, ex, hw⟩
  · rw [ek, ex, gc_ru_0 (by omega)] at h
    have ei : 4 * X m + nI i = nI (4 * p + i) := by
      rw [ex, gc_4m, nI_add]
    exact ⟨hm', gx_fa fun r4 x4 e4 => ⟨hm', gx_fa fun r5 x5 e5 => ⟨hm', nm_r ek (br_f (by decide) (br_f (by decide) (br_t rfl ⟨hm', gx_startOf ei (by omega) he h⟩)))⟩⟩⟩
  · rw [ek, gc_ru_1] at h
    exact ⟨hm', gx_fa fun r4 x4 e4 => ⟨hm', gx_fa fun r5 x5 e5 => ⟨hm', nm_r ek (br_f (by decide) (br_f (by decide) (br_f (by decide) (br_t rfl h))))⟩⟩⟩
  · have h0 : ¬ K m = 0 := by rw [ek]; decide
    have h1 : ¬ K m = 1 := by rw [ek]; decide
    have h4 : ¬ K m = 4 := by rw [ek]; decide
    have h9 : ¬ K m = 9 := by rw [ek]; decide
    rw [gc_ru_co h0 h1 h4 h9] at h
    exact ⟨hm', gx_fa fun r4 x4 e4 => ⟨hm', gx_fa fun r5 x5 e5 => ⟨hm', nm_r ek (br_f (by decide) (br_f (by decide) (br_f (by decide) (br_f (by decide) (br_t rfl (gx_combined_byFirst hm hi he w0 h0 h1 h4 h9 h))))))⟩⟩⟩
  · have h0 : ¬ K m = 0 := by rw [ek]; decide
    have h1 : ¬ K m = 1 := by rw [ek]; decide
    have h4 : ¬ K m = 4 := by rw [ek]; decide
    have h9 : ¬ K m = 9 := by rw [ek]; decide
    rw [gc_ru_co h0 h1 h4 h9] at h
    exact ⟨hm', gx_fa fun r4 x4 e4 => ⟨hm', gx_fa fun r5 x5 e5 => ⟨hm', nm_r ek (br_f (by decide) (br_f (by decide) (br_f (by decide) (br_f (by decide) (br_f (by decide) (br_t rfl (gx_combined_byFirst hm hi he w0 h0 h1 h4 h9 h)))))))⟩⟩⟩
  · rw [ek, ex, ey, gc_ru_4 (by omega) (by omega)] at h
    have c1 : vp_in (nI ((e * 12 + p) * 4 + i)) 144 := vp_in_nI (by omega) (by omega)
    have c2 : vp_in (nI ((e * 12 + q) * 4 + i)) 144 := vp_in_nI (by omega) (by omega)
    have d1 : (nI ((e * 12 + p) * 4 + i)).toNatClampNeg = (e * 12 + p) * 4 + i := nI_clamp (by omega)
    have d2 : (nI ((e * 12 + q) * 4 + i)).toNatClampNeg = (e * 12 + q) * 4 + i := nI_clamp (by omega)
    refine ⟨hm', gx_fc ex (nm_r (nI_add _ _) ⟨hm', gx_fc ey (nm_r (nI_add _ _) ⟨hm', nm_r ek (br_f (by decide) (br_f (by decide) (br_f (by decide) (br_f (by decide) (br_f (by decide) (br_f (by decide) (br_t rfl ⟨c1, c2, c1, c2, ?_⟩)))))))⟩)⟩)⟩
    rw [d1, d2]
    exact h
  · have h0 : ¬ K m = 0 := by rw [ek]; decide
    have h1 : ¬ K m = 1 := by rw [ek]; decide
    have h4 : ¬ K m = 4 := by rw [ek]; decide
    have h9 : ¬ K m = 9 := by rw [ek]; decide
    rw [gc_ru_co h0 h1 h4 h9] at h
    exact ⟨hm', gx_fa fun r4 x4 e4 => ⟨hm', gx_fa fun r5 x5 e5 => ⟨hm', nm_r ek (br_f (by decide) (br_f (by decide) (br_f (by decide) (br_f (by decide) (br_f (by decide) (br_f (by decide) (br_f (by decide) (br_t rfl (gx_combined_byFirst hm hi he w0 h0 h1 h4 h9 h)))))))))⟩⟩⟩
  · have h0 : ¬ K m = 0 := by rw [ek]; decide
    have h1 : ¬ K m = 1 := by rw [ek]; decide
    have h4 : ¬ K m = 4 := by rw [ek]; decide
    have h9 : ¬ K m = 9 := by rw [ek]; decide
    rw [gc_ru_co h0 h1 h4 h9] at h
    exact ⟨hm', gx_fa fun r4 x4 e4 => ⟨hm', gx_fa fun r5 x5 e5 => ⟨hm', nm_r ek (br_f (by decide) (br_f (by decide) (br_f (by decide) (br_f (by decide) (br_f (by decide) (br_f (by decide) (br_f (by decide) (br_f (by decide) (br_t rfl (gx_combined_byFirst hm hi he w0 h0 h1 h4 h9 h))))))))))⟩⟩⟩
  · have h0 : ¬ K m = 0 := by rw [ek]; decide
    have h1 : ¬ K m = 1 := by rw [ek]; decide
    have h4 : ¬ K m = 4 := by rw [ek]; decide
    have h9 : ¬ K m = 9 := by rw [ek]; decide
    rw [gc_ru_co h0 h1 h4 h9] at h
    exact ⟨hm', gx_fa fun r4 x4 e4 => ⟨hm', gx_fa fun r5 x5 e5 => ⟨hm', nm_r ek (br_f (by decide) (br_f (by decide) (br_f (by decide) (br_f (by decide) (br_f (by decide) (br_f (by decide) (br_f (by decide) (br_f (by decide) (br_f (by decide) (br_t rfl (gx_combined_byFirst hm hi he w0 h0 h1 h4 h9 h)))))))))))⟩⟩⟩
  · have h0 : ¬ K m = 0 := by rw [ek]; decide
    have h1 : ¬ K m = 1 := by rw [ek]; decide
    have h4 : ¬ K m = 4 := by rw [ek]; decide
    have h9 : ¬ K m = 9 := by rw [ek]; decide
    rw [gc_ru_co h0 h1 h4 h9] at h
    exact ⟨hm', gx_fa fun r4 x4 e4 => ⟨hm', gx_fa fun r5 x5 e5 => ⟨hm', nm_r ek (br_f (by decide) (br_f (by decide) (br_f (by decide) (br_f (by decide) (br_f (by decide) (br_f (by decide) (br_f (by decide) (br_f (by decide) (br_f (by decide) (br_f (by decide) (br_t rfl (gx_combined_byFirst hm hi he w0 h0 h1 h4 h9 h))))))))))))⟩⟩⟩
  · rw [ek, ex, gc_ru_9 (by omega)] at h
    have c1 : vp_in (nI ((e * 12 + p) * 4 + i)) 144 := vp_in_nI (by omega) (by omega)
    have d1 : (nI ((e * 12 + p) * 4 + i)).toNatClampNeg = (e * 12 + p) * 4 + i := nI_clamp (by omega)
    refine ⟨hm', gx_fc ex (nm_r (nI_add _ _) ⟨hm', gx_fa fun r5 x5 e5 => ⟨hm', nm_r ek (br_f (by decide) (br_f (by decide) (br_f (by decide) (br_f (by decide) (br_f (by decide) (br_f (by decide) (br_f (by decide) (br_f (by decide) (br_f (by decide) (br_f (by decide) (br_f (by decide) (br_t rfl ⟨c1, ?_⟩))))))))))))⟩⟩)⟩
    rw [d1]
    try dsimp only at h
    by_cases z : va ((e * 12 + p) * 4 + i) ≤ 0
    · rw [if_neg (Int32.not_lt.mpr z)] at h
      exact br_t z h
    · rw [if_pos (Int32.not_le.mp z)] at h
      exact br_f z ⟨c1, h⟩
  · have h0 : ¬ K m = 0 := by rw [ek]; decide
    have h1 : ¬ K m = 1 := by rw [ek]; decide
    have h4 : ¬ K m = 4 := by rw [ek]; decide
    have h9 : ¬ K m = 9 := by rw [ek]; decide
    rw [gc_ru_co h0 h1 h4 h9] at h
    exact ⟨hm', gx_fa fun r4 x4 e4 => ⟨hm', gx_fa fun r5 x5 e5 => ⟨hm', nm_r ek (br_f (by decide) (br_t (by decide) (gx_combined_byFirst hm hi he w0 h0 h1 h4 h9 h)))⟩⟩⟩
theorem gx_derivativeOf_bySecond (hm : m < 12) (hi : i < 4) (he : e < 3) (w : gc_N V m (K m) (X m) (Y m) (V m)) (h : post (gc_rd K X Y (gc_sd DI e t) (fun p j => va ((e * 12 + p) * 4 + j)) (fun p j => se ((e * 12 + p) * 4 + j)) m i)) : wpX_derivativeOf__bySecond post (nI n, lv, IN, DI, sp, K, X, Y, V, va, fi, se, bo, st) (nI m) (nI i) t (nI e) := by
  have hk : (nI m).toNatClampNeg = m := nI_clamp (by omega)
  have hm' : vp_in (nI m) 12 := vp_in_nI (by omega) (by omega)
  unfold wpX_derivativeOf__bySecond
  dsimp only
  rw [hk]
  unfold gc_rd at h
  have w0 := w
  rcases w with ⟨ek, hv, p, hp, ex⟩ | ⟨ek, hv⟩ | ⟨ek, p, q, hp, hq, ex, ey, hv⟩ | ⟨ek, p, q, hp, hq, ex, ey, hv⟩ | ⟨ek, p, q, hp, hq, ex, ey, hv⟩ | ⟨ek, hv, p, hp, ex, hw⟩ | ⟨ek, hv, p, hp, ex, hw⟩ | ⟨ek, hv, p, hp, ex, hw, q, hq, ey⟩ | ⟨ek, hv, p, hp, ex, hw⟩ | ⟨ek, p, hp, ex, hv⟩ | ⟨ek, hv, p, hp, ex, hw⟩
  · rw [ek, ex, gc_ru_0 (by omega)] at h
    have ei : 4 * X m + nI i = nI (4 * p + i) := by
      rw [ex, gc_4m, nI_add]
    exact ⟨hm', gx_fa fun r4 x4 e4 => ⟨hm', gx_fa fun r5 x5 e5 => ⟨hm', nm_r ek (br_f (by decide) (br_f (by decide) (br_t rfl ⟨hm', gx_startOf ei (by omega) he h⟩)))⟩⟩⟩
  · rw [ek, gc_ru_1] at h
    exact ⟨hm', gx_fa fun r4 x4 e4 => ⟨hm', gx_fa fun r5 x5 e5 => ⟨hm', nm_r ek (br_f (by decide) (br_f (by decide) (br_f (by decide) (br_t rfl h))))⟩⟩⟩
  · have h0 : ¬ K m = 0 := by rw [ek]; decide
    have h1 : ¬ K m = 1 := by rw [ek]; decide
    have h4 : ¬ K m = 4 := by rw [ek]; decide
    have h9 : ¬ K m = 9 := by rw [ek]; decide
    rw [gc_ru_co h0 h1 h4 h9] at h
    exact ⟨hm', gx_fa fun r4 x4 e4 => ⟨hm', gx_fa fun r5 x5 e5 => ⟨hm', nm_r ek (br_f (by decide) (br_f (by decide) (br_f (by decide) (br_f (by decide) (br_t rfl (gx_combined_bySecond hm hi he w0 h0 h1 h4 h9 h))))))⟩⟩⟩
  · have h0 : ¬ K m = 0 := by rw [ek]; decide
    have h1 : ¬ K m = 1 := by rw [ek]; decide
    have h4 : ¬ K m = 4 := by rw [ek]; decide
    have h9 : ¬ K m = 9 := by rw [ek]; decide
    rw [gc_ru_co h0 h1 h4 h9] at h
    exact ⟨hm', gx_fa fun r4 x4 e4 => ⟨hm', gx_fa fun r5 x5 e5 => ⟨hm', nm_r ek (br_f (by decide) (br_f (by decide) (br_f (by decide) (br_f (by decide) (br_f (by decide) (br_t rfl (gx_combined_bySecond hm hi he w0 h0 h1 h4 h9 h)))))))⟩⟩⟩
  · rw [ek, ex, ey, gc_ru_4 (by omega) (by omega)] at h
    have c1 : vp_in (nI ((e * 12 + p) * 4 + i)) 144 := vp_in_nI (by omega) (by omega)
    have c2 : vp_in (nI ((e * 12 + q) * 4 + i)) 144 := vp_in_nI (by omega) (by omega)
    have d1 : (nI ((e * 12 + p) * 4 + i)).toNatClampNeg = (e * 12 + p) * 4 + i := nI_clamp (by omega)
    have d2 : (nI ((e * 12 + q) * 4 + i)).toNatClampNeg = (e * 12 + q) * 4 + i := nI_clamp (by omega)
    refine ⟨hm', gx_fc ex (nm_r (nI_add _ _) ⟨hm', gx_fc ey (nm_r (nI_add _ _) ⟨hm', nm_r ek (br_f (by decide) (br_f (by decide) (br_f (by decide) (br_f (by decide) (br_f (by decide) (br_f (by decide) (br_t rfl ⟨c1, c2, c1, c2, ?_⟩)))))))⟩)⟩)⟩
    rw [d1, d2]
    exact h
  · have h0 : ¬ K m = 0 := by rw [ek]; decide
    have h1 : ¬ K m = 1 := by rw [ek]; decide
    have h4 : ¬ K m = 4 := by rw [ek]; decide
    have h9 : ¬ K m = 9 := by rw [ek]; decide
    rw [gc_ru_co h0 h1 h4 h9] at h
    exact ⟨hm', gx_fa fun r4 x4 e4 => ⟨hm', gx_fa fun r5 x5 e5 => ⟨hm', nm_r ek (br_f (by decide) (br_f (by decide) (br_f (by decide) (br_f (by decide) (br_f (by decide) (br_f (by decide) (br_f (by decide) (br_t rfl (gx_combined_bySecond hm hi he w0 h0 h1 h4 h9 h)))))))))⟩⟩⟩
  · have h0 : ¬ K m = 0 := by rw [ek]; decide
    have h1 : ¬ K m = 1 := by rw [ek]; decide
    have h4 : ¬ K m = 4 := by rw [ek]; decide
    have h9 : ¬ K m = 9 := by rw [ek]; decide
    rw [gc_ru_co h0 h1 h4 h9] at h
    exact ⟨hm', gx_fa fun r4 x4 e4 => ⟨hm', gx_fa fun r5 x5 e5 => ⟨hm', nm_r ek (br_f (by decide) (br_f (by decide) (br_f (by decide) (br_f (by decide) (br_f (by decide) (br_f (by decide) (br_f (by decide) (br_f (by decide) (br_t rfl (gx_combined_bySecond hm hi he w0 h0 h1 h4 h9 h))))))))))⟩⟩⟩
  · have h0 : ¬ K m = 0 := by rw [ek]; decide
    have h1 : ¬ K m = 1 := by rw [ek]; decide
    have h4 : ¬ K m = 4 := by rw [ek]; decide
    have h9 : ¬ K m = 9 := by rw [ek]; decide
    rw [gc_ru_co h0 h1 h4 h9] at h
    exact ⟨hm', gx_fa fun r4 x4 e4 => ⟨hm', gx_fa fun r5 x5 e5 => ⟨hm', nm_r ek (br_f (by decide) (br_f (by decide) (br_f (by decide) (br_f (by decide) (br_f (by decide) (br_f (by decide) (br_f (by decide) (br_f (by decide) (br_f (by decide) (br_t rfl (gx_combined_bySecond hm hi he w0 h0 h1 h4 h9 h)))))))))))⟩⟩⟩
  · have h0 : ¬ K m = 0 := by rw [ek]; decide
    have h1 : ¬ K m = 1 := by rw [ek]; decide
    have h4 : ¬ K m = 4 := by rw [ek]; decide
    have h9 : ¬ K m = 9 := by rw [ek]; decide
    rw [gc_ru_co h0 h1 h4 h9] at h
    exact ⟨hm', gx_fa fun r4 x4 e4 => ⟨hm', gx_fa fun r5 x5 e5 => ⟨hm', nm_r ek (br_f (by decide) (br_f (by decide) (br_f (by decide) (br_f (by decide) (br_f (by decide) (br_f (by decide) (br_f (by decide) (br_f (by decide) (br_f (by decide) (br_f (by decide) (br_t rfl (gx_combined_bySecond hm hi he w0 h0 h1 h4 h9 h))))))))))))⟩⟩⟩
  · rw [ek, ex, gc_ru_9 (by omega)] at h
    have c1 : vp_in (nI ((e * 12 + p) * 4 + i)) 144 := vp_in_nI (by omega) (by omega)
    have d1 : (nI ((e * 12 + p) * 4 + i)).toNatClampNeg = (e * 12 + p) * 4 + i := nI_clamp (by omega)
    refine ⟨hm', gx_fc ex (nm_r (nI_add _ _) ⟨hm', gx_fa fun r5 x5 e5 => ⟨hm', nm_r ek (br_f (by decide) (br_f (by decide) (br_f (by decide) (br_f (by decide) (br_f (by decide) (br_f (by decide) (br_f (by decide) (br_f (by decide) (br_f (by decide) (br_f (by decide) (br_f (by decide) (br_t rfl ⟨c1, ?_⟩))))))))))))⟩⟩)⟩
    rw [d1]
    try dsimp only at h
    by_cases z : va ((e * 12 + p) * 4 + i) ≤ 0
    · rw [if_neg (Int32.not_lt.mpr z)] at h
      exact br_t z h
    · rw [if_pos (Int32.not_le.mp z)] at h
      exact br_f z ⟨c1, h⟩
  · have h0 : ¬ K m = 0 := by rw [ek]; decide
    have h1 : ¬ K m = 1 := by rw [ek]; decide
    have h4 : ¬ K m = 4 := by rw [ek]; decide
    have h9 : ¬ K m = 9 := by rw [ek]; decide
    rw [gc_ru_co h0 h1 h4 h9] at h
    exact ⟨hm', gx_fa fun r4 x4 e4 => ⟨hm', gx_fa fun r5 x5 e5 => ⟨hm', nm_r ek (br_f (by decide) (br_t (by decide) (gx_combined_bySecond hm hi he w0 h0 h1 h4 h9 h)))⟩⟩⟩
theorem gx_secondDerivativeOf (hm : m < 12) (hi : i < 4) (he : e < 3) (w : gc_N V m (K m) (X m) (Y m) (V m)) (h : post (gc_rb K X Y (fun p j => va ((e * 12 + p) * 4 + j)) (fun p j => fi ((e * 12 + p) * 4 + j)) (fun p j => se ((e * 12 + p) * 4 + j)) (fun p j => bo ((e * 12 + p) * 4 + j)) m i)) : wpX_secondDerivativeOf post (nI n, lv, IN, DI, sp, K, X, Y, V, va, fi, se, bo, st) (nI m) (nI i) (nI e) := by
  have hk : (nI m).toNatClampNeg = m := nI_clamp (by omega)
  have hm' : vp_in (nI m) 12 := vp_in_nI (by omega) (by omega)
  unfold wpX_secondDerivativeOf
  dsimp only
  rw [hk]
  unfold gc_rb at h
  have w0 := w
  rcases w with ⟨ek, hv, p, hp, ex⟩ | ⟨ek, hv⟩ | ⟨ek, p, q, hp, hq, ex, ey, hv⟩ | ⟨ek, p, q, hp, hq, ex, ey, hv⟩ | ⟨ek, p, q, hp, hq, ex, ey, hv⟩ | ⟨ek, hv, p, hp, ex, hw⟩ | ⟨ek, hv, p, hp, ex, hw⟩ | ⟨ek, hv, p, hp, ex, hw, q, hq, ey⟩ | ⟨ek, hv, p, hp, ex, hw⟩ | ⟨ek, p, hp, ex, hv⟩ | ⟨ek, hv, p, hp, ex, hw⟩
  · rw [ek, ex, gc_ru_0 (by omega)] at h
    exact ⟨hm', gx_fa fun r4 x4 e4 => ⟨hm', gx_fa fun r5 x5 e5 => ⟨hm', nm_r ek (br_f (by decide) (br_f (by decide) (br_t rfl h)))⟩⟩⟩
  · rw [ek, gc_ru_1] at h
    exact ⟨hm', gx_fa fun r4 x4 e4 => ⟨hm', gx_fa fun r5 x5 e5 => ⟨hm', nm_r ek (br_f (by decide) (br_f (by decide) (br_f (by decide) (br_t rfl h))))⟩⟩⟩
  · have h0 : ¬ K m = 0 := by rw [ek]; decide
    have h1 : ¬ K m = 1 := by rw [ek]; decide
    have h4 : ¬ K m = 4 := by rw [ek]; decide
    have h9 : ¬ K m = 9 := by rw [ek]; decide
    rw [gc_ru_co h0 h1 h4 h9] at h
    exact ⟨hm', gx_fa fun r4 x4 e4 => ⟨hm', gx_fa fun r5 x5 e5 => ⟨hm', nm_r ek (br_f (by decide) (br_f (by decide) (br_f (by decide) (br_f (by decide) (br_t rfl (gx_combined_byBoth hm hi he w0 h0 h1 h4 h9 h))))))⟩⟩⟩
  · have h0 : ¬ K m = 0 := by rw [ek]; decide
    have h1 : ¬ K m = 1 := by rw [ek]; decide
    have h4 : ¬ K m = 4 := by rw [ek]; decide
    have h9 : ¬ K m = 9 := by rw [ek]; decide
    rw [gc_ru_co h0 h1 h4 h9] at h
    exact ⟨hm', gx_fa fun r4 x4 e4 => ⟨hm', gx_fa fun r5 x5 e5 => ⟨hm', nm_r ek (br_f (by decide) (br_f (by decide) (br_f (by decide) (br_f (by decide) (br_f (by decide) (br_t rfl (gx_combined_byBoth hm hi he w0 h0 h1 h4 h9 h)))))))⟩⟩⟩
  · rw [ek, ex, ey, gc_ru_4 (by omega) (by omega)] at h
    have c1 : vp_in (nI ((e * 12 + p) * 4 + i)) 144 := vp_in_nI (by omega) (by omega)
    have c2 : vp_in (nI ((e * 12 + q) * 4 + i)) 144 := vp_in_nI (by omega) (by omega)
    have d1 : (nI ((e * 12 + p) * 4 + i)).toNatClampNeg = (e * 12 + p) * 4 + i := nI_clamp (by omega)
    have d2 : (nI ((e * 12 + q) * 4 + i)).toNatClampNeg = (e * 12 + q) * 4 + i := nI_clamp (by omega)
    refine ⟨hm', gx_fc ex (nm_r (nI_add _ _) ⟨hm', gx_fc ey (nm_r (nI_add _ _) ⟨hm', nm_r ek (br_f (by decide) (br_f (by decide) (br_f (by decide) (br_f (by decide) (br_f (by decide) (br_f (by decide) (br_t rfl ⟨c1, c2, c1, c2, c1, c2, c1, c2, ?_⟩)))))))⟩)⟩)⟩
    rw [d1, d2]
    exact h
  · have h0 : ¬ K m = 0 := by rw [ek]; decide
    have h1 : ¬ K m = 1 := by rw [ek]; decide
    have h4 : ¬ K m = 4 := by rw [ek]; decide
    have h9 : ¬ K m = 9 := by rw [ek]; decide
    rw [gc_ru_co h0 h1 h4 h9] at h
    exact ⟨hm', gx_fa fun r4 x4 e4 => ⟨hm', gx_fa fun r5 x5 e5 => ⟨hm', nm_r ek (br_f (by decide) (br_f (by decide) (br_f (by decide) (br_f (by decide) (br_f (by decide) (br_f (by decide) (br_f (by decide) (br_t rfl (gx_combined_byBoth hm hi he w0 h0 h1 h4 h9 h)))))))))⟩⟩⟩
  · have h0 : ¬ K m = 0 := by rw [ek]; decide
    have h1 : ¬ K m = 1 := by rw [ek]; decide
    have h4 : ¬ K m = 4 := by rw [ek]; decide
    have h9 : ¬ K m = 9 := by rw [ek]; decide
    rw [gc_ru_co h0 h1 h4 h9] at h
    exact ⟨hm', gx_fa fun r4 x4 e4 => ⟨hm', gx_fa fun r5 x5 e5 => ⟨hm', nm_r ek (br_f (by decide) (br_f (by decide) (br_f (by decide) (br_f (by decide) (br_f (by decide) (br_f (by decide) (br_f (by decide) (br_f (by decide) (br_t rfl (gx_combined_byBoth hm hi he w0 h0 h1 h4 h9 h))))))))))⟩⟩⟩
  · have h0 : ¬ K m = 0 := by rw [ek]; decide
    have h1 : ¬ K m = 1 := by rw [ek]; decide
    have h4 : ¬ K m = 4 := by rw [ek]; decide
    have h9 : ¬ K m = 9 := by rw [ek]; decide
    rw [gc_ru_co h0 h1 h4 h9] at h
    exact ⟨hm', gx_fa fun r4 x4 e4 => ⟨hm', gx_fa fun r5 x5 e5 => ⟨hm', nm_r ek (br_f (by decide) (br_f (by decide) (br_f (by decide) (br_f (by decide) (br_f (by decide) (br_f (by decide) (br_f (by decide) (br_f (by decide) (br_f (by decide) (br_t rfl (gx_combined_byBoth hm hi he w0 h0 h1 h4 h9 h)))))))))))⟩⟩⟩
  · have h0 : ¬ K m = 0 := by rw [ek]; decide
    have h1 : ¬ K m = 1 := by rw [ek]; decide
    have h4 : ¬ K m = 4 := by rw [ek]; decide
    have h9 : ¬ K m = 9 := by rw [ek]; decide
    rw [gc_ru_co h0 h1 h4 h9] at h
    exact ⟨hm', gx_fa fun r4 x4 e4 => ⟨hm', gx_fa fun r5 x5 e5 => ⟨hm', nm_r ek (br_f (by decide) (br_f (by decide) (br_f (by decide) (br_f (by decide) (br_f (by decide) (br_f (by decide) (br_f (by decide) (br_f (by decide) (br_f (by decide) (br_f (by decide) (br_t rfl (gx_combined_byBoth hm hi he w0 h0 h1 h4 h9 h))))))))))))⟩⟩⟩
  · rw [ek, ex, gc_ru_9 (by omega)] at h
    have c1 : vp_in (nI ((e * 12 + p) * 4 + i)) 144 := vp_in_nI (by omega) (by omega)
    have d1 : (nI ((e * 12 + p) * 4 + i)).toNatClampNeg = (e * 12 + p) * 4 + i := nI_clamp (by omega)
    refine ⟨hm', gx_fc ex (nm_r (nI_add _ _) ⟨hm', gx_fa fun r5 x5 e5 => ⟨hm', nm_r ek (br_f (by decide) (br_f (by decide) (br_f (by decide) (br_f (by decide) (br_f (by decide) (br_f (by decide) (br_f (by decide) (br_f (by decide) (br_f (by decide) (br_f (by decide) (br_f (by decide) (br_t rfl ⟨c1, ?_⟩))))))))))))⟩⟩)⟩
    rw [d1]
    try dsimp only at h
    by_cases z : va ((e * 12 + p) * 4 + i) ≤ 0
    · rw [if_neg (Int32.not_lt.mpr z)] at h
      exact br_t z h
    · rw [if_pos (Int32.not_le.mp z)] at h
      exact br_f z ⟨c1, h⟩
  · have h0 : ¬ K m = 0 := by rw [ek]; decide
    have h1 : ¬ K m = 1 := by rw [ek]; decide
    have h4 : ¬ K m = 4 := by rw [ek]; decide
    have h9 : ¬ K m = 9 := by rw [ek]; decide
    rw [gc_ru_co h0 h1 h4 h9] at h
    exact ⟨hm', gx_fa fun r4 x4 e4 => ⟨hm', gx_fa fun r5 x5 e5 => ⟨hm', nm_r ek (br_f (by decide) (br_t (by decide) (gx_combined_byBoth hm hi he w0 h0 h1 h4 h9 h)))⟩⟩⟩
end
end GXA
end
section
section GXB
/-! the component: passes over the nodes -/
theorem gc_P_le {F : Nat → Nat → Int32} {e : Nat} {va : Nat → Int32} {m k : Nat} (h : gc_P F e va m 0) (hk : k ≤ m) : gc_P F e va k 0 :=
  ⟨fun p hp => h.1 p (by omega), fun j hj => absurd hj (Nat.not_lt_zero j)⟩
theorem gc_4le {i : Nat} (h : 4 ≤ i) (hi : i < 2 ^ 31) : (4 : Int32) ≤ nI i := nI_le (a := 4) h hi
theorem gc_n4le {i : Nat} (h : i < 4) : ¬ (4 : Int32) ≤ nI i := nI_ge (b := 4) h (by decide)
section
variable {n : Nat} {lv : Int32} {IN DI sp K X Y V fi se bo st : Nat → Int32} {post : SX → Prop} {m k e : Nat} {x1 t : Int32}
theorem gx_wv39 {J : Int32 → (Nat → Int32) → (Nat → Int32) → (Nat → Int32) → (Nat → Int32) → (Nat → Int32) → (Nat → Int32) → (Nat → Int32) → (Nat → Int32) → (Nat → Int32) → (Nat → Int32) → (Nat → Int32) → (Nat → Int32) → Prop} (hn : n ≤ 12) (w : gc_W K X Y V n) (hm : m < n) (he : e < 3) : ∀ (d i : Nat) (va : Nat → Int32), i + d = 4 → gc_C K X Y IN va st n → gc_P (gc_V K X Y (fun c => IN (12 * e + c))) e va m i →
    (∀ va' : Nat → Int32, gc_C K X Y IN va' st n → gc_P (gc_V K X Y (fun c => IN (12 * e + c))) e va' (m + 1) 0 → J (nI (m + 1)) IN DI sp K X Y V va' fi se bo st) →
    wX_workOutValues_39 post J x1 (nI e) (nI m) (nI ((e * 12 + m) * 4)) (nI n) lv (d + 1) (nI i) IN DI sp K X Y V va fi se bo st := by
  intro d
  induction d with
  | zero =>
    intro i va hi c P hJ
    have e4 : i = 4 := by omega
    subst e4
    exact br_t (gc_4le (Nat.le_refl _) (by omega)) (nm_r (nI_1 m) (hJ va c (gc_P_s P)))
  | succ d ih =>
    intro i va hi c P hJ
    have hv : gc_rv K X Y (fun c => IN (12 * e + c)) (fun p j => va ((e * 12 + p) * 4 + j)) m i = (gc_V K X Y (fun c => IN (12 * e + c))) m i :=
      gc_V_st hn w hm (by omega) (fun _ _ => rfl) (fun p hp j hj => P.1 p hp j hj)
    refine br_f (gc_n4le (by omega)) (gx_valueOf (by omega) (by omega) he (w m hm).1 ?_)
    rw [hv]
    refine ⟨gc_vi (by omega) (by omega), nm_r (e' := upd va ((e * 12 + m) * 4 + i) ((gc_V K X Y (fun c => IN (12 * e + c))) m i)) ?_ (nm_r (nI_1 i) (ih (i + 1) _ (by omega) (gc_C_w hn he (by omega) (by omega) c) (gc_P_w (by omega) P) hJ))⟩
    rw [gc_ix (by omega)]
theorem gx_wvx {va : Nat → Int32} (hk : k < n) (hn : n ≤ 12) (he : e < 3) (c : gc_C K X Y IN va st n) (P : gc_P (gc_V K X Y (fun c => IN (12 * e + c))) e va (k + 1) 0)
    (hp : ∀ st' : Nat → Int32, gc_C K X Y IN va st' n → post (nI n, lv, IN, DI, sp, K, X, Y, V, va, fi, se, bo, st')) :
    vp_in (nI e) 3 ∧ (((nI k < st (nI e).toNatClampNeg → (post (nI n, lv, IN, DI, sp, K, X, Y, V, va, fi, se, bo, st))) ∧ (¬ nI k < st (nI e).toNatClampNeg → (vp_in (nI e) 3 ∧ ∀ z, z = upd st (nI e).toNatClampNeg (nI k + 1) → (post (nI n, lv, IN, DI, sp, K, X, Y, V, va, fi, se, bo, z)))))) := by
  have h3 : vp_in (nI e) 3 := vp_in_nI he (by omega)
  refine ⟨h3, br_c (fun _ => hp st c) (fun _ => ⟨h3, nm_r (e' := upd st e (nI (k + 1))) ?_ (hp _ (gc_C_st he (by omega) (fun p hq j hj => P.1 p hq j hj) c))⟩)⟩
  rw [nI_clamp (by omega), nI_1]
theorem gx_wv22 (hn : n ≤ 12) (w : gc_W K X Y V n) (hk : k < n) (he : e < 3)
    (hp : ∀ va' st' : Nat → Int32, gc_C K X Y IN va' st' n → gc_P (gc_V K X Y (fun c => IN (12 * e + c))) e va' (k + 1) 0 → post (nI n, lv, IN, DI, sp, K, X, Y, V, va', fi, se, bo, st')) : ∀ (d m : Nat) (va : Nat → Int32), m ≤ 12 → k + 1 ≤ m + d → gc_C K X Y IN va st n → gc_P (gc_V K X Y (fun c => IN (12 * e + c))) e va m 0 →
    wX_workOutValues_22 post (nI k) (nI e) (nI n) lv (d + 1) (nI m) IN DI sp K X Y V va fi se bo st := by
  intro d
  induction d with
  | zero =>
    intro m va hm hd c P
    have P' := gc_P_le (k := k + 1) P (by omega)
    exact br_t (nI_lt (by omega) (by omega)) (gx_wvx hk hn he c P' (fun st' c' => hp va st' c' P'))
  | succ d ih =>
    intro m va hm hd c P
    by_cases z : k < m
    · have P' := gc_P_le (k := k + 1) P (by omega)
      exact br_t (nI_lt z (by omega)) (gx_wvx hk hn he c P' (fun st' c' => hp va st' c' P'))
    · refine br_f (nI_nlt (by omega) (by omega)) (gx_fc rfl ?_)
      exact ⟨5, gx_wv39 hn w (by omega) he 4 0 va (by omega) c P (fun va' c' P' => ih (m + 1) va' (by omega) (by omega) c' P')⟩
theorem gx_workOutValues {va : Nat → Int32} (hn : n ≤ 12) (w : gc_W K X Y V n) (hk : k < n) (he : e < 3) (c : gc_C K X Y IN va st n)
    (hp : ∀ va' st' : Nat → Int32, gc_C K X Y IN va' st' n → gc_P (gc_V K X Y (fun c => IN (12 * e + c))) e va' (k + 1) 0 → post (nI n, lv, IN, DI, sp, K, X, Y, V, va', fi, se, bo, st')) : wpX_workOutValues post (nI n, lv, IN, DI, sp, K, X, Y, V, va, fi, se, bo, st) (nI k) (nI e) := by
  obtain ⟨q, hq, hs, hv⟩ := c e he
  refine br_c (fun _ => And.intro (vp_in_nI he (by omega)) (nm_r (e' := nI q) ?_ ⟨k + 2, gx_wv22 hn w hk he hp (k + 1) q va (by omega) (by omega) c ⟨hv, fun j hj => absurd hj (Nat.not_lt_zero j)⟩⟩)) (fun _ => ⟨k + 2, gx_wv22 hn w hk he hp (k + 1) 0 va (by omega) (by omega) c gc_P_0⟩)
  rw [nI_clamp (by omega)]
  exact hs
end
section
variable {n : Nat} {lv : Int32} {IN DI sp K X Y V va se bo st : Nat → Int32} {post : SX → Prop} {m k e : Nat} {x1 t : Int32}
theorem gx_wd21_byFirst {J : Int32 → (Nat → Int32) → (Nat → Int32) → (Nat → Int32) → (Nat → Int32) → (Nat → Int32) → (Nat → Int32) → (Nat → Int32) → (Nat → Int32) → (Nat → Int32) → (Nat → Int32) → (Nat → Int32) → (Nat → Int32) → Prop} (hn : n ≤ 12) (w : gc_W K X Y V n) (hm : m < n) (he : e < 3) (Pv : gc_P (gc_V K X Y (fun c => IN (12 * e + c))) e va m 0) : ∀ (d i : Nat) (fi : Nat → Int32), i + d = 4 → gc_P (gc_D K X Y (fun c => IN (12 * e + c)) (gc_sd DI e t)) e fi m i →
    (∀ fi' : Nat → Int32, gc_P (gc_D K X Y (fun c => IN (12 * e + c)) (gc_sd DI e t)) e fi' (m + 1) 0 → J (nI (m + 1)) IN DI sp K X Y V va fi' se bo st) →
    wX_workOutDerivatives__byFirst_21 post J x1 t (nI e) (nI m) (nI ((e * 12 + m) * 4)) (nI n) lv (d + 1) (nI i) IN DI sp K X Y V va fi se bo st := by
  intro d
  induction d with
  | zero =>
    intro i fi hi P hJ
    have e4 : i = 4 := by omega
    subst e4
    exact br_t (gc_4le (Nat.le_refl _) (by omega)) (nm_r (nI_1 m) (hJ fi (gc_P_s P)))
  | succ d ih =>
    intro i fi hi P hJ
    have hv : gc_rd K X Y (gc_sd DI e t) (fun p j => va ((e * 12 + p) * 4 + j)) (fun p j => fi ((e * 12 + p) * 4 + j)) m i = (gc_D K X Y (fun c => IN (12 * e + c)) (gc_sd DI e t)) m i :=
      gc_D_st hn w hm (by omega) (fun _ _ => rfl) (fun p hp j hj => Pv.1 p hp j hj) (fun p hp j hj => P.1 p hp j hj)
    refine br_f (gc_n4le (by omega)) (gx_derivativeOf_byFirst (by omega) (by omega) he (w m hm).1 ?_)
    rw [hv]
    refine ⟨gc_vi (by omega) (by omega), nm_r (e' := upd fi ((e * 12 + m) * 4 + i) ((gc_D K X Y (fun c => IN (12 * e + c)) (gc_sd DI e t)) m i)) ?_ (nm_r (nI_1 i) (ih (i + 1) _ (by omega) (gc_P_w (by omega) P) hJ))⟩
    rw [gc_ix (by omega)]
theorem gx_wd3_byFirst (hn : n ≤ 12) (w : gc_W K X Y V n) (hk : k < n) (he : e < 3) (Pv : gc_P (gc_V K X Y (fun c => IN (12 * e + c))) e va (k + 1) 0)
    (hp : ∀ fi' : Nat → Int32, gc_P (gc_D K X Y (fun c => IN (12 * e + c)) (gc_sd DI e t)) e fi' (k + 1) 0 → post (nI n, lv, IN, DI, sp, K, X, Y, V, va, fi', se, bo, st)) : ∀ (d m : Nat) (fi : Nat → Int32), m + d = k + 1 → gc_P (gc_D K X Y (fun c => IN (12 * e + c)) (gc_sd DI e t)) e fi m 0 →
    wX_workOutDerivatives__byFirst_3 post (nI k) t (nI e) (nI n) lv (d + 1) (nI m) IN DI sp K X Y V va fi se bo st := by
  intro d
  induction d with
  | zero =>
    intro m fi hd P
    have em : m = k + 1 := by omega
    subst em
    exact br_t (nI_lt (by omega) (by omega)) (hp fi P)
  | succ d ih =>
    intro m fi hd P
    refine br_f (nI_nlt (by omega) (by omega)) (gx_fc rfl ?_)
    exact ⟨5, gx_wd21_byFirst hn w (by omega) he (gc_P_le Pv (by omega)) 4 0 fi (by omega) P (fun fi' P' => ih (m + 1) fi' (by omega) P')⟩
theorem gx_workOutDerivatives_byFirst {fi : Nat → Int32} (hn : n ≤ 12) (w : gc_W K X Y V n) (hk : k < n) (he : e < 3) (Pv : gc_P (gc_V K X Y (fun c => IN (12 * e + c))) e va (k + 1) 0)
    (hp : ∀ fi' : Nat → Int32, gc_P (gc_D K X Y (fun c => IN (12 * e + c)) (gc_sd DI e t)) e fi' (k + 1) 0 → post (nI n, lv, IN, DI, sp, K, X, Y, V, va, fi', se, bo, st)) : wpX_workOutDerivatives__byFirst post (nI n, lv, IN, DI, sp, K, X, Y, V, va, fi, se, bo, st) (nI k) t (nI e) :=
  ⟨k + 2, gx_wd3_byFirst hn w hk he Pv hp (k + 1) 0 fi (by omega) gc_P_0⟩
end
section
variable {n : Nat} {lv : Int32} {IN DI sp K X Y V va fi bo st : Nat → Int32} {post : SX → Prop} {m k e : Nat} {x1 t : Int32}
theorem gx_wd21_bySecond {J : Int32 → (Nat → Int32) → (Nat → Int32) → (Nat → Int32) → (Nat → Int32) → (Nat → Int32) → (Nat → Int32) → (Nat → Int32) → (Nat → Int32) → (Nat → Int32) → (Nat → Int32) → (Nat → Int32) → (Nat → Int32) → Prop} (hn : n ≤ 12) (w : gc_W K X Y V n) (hm : m < n) (he : e < 3) (Pv : gc_P (gc_V K X Y (fun c => IN (12 * e + c))) e va m 0) : ∀ (d i : Nat) (se : Nat → Int32), i + d = 4 → gc_P (gc_D K X Y (fun c => IN (12 * e + c)) (gc_sd DI e t)) e se m i →
    (∀ se' : Nat → Int32, gc_P (gc_D K X Y (fun c => IN (12 * e + c)) (gc_sd DI e t)) e se' (m + 1) 0 → J (nI (m + 1)) IN DI sp K X Y V va fi se' bo st) →
    wX_workOutDerivatives__bySecond_21 post J x1 t (nI e) (nI m) (nI ((e * 12 + m) * 4)) (nI n) lv (d + 1) (nI i) IN DI sp K X Y V va fi se bo st := by
  intro d
  induction d with
  | zero =>
    intro i se hi P hJ
    have e4 : i = 4 := by omega
    subst e4
    exact br_t (gc_4le (Nat.le_refl _) (by omega)) (nm_r (nI_1 m) (hJ se (gc_P_s P)))
  | succ d ih =>
    intro i se hi P hJ
    have hv : gc_rd K X Y (gc_sd DI e t) (fun p j => va ((e * 12 + p) * 4 + j)) (fun p j => se ((e * 12 + p) * 4 + j)) m i = (gc_D K X Y (fun c => IN (12 * e + c)) (gc_sd DI e t)) m i :=
      gc_D_st hn w hm (by omega) (fun _ _ => rfl) (fun p hp j hj => Pv.1 p hp j hj) (fun p hp j hj => P.1 p hp j hj)
    refine br_f (gc_n4le (by omega)) (gx_derivativeOf_bySecond (by omega) (by omega) he (w m hm).1 ?_)
    rw [hv]
    refine ⟨gc_vi (by omega) (by omega), nm_r (e' := upd se ((e * 12 + m) * 4 + i) ((gc_D K X Y (fun c => IN (12 * e + c)) (gc_sd DI e t)) m i)) ?_ (nm_r (nI_1 i) (ih (i + 1) _ (by omega) (gc_P_w (by omega) P) hJ))⟩
    rw [gc_ix (by omega)]
theorem gx_wd3_bySecond (hn : n ≤ 12) (w : gc_W K X Y V n) (hk : k < n) (he : e < 3) (Pv : gc_P (gc_V K X Y (fun c => IN (12 * e + c))) e va (k + 1) 0)
    (hp : ∀ se' : Nat → Int32, gc_P (gc_D K X Y (fun c => IN (12 * e + c)) (gc_sd DI e t)) e se' (k + 1) 0 → post (nI n, lv, IN, DI, sp, K, X, Y, V, va, fi, se', bo, st)) : ∀ (d m : Nat) (se : Nat → Int32), m + d = k + 1 → gc_P (gc_D K X Y (fun c => IN (12 * e + c)) (gc_sd DI e t)) e se m 0 →
    wX_workOutDerivatives__bySecond_3 post (nI k) t (nI e) (nI n) lv (d + 1) (nI m) IN DI sp K X Y V va fi se bo st := by
  intro d
  induction d with
  | zero =>
    intro m se hd P
    have em : m = k + 1 := by omega
    subst em
    exact br_t (nI_lt (by omega) (by omega)) (hp se P)
  | succ d ih =>
    intro m se hd P
    refine br_f (nI_nlt (by omega) (by omega)) (gx_fc rfl ?_)
    exact ⟨5, gx_wd21_bySecond hn w (by omega) he (gc_P_le Pv (by omega)) 4 0 se (by omega) P (fun se' P' => ih (m + 1) se' (by omega) P')⟩
theorem gx_workOutDerivatives_bySecond {se : Nat → Int32} (hn : n ≤ 12) (w : gc_W K X Y V n) (hk : k < n) (he : e < 3) (Pv : gc_P (gc_V K X Y (fun c => IN (12 * e + c))) e va (k + 1) 0)
    (hp : ∀ se' : Nat → Int32, gc_P (gc_D K X Y (fun c => IN (12 * e + c)) (gc_sd DI e t)) e se' (k + 1) 0 → post (nI n, lv, IN, DI, sp, K, X, Y, V, va, fi, se', bo, st)) : wpX_workOutDerivatives__bySecond post (nI n, lv, IN, DI, sp, K, X, Y, V, va, fi, se, bo, st) (nI k) t (nI e) :=
  ⟨k + 2, gx_wd3_bySecond hn w hk he Pv hp (k + 1) 0 se (by omega) gc_P_0⟩
end
section
variable {n : Nat} {lv : Int32} {IN DI sp K X Y V va fi se st : Nat → Int32} {post : SX → Prop} {m k e : Nat} {x1 : Int32} {t1 t2 : Nat → Int32}
theorem gx_ws17 {J : Int32 → (Nat → Int32) → (Nat → Int32) → (Nat → Int32) → (Nat → Int32) → (Nat → Int32) → (Nat → Int32) → (Nat → Int32) → (Nat → Int32) → (Nat → Int32) → (Nat → Int32) → (Nat → Int32) → (Nat → Int32) → Prop} (hn : n ≤ 12) (w : gc_W K X Y V n) (hm : m < n) (he : e < 3) (Pv : gc_P (gc_V K X Y (fun c => IN (12 * e + c))) e va m 0) (P1 : gc_P (gc_D K X Y (fun c => IN (12 * e + c)) t1) e fi m 0) (P2 : gc_P (gc_D K X Y (fun c => IN (12 * e + c)) t2) e se m 0) : ∀ (d i : Nat) (bo : Nat → Int32), i + d = 4 → gc_P (gc_B K X Y (fun c => IN (12 * e + c)) t1 t2) e bo m i →
    (∀ bo' : Nat → Int32, gc_P (gc_B K X Y (fun c => IN (12 * e + c)) t1 t2) e bo' (m + 1) 0 → J (nI (m + 1)) IN DI sp K X Y V va fi se bo' st) →
    wX_workOutSecondDerivatives_17 post J x1 (nI e) (nI m) (nI ((e * 12 + m) * 4)) (nI n) lv (d + 1) (nI i) IN DI sp K X Y V va fi se bo st := by
  intro d
  induction d with
  | zero =>
    intro i bo hi P hJ
    have e4 : i = 4 := by omega
    subst e4
    exact br_t (gc_4le (Nat.le_refl _) (by omega)) (nm_r (nI_1 m) (hJ bo (gc_P_s P)))
  | succ d ih =>
    intro i bo hi P hJ
    have hv : gc_rb K X Y (fun p j => va ((e * 12 + p) * 4 + j)) (fun p j => fi ((e * 12 + p) * 4 + j)) (fun p j => se ((e * 12 + p) * 4 + j)) (fun p j => bo ((e * 12 + p) * 4 + j)) m i = (gc_B K X Y (fun c => IN (12 * e + c)) t1 t2) m i :=
      gc_B_st hn w hm (by omega) (fun p hp j hj => Pv.1 p hp j hj) (fun p hp j hj => P1.1 p hp j hj) (fun p hp j hj => P2.1 p hp j hj) (fun p hp j hj => P.1 p hp j hj)
    refine br_f (gc_n4le (by omega)) (gx_secondDerivativeOf (by omega) (by omega) he (w m hm).1 ?_)
    rw [hv]
    refine ⟨gc_vi (by omega) (by omega), nm_r (e' := upd bo ((e * 12 + m) * 4 + i) ((gc_B K X Y (fun c => IN (12 * e + c)) t1 t2) m i)) ?_ (nm_r (nI_1 i) (ih (i + 1) _ (by omega) (gc_P_w (by omega) P) hJ))⟩
    rw [gc_ix (by omega)]
theorem gx_ws2 (hn : n ≤ 12) (w : gc_W K X Y V n) (hk : k < n) (he : e < 3) (Pv : gc_P (gc_V K X Y (fun c => IN (12 * e + c))) e va (k + 1) 0) (P1 : gc_P (gc_D K X Y (fun c => IN (12 * e + c)) t1) e fi (k + 1) 0) (P2 : gc_P (gc_D K X Y (fun c => IN (12 * e + c)) t2) e se (k + 1) 0)
    (hp : ∀ bo' : Nat → Int32, gc_P (gc_B K X Y (fun c => IN (12 * e + c)) t1 t2) e bo' (k + 1) 0 → post (nI n, lv, IN, DI, sp, K, X, Y, V, va, fi, se, bo', st)) : ∀ (d m : Nat) (bo : Nat → Int32), m + d = k + 1 → gc_P (gc_B K X Y (fun c => IN (12 * e + c)) t1 t2) e bo m 0 →
    wX_workOutSecondDerivatives_2 post (nI k) (nI e) (nI n) lv (d + 1) (nI m) IN DI sp K X Y V va fi se bo st := by
  intro d
  induction d with
  | zero =>
    intro m bo hd P
    have em : m = k + 1 := by omega
    subst em
    exact br_t (nI_lt (by omega) (by omega)) (hp bo P)
  | succ d ih =>
    intro m bo hd P
    refine br_f (nI_nlt (by omega) (by omega)) (gx_fc rfl ?_)
    exact ⟨5, gx_ws17 hn w (by omega) he (gc_P_le Pv (by omega)) (gc_P_le P1 (by omega)) (gc_P_le P2 (by omega)) 4 0 bo (by omega) P (fun bo' P' => ih (m + 1) bo' (by omega) P')⟩
theorem gx_workOutSecondDerivatives {bo : Nat → Int32} (hn : n ≤ 12) (w : gc_W K X Y V n) (hk : k < n) (he : e < 3) (Pv : gc_P (gc_V K X Y (fun c => IN (12 * e + c))) e va (k + 1) 0) (P1 : gc_P (gc_D K X Y (fun c => IN (12 * e + c)) t1) e fi (k + 1) 0) (P2 : gc_P (gc_D K X Y (fun c => IN (12 * e + c)) t2) e se (k + 1) 0)
    (hp : ∀ bo' : Nat → Int32, gc_P (gc_B K X Y (fun c => IN (12 * e + c)) t1 t2) e bo' (k + 1) 0 → post (nI n, lv, IN, DI, sp, K, X, Y, V, va, fi, se, bo', st)) : wpX_workOutSecondDerivatives post (nI n, lv, IN, DI, sp, K, X, Y, V, va, fi, se, bo, st) (nI k) (nI e) :=
  ⟨k + 2, gx_ws2 hn w hk he Pv P1 P2 hp (k + 1) 0 bo (by omega) gc_P_0⟩
end
section
variable {n : Nat} {lv : Int32} {IN DI sp K X Y V va fi se bo st : Nat → Int32} {post : Int32 → SX → Prop} {m i e : Nat} {t : Int32}
theorem gx_derivative (hn : n ≤ 12) (w : gc_W K X Y V n) (hm : m < n) (hi : i < 4) (he : e < 3) (c : gc_C K X Y IN va st n)
    (hp : ∀ va' fi' st' : Nat → Int32, gc_C K X Y IN va' st' n → post ((gc_D K X Y (fun c => IN (12 * e + c)) (gc_sd DI e t)) m i) (nI n, lv, IN, DI, sp, K, X, Y, V, va', fi', se, bo, st')) : wpX_derivative post (nI n, lv, IN, DI, sp, K, X, Y, V, va, fi, se, bo, st) (nI m) (nI i) t (nI e) := by
  unfold wpX_derivative
  refine gx_workOutValues hn w hm he c (fun va' st' c' Pv => ?_)
  refine gx_workOutDerivatives_byFirst hn w hm he Pv (fun fi' P => ?_)
  refine gx_fc rfl (And.intro (gc_vi (by omega) (by omega)) ?_)
  rw [gc_ix (by omega), gc_P_at P hi]
  exact hp va' fi' st' c'
end
end GXB
end
section
section GYA
/-! the reference: tests of arguments, one node's cells -/
theorem gy_br {N : Nat} {x M : Int32} {A B : Prop} (hM : M.toInt = (N : Int) - 1) (hN : N < 2 ^ 31) (h1 : gc_in N x → B) (h0 : ¬ gc_in N x → A) : (x < 0 → A) ∧ (¬ x < 0 → ((M < x → A) ∧ (¬ M < x → B))) := by
  have z : (0 : Int32).toInt = 0 := by decide
  refine br_c (fun a => h0 ?_) (fun a => br_c (fun b => h0 ?_) (fun b => h1 ?_))
  · rw [gc_in_iff hN]
    rw [Int32.lt_iff_toInt_lt, z] at a
    omega
  · rw [gc_in_iff hN]
    rw [Int32.lt_iff_toInt_lt, hM] at b
    omega
  · rw [gc_in_iff hN]
    rw [Int32.lt_iff_toInt_lt, z] at a
    rw [Int32.lt_iff_toInt_lt, hM] at b
    omega
theorem gy_pred {n : Nat} (hn : n ≤ 12) : (nI n - 1).toInt = (n : Int) - 1 := by
  cases n with
  | zero => decide
  | succ n =>
    rw [nI_pred, nI_toInt (by omega)]
    omega
theorem gy_2 : (2 : Int32).toInt = ((3 : Nat) : Int) - 1 := by decide
theorem gy_3 : (3 : Int32).toInt = ((4 : Nat) : Int) - 1 := by decide
theorem gy_0 : (0 : Int32).toInt = ((1 : Nat) : Int) - 1 := by decide
theorem gy_10 : (10 : Int32).toInt = ((11 : Nat) : Int) - 1 := by decide
theorem gy_11 : (11 : Int32).toInt = ((12 : Nat) : Int) - 1 := by decide
theorem gc_01b : narrow .boolean (.int (0 : Int32)) = .int (0 : Int32) := gc_nb (Or.inl rfl)
theorem gc_11b : narrow .boolean (.int (1 : Int32)) = .int (1 : Int32) := gc_nb (Or.inr rfl)
section
variable {n : Nat} {K X Y V IN DI on tw pl f1 f2 f3 sl : Nat → Int32} {post : Int32 → Prop} {x y z M : Int32}
theorem gy_in {N : Nat} (hM : M.toInt = (N : Int) - 1) (hN : N < 2 ^ 31) (h1 : gc_in N x → post 1) (h0 : ¬ gc_in N x → post 0) : wpY_in post (nI n, K, X, Y, V, IN, DI, on, tw, pl, f1, f2, f3, sl) x 0 M :=
  gy_br hM hN h1 h0
theorem gy_isNode (hn : n ≤ 12) (h1 : gc_in n x → post 1) (h0 : ¬ gc_in n x → post 0) : wpY_isNode post (nI n, K, X, Y, V, IN, DI, on, tw, pl, f1, f2, f3, sl) x := by
  unfold wpY_isNode
  exact gy_in (gy_pred hn) (by omega) (fun h => ⟨gc_11b, h1 h⟩) (fun h => ⟨gc_01b, h0 h⟩)
theorem gy_isPlace (h1 : gc_in 12 x → gc_in 3 y → post 1) (h0 : ¬ (gc_in 12 x ∧ gc_in 3 y) → post 0) : wpY_isPlace post (nI n, K, X, Y, V, IN, DI, on, tw, pl, f1, f2, f3, sl) x y := by
  unfold wpY_isPlace
  refine gy_in gy_11 (by omega) (fun h => br_f gc_10 ?_) (fun h => br_t rfl (h0 (fun g => h g.1)))
  exact gy_in gy_2 (by omega) (fun g => br_f gc_10 (h1 h g)) (fun g => br_t rfl (h0 (fun k => g k.2)))
theorem gy_isNumber (hn : n ≤ 12) (h1 : gc_num n V x → post 1) (h0 : ¬ gc_num n V x → post 0) : wpY_isNumber post (nI n, K, X, Y, V, IN, DI, on, tw, pl, f1, f2, f3, sl) x := by
  unfold wpY_isNumber
  refine gy_isNode hn (fun h => br_f gc_10 ?_) (fun h => br_t rfl (h0 ?_))
  · obtain ⟨m, hm, rfl⟩ := h
    refine ⟨vp_in_nI (by omega) (by omega), ?_⟩
    rw [nI_clamp (by omega)]
    refine br_c (fun z => h1 ⟨m, hm, rfl, z⟩) (fun z => h0 ?_)
    intro ⟨m', hm', e', z'⟩
    have := gc_im e' (by omega) (by omega)
    subst this
    exact z z'
  · intro ⟨m, hm, e, z⟩
    exact h ⟨m, hm, e⟩
theorem gy_isComponent (hn : n ≤ 12) (h1 : gc_cmp n V x y → gc_in 3 z → post 1) (h0 : ¬ (gc_cmp n V x y ∧ gc_in 3 z) → post 0) : wpY_isComponent post (nI n, K, X, Y, V, IN, DI, on, tw, pl, f1, f2, f3, sl) x y z := by
  unfold wpY_isComponent
  refine gy_isNode hn (fun h => br_f gc_10 ?_) (fun h => br_t rfl (h0 ?_))
  · obtain ⟨m, hm, rfl⟩ := h
    have hj : ∀ {m' : Nat}, m' < n → nI m = nI m' → m' = m := fun h e => (gc_im e (by omega) (by omega)).symm
    refine ⟨vp_in_nI (by omega) (by omega), ?_⟩
    rw [nI_clamp (by omega)]
    by_cases v : V m = 0
    · refine br_t v ?_
      unfold wY_isComponent_25
      refine gy_in gy_0 (by omega) (fun g => br_f gc_10 ?_) (fun g => br_t rfl (h0 ?_))
      · exact gy_in gy_2 (by omega) (fun k => br_f gc_10 (h1 ⟨m, hm, rfl, by rw [if_pos v]; exact g⟩ k)) (fun k => br_t rfl (h0 (fun l => k l.2)))
      · intro ⟨⟨m', hm', e', g'⟩, _⟩
        have := hj hm' e'
        subst this
        rw [if_pos v] at g'
        exact g g'
    · refine br_f v ?_
      unfold wY_isComponent_25
      refine gy_in gy_3 (by omega) (fun g => br_f gc_10 ?_) (fun g => br_t rfl (h0 ?_))
      · exact gy_in gy_2 (by omega) (fun k => br_f gc_10 (h1 ⟨m, hm, rfl, by rw [if_neg v]; exact g⟩ k)) (fun k => br_t rfl (h0 (fun l => k l.2)))
      · intro ⟨⟨m', hm', e', g'⟩, _⟩
        have := hj hm' e'
        subst this
        rw [if_neg v] at g'
        exact g g'
  · intro ⟨⟨m, hm, e, _⟩, _⟩
    exact h ⟨m, hm, e⟩
end
theorem gc_sm_ac {V pl : Nat → Int32} {p L : Nat} (hw : V p = 1) : gc_sm (gc_ac V pl p) L = gc_sm (fun t => pl (4 * p + t)) L := gc_sm_congr L (fun j _ => gc_ac_v hw)
theorem gc_e1 (x : Int32) : 0 + 1 * x = x := by grind
theorem gc_e2 (x y : Int32) : 0 + 1 * x + 1 * y = x + y := by grind
theorem gc_e3 (x y : Int32) : 0 + 1 * x + (-1) * y = x - y := by grind
theorem gc_e4 (x y : Int32) : x + 1 * y = x + y := by grind
theorem gc_ad {f : Nat → Int32} {c a : Nat} {x t : Int32} (h : a ≠ c) : upd (upd f c x) c (upd f c x c + t * upd f c x a) = upd f c (x + t * f a) := by
  rw [gc_uu, gc_us, gc_un h]
section
variable {n : Nat} {K X Y V IN DI on tw pl f1 f2 f3 sl : Nat → Int32} {post : SY → Prop} {x y z t : Int32} {a b c m i e : Nat} {q1 q2 q3 q4 : Int32}
theorem gy_put (hc : c < 48) (h : post (nI n, K, X, Y, V, IN, DI, on, tw, upd pl c q1, upd f1 c q2, upd f2 c q3, upd f3 c q4, sl)) : wpY_put post (nI n, K, X, Y, V, IN, DI, on, tw, pl, f1, f2, f3, sl) (nI c) q1 q2 q3 q4 := by
  have e : (nI c).toNatClampNeg = c := nI_clamp (by omega)
  have v : vp_in (nI c) 48 := vp_in_nI hc (by omega)
  unfold wpY_put
  dsimp only
  rw [e]
  exact ⟨v, nm_e ⟨v, nm_e ⟨v, nm_e ⟨v, nm_e h⟩⟩⟩⟩
theorem gy_add (hc : c < 48) (ha : a < 48) (h : post (nI n, K, X, Y, V, IN, DI, on, tw, upd pl c (pl c + t * pl a), upd f1 c (f1 c + t * f1 a), upd f2 c (f2 c + t * f2 a), upd f3 c (f3 c + t * f3 a), sl)) : wpY_add post (nI n, K, X, Y, V, IN, DI, on, tw, pl, f1, f2, f3, sl) (nI c) (nI a) t := by
  have e : (nI c).toNatClampNeg = c := nI_clamp (by omega)
  have d : (nI a).toNatClampNeg = a := nI_clamp (by omega)
  have v : vp_in (nI c) 48 := vp_in_nI hc (by omega)
  have u : vp_in (nI a) 48 := vp_in_nI ha (by omega)
  unfold wpY_add
  dsimp only
  rw [e, d]
  exact ⟨v, u, v, nm_e ⟨v, u, v, nm_e ⟨v, u, v, nm_e ⟨v, u, v, nm_e h⟩⟩⟩⟩
theorem gy_ad (hc : c < 48) (ha : a < 48) (hx : x = nI a) (n1 : a ≠ c) (h : post (nI n, K, X, Y, V, IN, DI, on, tw, upd pl c (q1 + t * pl a), upd f1 c (q2 + t * f1 a), upd f2 c (q3 + t * f2 a), upd f3 c (q4 + t * f3 a), sl)) : wpY_add post (nI n, K, X, Y, V, IN, DI, on, tw, upd pl c q1, upd f1 c q2, upd f2 c q3, upd f3 c q4, sl) (nI c) x t := by
  subst hx
  refine gy_add hc ha ?_
  rw [gc_ad n1, gc_ad n1, gc_ad n1, gc_ad n1]
  exact h
theorem gy_mul (hc : c < 48) (ha : a < 48) (hb : b < 48) (n1 : a ≠ c) (n2 : b ≠ c) (h : post (nI n, K, X, Y, V, IN, DI, on, tw, upd pl c (pl a * pl b), upd f1 c (f1 a * pl b + pl a * f1 b), upd f2 c (f2 a * pl b + pl a * f2 b), upd f3 c (f3 a * pl b + f1 a * f2 b + f2 a * f1 b + pl a * f3 b), sl)) : wpY_multiply post (nI n, K, X, Y, V, IN, DI, on, tw, upd pl c q1, upd f1 c q2, upd f2 c q3, upd f3 c q4, sl) (nI c) (nI a) (nI b) := by
  have d : (nI a).toNatClampNeg = a := nI_clamp (by omega)
  have d' : (nI b).toNatClampNeg = b := nI_clamp (by omega)
  have u : vp_in (nI a) 48 := vp_in_nI ha (by omega)
  have u' : vp_in (nI b) 48 := vp_in_nI hb (by omega)
  unfold wpY_multiply
  dsimp only
  rw [d, d']
  have r (f : Nat → Int32) (q : Int32) : upd f c q a = f a := gc_un n1
  have r' (f : Nat → Int32) (q : Int32) : upd f c q b = f b := gc_un n2
  rw [r, r, r, r, r', r', r', r']
  refine ⟨u, u', nm_e ⟨u, u', u, u', nm_e ⟨u, u', u, u', nm_e ⟨u, u', u, u', u, u', u, u', nm_e (gy_put hc ?_)⟩⟩⟩⟩
  rw [gc_uu, gc_uu, gc_uu, gc_uu]
  exact h
end
section
variable {n : Nat} {K X Y V IN DI on tw pl f1 f2 f3 sl : Nat → Int32} {x y z t : Int32} {p i : Nat}
theorem gy_place {post : Int32 → Prop} (hx : x = nI p) (hp : p < 12) (h : post (nI (4 * p + (if V p = 0 then 0 else i)))) : wpY_place post (nI n, K, X, Y, V, IN, DI, on, tw, pl, f1, f2, f3, sl) x (nI i) := by
  subst hx
  unfold wpY_place
  dsimp only
  rw [nI_clamp (by omega)]
  refine ⟨vp_in_nI (by omega) (by omega), ?_⟩
  by_cases z : V p = 0
  · rw [if_pos z] at h
    refine br_t z ?_
    rw [gc_4m, ← nI_0, nI_add]
    exact h
  · rw [if_neg z] at h
    refine br_f z ?_
    rw [gc_4m, nI_add]
    exact h
end
section
variable {n : Nat} {K X Y V IN DI on tw pl f1 f2 f3 sl : Nat → Int32} {post : SY → Prop} {x2 x3 x4 : Int32} {a c L i : Nat}
theorem gy_s19 (hc : c < 48) (ha : a + 4 ≤ c) (h : wY_single_42 post (nI c) x2 x3 x4 (nI a) (nI n) K X Y V IN DI on tw (upd pl c (gc_sm (fun t => pl (a + t)) 4)) (upd f1 c (gc_sm (fun t => f1 (a + t)) 4)) (upd f2 c (gc_sm (fun t => f2 (a + t)) 4)) (upd f3 c (gc_sm (fun t => f3 (a + t)) 4)) sl) : ∀ d j : Nat, j + d = 4 → wY_single_19 post (nI c) x2 x3 x4 (nI a) (d + 1) (nI j) (nI n) K X Y V IN DI on tw (upd pl c (gc_sm (fun t => pl (a + t)) j)) (upd f1 c (gc_sm (fun t => f1 (a + t)) j)) (upd f2 c (gc_sm (fun t => f2 (a + t)) j)) (upd f3 c (gc_sm (fun t => f3 (a + t)) j)) sl := by
  intro d
  induction d with
  | zero =>
    intro j hj
    have e : j = 4 := by omega
    subst e
    exact br_t (gc_4le (Nat.le_refl _) (by omega)) h
  | succ d ih =>
    intro j hj
    refine br_f (gc_n4le (by omega)) (gy_ad hc (by omega) (nI_add a j) (by omega) (nm_r (nI_1 j) ?_))
    rw [gc_e4, gc_e4, gc_e4, gc_e4]
    exact ih (j + 1) (by omega)
theorem gy_s141 (hc : c < 48) (ha : a + 4 ≤ c) (hi : i < 4) (h : post (nI n, K, X, Y, V, IN, DI, on, tw, upd pl c (gc_sm (fun t => pl (a + t)) (i + 1)), upd f1 c (gc_sm (fun t => f1 (a + t)) (i + 1)), upd f2 c (gc_sm (fun t => f2 (a + t)) (i + 1)), upd f3 c (gc_sm (fun t => f3 (a + t)) (i + 1)), sl)) : ∀ d j : Nat, j + d = i + 1 → wY_single_141 post (nI c) (nI i) (nI a) (d + 1) (nI j) (nI n) K X Y V IN DI on tw (upd pl c (gc_sm (fun t => pl (a + t)) j)) (upd f1 c (gc_sm (fun t => f1 (a + t)) j)) (upd f2 c (gc_sm (fun t => f2 (a + t)) j)) (upd f3 c (gc_sm (fun t => f3 (a + t)) j)) sl := by
  intro d
  induction d with
  | zero =>
    intro j hj
    have e : j = i + 1 := by omega
    subst e
    exact br_t (nI_lt (by omega) (by omega)) h
  | succ d ih =>
    intro j hj
    refine br_f (nI_nlt (by omega) (by omega)) (gy_ad hc (by omega) (nI_add a j) (by omega) (nm_r (nI_1 j) ?_))
    rw [gc_e4, gc_e4, gc_e4, gc_e4]
    exact ih (j + 1) (by omega)
end
section
variable {n : Nat} {K X Y V IN DI on tw pl f1 f2 f3 sl : Nat → Int32} {post : SY → Prop} {m i e : Nat}
theorem gy_workOut (hm : m < 12) (hi : i < 4) (he : e < 3) (w : gc_N V m (K m) (X m) (Y m) (V m)) (hz : V m = 0 → i = 0)
    (h : post (nI n, K, X, Y, V, IN, DI, on, tw, upd pl (4 * m + i) (gc_rv K X Y (fun c => IN (12 * e + c)) (gc_ac V pl) m i), upd f1 (4 * m + i) (gc_rd K X Y on (gc_ac V pl) (gc_ac V f1) m i), upd f2 (4 * m + i) (gc_rd K X Y tw (gc_ac V pl) (gc_ac V f2) m i), upd f3 (4 * m + i) (gc_rb K X Y (gc_ac V pl) (gc_ac V f1) (gc_ac V f2) (gc_ac V f3) m i), sl)) : wpY_workOut post (nI n, K, X, Y, V, IN, DI, on, tw, pl, f1, f2, f3, sl) (nI m) (nI i) (nI e) := by
  have hk : (nI m).toNatClampNeg = m := nI_clamp (by omega)
  have hm' : vp_in (nI m) 12 := vp_in_nI (by omega) (by omega)
  have hc : 4 * nI m + nI i = nI (4 * m + i) := by rw [gc_4m, nI_add]
  have hc' : 4 * m + i < 48 := by omega
  unfold gc_rv gc_rd gc_rb at h
  unfold wpY_workOut
  dsimp only
  rw [hk]
  rcases w with ⟨ek, hv, p, hp, ex⟩ | ⟨ek, hv⟩ | ⟨ek, p, q, hp, hq, ex, ey, hv⟩ | ⟨ek, p, q, hp, hq, ex, ey, hv⟩ | ⟨ek, p, q, hp, hq, ex, ey, hv⟩ | ⟨ek, hv, p, hp, ex, hw⟩ | ⟨ek, hv, p, hp, ex, hw⟩ | ⟨ek, hv, p, hp, ex, hw, q, hq, ey⟩ | ⟨ek, hv, p, hp, ex, hw⟩ | ⟨ek, p, hp, ex, hv⟩ | ⟨ek, hv, p, hp, ex, hw⟩
  · rw [ek, ex, gc_ru_0 (by omega), gc_ru_0 (by omega), gc_ru_0 (by omega), gc_ru_0 (by omega)] at h
    have ei : 4 * X m + nI i = nI (4 * p + i) := by rw [ex, gc_4m, nI_add]
    have ej : 12 * nI e + nI (4 * p + i) = nI (12 * e + (4 * p + i)) := by rw [gc_12m, nI_add]
    have v : vp_in (nI (4 * p + i)) 12 := vp_in_nI (by omega) (by omega)
    have d : (nI (4 * p + i)).toNatClampNeg = 4 * p + i := nI_clamp (by omega)
    refine nm_r hc ⟨hm', nm_r ek (gy_put hc' (br_t rfl ⟨hm', nm_r ei ⟨?_, v, v, ?_⟩⟩))⟩
    · rw [ej]; exact vp_in_nI (by omega) (by omega)
    · rw [ej, nI_clamp (by omega), d]
      refine gy_put hc' ?_
      rw [gc_uu, gc_uu, gc_uu, gc_uu]
      exact h
  · rw [ek, gc_ru_1, gc_ru_1, gc_ru_1, gc_ru_1] at h
    refine nm_r hc ⟨hm', nm_r ek (gy_put hc' (br_f (by decide) (br_t rfl ⟨hm', gy_put hc' ?_⟩)))⟩
    rw [gc_uu, gc_uu, gc_uu, gc_uu]
    exact h
  · rw [ek, ex, ey, gc_ru_2 (by omega) (by omega), gc_ru_2 (by omega) (by omega), gc_ru_2 (by omega) (by omega), gc_ru_2 (by omega) (by omega)] at h
    have ha : 4 * p + (if V p = 0 then 0 else i) < 4 * m := by split <;> omega
    have hb : 4 * q + (if V q = 0 then 0 else i) < 4 * m := by split <;> omega
    have ha1 : 4 * p + (if V p = 0 then 0 else i) < 48 := by omega
    have hb1 : 4 * q + (if V q = 0 then 0 else i) < 48 := by omega
    have ha2 : 4 * p + (if V p = 0 then 0 else i) ≠ 4 * m + i := by omega
    have hb2 : 4 * q + (if V q = 0 then 0 else i) ≠ 4 * m + i := by omega
    refine nm_r hc ⟨hm', nm_r ek (gy_put hc' (br_f (by decide) (br_f (by decide) (br_f (by decide) ⟨hm', gy_place ex (by omega) ⟨hm', gy_place ey (by omega) (br_f (by decide) (gy_ad hc' ha1 rfl ha2 (br_t rfl (gy_ad hc' hb1 rfl hb2 ?_))))⟩⟩))))⟩
    rw [gc_e2, gc_e2, gc_e2, gc_e2]
    exact h
  · rw [ek, ex, ey, gc_ru_3 (by omega) (by omega), gc_ru_3 (by omega) (by omega), gc_ru_3 (by omega) (by omega), gc_ru_3 (by omega) (by omega)] at h
    have ha : 4 * p + (if V p = 0 then 0 else i) < 4 * m := by split <;> omega
    have hb : 4 * q + (if V q = 0 then 0 else i) < 4 * m := by split <;> omega
    have ha1 : 4 * p + (if V p = 0 then 0 else i) < 48 := by omega
    have hb1 : 4 * q + (if V q = 0 then 0 else i) < 48 := by omega
    have ha2 : 4 * p + (if V p = 0 then 0 else i) ≠ 4 * m + i := by omega
    have hb2 : 4 * q + (if V q = 0 then 0 else i) ≠ 4 * m + i := by omega
    refine nm_r hc ⟨hm', nm_r ek (gy_put hc' (br_f (by decide) (br_f (by decide) (br_f (by decide) ⟨hm', gy_place ex (by omega) ⟨hm', gy_place ey (by omega) (br_f (by decide) (gy_ad hc' ha1 rfl ha2 (br_f (by decide) (gy_ad hc' hb1 rfl hb2 ?_))))⟩⟩))))⟩
    rw [gc_e3, gc_e3, gc_e3, gc_e3]
    exact h
  · rw [ek, ex, ey, gc_ru_4 (by omega) (by omega), gc_ru_4 (by omega) (by omega), gc_ru_4 (by omega) (by omega), gc_ru_4 (by omega) (by omega)] at h
    have ha : 4 * p + (if V p = 0 then 0 else i) < 4 * m := by split <;> omega
    have hb : 4 * q + (if V q = 0 then 0 else i) < 4 * m := by split <;> omega
    have ha1 : 4 * p + (if V p = 0 then 0 else i) < 48 := by omega
    have hb1 : 4 * q + (if V q = 0 then 0 else i) < 48 := by omega
    have ha2 : 4 * p + (if V p = 0 then 0 else i) ≠ 4 * m + i := by omega
    have hb2 : 4 * q + (if V q = 0 then 0 else i) ≠ 4 * m + i := by omega
    exact nm_r hc ⟨hm', nm_r ek (gy_put hc' (br_f (by decide) (br_f (by decide) (br_f (by decide) ⟨hm', gy_place ex (by omega) ⟨hm', gy_place ey (by omega) (br_t rfl (gy_mul hc' ha1 hb1 ha2 hb2 h))⟩⟩))))⟩
  · rw [ek, ex, gc_ru_5 (by omega), gc_ru_5 (by omega), gc_ru_5 (by omega), gc_ru_5 (by omega), gc_sm_ac hw, gc_sm_ac hw, gc_sm_ac hw, gc_sm_ac hw] at h
    have e4 : 4 * X (nI m).toNatClampNeg = nI (4 * p) := by rw [hk, ex, gc_4m]
    refine nm_r hc ⟨hm', nm_r ek (gy_put hc' (br_f (by decide) (br_f (by decide) (br_t (by decide) (And.intro hm' (nm_r e4 (br_t rfl ⟨5, gy_s19 hc' (by omega) ?_ 4 0 rfl⟩)))))))⟩
    exact br_f (by decide) (br_f (by decide) (br_f (by decide) (br_f (by decide) (br_f (by decide) h))))
  · rw [ek, ex, gc_ru_6 (by omega), gc_ru_6 (by omega), gc_ru_6 (by omega), gc_ru_6 (by omega), gc_ac_v hw, gc_ac_v hw, gc_ac_v hw, gc_ac_v hw] at h
    have e4 : 4 * X (nI m).toNatClampNeg = nI (4 * p) := by rw [hk, ex, gc_4m]
    have ei : nI (4 * p) + (nI i + 1 &&& 3) = nI (4 * p + (i + 1) % 4) := by rw [gc_and3 hi, nI_add]
    refine nm_r hc ⟨hm', nm_r ek (gy_put hc' (br_f (by decide) (br_f (by decide) (br_t (by decide) (And.intro hm' (nm_r e4 (br_f (by decide) (br_t rfl (gy_ad hc' (by omega) ei (by omega) (br_f (by decide) (br_f (by decide) (br_f (by decide) (br_f (by decide) ?_)))))))))))))⟩
    rw [gc_e1, gc_e1, gc_e1, gc_e1]
    exact h
  · rw [ek, ex, ey, gc_ru_7 (by omega) (by omega), gc_ru_7 (by omega) (by omega), gc_ru_7 (by omega) (by omega), gc_ru_7 (by omega) (by omega), gc_ac_v hw, gc_ac_v hw, gc_ac_v hw, gc_ac_v hw] at h
    have e4 : 4 * X (nI m).toNatClampNeg = nI (4 * p) := by rw [hk, ex, gc_4m]
    have ei : nI (4 * p) + (Y (nI m).toNatClampNeg &&& 3) = nI (4 * p + q) := by rw [hk, ey, gc_and3' hq, nI_add]
    refine nm_r hc ⟨hm', nm_r ek (gy_put hc' (br_f (by decide) (br_f (by decide) (br_t (by decide) (And.intro hm' (nm_r e4 (br_f (by decide) (br_f (by decide) (br_t rfl (And.intro hm' (gy_ad hc' (by omega) ei (by omega) (br_f (by decide) (br_f (by decide) (br_f (by decide) ?_))))))))))))))⟩
    rw [gc_e1, gc_e1, gc_e1, gc_e1]
    exact h
  · rw [ek, ex, gc_ru_8 (by omega), gc_ru_8 (by omega), gc_ru_8 (by omega), gc_ru_8 (by omega), gc_ac_0 hw, gc_ac_0 hw, gc_ac_0 hw, gc_ac_0 hw] at h
    have e4 : 4 * X (nI m).toNatClampNeg = nI (4 * p) := by rw [hk, ex, gc_4m]
    refine nm_r hc ⟨hm', nm_r ek (gy_put hc' (br_f (by decide) (br_f (by decide) (br_t (by decide) (And.intro hm' (nm_r e4 (br_f (by decide) (br_f (by decide) (br_f (by decide) (br_t rfl (gy_ad hc' (by omega) rfl (by omega) (br_f (by decide) (br_f (by decide) ?_)))))))))))))⟩
    rw [gc_e1, gc_e1, gc_e1, gc_e1]
    exact h
  · have hz' : V p = 0 → i = 0 := fun z => hz (hv.trans z)
    rw [ek, ex, gc_ru_9 (by omega), gc_ru_9 (by omega), gc_ru_9 (by omega), gc_ru_9 (by omega)] at h
    try dsimp only at h
    rw [gc_ac_c (pl := pl) hz', gc_ac_c (pl := f1) hz', gc_ac_c (pl := f2) hz', gc_ac_c (pl := f3) hz'] at h
    have e4 : 4 * X (nI m).toNatClampNeg = nI (4 * p) := by rw [hk, ex, gc_4m]
    have v : vp_in (nI (4 * p) + nI i) 48 := gc_vi (by omega) (by omega)
    have r : upd pl (4 * m + i) 0 (nI (4 * p) + nI i).toNatClampNeg = pl (4 * p + i) := by
      rw [gc_ix (by omega)]; exact gc_un (by omega)
    by_cases z : pl (4 * p + i) ≤ 0
    · rw [if_neg (Int32.not_lt.mpr z), if_neg (Int32.not_lt.mpr z), if_neg (Int32.not_lt.mpr z), if_neg (Int32.not_lt.mpr z)] at h
      have z2 : upd pl (4 * m + i) 0 (nI (4 * p) + nI i).toNatClampNeg ≤ 0 := by rw [r]; exact z
      exact nm_r hc ⟨hm', nm_r ek (gy_put hc' (br_f (by decide) (br_f (by decide) (br_t (by decide) (And.intro hm' (nm_r e4 (br_f (by decide) (br_f (by decide) (br_f (by decide) (br_f (by decide) (br_t rfl (And.intro v (br_t z2 (br_f (by decide) h))))))))))))))⟩
    · rw [if_pos (Int32.not_le.mp z), if_pos (Int32.not_le.mp z), if_pos (Int32.not_le.mp z), if_pos (Int32.not_le.mp z)] at h
      have z2 : ¬ upd pl (4 * m + i) 0 (nI (4 * p) + nI i).toNatClampNeg ≤ 0 := by rw [r]; exact z
      refine nm_r hc ⟨hm', nm_r ek (gy_put hc' (br_f (by decide) (br_f (by decide) (br_t (by decide) (And.intro hm' (nm_r e4 (br_f (by decide) (br_f (by decide) (br_f (by decide) (br_f (by decide) (br_t rfl (And.intro v (br_f z2 (gy_ad hc' (by omega) (nI_add _ _) (by omega) (br_f (by decide) ?_)))))))))))))))⟩
      rw [gc_e1, gc_e1, gc_e1, gc_e1]
      exact h
  · rw [ek, ex, gc_ru_10 (by omega), gc_ru_10 (by omega), gc_ru_10 (by omega), gc_ru_10 (by omega), gc_sm_ac hw, gc_sm_ac hw, gc_sm_ac hw, gc_sm_ac hw] at h
    have e4 : 4 * X (nI m).toNatClampNeg = nI (4 * p) := by rw [hk, ex, gc_4m]
    exact nm_r hc ⟨hm', nm_r ek (gy_put hc' (br_f (by decide) (br_f (by decide) (br_t (by decide) (And.intro hm' (nm_r e4 (br_f (by decide) (br_f (by decide) (br_f (by decide) (br_f (by decide) (br_f (by decide) (br_t rfl ⟨i + 2, gy_s141 hc' (by omega) hi h (i + 1) 0 (by omega)⟩))))))))))))⟩
end
end GYA
end
section
section GYB
/-! the reference: all nodes at once -/
def gc_Q4 (K X Y V IN on tw : Nat → Int32) (e : Nat) (pl f1 f2 f3 : Nat → Int32) (m i : Nat) : Prop :=
  gc_Q V (gc_V K X Y (fun c => IN (12 * e + c))) pl m i ∧ gc_Q V (gc_D K X Y (fun c => IN (12 * e + c)) on) f1 m i ∧ gc_Q V (gc_D K X Y (fun c => IN (12 * e + c)) tw) f2 m i ∧ gc_Q V (gc_B K X Y (fun c => IN (12 * e + c)) on tw) f3 m i
section
variable {n : Nat} {K X Y V IN DI on tw sl : Nat → Int32} {post : SY → Prop} {m e : Nat}
theorem gc_Q4_s {pl f1 f2 f3 : Nat → Int32} (hn : n ≤ 12) (w : gc_W K X Y V n) (hm : m < n) (h : gc_Q4 K X Y V IN on tw e pl f1 f2 f3 m 4) : gc_Q4 K X Y V IN on tw e pl f1 f2 f3 (m + 1) 0 :=
  ⟨gc_Q_s (fun z j hj => gc_V_uni hn w m hm z j hj) h.1, gc_Q_s (fun z j hj => gc_D_uni hn w m hm z j hj) h.2.1, gc_Q_s (fun z j hj => gc_D_uni hn w m hm z j hj) h.2.2.1, gc_Q_s (fun z j hj => gc_B_uni hn w m hm z j hj) h.2.2.2⟩
theorem gy_wa30 {J2 J : Int32 → Int32 → (Nat → Int32) → (Nat → Int32) → (Nat → Int32) → (Nat → Int32) → (Nat → Int32) → (Nat → Int32) → (Nat → Int32) → (Nat → Int32) → (Nat → Int32) → (Nat → Int32) → (Nat → Int32) → (Nat → Int32) → (Nat → Int32) → Prop} {pl f1 f2 f3 : Nat → Int32} {i : Nat} (hn : n ≤ 12) (w : gc_W K X Y V n) (hm : m < n) (he : e < 3) (hi : i < 4) (hz : V m = 0 → i = 0) (q : gc_Q4 K X Y V IN on tw e pl f1 f2 f3 m i)
    (hJ : ∀ pl' f1' f2' f3' : Nat → Int32, gc_Q4 K X Y V IN on tw e pl' f1' f2' f3' m (i + 1) → J (nI (i + 1)) (nI n) K X Y V IN DI on tw pl' f1' f2' f3' sl) : wY_workAll_30 post J2 J (nI e) (nI m) (nI i) (nI n) K X Y V IN DI on tw pl f1 f2 f3 sl := by
  refine gy_workOut (by omega) hi he (w m hm).1 hz (nm_r (nI_1 i) (hJ _ _ _ _ ?_))
  have h1 : gc_rv K X Y (fun c => IN (12 * e + c)) (gc_ac V pl) m i = (gc_V K X Y (fun c => IN (12 * e + c))) m i := gc_V_st hn w hm hi (fun _ _ => rfl) q.1.1
  have h2 : gc_rd K X Y on (gc_ac V pl) (gc_ac V f1) m i = (gc_D K X Y (fun c => IN (12 * e + c)) on) m i := gc_D_st hn w hm hi (fun _ _ => rfl) q.1.1 q.2.1.1
  have h3 : gc_rd K X Y tw (gc_ac V pl) (gc_ac V f2) m i = (gc_D K X Y (fun c => IN (12 * e + c)) tw) m i := gc_D_st hn w hm hi (fun _ _ => rfl) q.1.1 q.2.2.1.1
  have h4 : gc_rb K X Y (gc_ac V pl) (gc_ac V f1) (gc_ac V f2) (gc_ac V f3) m i = (gc_B K X Y (fun c => IN (12 * e + c)) on tw) m i := gc_B_st hn w hm hi q.1.1 q.2.1.1 q.2.2.1.1 q.2.2.2.1
  rw [h1, h2, h3, h4]
  exact ⟨gc_Q_w hi q.1, gc_Q_w hi q.2.1, gc_Q_w hi q.2.2.1, gc_Q_w hi q.2.2.2⟩
theorem gy_wa12 {J2 : Int32 → Int32 → (Nat → Int32) → (Nat → Int32) → (Nat → Int32) → (Nat → Int32) → (Nat → Int32) → (Nat → Int32) → (Nat → Int32) → (Nat → Int32) → (Nat → Int32) → (Nat → Int32) → (Nat → Int32) → (Nat → Int32) → (Nat → Int32) → Prop} (hn : n ≤ 12) (w : gc_W K X Y V n) (hm : m < n) (he : e < 3)
    (hJ : ∀ pl' f1' f2' f3' : Nat → Int32, gc_Q4 K X Y V IN on tw e pl' f1' f2' f3' (m + 1) 0 → J2 (nI (m + 1)) (nI n) K X Y V IN DI on tw pl' f1' f2' f3' sl) : ∀ (d i : Nat) (pl f1 f2 f3 : Nat → Int32), i + d = 4 → gc_Q4 K X Y V IN on tw e pl f1 f2 f3 m i →
    wY_workAll_12 post J2 (nI e) (nI m) (d + 1) (nI i) (nI n) K X Y V IN DI on tw pl f1 f2 f3 sl := by
  intro d
  induction d with
  | zero =>
    intro i pl f1 f2 f3 hi q
    have e4 : i = 4 := by omega
    subst e4
    exact br_t (gc_4le (Nat.le_refl _) (by omega)) (nm_r (nI_1 m) (hJ _ _ _ _ (gc_Q4_s hn w hm q)))
  | succ d ih =>
    intro i pl f1 f2 f3 hi q
    refine br_f (gc_n4le (by omega)) ⟨vp_in_nI (by omega) (by omega), ?_⟩
    rw [nI_clamp (by omega)]
    by_cases z : V m = 0
    · refine br_t z ?_
      by_cases i0 : i = 0
      · refine br_t (by rw [i0]; rfl) (gy_wa30 hn w hm he (by omega) (fun _ => i0) q ?_)
        exact fun pl' f1' f2' f3' q' => ih (i + 1) pl' f1' f2' f3' (by omega) q'
      · refine br_f (nI_ne0 (by omega) (by omega)) (nm_r (nI_1 i) (ih (i + 1) pl f1 f2 f3 (by omega) ?_))
        exact ⟨gc_Q_skip z i0 q.1, gc_Q_skip z i0 q.2.1, gc_Q_skip z i0 q.2.2.1, gc_Q_skip z i0 q.2.2.2⟩
    · refine br_f z (gy_wa30 hn w hm he (by omega) (fun z' => absurd z' z) q ?_)
      exact fun pl' f1' f2' f3' q' => ih (i + 1) pl' f1' f2' f3' (by omega) q'
theorem gy_wa2 (hn : n ≤ 12) (w : gc_W K X Y V n) (he : e < 3)
    (hp : ∀ pl' f1' f2' f3' : Nat → Int32, gc_Q4 K X Y V IN on tw e pl' f1' f2' f3' n 0 → post (nI n, K, X, Y, V, IN, DI, on, tw, pl', f1', f2', f3', sl)) : ∀ (d m : Nat) (pl f1 f2 f3 : Nat → Int32), m + d = n → gc_Q4 K X Y V IN on tw e pl f1 f2 f3 m 0 →
    wY_workAll_2 post (nI e) (d + 1) (nI m) (nI n) K X Y V IN DI on tw pl f1 f2 f3 sl := by
  intro d
  induction d with
  | zero =>
    intro m pl f1 f2 f3 hd q
    have em : m = n := by omega
    subst em
    exact br_t (nI_le (Nat.le_refl _) (by omega)) (hp _ _ _ _ q)
  | succ d ih =>
    intro m pl f1 f2 f3 hd q
    exact br_f (nI_ge (by omega) (by omega)) ⟨5, gy_wa12 hn w (by omega) he (fun pl' f1' f2' f3' q' => ih (m + 1) pl' f1' f2' f3' (by omega) q') 4 0 pl f1 f2 f3 (by omega) q⟩
theorem gy_workAll {pl f1 f2 f3 : Nat → Int32} (hn : n ≤ 12) (w : gc_W K X Y V n) (he : e < 3)
    (hp : ∀ pl' f1' f2' f3' : Nat → Int32, gc_Q4 K X Y V IN on tw e pl' f1' f2' f3' n 0 → post (nI n, K, X, Y, V, IN, DI, on, tw, pl', f1', f2', f3', sl)) : wpY_workAll post (nI n, K, X, Y, V, IN, DI, on, tw, pl, f1, f2, f3, sl) (nI e) :=
  ⟨n + 1, gy_wa2 hn w he hp n 0 pl f1 f2 f3 (by omega) ⟨gc_Q_0, gc_Q_0, gc_Q_0, gc_Q_0⟩⟩
end
/-! the starts -/
section
variable {n : Nat} {K X Y V IN DI pl f1 f2 f3 sl : Nat → Int32} {post : SY → Prop} {x y : Int32}
theorem gy_sd2 (hp : ∀ on' tw' : Nat → Int32, (∀ q, q < 12 → on' q = if nI q = x then 1 else 0) → (∀ q, q < 12 → tw' q = if nI q = y then 1 else 0) → post (nI n, K, X, Y, V, IN, DI, on', tw', pl, f1, f2, f3, sl)) : ∀ (d j : Nat) (on tw : Nat → Int32), j + d = 12 → (∀ q, q < j → on q = if nI q = x then 1 else 0) → (∀ q, q < j → tw q = if nI q = y then 1 else 0) →
    wY_seed_2 post x y (nI n) (d + 1) (nI j) K X Y V IN DI on tw pl f1 f2 f3 sl := by
  intro d
  induction d with
  | zero =>
    intro j on tw hj h1 h2
    have e : j = 12 := by omega
    subst e
    exact br_t (nI_le (a := 12) (Nat.le_refl _) (by omega)) (hp on tw h1 h2)
  | succ d ih =>
    intro j on tw hj h1 h2
    have v : vp_in (nI j) 12 := vp_in_nI (by omega) (by omega)
    have k : (nI j).toNatClampNeg = j := nI_clamp (by omega)
    have st (f : Nat → Int32) (x r : Int32) (hr : r = if nI j = x then 1 else 0) (h : ∀ q, q < j → f q = if nI q = x then 1 else 0) : ∀ q, q < j + 1 → upd f j r q = if nI q = x then 1 else 0 := by
      intro q hq
      by_cases E : q = j
      · subst E; rw [gc_us]; exact hr
      · rw [gc_un E]; exact h q (by omega)
    have H : ∀ r : Int32, (r = if nI j = x then 1 else 0) → wY_seed_23 post (wY_seed_2 post x y (nI n) (d + 1)) x y (nI j) r (nI j) (nI n) K X Y V IN DI on tw pl f1 f2 f3 sl := by
      intro r hr
      unfold wY_seed_23
      rw [k]
      refine ⟨v, nm_e ?_⟩
      by_cases z : nI j = y
      · exact br_t z ⟨v, nm_e (nm_r (nI_1 j) (ih (j + 1) _ _ (by omega) (st on x r hr h1) (st tw y 1 (by rw [if_pos z]) h2)))⟩
      · exact br_f z ⟨v, nm_e (nm_r (nI_1 j) (ih (j + 1) _ _ (by omega) (st on x r hr h1) (st tw y 0 (by rw [if_neg z]) h2)))⟩
    refine br_f (nI_ge (b := 12) (by omega) (by omega)) ?_
    by_cases z : nI j = x
    · exact br_t z (H 1 (by rw [if_pos z]))
    · exact br_f z (H 0 (by rw [if_neg z]))
theorem gy_seed {on tw : Nat → Int32} (hp : ∀ on' tw' : Nat → Int32, (∀ q, q < 12 → on' q = if nI q = x then 1 else 0) → (∀ q, q < 12 → tw' q = if nI q = y then 1 else 0) → post (nI n, K, X, Y, V, IN, DI, on', tw', pl, f1, f2, f3, sl)) : wpY_seed post (nI n, K, X, Y, V, IN, DI, on, tw, pl, f1, f2, f3, sl) x y :=
  ⟨13, gy_sd2 hp 12 0 on tw rfl (fun q hq => absurd hq (Nat.not_lt_zero q)) (fun q hq => absurd hq (Nat.not_lt_zero q))⟩
end
def gc_un1 (x : Int32) (q : Nat) : Int32 := if nI q = x then 1 else 0
section
variable {n : Nat} {K X Y V IN DI on tw pl f1 f2 f3 sl : Nat → Int32} {post : Int32 → SY → Prop} {x y z : Int32}
theorem gy_slope (hn : n ≤ 12) (w : gc_W K X Y V n)
    (h1 : ∀ m e : Nat, m < n → V m = 0 → x = nI m → gc_in 12 y → e < 3 → z = nI e → ∀ on' tw' pl' f1' f2' f3' : Nat → Int32, post (gc_D K X Y (fun c => IN (12 * e + c)) (gc_un1 y) m 0) (nI n, K, X, Y, V, IN, DI, on', tw', pl', f1', f2', f3', sl))
    (h0 : ¬ (gc_num n V x ∧ gc_in 12 y ∧ gc_in 3 z) → post 0 (nI n, K, X, Y, V, IN, DI, on, tw, pl, f1, f2, f3, sl)) : wpY_slope post (nI n, K, X, Y, V, IN, DI, on, tw, pl, f1, f2, f3, sl) x y z := by
  unfold wpY_slope
  refine gy_isNumber hn (fun a => br_f gc_10 ?_) (fun a => br_t rfl (h0 (fun g => a g.1)))
  refine gy_isPlace (fun b c => br_f gc_10 ?_) (fun b => br_t rfl (h0 (fun g => b g.2)))
  obtain ⟨m, hm, rfl, hv⟩ := a
  obtain ⟨e, he, rfl⟩ := c
  refine gy_seed (fun on' tw' s1 s2 => ?_)
  refine gy_workAll hn w he (fun pl' f1' f2' f3' q => ?_)
  have e4 : 4 * nI m = nI (4 * m) := gc_4m m
  rw [e4, nI_clamp (by omega)]
  refine ⟨vp_in_nI (by omega) (by omega), ?_⟩
  have := gc_Q_at (i := 0) q.2.1 hm (by omega) (fun _ => rfl)
  have t : f1' (4 * m) = gc_D K X Y (fun c => IN (12 * e + c)) (gc_un1 y) m 0 := this.trans (gc_D_seed hn w (fun p hp => s1 p hp) hm (by omega))
  rw [t]
  exact h1 m e hm hv rfl b he rfl on' tw' pl' f1' f2' f3'
end
end GYB
end
section
section GR
/-- the same nodes, inputs, directions on both sides; the component's kept values hold -/
def i_Rel (k : Nat) (u : SX) (v : SY) : Prop :=
  ∃ (n : Nat) (lv : Int32) (IN DI sp K X Y V va fi se bo st on tw pl f1 f2 f3 sl : Nat → Int32), n ≤ 12 ∧ gc_W K X Y V n ∧ gc_C K X Y IN va st n ∧
    u = (nI n, lv, IN, DI, sp, K, X, Y, V, va, fi, se, bo, st) ∧ v = (nI n, K, X, Y, V, IN, DI, on, tw, pl, f1, f2, f3, sl)
theorem gr_mk {k n : Nat} {lv : Int32} {IN DI sp K X Y V va fi se bo st on tw pl f1 f2 f3 sl : Nat → Int32} (hn : n ≤ 12) (w : gc_W K X Y V n) (c : gc_C K X Y IN va st n) : i_Rel k (nI n, lv, IN, DI, sp, K, X, Y, V, va, fi, se, bo, st) (nI n, K, X, Y, V, IN, DI, on, tw, pl, f1, f2, f3, sl) :=
  ⟨n, lv, IN, DI, sp, K, X, Y, V, va, fi, se, bo, st, on, tw, pl, f1, f2, f3, sl, hn, w, c, rfl, rfl⟩
theorem i_up {k : Nat} {u : SX} {v : SY} (h : i_Rel k u v) : i_Rel (k + 5) u v := h
theorem i_vc0 : wpX_init (fun u => wpY_init (fun v => i_Rel 0 u v)) :=
  gr_mk (k := 0) (n := 0) (Nat.zero_le _) gc_W_0 (gc_C_forget (fun _ _ => rfl))
section
variable {n : Nat} {lv : Int32} {IN DI sp K X Y V va fi se bo : Nat → Int32} {post : Int32 → SX → Prop} {x1 x2 : Int32}
theorem gx_f12 (hp : ∀ st' : Nat → Int32, (∀ e, e < 3 → st' e = 0) → post x1 (x2, lv, IN, DI, sp, K, X, Y, V, va, fi, se, bo, st')) : ∀ (d j : Nat) (st : Nat → Int32), j + d = 3 → (∀ e, e < j → st e = 0) →
    wX_forget_12 post x1 x2 lv (d + 1) (nI j) IN DI sp K X Y V va fi se bo st := by
  intro d
  induction d with
  | zero =>
    intro j st hj h
    have e : j = 3 := by omega
    subst e
    exact br_t (nI_le (a := 3) (Nat.le_refl _) (by omega)) (hp st h)
  | succ d ih =>
    intro j st hj h
    refine br_f (nI_ge (b := 3) (by omega) (by omega)) ⟨vp_in_nI (by omega) (by omega), nm_r (e' := upd st j 0) (by rw [nI_clamp (by omega)]) (nm_r (nI_1 j) (ih (j + 1) _ (by omega) ?_))⟩
    intro e he
    by_cases E : e = j
    · subst E; exact gc_us
    · rw [gc_un E]; exact h e (by omega)
end
theorem i_vc_forget {k : Nat} {u : SX} {v : SY} (I : i_Rel k u v) (hk : k + 5 ≤ 2560) : wpX_forget (fun r u' => wpY_forget (fun r' v' => r' = r ∧ i_Rel (k + 5) u' v') v) u := by
  obtain ⟨n, lv, IN, DI, sp, K, X, Y, V, va, fi, se, bo, st, on, tw, pl, f1, f2, f3, sl, hn, w, c, rfl, rfl⟩ := I
  exact ⟨4, gx_f12 (fun st' h => And.intro rfl (gr_mk (n := 0) (Nat.zero_le _) gc_W_0 (gc_C_forget h))) 3 0 st rfl (fun e he => absurd he (Nat.not_lt_zero e))⟩
theorem i_vc_level {k : Nat} {u : SX} {v : SY} (I : i_Rel k u v) (hk : k + 5 ≤ 2560) (v1 : Int32) : wpX_level (fun r u' => wpY_level (fun r' => r' = r ∧ i_Rel (k + 5) u' v) v v1) u v1 := by
  obtain ⟨n, lv, IN, DI, sp, K, X, Y, V, va, fi, se, bo, st, on, tw, pl, f1, f2, f3, sl, hn, w, c, rfl, rfl⟩ := I
  have z : (0 : Int32).toInt = 0 := by decide
  have t : (2 : Int32).toInt = 2 := by decide
  refine br_c (fun a => ?_) (fun a => br_c (fun b => ?_) (fun b => ?_))
  · unfold wpY_level
    refine gy_in gy_2 (by omega) (fun h => ?_) (fun h => ⟨gc_01b, rfl, gr_mk hn w c⟩)
    rw [gc_in_iff (by omega)] at h
    rw [Int32.lt_iff_toInt_lt, z] at a
    omega
  · unfold wpY_level
    refine gy_in gy_2 (by omega) (fun h => ⟨gc_11b, rfl, gr_mk hn w c⟩) (fun h => ?_)
    rw [gc_in_iff (by omega)] at h
    rw [Int32.lt_iff_toInt_lt, z] at a
    rw [Int32.le_iff_toInt_le, t] at b
    omega
  · unfold wpY_level
    refine gy_in gy_2 (by omega) (fun h => ?_) (fun h => ⟨gc_01b, rfl, gr_mk hn w c⟩)
    rw [gc_in_iff (by omega)] at h
    rw [Int32.lt_iff_toInt_lt, z] at a
    rw [Int32.le_iff_toInt_le, t] at b
    omega
theorem gc_a12 (e p : Nat) : nI e * 12 + nI p = nI (12 * e + p) := by
  rw [gc_m12, nI_add, Nat.mul_comm]
theorem gc_b12 (e p : Nat) : 12 * nI e + nI p = nI (12 * e + p) := by
  rw [gc_12m, nI_add]
section
variable {n : Nat} {K X Y V IN DI on tw pl f1 f2 f3 sl : Nat → Int32} {post : Int32 → SY → Prop} {x y z : Int32} {e p : Nat}
theorem gy_set_g (he : e < 3) (hp : p < 12) (h : post 1 (nI n, K, X, Y, V, upd IN (12 * e + p) z, DI, on, tw, pl, f1, f2, f3, sl)) : wpY_set post (nI n, K, X, Y, V, IN, DI, on, tw, pl, f1, f2, f3, sl) (nI p) (nI e) z := by
  unfold wpY_set
  refine gy_isPlace (fun _ _ => br_f gc_10 ?_) (fun g => absurd ⟨⟨p, hp, rfl⟩, ⟨e, he, rfl⟩⟩ g)
  rw [gc_b12, nI_clamp (by omega)]
  exact ⟨vp_in_nI (by omega) (by omega), nm_e h⟩
theorem gy_set_b (g : ¬ (gc_in 12 x ∧ gc_in 3 y)) (h : post 0 (nI n, K, X, Y, V, IN, DI, on, tw, pl, f1, f2, f3, sl)) : wpY_set post (nI n, K, X, Y, V, IN, DI, on, tw, pl, f1, f2, f3, sl) x y z := by
  unfold wpY_set
  exact gy_isPlace (fun a b => absurd ⟨a, b⟩ g) (fun _ => br_t rfl h)
theorem gy_aim_g (he : e < 3) (hp : p < 12) (h : post 1 (nI n, K, X, Y, V, IN, upd DI (12 * e + p) z, on, tw, pl, f1, f2, f3, sl)) : wpY_aim post (nI n, K, X, Y, V, IN, DI, on, tw, pl, f1, f2, f3, sl) (nI p) (nI e) z := by
  unfold wpY_aim
  refine gy_isPlace (fun _ _ => br_f gc_10 ?_) (fun g => absurd ⟨⟨p, hp, rfl⟩, ⟨e, he, rfl⟩⟩ g)
  rw [gc_b12, nI_clamp (by omega)]
  exact ⟨vp_in_nI (by omega) (by omega), nm_e h⟩
theorem gy_aim_b (g : ¬ (gc_in 12 x ∧ gc_in 3 y)) (h : post 0 (nI n, K, X, Y, V, IN, DI, on, tw, pl, f1, f2, f3, sl)) : wpY_aim post (nI n, K, X, Y, V, IN, DI, on, tw, pl, f1, f2, f3, sl) x y z := by
  unfold wpY_aim
  exact gy_isPlace (fun a b => absurd ⟨a, b⟩ g) (fun _ => br_t rfl h)
end
theorem i_vc_set {k : Nat} {u : SX} {v : SY} (I : i_Rel k u v) (hk : k + 5 ≤ 2560) (v1 : Int32) (v2 : Int32) (v3 : Int32) : wpX_set (fun r u' => wpY_set (fun r' v' => r' = r ∧ i_Rel (k + 5) u' v') v v1 v2 v3) u v1 v2 v3 := by
  obtain ⟨n, lv, IN, DI, sp, K, X, Y, V, va, fi, se, bo, st, on, tw, pl, f1, f2, f3, sl, hn, w, c, rfl, rfl⟩ := I
  unfold wpX_set
  refine gx_isPlace (fun a => br_f gc_10 ?_) (fun a => br_t rfl (gy_set_b (fun g => a g.1) ⟨rfl, gr_mk hn w c⟩))
  refine gx_isExample (fun b => br_f gc_10 ?_) (fun b => br_t rfl (gy_set_b (fun g => b g.2) ⟨rfl, gr_mk hn w c⟩))
  obtain ⟨p, hp, rfl⟩ := a
  obtain ⟨e, he, rfl⟩ := b
  rw [gc_a12, nI_clamp (by omega), nI_clamp (n := e) (by omega)]
  refine ⟨vp_in_nI (by omega) (by omega), nm_e ⟨vp_in_nI (by omega) (by omega), nm_e (gy_set_g he hp ⟨rfl, gr_mk hn w (gc_C_0 hn w ?_ c)⟩)⟩⟩
  intro e' he' ne q hq
  exact (gc_un (by omega)).symm
theorem i_vc_aim {k : Nat} {u : SX} {v : SY} (I : i_Rel k u v) (hk : k + 5 ≤ 2560) (v1 : Int32) (v2 : Int32) (v3 : Int32) : wpX_aim (fun r u' => wpY_aim (fun r' v' => r' = r ∧ i_Rel (k + 5) u' v') v v1 v2 v3) u v1 v2 v3 := by
  obtain ⟨n, lv, IN, DI, sp, K, X, Y, V, va, fi, se, bo, st, on, tw, pl, f1, f2, f3, sl, hn, w, c, rfl, rfl⟩ := I
  unfold wpX_aim
  refine gx_isPlace (fun a => br_f gc_10 ?_) (fun a => br_t rfl (gy_aim_b (fun g => a g.1) ⟨rfl, gr_mk hn w c⟩))
  refine gx_isExample (fun b => br_f gc_10 ?_) (fun b => br_t rfl (gy_aim_b (fun g => b g.2) ⟨rfl, gr_mk hn w c⟩))
  obtain ⟨p, hp, rfl⟩ := a
  obtain ⟨e, he, rfl⟩ := b
  rw [gc_a12, nI_clamp (by omega)]
  exact ⟨vp_in_nI (by omega) (by omega), nm_e (gy_aim_g he hp ⟨rfl, gr_mk hn w c⟩)⟩
theorem i_vc_input {k : Nat} {u : SX} {v : SY} (I : i_Rel k u v) (hk : k + 5 ≤ 2560) (v1 : Int32) (v2 : Int32) : wpX_input (fun r => wpY_input (fun r' => r' = r ∧ i_Rel (k + 5) u v) v v1 v2) u v1 v2 := by
  obtain ⟨n, lv, IN, DI, sp, K, X, Y, V, va, fi, se, bo, st, on, tw, pl, f1, f2, f3, sl, hn, w, c, rfl, rfl⟩ := I
  have R : i_Rel (k + 5) (nI n, lv, IN, DI, sp, K, X, Y, V, va, fi, se, bo, st) (nI n, K, X, Y, V, IN, DI, on, tw, pl, f1, f2, f3, sl) := gr_mk hn w c
  have B : ¬ (gc_in 12 v1 ∧ gc_in 3 v2) → wpY_input (fun r' => r' = 0 ∧ i_Rel (k + 5) (nI n, lv, IN, DI, sp, K, X, Y, V, va, fi, se, bo, st) (nI n, K, X, Y, V, IN, DI, on, tw, pl, f1, f2, f3, sl)) (nI n, K, X, Y, V, IN, DI, on, tw, pl, f1, f2, f3, sl) v1 v2 := by
    intro g
    unfold wpY_input
    exact gy_isPlace (fun a b => absurd ⟨a, b⟩ g) (fun _ => br_t rfl ⟨rfl, R⟩)
  unfold wpX_input
  refine gx_isPlace (fun a => br_f gc_10 ?_) (fun a => br_t rfl (B (fun g => a g.1)))
  refine gx_isExample (fun b => br_f gc_10 ?_) (fun b => br_t rfl (B (fun g => b g.2)))
  obtain ⟨p, hp, rfl⟩ := a
  obtain ⟨e, he, rfl⟩ := b
  rw [gc_a12, nI_clamp (by omega)]
  refine ⟨vp_in_nI (by omega) (by omega), ?_⟩
  unfold wpY_input
  refine gy_isPlace (fun _ _ => br_f gc_10 ?_) (fun g => absurd ⟨⟨p, hp, rfl⟩, ⟨e, he, rfl⟩⟩ g)
  rw [gc_b12, nI_clamp (by omega)]
  exact ⟨vp_in_nI (by omega) (by omega), rfl, R⟩
theorem i_vc_isVector {k : Nat} {u : SX} {v : SY} (I : i_Rel k u v) (hk : k + 5 ≤ 2560) (v1 : Int32) : wpX_isVector (fun r => wpY_isVector (fun r' => r' = r ∧ i_Rel (k + 5) u v) v v1) u v1 := by
  obtain ⟨n, lv, IN, DI, sp, K, X, Y, V, va, fi, se, bo, st, on, tw, pl, f1, f2, f3, sl, hn, w, c, rfl, rfl⟩ := I
  have R : i_Rel (k + 5) (nI n, lv, IN, DI, sp, K, X, Y, V, va, fi, se, bo, st) (nI n, K, X, Y, V, IN, DI, on, tw, pl, f1, f2, f3, sl) := gr_mk hn w c
  unfold wpX_isVector
  refine gx_isNode hn (fun a => br_f gc_10 ?_) (fun a => br_t rfl ?_)
  · have a' := a
    obtain ⟨m, hm, rfl⟩ := a
    have v12 : vp_in (nI m) 12 := vp_in_nI (by omega) (by omega)
    have km : (nI m).toNatClampNeg = m := nI_clamp (by omega)
    refine ⟨v12, br_c (fun z => ?_) (fun z => ?_)⟩
    · unfold wpY_isVector
      exact gy_isNode hn (fun _ => br_f gc_10 ⟨v12, br_t z ⟨rfl, R⟩⟩) (fun g => absurd a' g)
    · unfold wpY_isVector
      exact gy_isNode hn (fun _ => br_f gc_10 ⟨v12, br_f z ⟨rfl, R⟩⟩) (fun g => absurd a' g)
  · unfold wpY_isVector
    exact gy_isNode hn (fun g => absurd g a) (fun _ => br_t rfl ⟨rfl, R⟩)
end GR
end
section
section GN
/-! a new node -/
def gc_oe (n : Nat) (k x y : Int32) : Prop :=
  if k = 0 then gc_in 3 x
  else if k = 1 then True
  else if k = 2 then gc_in n x ∧ gc_in n y
  else if k = 3 then gc_in n x ∧ gc_in n y
  else if k = 4 then gc_in n x ∧ gc_in n y
  else if k = 5 then gc_in n x
  else if k = 6 then gc_in n x
  else if k = 7 then gc_in n x ∧ gc_in 4 y
  else if k = 8 then gc_in n x
  else if k = 9 then gc_in n x
  else if k = 10 then gc_in n x
  else False
theorem gc_oe_0 {n : Nat} {x y : Int32} : gc_oe n 0 x y = (gc_in 3 x) := by
  unfold gc_oe; rw [if_pos rfl]
theorem gc_oe_1 {n : Nat} {x y : Int32} : gc_oe n 1 x y = (True) := by
  unfold gc_oe; rw [if_neg (by decide), if_pos rfl]
theorem gc_oe_2 {n : Nat} {x y : Int32} : gc_oe n 2 x y = (gc_in n x ∧ gc_in n y) := by
  unfold gc_oe; rw [if_neg (by decide), if_neg (by decide), if_pos rfl]
theorem gc_oe_3 {n : Nat} {x y : Int32} : gc_oe n 3 x y = (gc_in n x ∧ gc_in n y) := by
  unfold gc_oe; rw [if_neg (by decide), if_neg (by decide), if_neg (by decide), if_pos rfl]
theorem gc_oe_4 {n : Nat} {x y : Int32} : gc_oe n 4 x y = (gc_in n x ∧ gc_in n y) := by
  unfold gc_oe; rw [if_neg (by decide), if_neg (by decide), if_neg (by decide), if_neg (by decide), if_pos rfl]
theorem gc_oe_5 {n : Nat} {x y : Int32} : gc_oe n 5 x y = (gc_in n x) := by
  unfold gc_oe; rw [if_neg (by decide), if_neg (by decide), if_neg (by decide), if_neg (by decide), if_neg (by decide), if_pos rfl]
theorem gc_oe_6 {n : Nat} {x y : Int32} : gc_oe n 6 x y = (gc_in n x) := by
  unfold gc_oe; rw [if_neg (by decide), if_neg (by decide), if_neg (by decide), if_neg (by decide), if_neg (by decide), if_neg (by decide), if_pos rfl]
theorem gc_oe_7 {n : Nat} {x y : Int32} : gc_oe n 7 x y = (gc_in n x ∧ gc_in 4 y) := by
  unfold gc_oe; rw [if_neg (by decide), if_neg (by decide), if_neg (by decide), if_neg (by decide), if_neg (by decide), if_neg (by decide), if_neg (by decide), if_pos rfl]
theorem gc_oe_8 {n : Nat} {x y : Int32} : gc_oe n 8 x y = (gc_in n x) := by
  unfold gc_oe; rw [if_neg (by decide), if_neg (by decide), if_neg (by decide), if_neg (by decide), if_neg (by decide), if_neg (by decide), if_neg (by decide), if_neg (by decide), if_pos rfl]
theorem gc_oe_9 {n : Nat} {x y : Int32} : gc_oe n 9 x y = (gc_in n x) := by
  unfold gc_oe; rw [if_neg (by decide), if_neg (by decide), if_neg (by decide), if_neg (by decide), if_neg (by decide), if_neg (by decide), if_neg (by decide), if_neg (by decide), if_neg (by decide), if_pos rfl]
theorem gc_oe_10 {n : Nat} {x y : Int32} : gc_oe n 10 x y = (gc_in n x) := by
  unfold gc_oe; rw [if_neg (by decide), if_neg (by decide), if_neg (by decide), if_neg (by decide), if_neg (by decide), if_neg (by decide), if_neg (by decide), if_neg (by decide), if_neg (by decide), if_neg (by decide), if_pos rfl]
theorem gc_oe_no {n : Nat} {k x y : Int32} (h : ¬ gc_in 11 k) : ¬ gc_oe n k x y := by
  have g : ∀ j, j < 11 → ¬ k = nI j := fun j hj e => h ⟨j, hj, e⟩
  unfold gc_oe
  rw [if_neg (show ¬ k = 0 from g 0 (by omega)), if_neg (show ¬ k = 1 from g 1 (by omega)), if_neg (show ¬ k = 2 from g 2 (by omega)), if_neg (show ¬ k = 3 from g 3 (by omega)), if_neg (show ¬ k = 4 from g 4 (by omega)), if_neg (show ¬ k = 5 from g 5 (by omega)), if_neg (show ¬ k = 6 from g 6 (by omega)), if_neg (show ¬ k = 7 from g 7 (by omega)), if_neg (show ¬ k = 8 from g 8 (by omega)), if_neg (show ¬ k = 9 from g 9 (by omega)), if_neg (show ¬ k = 10 from g 10 (by omega))]
  exact fun z => z
theorem gc_N0 {V : Nat → Int32} {n p : Nat} {y : Int32} (hp : p < 3) : gc_N V n 0 (nI p) y 1 := Or.inl ⟨rfl, rfl, p, hp, rfl⟩
theorem gc_N1 {V : Nat → Int32} {n  : Nat} {x y : Int32}  : gc_N V n 1 x y 0 := Or.inr (Or.inl ⟨rfl, rfl⟩)
theorem gc_N2 {V : Nat → Int32} {n p q : Nat} (hp : p < n) (hq : q < n) : gc_N V n 2 (nI p) (nI q) (gc_or (V p) (V q)) := Or.inr (Or.inr (Or.inl ⟨rfl, p, q, hp, hq, rfl, rfl, rfl⟩))
theorem gc_N3 {V : Nat → Int32} {n p q : Nat} (hp : p < n) (hq : q < n) : gc_N V n 3 (nI p) (nI q) (gc_or (V p) (V q)) := Or.inr (Or.inr (Or.inr (Or.inl ⟨rfl, p, q, hp, hq, rfl, rfl, rfl⟩)))
theorem gc_N4 {V : Nat → Int32} {n p q : Nat} (hp : p < n) (hq : q < n) : gc_N V n 4 (nI p) (nI q) (gc_or (V p) (V q)) := Or.inr (Or.inr (Or.inr (Or.inr (Or.inl ⟨rfl, p, q, hp, hq, rfl, rfl, rfl⟩))))
theorem gc_N5 {V : Nat → Int32} {n p : Nat} {y : Int32} (hp : p < n) (hw : V p = 1) : gc_N V n 5 (nI p) y 0 := Or.inr (Or.inr (Or.inr (Or.inr (Or.inr (Or.inl ⟨rfl, rfl, p, hp, rfl, hw⟩)))))
theorem gc_N6 {V : Nat → Int32} {n p : Nat} {y : Int32} (hp : p < n) (hw : V p = 1) : gc_N V n 6 (nI p) y 1 := Or.inr (Or.inr (Or.inr (Or.inr (Or.inr (Or.inr (Or.inl ⟨rfl, rfl, p, hp, rfl, hw⟩))))))
theorem gc_N7 {V : Nat → Int32} {n p q : Nat} (hp : p < n) (hw : V p = 1) (hq : q < 4) : gc_N V n 7 (nI p) (nI q) 0 := Or.inr (Or.inr (Or.inr (Or.inr (Or.inr (Or.inr (Or.inr (Or.inl ⟨rfl, rfl, p, hp, rfl, hw, q, hq, rfl⟩)))))))
theorem gc_N8 {V : Nat → Int32} {n p : Nat} {y : Int32} (hp : p < n) (hw : V p = 0) : gc_N V n 8 (nI p) y 1 := Or.inr (Or.inr (Or.inr (Or.inr (Or.inr (Or.inr (Or.inr (Or.inr (Or.inl ⟨rfl, rfl, p, hp, rfl, hw⟩))))))))
theorem gc_N9 {V : Nat → Int32} {n p : Nat} {y : Int32} (hp : p < n) : gc_N V n 9 (nI p) y (V p) := Or.inr (Or.inr (Or.inr (Or.inr (Or.inr (Or.inr (Or.inr (Or.inr (Or.inr (Or.inl ⟨rfl, p, hp, rfl, rfl⟩)))))))))
theorem gc_N10 {V : Nat → Int32} {n p : Nat} {y : Int32} (hp : p < n) (hw : V p = 1) : gc_N V n 10 (nI p) y 1 := Or.inr (Or.inr (Or.inr (Or.inr (Or.inr (Or.inr (Or.inr (Or.inr (Or.inr (Or.inr (⟨rfl, rfl, p, hp, rfl, hw⟩))))))))))
def gc_mv (V : Nat → Int32) (k x y : Int32) : Int32 :=
  if k = 2 ∨ k = 3 ∨ k = 4 then gc_or (V x.toNatClampNeg) (V y.toNatClampNeg) else if k = 9 then V x.toNatClampNeg else if k = 1 ∨ k = 5 ∨ k = 7 then 0 else 1
theorem gc_N_mv {V : Nat → Int32} {m : Nat} {k x y v : Int32} (hm : m ≤ 12) (w : gc_N V m k x y v) : v = gc_mv V k x y := by
  unfold gc_mv
  rcases w with ⟨rfl, hv, p, hp, rfl⟩ | ⟨rfl, hv⟩ | ⟨rfl, p, q, hp, hq, rfl, rfl, hv⟩ | ⟨rfl, p, q, hp, hq, rfl, rfl, hv⟩ | ⟨rfl, p, q, hp, hq, rfl, rfl, hv⟩ | ⟨rfl, hv, p, hp, rfl, hw⟩ | ⟨rfl, hv, p, hp, rfl, hw⟩ | ⟨rfl, hv, p, hp, rfl, hw, q, hq, rfl⟩ | ⟨rfl, hv, p, hp, rfl, hw⟩ | ⟨rfl, p, hp, rfl, hv⟩ | ⟨rfl, hv, p, hp, rfl, hw⟩
  · rw [if_neg (by decide), if_neg (by decide), if_neg (by decide)]; exact hv
  · rw [if_neg (by decide), if_neg (by decide), if_pos (by decide)]; exact hv
  · rw [if_pos (by decide), nI_clamp (by omega), nI_clamp (by omega)]; exact hv
  · rw [if_pos (by decide), nI_clamp (by omega), nI_clamp (by omega)]; exact hv
  · rw [if_pos (by decide), nI_clamp (by omega), nI_clamp (by omega)]; exact hv
  · rw [if_neg (by decide), if_neg (by decide), if_pos (by decide)]; exact hv
  · rw [if_neg (by decide), if_neg (by decide), if_neg (by decide)]; exact hv
  · rw [if_neg (by decide), if_neg (by decide), if_pos (by decide)]; exact hv
  · rw [if_neg (by decide), if_neg (by decide), if_neg (by decide)]; exact hv
  · rw [if_neg (by decide), if_pos rfl, nI_clamp (by omega)]; exact hv
  · rw [if_neg (by decide), if_neg (by decide), if_neg (by decide)]; exact hv
theorem gc_N_x1 {V : Nat → Int32} {m p : Nat} {k x y v : Int32} (hm : m ≤ 12) (hp' : p < 12) (hx : x = nI p) (hk : k = 5 ∨ k = 6 ∨ k = 7 ∨ k = 10) (w : gc_N V m k x y v) : V p = 1 := by
  rcases w with ⟨ek, hv, p', hp, ex⟩ | ⟨ek, hv⟩ | ⟨ek, p', q, hp, hq, ex, ey, hv⟩ | ⟨ek, p', q, hp, hq, ex, ey, hv⟩ | ⟨ek, p', q, hp, hq, ex, ey, hv⟩ | ⟨ek, hv, p', hp, ex, hw⟩ | ⟨ek, hv, p', hp, ex, hw⟩ | ⟨ek, hv, p', hp, ex, hw, q, hq, ey⟩ | ⟨ek, hv, p', hp, ex, hw⟩ | ⟨ek, p', hp, ex, hv⟩ | ⟨ek, hv, p', hp, ex, hw⟩
  · rw [ek] at hk; exact absurd hk (by decide)
  · rw [ek] at hk; exact absurd hk (by decide)
  · rw [ek] at hk; exact absurd hk (by decide)
  · rw [ek] at hk; exact absurd hk (by decide)
  · rw [ek] at hk; exact absurd hk (by decide)
  · rw [gc_im (hx.symm.trans ex) (by omega) (by omega)]; exact hw
  · rw [gc_im (hx.symm.trans ex) (by omega) (by omega)]; exact hw
  · rw [gc_im (hx.symm.trans ex) (by omega) (by omega)]; exact hw
  · rw [ek] at hk; exact absurd hk (by decide)
  · rw [ek] at hk; exact absurd hk (by decide)
  · rw [gc_im (hx.symm.trans ex) (by omega) (by omega)]; exact hw
theorem gc_N_x0 {V : Nat → Int32} {m p : Nat} {k x y v : Int32} (hm : m ≤ 12) (hp' : p < 12) (hx : x = nI p) (hk : k = 8) (w : gc_N V m k x y v) : V p = 0 := by
  rcases w with ⟨ek, hv, p', hp, ex⟩ | ⟨ek, hv⟩ | ⟨ek, p', q, hp, hq, ex, ey, hv⟩ | ⟨ek, p', q, hp, hq, ex, ey, hv⟩ | ⟨ek, p', q, hp, hq, ex, ey, hv⟩ | ⟨ek, hv, p', hp, ex, hw⟩ | ⟨ek, hv, p', hp, ex, hw⟩ | ⟨ek, hv, p', hp, ex, hw, q, hq, ey⟩ | ⟨ek, hv, p', hp, ex, hw⟩ | ⟨ek, p', hp, ex, hv⟩ | ⟨ek, hv, p', hp, ex, hw⟩
  · rw [ek] at hk; exact absurd hk (by decide)
  · rw [ek] at hk; exact absurd hk (by decide)
  · rw [ek] at hk; exact absurd hk (by decide)
  · rw [ek] at hk; exact absurd hk (by decide)
  · rw [ek] at hk; exact absurd hk (by decide)
  · rw [ek] at hk; exact absurd hk (by decide)
  · rw [ek] at hk; exact absurd hk (by decide)
  · rw [ek] at hk; exact absurd hk (by decide)
  · rw [gc_im (hx.symm.trans ex) (by omega) (by omega)]; exact hw
  · rw [ek] at hk; exact absurd hk (by decide)
  · rw [ek] at hk; exact absurd hk (by decide)
section
variable {n : Nat} {lv : Int32} {IN DI sp K X Y V va fi se bo st : Nat → Int32} {post : Int32 → Prop} {x y : Int32} {p q : Nat}
theorem gx_oe_0 (hn : n ≤ 12) (h1 : (gc_in 3 x) → post 1) (h0 : ¬ (gc_in 3 x) → post 0) : wpX_operandsExist post (nI n, lv, IN, DI, sp, K, X, Y, V, va, fi, se, bo, st) 0 x y :=
  br_f (by decide) (br_f (by decide) (br_t rfl (gc_br (N := 3) rfl (by omega) h1 h0)))
theorem gx_oe_1 (hn : n ≤ 12) (h1 : (True) → post 1) (h0 : ¬ (True) → post 0) : wpX_operandsExist post (nI n, lv, IN, DI, sp, K, X, Y, V, va, fi, se, bo, st) 1 x y :=
  br_f (by decide) (br_f (by decide) (br_f (by decide) (br_t rfl (h1 trivial))))
theorem gx_oe_2 (hn : n ≤ 12) (h1 : (gc_in n x ∧ gc_in n y) → post 1) (h0 : ¬ (gc_in n x ∧ gc_in n y) → post 0) : wpX_operandsExist post (nI n, lv, IN, DI, sp, K, X, Y, V, va, fi, se, bo, st) 2 x y :=
  br_f (by decide) (br_f (by decide) (br_f (by decide) (br_f (by decide) (br_t rfl (gx_isNode hn (fun a => br_f gc_10 (gx_isNode hn (fun b => br_f gc_10 (h1 ⟨a, b⟩)) (fun b => br_t rfl (h0 (fun g => b g.2))))) (fun a => br_t rfl (h0 (fun g => a g.1))))))))
theorem gx_oe_3 (hn : n ≤ 12) (h1 : (gc_in n x ∧ gc_in n y) → post 1) (h0 : ¬ (gc_in n x ∧ gc_in n y) → post 0) : wpX_operandsExist post (nI n, lv, IN, DI, sp, K, X, Y, V, va, fi, se, bo, st) 3 x y :=
  br_f (by decide) (br_f (by decide) (br_f (by decide) (br_f (by decide) (br_f (by decide) (br_t rfl (gx_isNode hn (fun a => br_f gc_10 (gx_isNode hn (fun b => br_f gc_10 (h1 ⟨a, b⟩)) (fun b => br_t rfl (h0 (fun g => b g.2))))) (fun a => br_t rfl (h0 (fun g => a g.1)))))))))
theorem gx_oe_4 (hn : n ≤ 12) (h1 : (gc_in n x ∧ gc_in n y) → post 1) (h0 : ¬ (gc_in n x ∧ gc_in n y) → post 0) : wpX_operandsExist post (nI n, lv, IN, DI, sp, K, X, Y, V, va, fi, se, bo, st) 4 x y :=
  br_f (by decide) (br_f (by decide) (br_f (by decide) (br_f (by decide) (br_f (by decide) (br_f (by decide) (br_t rfl (gx_isNode hn (fun a => br_f gc_10 (gx_isNode hn (fun b => br_f gc_10 (h1 ⟨a, b⟩)) (fun b => br_t rfl (h0 (fun g => b g.2))))) (fun a => br_t rfl (h0 (fun g => a g.1))))))))))
theorem gx_oe_5 (hn : n ≤ 12) (h1 : (gc_in n x) → post 1) (h0 : ¬ (gc_in n x) → post 0) : wpX_operandsExist post (nI n, lv, IN, DI, sp, K, X, Y, V, va, fi, se, bo, st) 5 x y :=
  br_f (by decide) (br_f (by decide) (br_f (by decide) (br_f (by decide) (br_f (by decide) (br_f (by decide) (br_f (by decide) (br_t rfl (gx_isNode hn (fun a => ⟨gc_11b, h1 a⟩) (fun a => ⟨gc_01b, h0 a⟩)))))))))
theorem gx_oe_6 (hn : n ≤ 12) (h1 : (gc_in n x) → post 1) (h0 : ¬ (gc_in n x) → post 0) : wpX_operandsExist post (nI n, lv, IN, DI, sp, K, X, Y, V, va, fi, se, bo, st) 6 x y :=
  br_f (by decide) (br_f (by decide) (br_f (by decide) (br_f (by decide) (br_f (by decide) (br_f (by decide) (br_f (by decide) (br_f (by decide) (br_t rfl (gx_isNode hn (fun a => ⟨gc_11b, h1 a⟩) (fun a => ⟨gc_01b, h0 a⟩))))))))))
theorem gx_oe_7 (hn : n ≤ 12) (h1 : (gc_in n x ∧ gc_in 4 y) → post 1) (h0 : ¬ (gc_in n x ∧ gc_in 4 y) → post 0) : wpX_operandsExist post (nI n, lv, IN, DI, sp, K, X, Y, V, va, fi, se, bo, st) 7 x y :=
  br_f (by decide) (br_f (by decide) (br_f (by decide) (br_f (by decide) (br_f (by decide) (br_f (by decide) (br_f (by decide) (br_f (by decide) (br_f (by decide) (br_t rfl (gx_isNode hn (fun a => br_f gc_10 (gc_br (N := 4) rfl (by omega) (fun b => h1 ⟨a, b⟩) (fun b => h0 (fun g => b g.2)))) (fun a => br_t rfl (h0 (fun g => a g.1)))))))))))))
theorem gx_oe_8 (hn : n ≤ 12) (h1 : (gc_in n x) → post 1) (h0 : ¬ (gc_in n x) → post 0) : wpX_operandsExist post (nI n, lv, IN, DI, sp, K, X, Y, V, va, fi, se, bo, st) 8 x y :=
  br_f (by decide) (br_f (by decide) (br_f (by decide) (br_f (by decide) (br_f (by decide) (br_f (by decide) (br_f (by decide) (br_f (by decide) (br_f (by decide) (br_f (by decide) (br_t rfl (gx_isNode hn (fun a => ⟨gc_11b, h1 a⟩) (fun a => ⟨gc_01b, h0 a⟩))))))))))))
theorem gx_oe_9 (hn : n ≤ 12) (h1 : (gc_in n x) → post 1) (h0 : ¬ (gc_in n x) → post 0) : wpX_operandsExist post (nI n, lv, IN, DI, sp, K, X, Y, V, va, fi, se, bo, st) 9 x y :=
  br_f (by decide) (br_f (by decide) (br_f (by decide) (br_f (by decide) (br_f (by decide) (br_f (by decide) (br_f (by decide) (br_f (by decide) (br_f (by decide) (br_f (by decide) (br_f (by decide) (br_t rfl (gx_isNode hn (fun a => ⟨gc_11b, h1 a⟩) (fun a => ⟨gc_01b, h0 a⟩)))))))))))))
theorem gx_oe_10 (hn : n ≤ 12) (h1 : (gc_in n x) → post 1) (h0 : ¬ (gc_in n x) → post 0) : wpX_operandsExist post (nI n, lv, IN, DI, sp, K, X, Y, V, va, fi, se, bo, st) 10 x y :=
  br_f (by decide) (br_f (by decide) (br_f (by decide) (br_f (by decide) (br_f (by decide) (br_f (by decide) (br_f (by decide) (br_f (by decide) (br_f (by decide) (br_f (by decide) (br_f (by decide) (br_f (by decide) (br_t rfl (gx_isNode hn (fun a => ⟨gc_11b, h1 a⟩) (fun a => ⟨gc_01b, h0 a⟩))))))))))))))
theorem gx_oe_no (h : ¬ gc_in 11 x) {z : Int32} (h0 : post 0) : wpX_operandsExist post (nI n, lv, IN, DI, sp, K, X, Y, V, va, fi, se, bo, st) x y z :=
  gy_br gy_10 (by omega) (fun g => absurd g h) (fun _ => h0)
theorem gx_fit_0 (h1 : post 1) : wpX_operandsFit post (nI n, lv, IN, DI, sp, K, X, Y, V, va, fi, se, bo, st) 0 x :=
  br_t (by decide) h1
theorem gx_fit_1 (h1 : post 1) : wpX_operandsFit post (nI n, lv, IN, DI, sp, K, X, Y, V, va, fi, se, bo, st) 1 x :=
  br_t (by decide) h1
theorem gx_fit_2 (h1 : post 1) : wpX_operandsFit post (nI n, lv, IN, DI, sp, K, X, Y, V, va, fi, se, bo, st) 2 x :=
  br_t (by decide) h1
theorem gx_fit_3 (h1 : post 1) : wpX_operandsFit post (nI n, lv, IN, DI, sp, K, X, Y, V, va, fi, se, bo, st) 3 x :=
  br_t (by decide) h1
theorem gx_fit_4 (h1 : post 1) : wpX_operandsFit post (nI n, lv, IN, DI, sp, K, X, Y, V, va, fi, se, bo, st) 4 x :=
  br_t (by decide) h1
theorem gx_fit_9 (h1 : post 1) : wpX_operandsFit post (nI n, lv, IN, DI, sp, K, X, Y, V, va, fi, se, bo, st) 9 x :=
  br_f (by decide) (br_f (by decide) (br_f (by decide) (br_f (by decide) (br_f (by decide) (br_f (by decide) (br_t rfl h1))))))
theorem gx_fit_5 (hp : p < 12) (h01 : V p = 0 ∨ V p = 1) (h1 : V p = 1 → post 1) (h0 : V p = 0 → post 0) : wpX_operandsFit post (nI n, lv, IN, DI, sp, K, X, Y, V, va, fi, se, bo, st) 5 (nI p) := by
  refine br_f (by decide) (br_f (by decide) (br_t rfl ⟨vp_in_nI hp (by omega), ?_⟩))
  have e : (nI p).toNatClampNeg = p := nI_clamp (by omega)
  try dsimp only
  rw [e]
  rcases h01 with z | z
  · rw [z]; exact ⟨gc_01b, h0 z⟩
  · rw [z]; exact ⟨gc_11b, h1 z⟩
theorem gx_fit_6 (hp : p < 12) (h01 : V p = 0 ∨ V p = 1) (h1 : V p = 1 → post 1) (h0 : V p = 0 → post 0) : wpX_operandsFit post (nI n, lv, IN, DI, sp, K, X, Y, V, va, fi, se, bo, st) 6 (nI p) := by
  refine br_f (by decide) (br_f (by decide) (br_f (by decide) (br_t rfl ⟨vp_in_nI hp (by omega), ?_⟩)))
  have e : (nI p).toNatClampNeg = p := nI_clamp (by omega)
  try dsimp only
  rw [e]
  rcases h01 with z | z
  · rw [z]; exact ⟨gc_01b, h0 z⟩
  · rw [z]; exact ⟨gc_11b, h1 z⟩
theorem gx_fit_7 (hp : p < 12) (h01 : V p = 0 ∨ V p = 1) (h1 : V p = 1 → post 1) (h0 : V p = 0 → post 0) : wpX_operandsFit post (nI n, lv, IN, DI, sp, K, X, Y, V, va, fi, se, bo, st) 7 (nI p) := by
  refine br_f (by decide) (br_f (by decide) (br_f (by decide) (br_f (by decide) (br_t rfl ⟨vp_in_nI hp (by omega), ?_⟩))))
  have e : (nI p).toNatClampNeg = p := nI_clamp (by omega)
  try dsimp only
  rw [e]
  rcases h01 with z | z
  · rw [z]; exact ⟨gc_01b, h0 z⟩
  · rw [z]; exact ⟨gc_11b, h1 z⟩
theorem gx_fit_10 (hp : p < 12) (h01 : V p = 0 ∨ V p = 1) (h1 : V p = 1 → post 1) (h0 : V p = 0 → post 0) : wpX_operandsFit post (nI n, lv, IN, DI, sp, K, X, Y, V, va, fi, se, bo, st) 10 (nI p) := by
  refine br_f (by decide) (br_f (by decide) (br_f (by decide) (br_f (by decide) (br_f (by decide) (br_f (by decide) (br_f (by decide) (br_t rfl ⟨vp_in_nI hp (by omega), ?_⟩)))))))
  have e : (nI p).toNatClampNeg = p := nI_clamp (by omega)
  try dsimp only
  rw [e]
  rcases h01 with z | z
  · rw [z]; exact ⟨gc_01b, h0 z⟩
  · rw [z]; exact ⟨gc_11b, h1 z⟩
theorem gx_fit_8 (hp : p < 12) (h1 : V p = 0 → post 1) (h0 : ¬ V p = 0 → post 0) : wpX_operandsFit post (nI n, lv, IN, DI, sp, K, X, Y, V, va, fi, se, bo, st) 8 (nI p) := by
  refine br_f (by decide) (br_f (by decide) (br_f (by decide) (br_f (by decide) (br_f (by decide) (br_t rfl ⟨vp_in_nI hp (by omega), ?_⟩)))))
  have e : (nI p).toNatClampNeg = p := nI_clamp (by omega)
  try dsimp only
  rw [e]
  exact br_c h1 h0
theorem gx_mk_0 (h : post 1) : wpX_makesVector post (nI n, lv, IN, DI, sp, K, X, Y, V, va, fi, se, bo, st) 0 x y :=
  br_t (by decide) h
theorem gx_mk_6 (h : post 1) : wpX_makesVector post (nI n, lv, IN, DI, sp, K, X, Y, V, va, fi, se, bo, st) 6 x y :=
  br_f (by decide) (br_f (by decide) (br_f (by decide) (br_f (by decide) (br_f (by decide) (br_f (by decide) (br_f (by decide) (br_t rfl h)))))))
theorem gx_mk_8 (h : post 1) : wpX_makesVector post (nI n, lv, IN, DI, sp, K, X, Y, V, va, fi, se, bo, st) 8 x y :=
  br_f (by decide) (br_f (by decide) (br_f (by decide) (br_f (by decide) (br_f (by decide) (br_f (by decide) (br_f (by decide) (br_f (by decide) (br_f (by decide) (br_t rfl h)))))))))
theorem gx_mk_10 (h : post 1) : wpX_makesVector post (nI n, lv, IN, DI, sp, K, X, Y, V, va, fi, se, bo, st) 10 x y :=
  br_f (by decide) (br_t (by decide) h)
theorem gx_mk_1 (h : post 0) : wpX_makesVector post (nI n, lv, IN, DI, sp, K, X, Y, V, va, fi, se, bo, st) 1 x y :=
  br_f (by decide) (br_f (by decide) (br_t rfl h))
theorem gx_mk_5 (h : post 0) : wpX_makesVector post (nI n, lv, IN, DI, sp, K, X, Y, V, va, fi, se, bo, st) 5 x y :=
  br_f (by decide) (br_f (by decide) (br_f (by decide) (br_f (by decide) (br_f (by decide) (br_f (by decide) (br_t rfl h))))))
theorem gx_mk_7 (h : post 0) : wpX_makesVector post (nI n, lv, IN, DI, sp, K, X, Y, V, va, fi, se, bo, st) 7 x y :=
  br_f (by decide) (br_f (by decide) (br_f (by decide) (br_f (by decide) (br_f (by decide) (br_f (by decide) (br_f (by decide) (br_f (by decide) (br_t rfl h))))))))
theorem gx_mk54 (hp : p < 12) (hq : q < 12) (h : post (gc_or (V p) (V q))) : wX_makesVector_54 post (nI p) (nI q) (nI n) lv IN DI sp K X Y V va fi se bo st := by
  have e : (nI p).toNatClampNeg = p := nI_clamp (by omega)
  have e' : (nI q).toNatClampNeg = q := nI_clamp (by omega)
  unfold wX_makesVector_54
  rw [e, e']
  unfold gc_or at h
  refine ⟨vp_in_nI hp (by omega), ?_⟩
  by_cases z : V p = 0
  · rw [if_pos z] at h
    by_cases z' : V q = 0
    · rw [if_pos z'] at h; exact br_t z ⟨vp_in_nI hq (by omega), br_t z' h⟩
    · rw [if_neg z'] at h; exact br_t z ⟨vp_in_nI hq (by omega), br_f z' h⟩
  · rw [if_neg z] at h; exact br_f z h
theorem gx_mk_2 (hp : p < 12) (hq : q < 12) (h : post (gc_or (V p) (V q))) : wpX_makesVector post (nI n, lv, IN, DI, sp, K, X, Y, V, va, fi, se, bo, st) 2 (nI p) (nI q) :=
  br_f (by decide) (br_f (by decide) (br_f (by decide) (br_t rfl (gx_mk54 hp hq h))))
theorem gx_mk_3 (hp : p < 12) (hq : q < 12) (h : post (gc_or (V p) (V q))) : wpX_makesVector post (nI n, lv, IN, DI, sp, K, X, Y, V, va, fi, se, bo, st) 3 (nI p) (nI q) :=
  br_f (by decide) (br_f (by decide) (br_f (by decide) (br_f (by decide) (br_t rfl (gx_mk54 hp hq h)))))
theorem gx_mk_4 (hp : p < 12) (hq : q < 12) (h : post (gc_or (V p) (V q))) : wpX_makesVector post (nI n, lv, IN, DI, sp, K, X, Y, V, va, fi, se, bo, st) 4 (nI p) (nI q) :=
  br_f (by decide) (br_f (by decide) (br_f (by decide) (br_f (by decide) (br_f (by decide) (br_t rfl (gx_mk54 hp hq h))))))
theorem gx_mk_9 (hp : p < 12) (h01 : V p = 0 ∨ V p = 1) (h : post (V p)) : wpX_makesVector post (nI n, lv, IN, DI, sp, K, X, Y, V, va, fi, se, bo, st) 9 (nI p) y := by
  refine br_f (by decide) (br_f (by decide) (br_f (by decide) (br_f (by decide) (br_f (by decide) (br_f (by decide) (br_f (by decide) (br_f (by decide) (br_f (by decide) (br_f (by decide) (br_t rfl ⟨vp_in_nI hp (by omega), ?_⟩))))))))))
  have e : (nI p).toNatClampNeg = p := nI_clamp (by omega)
  try dsimp only
  rw [e]
  exact ⟨gc_nb h01, h⟩
end
section
variable {n : Nat} {lv : Int32} {IN DI sp K X Y V va fi se bo st on tw pl f1 f2 f3 sl : Nat → Int32} {x y : Int32}
theorem gx_put {post : Int32 → SX → Prop} {v k : Int32} {K' X' Y' : Nat → Int32} (hn : n < 12) (hv : v = 0 ∨ v = 1) (h : post (nI n) (nI (n + 1), lv, IN, DI, sp, K', X', Y', upd V n v, va, fi, se, bo, st)) :
    vp_in (nI n) 12 ∧ ∀ z, z = upd V (nI n).toNatClampNeg (vp_nar .boolean v) → ∀ f, f = nI n + 1 → post (f - 1) (f, lv, IN, DI, sp, K', X', Y', z, va, fi, se, bo, st) := by
  refine ⟨vp_in_nI hn (by omega), nm_r (e' := upd V n v) (by rw [nI_clamp (by omega), gc_vb hv]) (nm_r (nI_1 n) ?_)⟩
  rw [nI_pred]
  exact h
theorem gx_node_0 {post : Int32 → SX → Prop} (hn : n < 12) (w : gc_W K X Y V n) (hb : ¬ gc_oe n 0 x y → post (-1) (nI n, lv, IN, DI, sp, K, X, Y, V, va, fi, se, bo, st)) (hw : gc_oe n 0 x y → (∀ v, ¬ gc_N V n 0 x y v) → post (-3) (nI n, lv, IN, DI, sp, K, X, Y, V, va, fi, se, bo, st)) (hg : ∀ v, gc_oe n 0 x y → (v = 0 ∨ v = 1) → gc_N V n 0 x y v → post (nI n) (nI (n + 1), lv, IN, DI, sp, upd K n 0, upd X n x, upd Y n y, upd V n v, va, fi, se, bo, st)) : wpX_node post (nI n, lv, IN, DI, sp, K, X, Y, V, va, fi, se, bo, st) 0 x y := by
  rw [gc_oe_0] at hb hw hg
  have hv : vp_in (nI n) 12 := vp_in_nI hn (by omega)
  have hc : (nI n).toNatClampNeg = n := nI_clamp (by omega)
  have n12 : ¬ nI n = 12 := fun e => absurd (gc_im (b := 12) e (by omega) (by omega)) (by omega)
  refine br_f n12 (gx_oe_0 (by omega) (fun o => br_f gc_10 ?_) (fun o => br_t rfl (hb o)))
  have o' := o
  obtain ⟨p, hp, rfl⟩ := o'
  exact gx_fit_0 (br_f gc_10 ⟨hv, nm_r (e' := upd K n 0) (by rw [hc]) ⟨hv, nm_r (e' := upd X n (nI p)) (by rw [hc]) ⟨hv, nm_r (e' := upd Y n y) (by rw [hc]) (gx_mk_0 (gx_put (k := 0) hn (Or.inr rfl) (hg _ o (Or.inr rfl) (gc_N0 hp))))⟩⟩⟩)
theorem gx_node_1 {post : Int32 → SX → Prop} (hn : n < 12) (w : gc_W K X Y V n) (hb : ¬ gc_oe n 1 x y → post (-1) (nI n, lv, IN, DI, sp, K, X, Y, V, va, fi, se, bo, st)) (hw : gc_oe n 1 x y → (∀ v, ¬ gc_N V n 1 x y v) → post (-3) (nI n, lv, IN, DI, sp, K, X, Y, V, va, fi, se, bo, st)) (hg : ∀ v, gc_oe n 1 x y → (v = 0 ∨ v = 1) → gc_N V n 1 x y v → post (nI n) (nI (n + 1), lv, IN, DI, sp, upd K n 1, upd X n x, upd Y n y, upd V n v, va, fi, se, bo, st)) : wpX_node post (nI n, lv, IN, DI, sp, K, X, Y, V, va, fi, se, bo, st) 1 x y := by
  rw [gc_oe_1] at hb hw hg
  have hv : vp_in (nI n) 12 := vp_in_nI hn (by omega)
  have hc : (nI n).toNatClampNeg = n := nI_clamp (by omega)
  have n12 : ¬ nI n = 12 := fun e => absurd (gc_im (b := 12) e (by omega) (by omega)) (by omega)
  refine br_f n12 (gx_oe_1 (by omega) (fun o => br_f gc_10 ?_) (fun o => br_t rfl (hb o)))
  exact gx_fit_1 (br_f gc_10 ⟨hv, nm_r (e' := upd K n 1) (by rw [hc]) ⟨hv, nm_r (e' := upd X n x) (by rw [hc]) ⟨hv, nm_r (e' := upd Y n y) (by rw [hc]) (gx_mk_1 (gx_put (k := 1) hn (Or.inl rfl) (hg _ o (Or.inl rfl) gc_N1)))⟩⟩⟩)
theorem gx_node_2 {post : Int32 → SX → Prop} (hn : n < 12) (w : gc_W K X Y V n) (hb : ¬ gc_oe n 2 x y → post (-1) (nI n, lv, IN, DI, sp, K, X, Y, V, va, fi, se, bo, st)) (hw : gc_oe n 2 x y → (∀ v, ¬ gc_N V n 2 x y v) → post (-3) (nI n, lv, IN, DI, sp, K, X, Y, V, va, fi, se, bo, st)) (hg : ∀ v, gc_oe n 2 x y → (v = 0 ∨ v = 1) → gc_N V n 2 x y v → post (nI n) (nI (n + 1), lv, IN, DI, sp, upd K n 2, upd X n x, upd Y n y, upd V n v, va, fi, se, bo, st)) : wpX_node post (nI n, lv, IN, DI, sp, K, X, Y, V, va, fi, se, bo, st) 2 x y := by
  rw [gc_oe_2] at hb hw hg
  have hv : vp_in (nI n) 12 := vp_in_nI hn (by omega)
  have hc : (nI n).toNatClampNeg = n := nI_clamp (by omega)
  have n12 : ¬ nI n = 12 := fun e => absurd (gc_im (b := 12) e (by omega) (by omega)) (by omega)
  refine br_f n12 (gx_oe_2 (by omega) (fun o => br_f gc_10 ?_) (fun o => br_t rfl (hb o)))
  have o' := o
  obtain ⟨⟨p, hp, rfl⟩, ⟨q, hq, rfl⟩⟩ := o'
  exact gx_fit_2 (br_f gc_10 ⟨hv, nm_r (e' := upd K n 2) (by rw [hc]) ⟨hv, nm_r (e' := upd X n (nI p)) (by rw [hc]) ⟨hv, nm_r (e' := upd Y n (nI q)) (by rw [hc]) (gx_mk_2 (by omega) (by omega) (gx_put (k := 2) hn (gc_or_01 _ _) (hg _ o (gc_or_01 _ _) (gc_N2 hp hq))))⟩⟩⟩)
theorem gx_node_3 {post : Int32 → SX → Prop} (hn : n < 12) (w : gc_W K X Y V n) (hb : ¬ gc_oe n 3 x y → post (-1) (nI n, lv, IN, DI, sp, K, X, Y, V, va, fi, se, bo, st)) (hw : gc_oe n 3 x y → (∀ v, ¬ gc_N V n 3 x y v) → post (-3) (nI n, lv, IN, DI, sp, K, X, Y, V, va, fi, se, bo, st)) (hg : ∀ v, gc_oe n 3 x y → (v = 0 ∨ v = 1) → gc_N V n 3 x y v → post (nI n) (nI (n + 1), lv, IN, DI, sp, upd K n 3, upd X n x, upd Y n y, upd V n v, va, fi, se, bo, st)) : wpX_node post (nI n, lv, IN, DI, sp, K, X, Y, V, va, fi, se, bo, st) 3 x y := by
  rw [gc_oe_3] at hb hw hg
  have hv : vp_in (nI n) 12 := vp_in_nI hn (by omega)
  have hc : (nI n).toNatClampNeg = n := nI_clamp (by omega)
  have n12 : ¬ nI n = 12 := fun e => absurd (gc_im (b := 12) e (by omega) (by omega)) (by omega)
  refine br_f n12 (gx_oe_3 (by omega) (fun o => br_f gc_10 ?_) (fun o => br_t rfl (hb o)))
  have o' := o
  obtain ⟨⟨p, hp, rfl⟩, ⟨q, hq, rfl⟩⟩ := o'
  exact gx_fit_3 (br_f gc_10 ⟨hv, nm_r (e' := upd K n 3) (by rw [hc]) ⟨hv, nm_r (e' := upd X n (nI p)) (by rw [hc]) ⟨hv, nm_r (e' := upd Y n (nI q)) (by rw [hc]) (gx_mk_3 (by omega) (by omega) (gx_put (k := 3) hn (gc_or_01 _ _) (hg _ o (gc_or_01 _ _) (gc_N3 hp hq))))⟩⟩⟩)
theorem gx_node_4 {post : Int32 → SX → Prop} (hn : n < 12) (w : gc_W K X Y V n) (hb : ¬ gc_oe n 4 x y → post (-1) (nI n, lv, IN, DI, sp, K, X, Y, V, va, fi, se, bo, st)) (hw : gc_oe n 4 x y → (∀ v, ¬ gc_N V n 4 x y v) → post (-3) (nI n, lv, IN, DI, sp, K, X, Y, V, va, fi, se, bo, st)) (hg : ∀ v, gc_oe n 4 x y → (v = 0 ∨ v = 1) → gc_N V n 4 x y v → post (nI n) (nI (n + 1), lv, IN, DI, sp, upd K n 4, upd X n x, upd Y n y, upd V n v, va, fi, se, bo, st)) : wpX_node post (nI n, lv, IN, DI, sp, K, X, Y, V, va, fi, se, bo, st) 4 x y := by
  rw [gc_oe_4] at hb hw hg
  have hv : vp_in (nI n) 12 := vp_in_nI hn (by omega)
  have hc : (nI n).toNatClampNeg = n := nI_clamp (by omega)
  have n12 : ¬ nI n = 12 := fun e => absurd (gc_im (b := 12) e (by omega) (by omega)) (by omega)
  refine br_f n12 (gx_oe_4 (by omega) (fun o => br_f gc_10 ?_) (fun o => br_t rfl (hb o)))
  have o' := o
  obtain ⟨⟨p, hp, rfl⟩, ⟨q, hq, rfl⟩⟩ := o'
  exact gx_fit_4 (br_f gc_10 ⟨hv, nm_r (e' := upd K n 4) (by rw [hc]) ⟨hv, nm_r (e' := upd X n (nI p)) (by rw [hc]) ⟨hv, nm_r (e' := upd Y n (nI q)) (by rw [hc]) (gx_mk_4 (by omega) (by omega) (gx_put (k := 4) hn (gc_or_01 _ _) (hg _ o (gc_or_01 _ _) (gc_N4 hp hq))))⟩⟩⟩)
theorem gx_node_5 {post : Int32 → SX → Prop} (hn : n < 12) (w : gc_W K X Y V n) (hb : ¬ gc_oe n 5 x y → post (-1) (nI n, lv, IN, DI, sp, K, X, Y, V, va, fi, se, bo, st)) (hw : gc_oe n 5 x y → (∀ v, ¬ gc_N V n 5 x y v) → post (-3) (nI n, lv, IN, DI, sp, K, X, Y, V, va, fi, se, bo, st)) (hg : ∀ v, gc_oe n 5 x y → (v = 0 ∨ v = 1) → gc_N V n 5 x y v → post (nI n) (nI (n + 1), lv, IN, DI, sp, upd K n 5, upd X n x, upd Y n y, upd V n v, va, fi, se, bo, st)) : wpX_node post (nI n, lv, IN, DI, sp, K, X, Y, V, va, fi, se, bo, st) 5 x y := by
  rw [gc_oe_5] at hb hw hg
  have hv : vp_in (nI n) 12 := vp_in_nI hn (by omega)
  have hc : (nI n).toNatClampNeg = n := nI_clamp (by omega)
  have n12 : ¬ nI n = 12 := fun e => absurd (gc_im (b := 12) e (by omega) (by omega)) (by omega)
  refine br_f n12 (gx_oe_5 (by omega) (fun o => br_f gc_10 ?_) (fun o => br_t rfl (hb o)))
  have o' := o
  obtain ⟨p, hp, rfl⟩ := o'
  have h01 : V p = 0 ∨ V p = 1 := (w p hp).2
  refine gx_fit_5 (by omega) h01 (fun z => br_f gc_10 ⟨hv, nm_r (e' := upd K n 5) (by rw [hc]) ⟨hv, nm_r (e' := upd X n (nI p)) (by rw [hc]) ⟨hv, nm_r (e' := upd Y n y) (by rw [hc]) (gx_mk_5 (gx_put (k := 5) hn (Or.inl rfl) (hg _ o (Or.inl rfl) (gc_N5 hp z))))⟩⟩⟩) (fun z => br_t rfl (hw o (fun v wv => ?_)))
  have := gc_N_x1 (by omega) (by omega) rfl (by decide) wv
  rw [z] at this
  exact absurd this (by decide)
theorem gx_node_6 {post : Int32 → SX → Prop} (hn : n < 12) (w : gc_W K X Y V n) (hb : ¬ gc_oe n 6 x y → post (-1) (nI n, lv, IN, DI, sp, K, X, Y, V, va, fi, se, bo, st)) (hw : gc_oe n 6 x y → (∀ v, ¬ gc_N V n 6 x y v) → post (-3) (nI n, lv, IN, DI, sp, K, X, Y, V, va, fi, se, bo, st)) (hg : ∀ v, gc_oe n 6 x y → (v = 0 ∨ v = 1) → gc_N V n 6 x y v → post (nI n) (nI (n + 1), lv, IN, DI, sp, upd K n 6, upd X n x, upd Y n y, upd V n v, va, fi, se, bo, st)) : wpX_node post (nI n, lv, IN, DI, sp, K, X, Y, V, va, fi, se, bo, st) 6 x y := by
  rw [gc_oe_6] at hb hw hg
  have hv : vp_in (nI n) 12 := vp_in_nI hn (by omega)
  have hc : (nI n).toNatClampNeg = n := nI_clamp (by omega)
  have n12 : ¬ nI n = 12 := fun e => absurd (gc_im (b := 12) e (by omega) (by omega)) (by omega)
  refine br_f n12 (gx_oe_6 (by omega) (fun o => br_f gc_10 ?_) (fun o => br_t rfl (hb o)))
  have o' := o
  obtain ⟨p, hp, rfl⟩ := o'
  have h01 : V p = 0 ∨ V p = 1 := (w p hp).2
  refine gx_fit_6 (by omega) h01 (fun z => br_f gc_10 ⟨hv, nm_r (e' := upd K n 6) (by rw [hc]) ⟨hv, nm_r (e' := upd X n (nI p)) (by rw [hc]) ⟨hv, nm_r (e' := upd Y n y) (by rw [hc]) (gx_mk_6 (gx_put (k := 6) hn (Or.inr rfl) (hg _ o (Or.inr rfl) (gc_N6 hp z))))⟩⟩⟩) (fun z => br_t rfl (hw o (fun v wv => ?_)))
  have := gc_N_x1 (by omega) (by omega) rfl (by decide) wv
  rw [z] at this
  exact absurd this (by decide)
theorem gx_node_7 {post : Int32 → SX → Prop} (hn : n < 12) (w : gc_W K X Y V n) (hb : ¬ gc_oe n 7 x y → post (-1) (nI n, lv, IN, DI, sp, K, X, Y, V, va, fi, se, bo, st)) (hw : gc_oe n 7 x y → (∀ v, ¬ gc_N V n 7 x y v) → post (-3) (nI n, lv, IN, DI, sp, K, X, Y, V, va, fi, se, bo, st)) (hg : ∀ v, gc_oe n 7 x y → (v = 0 ∨ v = 1) → gc_N V n 7 x y v → post (nI n) (nI (n + 1), lv, IN, DI, sp, upd K n 7, upd X n x, upd Y n y, upd V n v, va, fi, se, bo, st)) : wpX_node post (nI n, lv, IN, DI, sp, K, X, Y, V, va, fi, se, bo, st) 7 x y := by
  rw [gc_oe_7] at hb hw hg
  have hv : vp_in (nI n) 12 := vp_in_nI hn (by omega)
  have hc : (nI n).toNatClampNeg = n := nI_clamp (by omega)
  have n12 : ¬ nI n = 12 := fun e => absurd (gc_im (b := 12) e (by omega) (by omega)) (by omega)
  refine br_f n12 (gx_oe_7 (by omega) (fun o => br_f gc_10 ?_) (fun o => br_t rfl (hb o)))
  have o' := o
  obtain ⟨⟨p, hp, rfl⟩, ⟨q, hq, rfl⟩⟩ := o'
  have h01 : V p = 0 ∨ V p = 1 := (w p hp).2
  refine gx_fit_7 (by omega) h01 (fun z => br_f gc_10 ⟨hv, nm_r (e' := upd K n 7) (by rw [hc]) ⟨hv, nm_r (e' := upd X n (nI p)) (by rw [hc]) ⟨hv, nm_r (e' := upd Y n (nI q)) (by rw [hc]) (gx_mk_7 (gx_put (k := 7) hn (Or.inl rfl) (hg _ o (Or.inl rfl) (gc_N7 hp z hq))))⟩⟩⟩) (fun z => br_t rfl (hw o (fun v wv => ?_)))
  have := gc_N_x1 (by omega) (by omega) rfl (by decide) wv
  rw [z] at this
  exact absurd this (by decide)
theorem gx_node_8 {post : Int32 → SX → Prop} (hn : n < 12) (w : gc_W K X Y V n) (hb : ¬ gc_oe n 8 x y → post (-1) (nI n, lv, IN, DI, sp, K, X, Y, V, va, fi, se, bo, st)) (hw : gc_oe n 8 x y → (∀ v, ¬ gc_N V n 8 x y v) → post (-3) (nI n, lv, IN, DI, sp, K, X, Y, V, va, fi, se, bo, st)) (hg : ∀ v, gc_oe n 8 x y → (v = 0 ∨ v = 1) → gc_N V n 8 x y v → post (nI n) (nI (n + 1), lv, IN, DI, sp, upd K n 8, upd X n x, upd Y n y, upd V n v, va, fi, se, bo, st)) : wpX_node post (nI n, lv, IN, DI, sp, K, X, Y, V, va, fi, se, bo, st) 8 x y := by
  rw [gc_oe_8] at hb hw hg
  have hv : vp_in (nI n) 12 := vp_in_nI hn (by omega)
  have hc : (nI n).toNatClampNeg = n := nI_clamp (by omega)
  have n12 : ¬ nI n = 12 := fun e => absurd (gc_im (b := 12) e (by omega) (by omega)) (by omega)
  refine br_f n12 (gx_oe_8 (by omega) (fun o => br_f gc_10 ?_) (fun o => br_t rfl (hb o)))
  have o' := o
  obtain ⟨p, hp, rfl⟩ := o'
  refine gx_fit_8 (by omega) (fun z => br_f gc_10 ⟨hv, nm_r (e' := upd K n 8) (by rw [hc]) ⟨hv, nm_r (e' := upd X n (nI p)) (by rw [hc]) ⟨hv, nm_r (e' := upd Y n y) (by rw [hc]) (gx_mk_8 (gx_put (k := 8) hn (Or.inr rfl) (hg _ o (Or.inr rfl) (gc_N8 hp z))))⟩⟩⟩) (fun z => br_t rfl (hw o (fun v wv => ?_)))
  exact z (gc_N_x0 (by omega) (by omega) rfl rfl wv)
theorem gx_node_9 {post : Int32 → SX → Prop} (hn : n < 12) (w : gc_W K X Y V n) (hb : ¬ gc_oe n 9 x y → post (-1) (nI n, lv, IN, DI, sp, K, X, Y, V, va, fi, se, bo, st)) (hw : gc_oe n 9 x y → (∀ v, ¬ gc_N V n 9 x y v) → post (-3) (nI n, lv, IN, DI, sp, K, X, Y, V, va, fi, se, bo, st)) (hg : ∀ v, gc_oe n 9 x y → (v = 0 ∨ v = 1) → gc_N V n 9 x y v → post (nI n) (nI (n + 1), lv, IN, DI, sp, upd K n 9, upd X n x, upd Y n y, upd V n v, va, fi, se, bo, st)) : wpX_node post (nI n, lv, IN, DI, sp, K, X, Y, V, va, fi, se, bo, st) 9 x y := by
  rw [gc_oe_9] at hb hw hg
  have hv : vp_in (nI n) 12 := vp_in_nI hn (by omega)
  have hc : (nI n).toNatClampNeg = n := nI_clamp (by omega)
  have n12 : ¬ nI n = 12 := fun e => absurd (gc_im (b := 12) e (by omega) (by omega)) (by omega)
  refine br_f n12 (gx_oe_9 (by omega) (fun o => br_f gc_10 ?_) (fun o => br_t rfl (hb o)))
  have o' := o
  obtain ⟨p, hp, rfl⟩ := o'
  have h01 : V p = 0 ∨ V p = 1 := (w p hp).2
  exact gx_fit_9 (br_f gc_10 ⟨hv, nm_r (e' := upd K n 9) (by rw [hc]) ⟨hv, nm_r (e' := upd X n (nI p)) (by rw [hc]) ⟨hv, nm_r (e' := upd Y n y) (by rw [hc]) (gx_mk_9 (by omega) h01 (gx_put (k := 9) hn h01 (hg _ o h01 (gc_N9 hp))))⟩⟩⟩)
theorem gx_node_10 {post : Int32 → SX → Prop} (hn : n < 12) (w : gc_W K X Y V n) (hb : ¬ gc_oe n 10 x y → post (-1) (nI n, lv, IN, DI, sp, K, X, Y, V, va, fi, se, bo, st)) (hw : gc_oe n 10 x y → (∀ v, ¬ gc_N V n 10 x y v) → post (-3) (nI n, lv, IN, DI, sp, K, X, Y, V, va, fi, se, bo, st)) (hg : ∀ v, gc_oe n 10 x y → (v = 0 ∨ v = 1) → gc_N V n 10 x y v → post (nI n) (nI (n + 1), lv, IN, DI, sp, upd K n 10, upd X n x, upd Y n y, upd V n v, va, fi, se, bo, st)) : wpX_node post (nI n, lv, IN, DI, sp, K, X, Y, V, va, fi, se, bo, st) 10 x y := by
  rw [gc_oe_10] at hb hw hg
  have hv : vp_in (nI n) 12 := vp_in_nI hn (by omega)
  have hc : (nI n).toNatClampNeg = n := nI_clamp (by omega)
  have n12 : ¬ nI n = 12 := fun e => absurd (gc_im (b := 12) e (by omega) (by omega)) (by omega)
  refine br_f n12 (gx_oe_10 (by omega) (fun o => br_f gc_10 ?_) (fun o => br_t rfl (hb o)))
  have o' := o
  obtain ⟨p, hp, rfl⟩ := o'
  have h01 : V p = 0 ∨ V p = 1 := (w p hp).2
  refine gx_fit_10 (by omega) h01 (fun z => br_f gc_10 ⟨hv, nm_r (e' := upd K n 10) (by rw [hc]) ⟨hv, nm_r (e' := upd X n (nI p)) (by rw [hc]) ⟨hv, nm_r (e' := upd Y n y) (by rw [hc]) (gx_mk_10 (gx_put (k := 10) hn (Or.inr rfl) (hg _ o (Or.inr rfl) (gc_N10 hp z))))⟩⟩⟩) (fun z => br_t rfl (hw o (fun v wv => ?_)))
  have := gc_N_x1 (by omega) (by omega) rfl (by decide) wv
  rw [z] at this
  exact absurd this (by decide)
theorem gy_247 {post : Int32 → SY → Prop} {v : Int32} (hn : n < 12) (hv : v = 0 ∨ v = 1) (h : post (nI n) (nI (n + 1), K, X, Y, upd V n v, IN, DI, on, tw, pl, f1, f2, f3, sl)) : wY_node_247 post v (nI n) (nI n) K X Y V IN DI on tw pl f1 f2 f3 sl := by
  refine And.intro (vp_in_nI hn (by omega)) (nm_r (e' := upd V n v) (by rw [nI_clamp (by omega), gc_vb hv]) (nm_r (nI_1 n) ?_))
  rw [nI_pred]
  exact h
theorem gy_219 {post : Int32 → SY → Prop} {x2 x3 : Int32} (hn : n < 12) (h : post (nI n) (nI (n + 1), K, X, Y, upd V n 0, IN, DI, on, tw, pl, f1, f2, f3, sl)) : wY_node_219 post x2 x3 0 (nI n) (nI n) K X Y V IN DI on tw pl f1 f2 f3 sl :=
  br_t rfl (gy_247 hn (Or.inl rfl) h)
theorem gy_219b {post : Int32 → SY → Prop} {p q : Nat} (hn : n < 12) (hp : p < n) (hq : q < n) (h : post (nI n) (nI (n + 1), K, X, Y, upd V n (gc_or (V p) (V q)), IN, DI, on, tw, pl, f1, f2, f3, sl)) : wY_node_219 post (nI p) (nI q) 1 (nI n) (nI n) K X Y V IN DI on tw pl f1 f2 f3 sl := by
  have e : (nI p).toNatClampNeg = p := nI_clamp (by omega)
  have e' : (nI q).toNatClampNeg = q := nI_clamp (by omega)
  unfold wY_node_219
  rw [e, e']
  unfold gc_or at h
  refine br_f gc_10 ⟨vp_in_nI (by omega) (by omega), ?_⟩
  by_cases z : V p = 0
  · rw [if_pos z] at h
    by_cases z' : V q = 0
    · rw [if_pos z'] at h; exact br_t z ⟨vp_in_nI (by omega) (by omega), br_t z' (gy_247 hn (Or.inl rfl) h)⟩
    · rw [if_neg z'] at h; exact br_t z ⟨vp_in_nI (by omega) (by omega), br_f z' (gy_247 hn (Or.inr rfl) h)⟩
  · rw [if_neg z] at h; exact br_f z (gy_247 hn (Or.inr rfl) h)
theorem gy_node_0 {post : Int32 → SY → Prop} (hn : n < 12) (w : gc_W K X Y V n) (hb : ¬ gc_oe n 0 x y → post (-1) (nI n, K, X, Y, V, IN, DI, on, tw, pl, f1, f2, f3, sl)) (hw : gc_oe n 0 x y → (∀ v, ¬ gc_N V n 0 x y v) → post (-3) (nI n, K, X, Y, V, IN, DI, on, tw, pl, f1, f2, f3, sl)) (hg : ∀ v, gc_oe n 0 x y → (v = 0 ∨ v = 1) → gc_N V n 0 x y v → post (nI n) (nI (n + 1), upd K n 0, upd X n x, upd Y n y, upd V n v, IN, DI, on, tw, pl, f1, f2, f3, sl)) : wpY_node post (nI n, K, X, Y, V, IN, DI, on, tw, pl, f1, f2, f3, sl) 0 x y := by
  rw [gc_oe_0] at hb hw hg
  have hv : vp_in (nI n) 12 := vp_in_nI hn (by omega)
  have hc : (nI n).toNatClampNeg = n := nI_clamp (by omega)
  have n12 : ¬ nI n = 12 := fun e => absurd (gc_im (b := 12) e (by omega) (by omega)) (by omega)
  refine br_f n12 (gy_in gy_10 (by omega) (fun _ => br_f gc_10 ?_) (fun g => absurd ⟨0, by omega, rfl⟩ g))
  refine br_t rfl (gy_in gy_2 (by omega) (fun o => br_f gc_10 ?_) (fun o => br_t rfl (hb o)))
  have o' := o
  obtain ⟨p, hp, rfl⟩ := o'
  exact br_t (by decide) (br_t (by decide) (br_t rfl (br_f (by decide) (br_t (by decide) (br_f (by decide) (br_f (by decide) (And.intro hv (nm_r (e' := upd K n 0) (by rw [hc]) ⟨hv, nm_r (e' := upd X n (nI p)) (by rw [hc]) ⟨hv, nm_r (e' := upd Y n y) (by rw [hc]) (br_t rfl (gy_247 hn (Or.inr rfl) (hg _ o (Or.inr rfl) (gc_N0 hp))))⟩⟩))))))))
theorem gy_node_1 {post : Int32 → SY → Prop} (hn : n < 12) (w : gc_W K X Y V n) (hb : ¬ gc_oe n 1 x y → post (-1) (nI n, K, X, Y, V, IN, DI, on, tw, pl, f1, f2, f3, sl)) (hw : gc_oe n 1 x y → (∀ v, ¬ gc_N V n 1 x y v) → post (-3) (nI n, K, X, Y, V, IN, DI, on, tw, pl, f1, f2, f3, sl)) (hg : ∀ v, gc_oe n 1 x y → (v = 0 ∨ v = 1) → gc_N V n 1 x y v → post (nI n) (nI (n + 1), upd K n 1, upd X n x, upd Y n y, upd V n v, IN, DI, on, tw, pl, f1, f2, f3, sl)) : wpY_node post (nI n, K, X, Y, V, IN, DI, on, tw, pl, f1, f2, f3, sl) 1 x y := by
  rw [gc_oe_1] at hb hw hg
  have hv : vp_in (nI n) 12 := vp_in_nI hn (by omega)
  have hc : (nI n).toNatClampNeg = n := nI_clamp (by omega)
  have n12 : ¬ nI n = 12 := fun e => absurd (gc_im (b := 12) e (by omega) (by omega)) (by omega)
  refine br_f n12 (gy_in gy_10 (by omega) (fun _ => br_f gc_10 ?_) (fun g => absurd ⟨1, by omega, rfl⟩ g))
  exact br_f (by decide) (br_t (by decide) (br_t (by decide) (br_t rfl (br_f (by decide) (br_t (by decide) (br_f (by decide) (br_f (by decide) (And.intro hv (nm_r (e' := upd K n 1) (by rw [hc]) ⟨hv, nm_r (e' := upd X n x) (by rw [hc]) ⟨hv, nm_r (e' := upd Y n y) (by rw [hc]) (br_f (by decide) (br_f (by decide) (br_f (by decide) (br_f (by decide) (br_f (by decide) ((gy_219 hn (hg _ trivial (Or.inl rfl) gc_N1))))))))⟩⟩)))))))))
theorem gy_node_2 {post : Int32 → SY → Prop} (hn : n < 12) (w : gc_W K X Y V n) (hb : ¬ gc_oe n 2 x y → post (-1) (nI n, K, X, Y, V, IN, DI, on, tw, pl, f1, f2, f3, sl)) (hw : gc_oe n 2 x y → (∀ v, ¬ gc_N V n 2 x y v) → post (-3) (nI n, K, X, Y, V, IN, DI, on, tw, pl, f1, f2, f3, sl)) (hg : ∀ v, gc_oe n 2 x y → (v = 0 ∨ v = 1) → gc_N V n 2 x y v → post (nI n) (nI (n + 1), upd K n 2, upd X n x, upd Y n y, upd V n v, IN, DI, on, tw, pl, f1, f2, f3, sl)) : wpY_node post (nI n, K, X, Y, V, IN, DI, on, tw, pl, f1, f2, f3, sl) 2 x y := by
  rw [gc_oe_2] at hb hw hg
  have hv : vp_in (nI n) 12 := vp_in_nI hn (by omega)
  have hc : (nI n).toNatClampNeg = n := nI_clamp (by omega)
  have n12 : ¬ nI n = 12 := fun e => absurd (gc_im (b := 12) e (by omega) (by omega)) (by omega)
  refine br_f n12 (gy_in gy_10 (by omega) (fun _ => br_f gc_10 ?_) (fun g => absurd ⟨2, by omega, rfl⟩ g))
  refine br_f (by decide) (br_f (by decide) (br_f (by decide) (br_f (by decide) (gy_isNode (by omega) (fun a => br_f gc_10 (br_f gc_10 (gy_isNode (by omega) (fun b => br_f gc_10 ?_) (fun b => br_t rfl (hb (fun g => b g.2)))))) (fun a => br_t rfl (hb (fun g => a g.1)))))))
  have o : gc_in n x ∧ gc_in n y := ⟨a, b⟩
  obtain ⟨p, hp, rfl⟩ := a
  obtain ⟨q, hq, rfl⟩ := b
  exact br_f (by decide) (br_t (by decide) (br_f (by decide) (br_f (by decide) (And.intro hv (nm_r (e' := upd K n 2) (by rw [hc]) ⟨hv, nm_r (e' := upd X n (nI p)) (by rw [hc]) ⟨hv, nm_r (e' := upd Y n (nI q)) (by rw [hc]) (br_f (by decide) (br_f (by decide) (br_f (by decide) (br_f (by decide) (br_f (by decide) ((gy_219b hn hp hq (hg _ o (gc_or_01 _ _) (gc_N2 hp hq)))))))))⟩⟩)))))
theorem gy_node_3 {post : Int32 → SY → Prop} (hn : n < 12) (w : gc_W K X Y V n) (hb : ¬ gc_oe n 3 x y → post (-1) (nI n, K, X, Y, V, IN, DI, on, tw, pl, f1, f2, f3, sl)) (hw : gc_oe n 3 x y → (∀ v, ¬ gc_N V n 3 x y v) → post (-3) (nI n, K, X, Y, V, IN, DI, on, tw, pl, f1, f2, f3, sl)) (hg : ∀ v, gc_oe n 3 x y → (v = 0 ∨ v = 1) → gc_N V n 3 x y v → post (nI n) (nI (n + 1), upd K n 3, upd X n x, upd Y n y, upd V n v, IN, DI, on, tw, pl, f1, f2, f3, sl)) : wpY_node post (nI n, K, X, Y, V, IN, DI, on, tw, pl, f1, f2, f3, sl) 3 x y := by
  rw [gc_oe_3] at hb hw hg
  have hv : vp_in (nI n) 12 := vp_in_nI hn (by omega)
  have hc : (nI n).toNatClampNeg = n := nI_clamp (by omega)
  have n12 : ¬ nI n = 12 := fun e => absurd (gc_im (b := 12) e (by omega) (by omega)) (by omega)
  refine br_f n12 (gy_in gy_10 (by omega) (fun _ => br_f gc_10 ?_) (fun g => absurd ⟨3, by omega, rfl⟩ g))
  refine br_f (by decide) (br_f (by decide) (br_f (by decide) (br_f (by decide) (gy_isNode (by omega) (fun a => br_f gc_10 (br_f gc_10 (gy_isNode (by omega) (fun b => br_f gc_10 ?_) (fun b => br_t rfl (hb (fun g => b g.2)))))) (fun a => br_t rfl (hb (fun g => a g.1)))))))
  have o : gc_in n x ∧ gc_in n y := ⟨a, b⟩
  obtain ⟨p, hp, rfl⟩ := a
  obtain ⟨q, hq, rfl⟩ := b
  exact br_f (by decide) (br_t (by decide) (br_f (by decide) (br_f (by decide) (And.intro hv (nm_r (e' := upd K n 3) (by rw [hc]) ⟨hv, nm_r (e' := upd X n (nI p)) (by rw [hc]) ⟨hv, nm_r (e' := upd Y n (nI q)) (by rw [hc]) (br_f (by decide) (br_f (by decide) (br_f (by decide) (br_f (by decide) (br_f (by decide) ((gy_219b hn hp hq (hg _ o (gc_or_01 _ _) (gc_N3 hp hq)))))))))⟩⟩)))))
theorem gy_node_4 {post : Int32 → SY → Prop} (hn : n < 12) (w : gc_W K X Y V n) (hb : ¬ gc_oe n 4 x y → post (-1) (nI n, K, X, Y, V, IN, DI, on, tw, pl, f1, f2, f3, sl)) (hw : gc_oe n 4 x y → (∀ v, ¬ gc_N V n 4 x y v) → post (-3) (nI n, K, X, Y, V, IN, DI, on, tw, pl, f1, f2, f3, sl)) (hg : ∀ v, gc_oe n 4 x y → (v = 0 ∨ v = 1) → gc_N V n 4 x y v → post (nI n) (nI (n + 1), upd K n 4, upd X n x, upd Y n y, upd V n v, IN, DI, on, tw, pl, f1, f2, f3, sl)) : wpY_node post (nI n, K, X, Y, V, IN, DI, on, tw, pl, f1, f2, f3, sl) 4 x y := by
  rw [gc_oe_4] at hb hw hg
  have hv : vp_in (nI n) 12 := vp_in_nI hn (by omega)
  have hc : (nI n).toNatClampNeg = n := nI_clamp (by omega)
  have n12 : ¬ nI n = 12 := fun e => absurd (gc_im (b := 12) e (by omega) (by omega)) (by omega)
  refine br_f n12 (gy_in gy_10 (by omega) (fun _ => br_f gc_10 ?_) (fun g => absurd ⟨4, by omega, rfl⟩ g))
  refine br_f (by decide) (br_f (by decide) (br_f (by decide) (br_f (by decide) (gy_isNode (by omega) (fun a => br_f gc_10 (br_f gc_10 (gy_isNode (by omega) (fun b => br_f gc_10 ?_) (fun b => br_t rfl (hb (fun g => b g.2)))))) (fun a => br_t rfl (hb (fun g => a g.1)))))))
  have o : gc_in n x ∧ gc_in n y := ⟨a, b⟩
  obtain ⟨p, hp, rfl⟩ := a
  obtain ⟨q, hq, rfl⟩ := b
  exact br_f (by decide) (br_t (by decide) (br_f (by decide) (br_f (by decide) (And.intro hv (nm_r (e' := upd K n 4) (by rw [hc]) ⟨hv, nm_r (e' := upd X n (nI p)) (by rw [hc]) ⟨hv, nm_r (e' := upd Y n (nI q)) (by rw [hc]) (br_f (by decide) (br_f (by decide) (br_f (by decide) (br_f (by decide) (br_f (by decide) ((gy_219b hn hp hq (hg _ o (gc_or_01 _ _) (gc_N4 hp hq)))))))))⟩⟩)))))
theorem gy_node_5 {post : Int32 → SY → Prop} (hn : n < 12) (w : gc_W K X Y V n) (hb : ¬ gc_oe n 5 x y → post (-1) (nI n, K, X, Y, V, IN, DI, on, tw, pl, f1, f2, f3, sl)) (hw : gc_oe n 5 x y → (∀ v, ¬ gc_N V n 5 x y v) → post (-3) (nI n, K, X, Y, V, IN, DI, on, tw, pl, f1, f2, f3, sl)) (hg : ∀ v, gc_oe n 5 x y → (v = 0 ∨ v = 1) → gc_N V n 5 x y v → post (nI n) (nI (n + 1), upd K n 5, upd X n x, upd Y n y, upd V n v, IN, DI, on, tw, pl, f1, f2, f3, sl)) : wpY_node post (nI n, K, X, Y, V, IN, DI, on, tw, pl, f1, f2, f3, sl) 5 x y := by
  rw [gc_oe_5] at hb hw hg
  have hv : vp_in (nI n) 12 := vp_in_nI hn (by omega)
  have hc : (nI n).toNatClampNeg = n := nI_clamp (by omega)
  have n12 : ¬ nI n = 12 := fun e => absurd (gc_im (b := 12) e (by omega) (by omega)) (by omega)
  refine br_f n12 (gy_in gy_10 (by omega) (fun _ => br_f gc_10 ?_) (fun g => absurd ⟨5, by omega, rfl⟩ g))
  refine br_f (by decide) (br_f (by decide) (br_t (by decide) (br_f (by decide) (gy_isNode (by omega) (fun a => br_f gc_10 (br_t rfl ?_)) (fun a => br_t rfl (hb a))))))
  refine br_f (by decide) ?_
  have o := a
  obtain ⟨p, hp, rfl⟩ := a
  have vp : vp_in (nI p) 12 := vp_in_nI (by omega) (by omega)
  have e : (nI p).toNatClampNeg = p := nI_clamp (by omega)
  have h01 : V p = 0 ∨ V p = 1 := (w p hp).2
  refine br_f (by decide) (br_t (by decide) (And.intro vp ?_))
  try dsimp only
  rw [e]
  by_cases z : V p = 0
  · refine br_t z (hw o (fun v wv => ?_))
    have := gc_N_x1 (by omega) (by omega) rfl (by decide) wv
    rw [z] at this
    exact absurd this (by decide)
  · have z1 : V p = 1 := h01.resolve_left z
    exact br_f z (br_f (by decide) (And.intro hv (nm_r (e' := upd K n 5) (by rw [hc]) ⟨hv, nm_r (e' := upd X n (nI p)) (by rw [hc]) ⟨hv, nm_r (e' := upd Y n y) (by rw [hc]) (br_f (by decide) (br_f (by decide) (br_f (by decide) (br_f (by decide) (br_f (by decide) ((gy_219 hn (hg _ o (Or.inl rfl) (gc_N5 hp z1)))))))))⟩⟩)))
theorem gy_node_6 {post : Int32 → SY → Prop} (hn : n < 12) (w : gc_W K X Y V n) (hb : ¬ gc_oe n 6 x y → post (-1) (nI n, K, X, Y, V, IN, DI, on, tw, pl, f1, f2, f3, sl)) (hw : gc_oe n 6 x y → (∀ v, ¬ gc_N V n 6 x y v) → post (-3) (nI n, K, X, Y, V, IN, DI, on, tw, pl, f1, f2, f3, sl)) (hg : ∀ v, gc_oe n 6 x y → (v = 0 ∨ v = 1) → gc_N V n 6 x y v → post (nI n) (nI (n + 1), upd K n 6, upd X n x, upd Y n y, upd V n v, IN, DI, on, tw, pl, f1, f2, f3, sl)) : wpY_node post (nI n, K, X, Y, V, IN, DI, on, tw, pl, f1, f2, f3, sl) 6 x y := by
  rw [gc_oe_6] at hb hw hg
  have hv : vp_in (nI n) 12 := vp_in_nI hn (by omega)
  have hc : (nI n).toNatClampNeg = n := nI_clamp (by omega)
  have n12 : ¬ nI n = 12 := fun e => absurd (gc_im (b := 12) e (by omega) (by omega)) (by omega)
  refine br_f n12 (gy_in gy_10 (by omega) (fun _ => br_f gc_10 ?_) (fun g => absurd ⟨6, by omega, rfl⟩ g))
  refine br_f (by decide) (br_f (by decide) (br_t (by decide) (br_f (by decide) (gy_isNode (by omega) (fun a => br_f gc_10 (br_t rfl ?_)) (fun a => br_t rfl (hb a))))))
  refine br_f (by decide) ?_
  have o := a
  obtain ⟨p, hp, rfl⟩ := a
  have vp : vp_in (nI p) 12 := vp_in_nI (by omega) (by omega)
  have e : (nI p).toNatClampNeg = p := nI_clamp (by omega)
  have h01 : V p = 0 ∨ V p = 1 := (w p hp).2
  refine br_f (by decide) (br_t (by decide) (And.intro vp ?_))
  try dsimp only
  rw [e]
  by_cases z : V p = 0
  · refine br_t z (hw o (fun v wv => ?_))
    have := gc_N_x1 (by omega) (by omega) rfl (by decide) wv
    rw [z] at this
    exact absurd this (by decide)
  · have z1 : V p = 1 := h01.resolve_left z
    exact br_f z (br_f (by decide) (And.intro hv (nm_r (e' := upd K n 6) (by rw [hc]) ⟨hv, nm_r (e' := upd X n (nI p)) (by rw [hc]) ⟨hv, nm_r (e' := upd Y n y) (by rw [hc]) (br_f (by decide) (br_t rfl (gy_247 hn (Or.inr rfl) (hg _ o (Or.inr rfl) (gc_N6 hp z1)))))⟩⟩)))
theorem gy_node_7 {post : Int32 → SY → Prop} (hn : n < 12) (w : gc_W K X Y V n) (hb : ¬ gc_oe n 7 x y → post (-1) (nI n, K, X, Y, V, IN, DI, on, tw, pl, f1, f2, f3, sl)) (hw : gc_oe n 7 x y → (∀ v, ¬ gc_N V n 7 x y v) → post (-3) (nI n, K, X, Y, V, IN, DI, on, tw, pl, f1, f2, f3, sl)) (hg : ∀ v, gc_oe n 7 x y → (v = 0 ∨ v = 1) → gc_N V n 7 x y v → post (nI n) (nI (n + 1), upd K n 7, upd X n x, upd Y n y, upd V n v, IN, DI, on, tw, pl, f1, f2, f3, sl)) : wpY_node post (nI n, K, X, Y, V, IN, DI, on, tw, pl, f1, f2, f3, sl) 7 x y := by
  rw [gc_oe_7] at hb hw hg
  have hv : vp_in (nI n) 12 := vp_in_nI hn (by omega)
  have hc : (nI n).toNatClampNeg = n := nI_clamp (by omega)
  have n12 : ¬ nI n = 12 := fun e => absurd (gc_im (b := 12) e (by omega) (by omega)) (by omega)
  refine br_f n12 (gy_in gy_10 (by omega) (fun _ => br_f gc_10 ?_) (fun g => absurd ⟨7, by omega, rfl⟩ g))
  refine br_f (by decide) (br_f (by decide) (br_t (by decide) (br_f (by decide) (gy_isNode (by omega) (fun a => br_f gc_10 (br_t rfl ?_)) (fun a => br_t rfl (hb (fun g => a g.1)))))))
  refine br_t rfl (gy_in gy_3 (by omega) (fun b => br_f gc_10 ?_) (fun b => br_t rfl (hb (fun g => b g.2))))
  have o : gc_in n x ∧ gc_in 4 y := ⟨a, b⟩
  obtain ⟨p, hp, rfl⟩ := a
  obtain ⟨q, hq, rfl⟩ := b
  have vp : vp_in (nI p) 12 := vp_in_nI (by omega) (by omega)
  have e : (nI p).toNatClampNeg = p := nI_clamp (by omega)
  have h01 : V p = 0 ∨ V p = 1 := (w p hp).2
  refine br_f (by decide) (br_t (by decide) (And.intro vp ?_))
  try dsimp only
  rw [e]
  by_cases z : V p = 0
  · refine br_t z (hw o (fun v wv => ?_))
    have := gc_N_x1 (by omega) (by omega) rfl (by decide) wv
    rw [z] at this
    exact absurd this (by decide)
  · have z1 : V p = 1 := h01.resolve_left z
    exact br_f z (br_f (by decide) (And.intro hv (nm_r (e' := upd K n 7) (by rw [hc]) ⟨hv, nm_r (e' := upd X n (nI p)) (by rw [hc]) ⟨hv, nm_r (e' := upd Y n (nI q)) (by rw [hc]) (br_f (by decide) (br_f (by decide) (br_f (by decide) (br_f (by decide) (br_f (by decide) ((gy_219 hn (hg _ o (Or.inl rfl) (gc_N7 hp z1 hq)))))))))⟩⟩)))
theorem gy_node_8 {post : Int32 → SY → Prop} (hn : n < 12) (w : gc_W K X Y V n) (hb : ¬ gc_oe n 8 x y → post (-1) (nI n, K, X, Y, V, IN, DI, on, tw, pl, f1, f2, f3, sl)) (hw : gc_oe n 8 x y → (∀ v, ¬ gc_N V n 8 x y v) → post (-3) (nI n, K, X, Y, V, IN, DI, on, tw, pl, f1, f2, f3, sl)) (hg : ∀ v, gc_oe n 8 x y → (v = 0 ∨ v = 1) → gc_N V n 8 x y v → post (nI n) (nI (n + 1), upd K n 8, upd X n x, upd Y n y, upd V n v, IN, DI, on, tw, pl, f1, f2, f3, sl)) : wpY_node post (nI n, K, X, Y, V, IN, DI, on, tw, pl, f1, f2, f3, sl) 8 x y := by
  rw [gc_oe_8] at hb hw hg
  have hv : vp_in (nI n) 12 := vp_in_nI hn (by omega)
  have hc : (nI n).toNatClampNeg = n := nI_clamp (by omega)
  have n12 : ¬ nI n = 12 := fun e => absurd (gc_im (b := 12) e (by omega) (by omega)) (by omega)
  refine br_f n12 (gy_in gy_10 (by omega) (fun _ => br_f gc_10 ?_) (fun g => absurd ⟨8, by omega, rfl⟩ g))
  refine br_f (by decide) (br_f (by decide) (br_t (by decide) (br_f (by decide) (gy_isNode (by omega) (fun a => br_f gc_10 (br_t rfl ?_)) (fun a => br_t rfl (hb a))))))
  refine br_f (by decide) ?_
  have o := a
  obtain ⟨p, hp, rfl⟩ := a
  have vp : vp_in (nI p) 12 := vp_in_nI (by omega) (by omega)
  have e : (nI p).toNatClampNeg = p := nI_clamp (by omega)
  have h01 : V p = 0 ∨ V p = 1 := (w p hp).2
  refine br_f (by decide) (br_f (by decide) (br_f (by decide) (br_t rfl (And.intro vp ?_))))
  try dsimp only
  rw [e]
  by_cases z : V p = 0
  · exact br_t z (And.intro hv (nm_r (e' := upd K n 8) (by rw [hc]) ⟨hv, nm_r (e' := upd X n (nI p)) (by rw [hc]) ⟨hv, nm_r (e' := upd Y n y) (by rw [hc]) (br_f (by decide) (br_f (by decide) (br_t rfl (gy_247 hn (Or.inr rfl) (hg _ o (Or.inr rfl) (gc_N8 hp z))))))⟩⟩))
  · exact br_f z (hw o (fun v wv => z (gc_N_x0 (by omega) (by omega) rfl rfl wv)))
theorem gy_node_9 {post : Int32 → SY → Prop} (hn : n < 12) (w : gc_W K X Y V n) (hb : ¬ gc_oe n 9 x y → post (-1) (nI n, K, X, Y, V, IN, DI, on, tw, pl, f1, f2, f3, sl)) (hw : gc_oe n 9 x y → (∀ v, ¬ gc_N V n 9 x y v) → post (-3) (nI n, K, X, Y, V, IN, DI, on, tw, pl, f1, f2, f3, sl)) (hg : ∀ v, gc_oe n 9 x y → (v = 0 ∨ v = 1) → gc_N V n 9 x y v → post (nI n) (nI (n + 1), upd K n 9, upd X n x, upd Y n y, upd V n v, IN, DI, on, tw, pl, f1, f2, f3, sl)) : wpY_node post (nI n, K, X, Y, V, IN, DI, on, tw, pl, f1, f2, f3, sl) 9 x y := by
  rw [gc_oe_9] at hb hw hg
  have hv : vp_in (nI n) 12 := vp_in_nI hn (by omega)
  have hc : (nI n).toNatClampNeg = n := nI_clamp (by omega)
  have n12 : ¬ nI n = 12 := fun e => absurd (gc_im (b := 12) e (by omega) (by omega)) (by omega)
  refine br_f n12 (gy_in gy_10 (by omega) (fun _ => br_f gc_10 ?_) (fun g => absurd ⟨9, by omega, rfl⟩ g))
  refine br_f (by decide) (br_f (by decide) (br_t (by decide) (br_f (by decide) (gy_isNode (by omega) (fun a => br_f gc_10 (br_t rfl ?_)) (fun a => br_t rfl (hb a))))))
  refine br_f (by decide) ?_
  have o := a
  obtain ⟨p, hp, rfl⟩ := a
  have vp : vp_in (nI p) 12 := vp_in_nI (by omega) (by omega)
  have e : (nI p).toNatClampNeg = p := nI_clamp (by omega)
  have h01 : V p = 0 ∨ V p = 1 := (w p hp).2
  refine br_f (by decide) (br_f (by decide) (br_f (by decide) (br_f (by decide) (And.intro hv (nm_r (e' := upd K n 9) (by rw [hc]) ⟨hv, nm_r (e' := upd X n (nI p)) (by rw [hc]) ⟨hv, nm_r (e' := upd Y n y) (by rw [hc]) (br_f (by decide) (br_f (by decide) (br_f (by decide) (br_f (by decide) (br_t rfl (And.intro vp ?_))))))⟩⟩)))))
  try dsimp only
  rw [e]
  have N := gc_N9 (V := V) (y := y) hp
  by_cases z : V p = 0
  · rw [z] at N
    exact br_t z (gy_219 hn (hg _ o (Or.inl rfl) N))
  · have z1 : V p = 1 := h01.resolve_left z
    rw [z1] at N
    exact br_f z (gy_247 hn (Or.inr rfl) (hg _ o (Or.inr rfl) N))
theorem gy_node_10 {post : Int32 → SY → Prop} (hn : n < 12) (w : gc_W K X Y V n) (hb : ¬ gc_oe n 10 x y → post (-1) (nI n, K, X, Y, V, IN, DI, on, tw, pl, f1, f2, f3, sl)) (hw : gc_oe n 10 x y → (∀ v, ¬ gc_N V n 10 x y v) → post (-3) (nI n, K, X, Y, V, IN, DI, on, tw, pl, f1, f2, f3, sl)) (hg : ∀ v, gc_oe n 10 x y → (v = 0 ∨ v = 1) → gc_N V n 10 x y v → post (nI n) (nI (n + 1), upd K n 10, upd X n x, upd Y n y, upd V n v, IN, DI, on, tw, pl, f1, f2, f3, sl)) : wpY_node post (nI n, K, X, Y, V, IN, DI, on, tw, pl, f1, f2, f3, sl) 10 x y := by
  rw [gc_oe_10] at hb hw hg
  have hv : vp_in (nI n) 12 := vp_in_nI hn (by omega)
  have hc : (nI n).toNatClampNeg = n := nI_clamp (by omega)
  have n12 : ¬ nI n = 12 := fun e => absurd (gc_im (b := 12) e (by omega) (by omega)) (by omega)
  refine br_f n12 (gy_in gy_10 (by omega) (fun _ => br_f gc_10 ?_) (fun g => absurd ⟨10, by omega, rfl⟩ g))
  refine br_f (by decide) (br_f (by decide) (br_t (by decide) (br_f (by decide) (gy_isNode (by omega) (fun a => br_f gc_10 (br_t rfl ?_)) (fun a => br_t rfl (hb a))))))
  refine br_f (by decide) ?_
  have o := a
  obtain ⟨p, hp, rfl⟩ := a
  have vp : vp_in (nI p) 12 := vp_in_nI (by omega) (by omega)
  have e : (nI p).toNatClampNeg = p := nI_clamp (by omega)
  have h01 : V p = 0 ∨ V p = 1 := (w p hp).2
  refine br_f (by decide) (br_f (by decide) (br_t rfl (And.intro vp ?_)))
  try dsimp only
  rw [e]
  by_cases z : V p = 0
  · refine br_t z (hw o (fun v wv => ?_))
    have := gc_N_x1 (by omega) (by omega) rfl (by decide) wv
    rw [z] at this
    exact absurd this (by decide)
  · have z1 : V p = 1 := h01.resolve_left z
    exact br_f z (br_f (by decide) (And.intro hv (nm_r (e' := upd K n 10) (by rw [hc]) ⟨hv, nm_r (e' := upd X n (nI p)) (by rw [hc]) ⟨hv, nm_r (e' := upd Y n y) (by rw [hc]) (br_f (by decide) (br_f (by decide) (br_f (by decide) (br_t rfl (gy_247 hn (Or.inr rfl) (hg _ o (Or.inr rfl) (gc_N10 hp z1)))))))⟩⟩)))
theorem gx_node {post : Int32 → SX → Prop} {k : Int32} (hn : n < 12) (w : gc_W K X Y V n) (hb : ¬ gc_oe n k x y → post (-1) (nI n, lv, IN, DI, sp, K, X, Y, V, va, fi, se, bo, st)) (hw : gc_oe n k x y → (∀ v, ¬ gc_N V n k x y v) → post (-3) (nI n, lv, IN, DI, sp, K, X, Y, V, va, fi, se, bo, st)) (hg : ∀ v, gc_oe n k x y → (v = 0 ∨ v = 1) → gc_N V n k x y v → post (nI n) (nI (n + 1), lv, IN, DI, sp, upd K n k, upd X n x, upd Y n y, upd V n v, va, fi, se, bo, st)) : wpX_node post (nI n, lv, IN, DI, sp, K, X, Y, V, va, fi, se, bo, st) k x y := by
  by_cases h : gc_in 11 k
  · obtain ⟨j, hj, rfl⟩ := h
    have : j = 0 ∨ j = 1 ∨ j = 2 ∨ j = 3 ∨ j = 4 ∨ j = 5 ∨ j = 6 ∨ j = 7 ∨ j = 8 ∨ j = 9 ∨ j = 10 := by omega
    rcases this with rfl | rfl | rfl | rfl | rfl | rfl | rfl | rfl | rfl | rfl | rfl
    · exact gx_node_0 hn w hb hw hg
    · exact gx_node_1 hn w hb hw hg
    · exact gx_node_2 hn w hb hw hg
    · exact gx_node_3 hn w hb hw hg
    · exact gx_node_4 hn w hb hw hg
    · exact gx_node_5 hn w hb hw hg
    · exact gx_node_6 hn w hb hw hg
    · exact gx_node_7 hn w hb hw hg
    · exact gx_node_8 hn w hb hw hg
    · exact gx_node_9 hn w hb hw hg
    · exact gx_node_10 hn w hb hw hg
  · have n12 : ¬ nI n = 12 := fun e => absurd (gc_im (b := 12) e (by omega) (by omega)) (by omega)
    exact br_f n12 (gx_oe_no h (br_t rfl (hb (gc_oe_no h))))
theorem gy_node {post : Int32 → SY → Prop} {k : Int32} (hn : n < 12) (w : gc_W K X Y V n) (hb : ¬ gc_oe n k x y → post (-1) (nI n, K, X, Y, V, IN, DI, on, tw, pl, f1, f2, f3, sl)) (hw : gc_oe n k x y → (∀ v, ¬ gc_N V n k x y v) → post (-3) (nI n, K, X, Y, V, IN, DI, on, tw, pl, f1, f2, f3, sl)) (hg : ∀ v, gc_oe n k x y → (v = 0 ∨ v = 1) → gc_N V n k x y v → post (nI n) (nI (n + 1), upd K n k, upd X n x, upd Y n y, upd V n v, IN, DI, on, tw, pl, f1, f2, f3, sl)) : wpY_node post (nI n, K, X, Y, V, IN, DI, on, tw, pl, f1, f2, f3, sl) k x y := by
  by_cases h : gc_in 11 k
  · obtain ⟨j, hj, rfl⟩ := h
    have : j = 0 ∨ j = 1 ∨ j = 2 ∨ j = 3 ∨ j = 4 ∨ j = 5 ∨ j = 6 ∨ j = 7 ∨ j = 8 ∨ j = 9 ∨ j = 10 := by omega
    rcases this with rfl | rfl | rfl | rfl | rfl | rfl | rfl | rfl | rfl | rfl | rfl
    · exact gy_node_0 hn w hb hw hg
    · exact gy_node_1 hn w hb hw hg
    · exact gy_node_2 hn w hb hw hg
    · exact gy_node_3 hn w hb hw hg
    · exact gy_node_4 hn w hb hw hg
    · exact gy_node_5 hn w hb hw hg
    · exact gy_node_6 hn w hb hw hg
    · exact gy_node_7 hn w hb hw hg
    · exact gy_node_8 hn w hb hw hg
    · exact gy_node_9 hn w hb hw hg
    · exact gy_node_10 hn w hb hw hg
  · have n12 : ¬ nI n = 12 := fun e => absurd (gc_im (b := 12) e (by omega) (by omega)) (by omega)
    exact br_f n12 (gy_in gy_10 (by omega) (fun g => absurd g h) (fun _ => br_t rfl (hb (gc_oe_no h))))
end
theorem i_vc_node {k : Nat} {u : SX} {v : SY} (I : i_Rel k u v) (hk : k + 5 ≤ 2560) (v1 : Int32) (v2 : Int32) (v3 : Int32) : wpX_node (fun r u' => wpY_node (fun r' v' => r' = r ∧ i_Rel (k + 5) u' v') v v1 v2 v3) u v1 v2 v3 := by
  obtain ⟨n, lv, IN, DI, sp, K, X, Y, V, va, fi, se, bo, st, on, tw, pl, f1, f2, f3, sl, hn, w, c, rfl, rfl⟩ := I
  by_cases h12 : n = 12
  · subst h12
    exact br_t rfl (br_t rfl ⟨rfl, gr_mk hn w c⟩)
  · have hl : n < 12 := by omega
    refine gx_node hl w (fun g => ?_) (fun o nv => ?_) (fun v o v01 wv => ?_)
    · exact gy_node hl w (fun _ => ⟨rfl, gr_mk hn w c⟩) (fun o _ => absurd o g) (fun _ o _ _ => absurd o g)
    · exact gy_node hl w (fun g => absurd o g) (fun _ _ => ⟨rfl, gr_mk hn w c⟩) (fun v _ _ wv => absurd wv (nv v))
    · refine gy_node hl w (fun g => absurd o g) (fun _ nv => absurd wv (nv v)) (fun v' _ _ wv' => ⟨rfl, ?_⟩)
      have e : v' = v := (gc_N_mv hn wv').trans (gc_N_mv hn wv).symm
      subst e
      exact gr_mk (by omega) (gc_W_node w v01 wv) (gc_C_node hn w c)
end GN
end
section
section GM
/-! value, slope, bend -/
theorem gc_sd_p {DI : Nat → Int32} {e q : Nat} {y : Int32} (h : gc_in 12 y) : gc_sd DI e y q = gc_un1 y q := by
  obtain ⟨p, hp, rfl⟩ := h
  have z : ¬ nI p = -1 := by
    intro z
    have := nI_pos (n := p) (by omega)
    rw [z] at this
    exact this (by decide)
  unfold gc_sd gc_un1
  rw [if_neg z]
theorem gc_sd_d {DI : Nat → Int32} {e q : Nat} : gc_sd DI e (-1) q = DI (12 * e + q) := if_pos rfl
theorem gc_B_seed {K X Y V s t t' r r' : Nat → Int32} {n : Nat} (hn : n ≤ 12) (w : gc_W K X Y V n) (ht : ∀ p, p < 12 → t p = t' p) (hr : ∀ p, p < 12 → r p = r' p) : ∀ m, m < n → ∀ i, i < 4 → gc_B K X Y s t r m i = gc_B K X Y s t' r' m i := by
  intro m
  induction m using Nat.strongRecOn with
  | ind m ih =>
    intro hm i hi
    have e : gc_rb K X Y (gc_V K X Y s) (gc_D K X Y s t) (gc_D K X Y s r) (gc_B K X Y s t r) m i = gc_B K X Y s t r m i :=
      gc_B_st hn w hm hi (fun _ _ _ _ => rfl) (fun _ _ _ _ => rfl) (fun _ _ _ _ => rfl) (fun _ _ _ _ => rfl)
    rw [← e]
    exact gc_B_st hn w hm hi (fun _ _ _ _ => rfl) (fun p hp j hj => gc_D_seed hn w ht (by omega) hj) (fun p hp j hj => gc_D_seed hn w hr (by omega) hj) (fun p hp j hj => ih p hp (by omega) j hj)
theorem gc_cmp_o {n : Nat} {V : Nat → Int32} {x y : Int32} (h : gc_cmp n V x y) : ∃ m i, m < n ∧ x = nI m ∧ y = nI i ∧ i < 4 ∧ (V m = 0 → i = 0) := by
  obtain ⟨m, hm, hx, i, hi, hy⟩ := h
  by_cases z : V m = 0
  · rw [if_pos z] at hi
    exact ⟨m, i, hm, hx, hy, by omega, fun _ => by omega⟩
  · rw [if_neg z] at hi
    exact ⟨m, i, hm, hx, hy, hi, fun z' => absurd z' z⟩
section
variable {n : Nat} {K X Y V IN DI on tw pl f1 f2 f3 sl : Nat → Int32} {post : Int32 → SY → Prop} {x y z t : Int32} {m i e : Nat}
theorem gy_value_g (hn : n ≤ 12) (w : gc_W K X Y V n) (g : gc_cmp n V (nI m) (nI i)) (hm : m < n) (hi : i < 4) (hz : V m = 0 → i = 0) (he : e < 3) (h : ∀ on' tw' pl' f1' f2' f3' : Nat → Int32, post (gc_V K X Y (fun c => IN (12 * e + c)) m i) (nI n, K, X, Y, V, IN, DI, on', tw', pl', f1', f2', f3', sl)) : wpY_value post (nI n, K, X, Y, V, IN, DI, on, tw, pl, f1, f2, f3, sl) (nI m) (nI i) (nI e) := by
  unfold wpY_value
  refine gy_isComponent hn (fun _ _ => br_f gc_10 ?_) (fun b => absurd ⟨g, ⟨e, he, rfl⟩⟩ b)
  refine gy_seed (fun on' tw' s1 s2 => ?_)
  refine gy_workAll hn w he (fun pl' f1' f2' f3' q => ?_)
  try dsimp only
  rw [gc_4m, nI_add, nI_clamp (by omega), gc_Q_at q.1 hm hi hz]
  exact ⟨vp_in_nI (by omega) (by omega), h on' tw' pl' f1' f2' f3'⟩
theorem gy_value_b (hn : n ≤ 12) (g : ¬ (gc_cmp n V x y ∧ gc_in 3 z)) (h : post 0 (nI n, K, X, Y, V, IN, DI, on, tw, pl, f1, f2, f3, sl)) : wpY_value post (nI n, K, X, Y, V, IN, DI, on, tw, pl, f1, f2, f3, sl) x y z := by
  unfold wpY_value
  exact gy_isComponent hn (fun a b => absurd ⟨a, b⟩ g) (fun _ => br_t rfl h)
theorem gy_bend_g (hn : n ≤ 12) (w : gc_W K X Y V n) (hm : m < n) (hv : V m = 0) (hx : gc_in 12 x) (hy : gc_in 12 y) (he : e < 3) (h : ∀ on' tw' pl' f1' f2' f3' : Nat → Int32, post (gc_B K X Y (fun c => IN (12 * e + c)) (gc_un1 x) (gc_un1 y) m 0) (nI n, K, X, Y, V, IN, DI, on', tw', pl', f1', f2', f3', sl)) : wpY_bend post (nI n, K, X, Y, V, IN, DI, on, tw, pl, f1, f2, f3, sl) (nI m) x y (nI e) := by
  unfold wpY_bend
  refine gy_isNumber hn (fun _ => br_f gc_10 ?_) (fun b => absurd ⟨m, hm, rfl, hv⟩ b)
  refine gy_isPlace (fun _ _ => br_f gc_10 ?_) (fun b => absurd ⟨hx, ⟨e, he, rfl⟩⟩ b)
  refine gy_isPlace (fun _ _ => br_f gc_10 ?_) (fun b => absurd ⟨hy, ⟨e, he, rfl⟩⟩ b)
  refine gy_seed (fun on' tw' s1 s2 => ?_)
  refine gy_workAll hn w he (fun pl' f1' f2' f3' q => ?_)
  have t : f3' (4 * m) = gc_B K X Y (fun c => IN (12 * e + c)) (gc_un1 x) (gc_un1 y) m 0 := (gc_Q_at (i := 0) q.2.2.2 hm (by omega) (fun _ => rfl)).trans (gc_B_seed hn w (fun p hp => s1 p hp) (fun p hp => s2 p hp) m hm 0 (by omega))
  try dsimp only
  rw [gc_4m, nI_clamp (by omega), t]
  exact ⟨vp_in_nI (by omega) (by omega), h on' tw' pl' f1' f2' f3'⟩
theorem gy_bend_b (hn : n ≤ 12) (g : ¬ (gc_num n V x ∧ gc_in 12 y ∧ gc_in 12 z ∧ gc_in 3 t)) (h : post 0 (nI n, K, X, Y, V, IN, DI, on, tw, pl, f1, f2, f3, sl)) : wpY_bend post (nI n, K, X, Y, V, IN, DI, on, tw, pl, f1, f2, f3, sl) x y z t := by
  unfold wpY_bend
  refine gy_isNumber hn (fun a => br_f gc_10 ?_) (fun _ => br_t rfl h)
  refine gy_isPlace (fun b _ => br_f gc_10 ?_) (fun _ => br_t rfl h)
  exact gy_isPlace (fun c d => absurd ⟨a, b, c, d⟩ g) (fun _ => br_t rfl h)
theorem gy_slope_g (hn : n ≤ 12) (w : gc_W K X Y V n) (hm : m < n) (hv : V m = 0) (hy : gc_in 12 y) (he : e < 3) (h : ∀ on' tw' pl' f1' f2' f3' : Nat → Int32, post (gc_D K X Y (fun c => IN (12 * e + c)) (gc_un1 y) m 0) (nI n, K, X, Y, V, IN, DI, on', tw', pl', f1', f2', f3', sl)) : wpY_slope post (nI n, K, X, Y, V, IN, DI, on, tw, pl, f1, f2, f3, sl) (nI m) y (nI e) := by
  refine gy_slope hn w (fun m' e' hm' _ ex _ he' ez on' tw' pl' f1' f2' f3' => ?_) (fun b => absurd ⟨⟨m, hm, rfl, hv⟩, hy, ⟨e, he, rfl⟩⟩ b)
  have e1 : m = m' := gc_im ex (by omega) (by omega)
  have e2 : e = e' := gc_im ez (by omega) (by omega)
  subst e1 e2
  exact h on' tw' pl' f1' f2' f3'
theorem gy_slope_b (hn : n ≤ 12) (w : gc_W K X Y V n) (g : ¬ (gc_num n V x ∧ gc_in 12 y ∧ gc_in 3 z)) (h : post 0 (nI n, K, X, Y, V, IN, DI, on, tw, pl, f1, f2, f3, sl)) : wpY_slope post (nI n, K, X, Y, V, IN, DI, on, tw, pl, f1, f2, f3, sl) x y z :=
  gy_slope hn w (fun m e hm hv hx hy he hz _ _ _ _ _ _ => absurd ⟨⟨m, hm, hx, hv⟩, hy, ⟨e, he, hz⟩⟩ g) (fun _ => h)
end
theorem i_vc_value {k : Nat} {u : SX} {v : SY} (I : i_Rel k u v) (hk : k + 5 ≤ 2560) (v1 : Int32) (v2 : Int32) (v3 : Int32) : wpX_value (fun r u' => wpY_value (fun r' v' => r' = r ∧ i_Rel (k + 5) u' v') v v1 v2 v3) u v1 v2 v3 := by
  obtain ⟨n, lv, IN, DI, sp, K, X, Y, V, va, fi, se, bo, st, on, tw, pl, f1, f2, f3, sl, hn, w, c, rfl, rfl⟩ := I
  unfold wpX_value
  refine gx_hasComponent hn (fun a => br_f gc_10 ?_) (fun a => br_t rfl (gy_value_b hn (fun g => a g.1) ⟨rfl, gr_mk hn w c⟩))
  refine gx_isExample (fun b => br_f gc_10 ?_) (fun b => br_t rfl (gy_value_b hn (fun g => b g.2) ⟨rfl, gr_mk hn w c⟩))
  have a' := a
  obtain ⟨m, i, hm, rfl, rfl, hi, hz⟩ := gc_cmp_o a'
  obtain ⟨e, he, rfl⟩ := b
  refine gx_workOutValues hn w hm he c (fun va' st' c' P => ?_)
  refine gx_fc rfl (And.intro (gc_vi (by omega) (by omega)) ?_)
  rw [gc_ix (by omega), gc_P_at P hi]
  exact gy_value_g hn w a hm hi hz he (fun _ _ _ _ _ _ => ⟨rfl, gr_mk hn w c'⟩)
theorem i_vc_slope {k : Nat} {u : SX} {v : SY} (I : i_Rel k u v) (hk : k + 5 ≤ 2560) (v1 : Int32) (v2 : Int32) (v3 : Int32) : wpX_slope (fun r u' => wpY_slope (fun r' v' => r' = r ∧ i_Rel (k + 5) u' v') v v1 v2 v3) u v1 v2 v3 := by
  obtain ⟨n, lv, IN, DI, sp, K, X, Y, V, va, fi, se, bo, st, on, tw, pl, f1, f2, f3, sl, hn, w, c, rfl, rfl⟩ := I
  unfold wpX_slope
  refine gx_isNumber hn (fun a => br_f gc_10 ?_) (fun a => br_t rfl (gy_slope_b hn w (fun g => a g.1) ⟨rfl, gr_mk hn w c⟩))
  refine gx_isPlace (fun b => br_f gc_10 ?_) (fun b => br_t rfl (gy_slope_b hn w (fun g => b g.2.1) ⟨rfl, gr_mk hn w c⟩))
  refine gx_isExample (fun d => br_f gc_10 ?_) (fun d => br_t rfl (gy_slope_b hn w (fun g => d g.2.2) ⟨rfl, gr_mk hn w c⟩))
  obtain ⟨m, hm, rfl, hv⟩ := a
  obtain ⟨e, he, rfl⟩ := d
  refine gx_derivative (i := 0) hn w hm (by omega) he c (fun va' fi' st' c' => ?_)
  exact gy_slope_g hn w hm hv b he (fun _ _ _ _ _ _ => ⟨gc_D_seed hn w (fun p _ => (gc_sd_p b).symm) hm (by omega), gr_mk hn w c'⟩)
theorem i_vc_bend {k : Nat} {u : SX} {v : SY} (I : i_Rel k u v) (hk : k + 5 ≤ 2560) (v1 : Int32) (v2 : Int32) (v3 : Int32) (v4 : Int32) : wpX_bend (fun r u' => wpY_bend (fun r' v' => r' = r ∧ i_Rel (k + 5) u' v') v v1 v2 v3 v4) u v1 v2 v3 v4 := by
  obtain ⟨n, lv, IN, DI, sp, K, X, Y, V, va, fi, se, bo, st, on, tw, pl, f1, f2, f3, sl, hn, w, c, rfl, rfl⟩ := I
  unfold wpX_bend
  refine gx_isNumber hn (fun a => br_f gc_10 ?_) (fun a => br_t rfl (gy_bend_b hn (fun g => a g.1) ⟨rfl, gr_mk hn w c⟩))
  refine gx_isPlace (fun b => br_f gc_10 ?_) (fun b => br_t rfl (gy_bend_b hn (fun g => b g.2.1) ⟨rfl, gr_mk hn w c⟩))
  refine gx_isPlace (fun b' => br_f gc_10 ?_) (fun b' => br_t rfl (gy_bend_b hn (fun g => b' g.2.2.1) ⟨rfl, gr_mk hn w c⟩))
  refine gx_isExample (fun d => br_f gc_10 ?_) (fun d => br_t rfl (gy_bend_b hn (fun g => d g.2.2.2) ⟨rfl, gr_mk hn w c⟩))
  obtain ⟨m, hm, rfl, hv⟩ := a
  obtain ⟨e, he, rfl⟩ := d
  refine gx_workOutValues hn w hm he c (fun va' st' c' Pv => ?_)
  refine gx_workOutDerivatives_byFirst hn w hm he Pv (fun fi' P1 => ?_)
  refine gx_workOutDerivatives_bySecond hn w hm he Pv (fun se' P2 => ?_)
  refine gx_workOutSecondDerivatives hn w hm he Pv P1 P2 (fun bo' P => ?_)
  refine gx_fc rfl (And.intro (vp_in_nI (by omega) (by omega)) ?_)
  rw [nI_clamp (by omega)]
  have t := gc_P_at (i := 0) P (by omega)
  rw [show (e * 12 + m) * 4 = (e * 12 + m) * 4 + 0 from rfl, t]
  exact gy_bend_g hn w hm hv b b' he (fun _ _ _ _ _ _ => ⟨gc_B_seed hn w (fun p _ => (gc_sd_p b).symm) (fun p _ => (gc_sd_p b').symm) m hm 0 (by omega), gr_mk hn w c'⟩)
end GM
end
section
section GL
/-! along -/
section
variable {n : Nat} {lv : Int32} {IN DI sp K X Y V se bo : Nat → Int32} {post : Int32 → SX → Prop} {m i e : Nat}
theorem gx_al40 (hn : n ≤ 12) (w : gc_W K X Y V n) (hm : m < n) (hi : i < 4) (he : e < 3)
    (hp : ∀ va' fi' st' : Nat → Int32, gc_C K X Y IN va' st' n → post (gc_D K X Y (fun c => IN (12 * e + c)) (fun q => DI (12 * e + q)) m i) (nI n, lv, IN, DI, sp, K, X, Y, V, va', fi', se, bo, st')) : ∀ (d j : Nat) (va fi st : Nat → Int32), j + d = 12 → gc_C K X Y IN va st n →
    wX_along_40 post (nI m) (nI i) (nI e) (d + 1) (gc_D K X Y (fun c => IN (12 * e + c)) (fun q => if q < j then DI (12 * e + q) else 0) m i) (nI j) (nI n) lv IN DI sp K X Y V va fi se bo st := by
  intro d
  induction d with
  | zero =>
    intro j va fi st hj c
    have e12 : j = 12 := by omega
    subst e12
    refine br_t (nI_le (a := 12) (Nat.le_refl _) (by omega)) ?_
    rw [gc_D_seed (t := (fun q => if q < 12 then DI (12 * e + q) else 0)) (u := (fun q => DI (12 * e + q))) hn w (fun p hp => if_pos hp) hm hi]
    exact hp va fi st c
  | succ d ih =>
    intro j va fi st hj c
    refine br_f (nI_ge (b := 12) (by omega) (by omega)) (gx_derivative hn w hm hi he c (fun va' fi' st' c' => ?_))
    try dsimp only
    rw [gc_a12, nI_clamp (by omega)]
    refine ⟨vp_in_nI (by omega) (by omega), nm_r (e' := gc_D K X Y (fun c => IN (12 * e + c)) (fun q => if q < (j + 1) then DI (12 * e + q) else 0) m i) ?_ (nm_r (nI_1 j) (ih (j + 1) va' fi' st' (by omega) c'))⟩
    refine (gc_D_lin hn w (fun p hp => ?_) m hm i hi).symm
    rw [gc_sd_p ⟨j, by omega, rfl⟩]
    unfold gc_un1
    by_cases h1 : p = j
    · subst h1
      rw [if_pos (by omega), if_neg (by omega), if_pos rfl]
      grind
    · have h2 : ¬ nI p = nI j := fun z => h1 (gc_im z (by omega) (by omega))
      rw [if_neg h2]
      by_cases h3 : p < j
      · rw [if_pos (by omega), if_pos h3]; grind
      · rw [if_neg (by omega), if_neg h3]; grind
end
section
variable {n : Nat} {K X Y V IN DI pl f1 f2 f3 sl : Nat → Int32} {post : Int32 → SY → Prop} {x y z : Int32} {m i e : Nat}
theorem gy_al15 (hn : n ≤ 12) (w : gc_W K X Y V n) (hm : m < n) (hi : i < 4) (hz : V m = 0 → i = 0) (he : e < 3) (h : ∀ on' tw' pl' f1' f2' f3' : Nat → Int32, post (gc_D K X Y (fun c => IN (12 * e + c)) (fun q => DI (12 * e + q)) m i) (nI n, K, X, Y, V, IN, DI, on', tw', pl', f1', f2', f3', sl)) : ∀ (d j : Nat) (on tw : Nat → Int32), j + d = 12 → (∀ q, q < j → on q = DI (12 * e + q)) →
    wY_along_15 post (nI m) (nI i) (nI e) (nI n) (d + 1) (nI j) K X Y V IN DI on tw pl f1 f2 f3 sl := by
  intro d
  induction d with
  | zero =>
    intro j on tw hj ho
    have e12 : j = 12 := by omega
    subst e12
    refine br_t (nI_le (a := 12) (Nat.le_refl _) (by omega)) (gy_workAll hn w he (fun pl' f1' f2' f3' q => ?_))
    have t : f1' (4 * m + i) = gc_D K X Y (fun c => IN (12 * e + c)) (fun q => DI (12 * e + q)) m i := (gc_Q_at q.2.1 hm hi hz).trans (gc_D_seed hn w ho hm hi)
    try dsimp only
    rw [gc_4m, nI_add, nI_clamp (by omega), t]
    exact ⟨vp_in_nI (by omega) (by omega), h on tw pl' f1' f2' f3'⟩
  | succ d ih =>
    intro j on tw hj ho
    have v : vp_in (nI j) 12 := vp_in_nI (by omega) (by omega)
    refine br_f (nI_ge (b := 12) (by omega) (by omega)) ?_
    try dsimp only
    rw [gc_b12, nI_clamp (n := 12 * e + j) (by omega), nI_clamp (n := j) (by omega)]
    refine ⟨vp_in_nI (by omega) (by omega), v, nm_e ⟨v, nm_e (nm_r (nI_1 j) (ih (j + 1) _ _ (by omega) ?_))⟩⟩
    intro q hq
    by_cases E : q = j
    · subst E; exact gc_us
    · rw [gc_un E]; exact ho q (by omega)
theorem gy_along_g {on tw : Nat → Int32} (hn : n ≤ 12) (w : gc_W K X Y V n) (g : gc_cmp n V (nI m) (nI i)) (hm : m < n) (hi : i < 4) (hz : V m = 0 → i = 0) (he : e < 3) (h : ∀ on' tw' pl' f1' f2' f3' : Nat → Int32, post (gc_D K X Y (fun c => IN (12 * e + c)) (fun q => DI (12 * e + q)) m i) (nI n, K, X, Y, V, IN, DI, on', tw', pl', f1', f2', f3', sl)) : wpY_along post (nI n, K, X, Y, V, IN, DI, on, tw, pl, f1, f2, f3, sl) (nI m) (nI i) (nI e) := by
  unfold wpY_along
  refine gy_isComponent hn (fun _ _ => br_f gc_10 ?_) (fun b => absurd ⟨g, ⟨e, he, rfl⟩⟩ b)
  exact ⟨13, gy_al15 hn w hm hi hz he h 12 0 on tw rfl (fun q hq => absurd hq (Nat.not_lt_zero q))⟩
theorem gy_along_b {on tw : Nat → Int32} (hn : n ≤ 12) (g : ¬ (gc_cmp n V x y ∧ gc_in 3 z)) (h : post 0 (nI n, K, X, Y, V, IN, DI, on, tw, pl, f1, f2, f3, sl)) : wpY_along post (nI n, K, X, Y, V, IN, DI, on, tw, pl, f1, f2, f3, sl) x y z := by
  unfold wpY_along
  exact gy_isComponent hn (fun a b => absurd ⟨a, b⟩ g) (fun _ => br_t rfl h)
end
theorem i_vc_along {k : Nat} {u : SX} {v : SY} (I : i_Rel k u v) (hk : k + 5 ≤ 2560) (v1 : Int32) (v2 : Int32) (v3 : Int32) : wpX_along (fun r u' => wpY_along (fun r' v' => r' = r ∧ i_Rel (k + 5) u' v') v v1 v2 v3) u v1 v2 v3 := by
  obtain ⟨n, lv, IN, DI, sp, K, X, Y, V, va, fi, se, bo, st, on, tw, pl, f1, f2, f3, sl, hn, w, c, rfl, rfl⟩ := I
  unfold wpX_along
  refine gx_hasComponent hn (fun a => br_f gc_10 ?_) (fun a => br_t rfl (gy_along_b hn (fun g => a g.1) ⟨rfl, gr_mk hn w c⟩))
  refine gx_isExample (fun b => br_f gc_10 ?_) (fun b => br_t rfl (gy_along_b hn (fun g => b g.2) ⟨rfl, gr_mk hn w c⟩))
  have a' := a
  obtain ⟨m, i, hm, rfl, rfl, hi, hz⟩ := gc_cmp_o a'
  obtain ⟨e, he, rfl⟩ := b
  refine br_c (fun _ => ⟨13, ?_⟩) (fun _ => ?_)
  · have z : gc_D K X Y (fun c => IN (12 * e + c)) (fun q => if q < 0 then DI (12 * e + q) else 0) m i = 0 := gc_D_zero hn w (fun p _ => if_neg (Nat.not_lt_zero p)) hm hi
    have H := gx_al40 (lv := lv) (sp := sp) (se := se) (bo := bo) (post := fun r u' => wpY_along (fun r' v' => r' = r ∧ i_Rel (k + 5) u' v') (nI n, K, X, Y, V, IN, DI, on, tw, pl, f1, f2, f3, sl) (nI m) (nI i) (nI e)) hn w hm hi he (fun va' fi' st' c' => gy_along_g hn w a hm hi hz he (fun _ _ _ _ _ _ => ⟨rfl, gr_mk hn w c'⟩)) 12 0 va fi st rfl c
    rw [z] at H
    exact H
  · refine gx_derivative hn w hm hi he c (fun va' fi' st' c' => ?_)
    exact gy_along_g hn w a hm hi hz he (fun _ _ _ _ _ _ => ⟨gc_D_seed hn w (fun p _ => gc_sd_d.symm) hm hi, gr_mk hn w c'⟩)
/-! slopeOfAll -/
section
variable {n : Nat} {lv : Int32} {IN DI sp K X Y V se bo : Nat → Int32} {post : Int32 → SX → Prop} {m : Nat} {y : Int32}
theorem gx_so22 (hn : n ≤ 12) (w : gc_W K X Y V n) (hm : m < n) (hy : gc_in 12 y)
    (hp : ∀ va' fi' st' : Nat → Int32, gc_C K X Y IN va' st' n → post (gc_sm (fun e => gc_D K X Y (fun c => IN (12 * e + c)) (gc_un1 y) m 0) 3) (nI n, lv, IN, DI, sp, K, X, Y, V, va', fi', se, bo, st')) : ∀ (d j : Nat) (va fi st : Nat → Int32), j + d = 3 → gc_C K X Y IN va st n →
    wX_slopeOfAll_22 post (nI m) y (d + 1) (gc_sm (fun e => gc_D K X Y (fun c => IN (12 * e + c)) (gc_un1 y) m 0) j) (nI j) (nI n) lv IN DI sp K X Y V va fi se bo st := by
  intro d
  induction d with
  | zero =>
    intro j va fi st hj c
    have e3 : j = 3 := by omega
    subst e3
    exact br_t (nI_le (a := 3) (Nat.le_refl _) (by omega)) (hp va fi st c)
  | succ d ih =>
    intro j va fi st hj c
    refine br_f (nI_ge (b := 3) (by omega) (by omega)) (gx_derivative (i := 0) hn w hm (by omega) (by omega) c (fun va' fi' st' c' => ?_))
    refine nm_r (e' := gc_sm (fun e => gc_D K X Y (fun c => IN (12 * e + c)) (gc_un1 y) m 0) (j + 1)) ?_ (nm_r (nI_1 j) (ih (j + 1) va' fi' st' (by omega) c'))
    rw [gc_sm_s, gc_D_seed hn w (fun p _ => gc_sd_p hy) hm (by omega)]
end
section
variable {n : Nat} {K X Y V IN DI sl : Nat → Int32} {post : Int32 → SY → Prop} {m : Nat} {x y : Int32}
theorem gy_soa_g {on tw pl f1 f2 f3 : Nat → Int32} (hn : n ≤ 12) (w : gc_W K X Y V n) (hm : m < n) (hv : V m = 0) (hy : gc_in 12 y) (h : ∀ on' tw' pl' f1' f2' f3' : Nat → Int32, post (gc_sm (fun e => gc_D K X Y (fun c => IN (12 * e + c)) (gc_un1 y) m 0) 3) (nI n, K, X, Y, V, IN, DI, on', tw', pl', f1', f2', f3', sl)) : wpY_slopeOfAll post (nI n, K, X, Y, V, IN, DI, on, tw, pl, f1, f2, f3, sl) (nI m) y := by
  unfold wpY_slopeOfAll
  refine gy_slope_g (e := 0) hn w hm hv hy (by omega) (fun _ _ _ _ _ _ => ?_)
  refine gy_slope_g (e := 1) hn w hm hv hy (by omega) (fun _ _ _ _ _ _ => ?_)
  refine gy_slope_g (e := 2) hn w hm hv hy (by omega) (fun on' tw' pl' f1' f2' f3' => ?_)
  have t := h on' tw' pl' f1' f2' f3'
  rw [gc_sm_s, gc_sm_s, gc_sm_s, show gc_sm (fun e => gc_D K X Y (fun c => IN (12 * e + c)) (gc_un1 y) m 0) 0 = 0 from rfl, Int32.zero_add] at t
  exact t
theorem gy_soa_b {on tw pl f1 f2 f3 : Nat → Int32} (hn : n ≤ 12) (w : gc_W K X Y V n) (g : ¬ (gc_num n V x ∧ gc_in 12 y)) (h : post 0 (nI n, K, X, Y, V, IN, DI, on, tw, pl, f1, f2, f3, sl)) : wpY_slopeOfAll post (nI n, K, X, Y, V, IN, DI, on, tw, pl, f1, f2, f3, sl) x y := by
  unfold wpY_slopeOfAll
  have b : ∀ z, ¬ (gc_num n V x ∧ gc_in 12 y ∧ gc_in 3 z) := fun z q => g ⟨q.1, q.2.1⟩
  refine gy_slope_b hn w (b _) ?_
  refine gy_slope_b hn w (b _) ?_
  exact gy_slope_b hn w (b _) h
end
theorem i_vc_slopeOfAll {k : Nat} {u : SX} {v : SY} (I : i_Rel k u v) (hk : k + 5 ≤ 2560) (v1 : Int32) (v2 : Int32) : wpX_slopeOfAll (fun r u' => wpY_slopeOfAll (fun r' v' => r' = r ∧ i_Rel (k + 5) u' v') v v1 v2) u v1 v2 := by
  obtain ⟨n, lv, IN, DI, sp, K, X, Y, V, va, fi, se, bo, st, on, tw, pl, f1, f2, f3, sl, hn, w, c, rfl, rfl⟩ := I
  unfold wpX_slopeOfAll
  refine gx_isNumber hn (fun a => br_f gc_10 ?_) (fun a => br_t rfl (gy_soa_b hn w (fun g => a g.1) ⟨rfl, gr_mk hn w c⟩))
  refine gx_isPlace (fun b => br_f gc_10 ?_) (fun b => br_t rfl (gy_soa_b hn w (fun g => b g.2) ⟨rfl, gr_mk hn w c⟩))
  obtain ⟨m, hm, rfl, hv⟩ := a
  exact ⟨4, gx_so22 hn w hm b (fun va' fi' st' c' => gy_soa_g hn w hm hv b (fun _ _ _ _ _ _ => ⟨rfl, gr_mk hn w c'⟩)) 3 0 va fi st rfl c⟩
/-! step -/
def gc_u4 (f : Nat → Int32) (b : Nat) (g : Nat → Int32) : Nat → Nat → Int32
  | 0 => f
  | j + 1 => upd (gc_u4 f b g j) (b + j) (g j)
theorem gc_u4_s {f g : Nat → Int32} {b j : Nat} : gc_u4 f b g (j + 1) = upd (gc_u4 f b g j) (b + j) (g j) := rfl
theorem gc_u4_out {f g : Nat → Int32} {b q : Nat} : ∀ j : Nat, (q < b ∨ b + j ≤ q) → gc_u4 f b g j q = f q := by
  intro j
  induction j with
  | zero => intro _; rfl
  | succ j ih =>
    intro h
    rw [gc_u4_s, gc_un (by omega)]
    exact ih (by omega)
section
variable {n : Nat} {lv : Int32} {DI sp K X Y V va fi se bo st : Nat → Int32} {post : Int32 → SX → Prop} {b e : Nat} {f g : Nat → Int32}
theorem gx_st88 (hb : b + 4 ≤ 36) (he : e < 3) (hg : ∀ q, q < 4 → sp q = g q) (hp : post 1 (nI n, lv, gc_u4 f b g 4, DI, sp, K, X, Y, V, va, fi, se, bo, upd st e 0)) : ∀ d j : Nat, j + d = 4 →
    wX_step_88 post (nI e) (nI b) (nI n) lv (d + 1) (nI j) (gc_u4 f b g j) DI sp K X Y V va fi se bo st := by
  intro d
  induction d with
  | zero =>
    intro j hj
    have e4 : j = 4 := by omega
    subst e4
    exact br_t (gc_4le (Nat.le_refl _) (by omega)) ⟨vp_in_nI he (by omega), nm_r (e' := upd st e 0) (by rw [nI_clamp (by omega)]) hp⟩
  | succ d ih =>
    intro j hj
    refine br_f (gc_n4le (by omega)) ⟨vp_in_nI (by omega) (by omega), gc_vi (by omega) (by omega), nm_r (e' := gc_u4 f b g (j + 1)) ?_ (nm_r (nI_1 j) (ih (j + 1) (by omega)))⟩
    rw [gc_ix (by omega), nI_clamp (by omega), hg j (by omega), gc_u4_s]
end
section
variable {n : Nat} {lv : Int32} {IN DI K X Y V se bo : Nat → Int32} {post : Int32 → SX → Prop} {m a b e : Nat} {x4 : Int32}
theorem gx_st39 (hn : n ≤ 12) (w : gc_W K X Y V n) (hm : m < n) (ha : a < 3) (he : e < 3) (hb : b = 12 * e + 4 * a)
    (hp : ∀ va' fi' st' sp' : Nat → Int32, gc_C K X Y IN va' st' n → post 1 (nI n, lv, gc_u4 IN b (fun q => IN (b + q) - x4 * gc_D K X Y (fun c => IN (12 * e + c)) (gc_un1 (nI (4 * a + q))) m 0) 4, DI, sp', K, X, Y, V, va', fi', se, bo, upd st' e 0)) : ∀ (d j : Nat) (sp va fi st : Nat → Int32), j + d = 4 → gc_C K X Y IN va st n → (∀ q, q < j → sp q = (fun q => IN (b + q) - x4 * gc_D K X Y (fun c => IN (12 * e + c)) (gc_un1 (nI (4 * a + q))) m 0) q) →
    wX_step_39 post (nI m) (nI a) (nI e) x4 (nI b) (d + 1) (nI j) (nI n) lv IN DI sp K X Y V va fi se bo st := by
  intro d
  induction d with
  | zero =>
    intro j sp va fi st hj c h
    have e4 : j = 4 := by omega
    subst e4
    exact br_t (gc_4le (Nat.le_refl _) (by omega)) ⟨5, gx_st88 (f := IN) (by omega) he h (hp va fi st sp c) 4 0 rfl⟩
  | succ d ih =>
    intro j sp va fi st hj c h
    refine br_f (gc_n4le (by omega)) ⟨gc_vi (by omega) (by omega), ?_⟩
    rw [gc_4m, nI_add (4 * a) j, gc_ix (a := b) (b := j) (by omega)]
    refine gx_derivative (i := 0) hn w hm (by omega) he c (fun va' fi' st' c' => ?_)
    refine ⟨vp_in_nI (by omega) (by omega), nm_r (e' := upd sp j ((fun q => IN (b + q) - x4 * gc_D K X Y (fun c => IN (12 * e + c)) (gc_un1 (nI (4 * a + q))) m 0) j)) ?_ (nm_r (nI_1 j) (ih (j + 1) _ va' fi' st' (by omega) c' ?_))⟩
    · rw [nI_clamp (by omega), gc_D_seed hn w (fun p _ => gc_sd_p ⟨4 * a + j, by omega, rfl⟩) hm (by omega)]
    · intro q hq
      by_cases E : q = j
      · subst E; exact gc_us
      · rw [gc_un E]; exact h q (by omega)
end
section
variable {n : Nat} {K X Y V DI on tw pl f1 f2 f3 sl : Nat → Int32} {post : Int32 → SY → Prop} {a b e : Nat} {x4 : Int32} {f g : Nat → Int32}
theorem gy_st67 (hb : b = 12 * e + 4 * a) (ha : a < 3) (he : e < 3) (hg : ∀ q, q < 4 → f (b + q) - x4 * sl q = g q) (hp : post 1 (nI n, K, X, Y, V, gc_u4 f b g 4, DI, on, tw, pl, f1, f2, f3, sl)) : ∀ d j : Nat, j + d = 4 →
    wY_step_67 post (nI a) (nI e) x4 (nI n) (d + 1) (nI j) K X Y V (gc_u4 f b g j) DI on tw pl f1 f2 f3 sl := by
  intro d
  induction d with
  | zero =>
    intro j hj
    have e4 : j = 4 := by omega
    subst e4
    exact br_t (gc_4le (Nat.le_refl _) (by omega)) hp
  | succ d ih =>
    intro j hj
    have ei : 12 * nI e + 4 * nI a + nI j = nI (b + j) := by rw [gc_12m, gc_4m, nI_add, nI_add, hb]
    refine br_f (gc_n4le (by omega)) ?_
    try dsimp only
    rw [ei]
    refine ⟨vp_in_nI (by omega) (by omega), vp_in_nI (by omega) (by omega), vp_in_nI (by omega) (by omega), nm_r (e' := gc_u4 f b g (j + 1)) ?_ (nm_r (nI_1 j) (ih (j + 1) (by omega)))⟩
    rw [nI_clamp (by omega), nI_clamp (by omega), gc_u4_out j (by omega), hg j (by omega), gc_u4_s]
end
section
variable {n : Nat} {K X Y V IN DI : Nat → Int32} {post : Int32 → SY → Prop} {m a b e : Nat} {x4 x y z : Int32}
theorem gy_st33 (hn : n ≤ 12) (w : gc_W K X Y V n) (hm : m < n) (hv : V m = 0) (ha : a < 3) (he : e < 3) (hb : b = 12 * e + 4 * a)
    (hp : ∀ on' tw' pl' f1' f2' f3' sl' : Nat → Int32, post 1 (nI n, K, X, Y, V, gc_u4 IN b (fun q => IN (b + q) - x4 * gc_D K X Y (fun c => IN (12 * e + c)) (gc_un1 (nI (4 * a + q))) m 0) 4, DI, on', tw', pl', f1', f2', f3', sl')) : ∀ (d j : Nat) (on tw pl f1 f2 f3 sl : Nat → Int32), j + d = 4 → (∀ q, q < j → sl q = gc_D K X Y (fun c => IN (12 * e + c)) (gc_un1 (nI (4 * a + q))) m 0) →
    wY_step_33 post (nI m) (nI a) (nI e) x4 (d + 1) (nI j) (nI n) K X Y V IN DI on tw pl f1 f2 f3 sl := by
  intro d
  induction d with
  | zero =>
    intro j on tw pl f1 f2 f3 sl hj h
    have e4 : j = 4 := by omega
    subst e4
    refine br_t (gc_4le (Nat.le_refl _) (by omega)) ⟨5, gy_st67 (f := IN) (g := (fun q => IN (b + q) - x4 * gc_D K X Y (fun c => IN (12 * e + c)) (gc_un1 (nI (4 * a + q))) m 0)) hb ha he ?_ (hp on tw pl f1 f2 f3 sl) 4 0 rfl⟩
    intro q hq
    rw [h q hq]
  | succ d ih =>
    intro j on tw pl f1 f2 f3 sl hj h
    refine br_f (gc_n4le (by omega)) ?_
    try dsimp only
    rw [gc_4m, nI_add]
    refine gy_slope_g hn w hm hv ⟨4 * a + j, by omega, rfl⟩ he (fun on' tw' pl' f1' f2' f3' => ?_)
    refine ⟨vp_in_nI (by omega) (by omega), nm_r (e' := upd sl j (gc_D K X Y (fun c => IN (12 * e + c)) (gc_un1 (nI (4 * a + j))) m 0)) (by rw [nI_clamp (by omega)]) (nm_r (nI_1 j) (ih (j + 1) on' tw' pl' f1' f2' f3' _ (by omega) ?_))⟩
    intro q hq
    by_cases E : q = j
    · subst E; exact gc_us
    · rw [gc_un E]; exact h q (by omega)
theorem gy_step_g {on tw pl f1 f2 f3 sl : Nat → Int32} (hn : n ≤ 12) (w : gc_W K X Y V n) (hm : m < n) (hv : V m = 0) (ha : a < 3) (he : e < 3) (hb : b = 12 * e + 4 * a)
    (hp : ∀ on' tw' pl' f1' f2' f3' sl' : Nat → Int32, post 1 (nI n, K, X, Y, V, gc_u4 IN b (fun q => IN (b + q) - x4 * gc_D K X Y (fun c => IN (12 * e + c)) (gc_un1 (nI (4 * a + q))) m 0) 4, DI, on', tw', pl', f1', f2', f3', sl')) : wpY_step post (nI n, K, X, Y, V, IN, DI, on, tw, pl, f1, f2, f3, sl) (nI m) (nI a) (nI e) x4 := by
  unfold wpY_step
  refine gy_isNumber hn (fun _ => br_f gc_10 ?_) (fun q => absurd ⟨m, hm, rfl, hv⟩ q)
  refine gy_in gy_2 (by omega) (fun _ => br_f gc_10 ?_) (fun q => absurd ⟨a, ha, rfl⟩ q)
  refine gy_in gy_2 (by omega) (fun _ => br_f gc_10 ?_) (fun q => absurd ⟨e, he, rfl⟩ q)
  exact ⟨5, gy_st33 hn w hm hv ha he hb hp 4 0 on tw pl f1 f2 f3 sl rfl (fun q hq => absurd hq (Nat.not_lt_zero q))⟩
theorem gy_step_b {on tw pl f1 f2 f3 sl : Nat → Int32} (hn : n ≤ 12) (g : ¬ (gc_num n V x ∧ gc_in 3 y ∧ gc_in 3 z)) (h : post 0 (nI n, K, X, Y, V, IN, DI, on, tw, pl, f1, f2, f3, sl)) : wpY_step post (nI n, K, X, Y, V, IN, DI, on, tw, pl, f1, f2, f3, sl) x y z x4 := by
  unfold wpY_step
  refine gy_isNumber hn (fun p => br_f gc_10 ?_) (fun _ => br_t rfl h)
  refine gy_in gy_2 (by omega) (fun q => br_f gc_10 ?_) (fun _ => br_t rfl h)
  exact gy_in gy_2 (by omega) (fun r => absurd ⟨p, q, r⟩ g) (fun _ => br_t rfl h)
end
theorem i_vc_step {k : Nat} {u : SX} {v : SY} (I : i_Rel k u v) (hk : k + 5 ≤ 2560) (v1 : Int32) (v2 : Int32) (v3 : Int32) (v4 : Int32) : wpX_step (fun r u' => wpY_step (fun r' v' => r' = r ∧ i_Rel (k + 5) u' v') v v1 v2 v3 v4) u v1 v2 v3 v4 := by
  obtain ⟨n, lv, IN, DI, sp, K, X, Y, V, va, fi, se, bo, st, on, tw, pl, f1, f2, f3, sl, hn, w, c, rfl, rfl⟩ := I
  unfold wpX_step
  refine gx_isNumber hn (fun p => br_f gc_10 ?_) (fun p => br_t rfl (gy_step_b hn (fun g => p g.1) ⟨rfl, gr_mk hn w c⟩))
  refine gc_br (N := 3) rfl (by omega) (fun q => ?_) (fun q => gy_step_b hn (fun g => q g.2.1) ⟨rfl, gr_mk hn w c⟩)
  refine gx_isExample (fun r => br_f gc_10 ?_) (fun r => br_t rfl (gy_step_b hn (fun g => r g.2.2) ⟨rfl, gr_mk hn w c⟩))
  obtain ⟨m, hm, rfl, hv⟩ := p
  obtain ⟨a, ha, rfl⟩ := q
  obtain ⟨e, he, rfl⟩ := r
  refine nm_r (e' := nI (12 * e + 4 * a)) (by rw [gc_4m, gc_a12]) ⟨5, gx_st39 hn w hm ha he rfl (fun va' fi' st' sp' c' => ?_) 4 0 sp va fi st rfl c (fun q hq => absurd hq (Nat.not_lt_zero q))⟩
  refine gy_step_g hn w hm hv ha he rfl (fun _ _ _ _ _ _ _ => ⟨rfl, gr_mk hn w (gc_C_0 hn w (fun e' he' ne q hq => ?_) c')⟩)
  exact (gc_u4_out 4 (by omega)).symm
end GL
end
