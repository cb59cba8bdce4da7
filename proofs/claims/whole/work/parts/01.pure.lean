section GCA
/-! the pure picture: tables of nodes, their values, first and second derivatives -/
theorem gc_us {f : Nat → Int32} {k : Nat} {x : Int32} : upd f k x k = x := if_pos rfl
theorem gc_un {f : Nat → Int32} {k j : Nat} {x : Int32} (h : j ≠ k) : upd f k x j = f j := if_neg h
theorem gc_uu {f : Nat → Int32} {k : Nat} {x y : Int32} : upd (upd f k x) k y = upd f k y := by
  funext j
  by_cases h : j = k
  · subst h; rw [gc_us, gc_us]
  · rw [gc_un h, gc_un h, gc_un h]
theorem gc_mul (a b : Nat) : nI a * nI b = nI (a * b) := (Int32.ofNat_mul a b).symm
def gc_tb (r : (Nat → Nat → Int32) → Nat → Nat → Int32) : Nat → Nat → Nat → Int32
  | 0 => fun _ _ => 0
  | k + 1 => fun m i => if m = k then r (gc_tb r k) k i else gc_tb r k m i
def gc_fx (r : (Nat → Nat → Int32) → Nat → Nat → Int32) (m i : Nat) : Int32 := r (gc_tb r m) m i
theorem gc_tb_fx (r : (Nat → Nat → Int32) → Nat → Nat → Int32) : ∀ k m i : Nat, m < k → gc_tb r k m i = gc_fx r m i := by
  intro k
  induction k with
  | zero => intro m i h; omega
  | succ k ih =>
    intro m i h
    by_cases e : m = k
    · subst e
      exact if_pos rfl
    · have e' : gc_tb r (k + 1) m i = gc_tb r k m i := if_neg e
      rw [e']
      exact ih m i (by omega)
theorem gc_fx_congr {r r' : (Nat → Nat → Int32) → Nat → Nat → Int32} (k : Nat) (h : ∀ m, m < k → ∀ c c' : Nat → Nat → Int32, (∀ a, a < m → ∀ j, j < 4 → c a j = c' a j) → ∀ i, i < 4 → r c m i = r' c' m i) : ∀ m, m < k → ∀ i, i < 4 → gc_fx r m i = gc_fx r' m i := by
  intro m
  induction m using Nat.strongRecOn with
  | ind m ih =>
    intro hm i hi
    refine h m hm _ _ ?_ i hi
    intro a ha j hj
    rw [gc_tb_fx r m a j ha, gc_tb_fx r' m a j ha]
    exact ih a ha (by omega) j hj
def gc_sm (f : Nat → Int32) : Nat → Int32
  | 0 => 0
  | n + 1 => gc_sm f n + f n
theorem gc_sm_s (f : Nat → Int32) (n : Nat) : gc_sm f (n + 1) = gc_sm f n + f n := rfl
theorem gc_sm_congr {f g : Nat → Int32} : ∀ n : Nat, (∀ j, j < n → f j = g j) → gc_sm f n = gc_sm g n := by
  intro n
  induction n with
  | zero => intro _; rfl
  | succ n ih =>
    intro h
    rw [gc_sm_s, gc_sm_s, ih (fun j hj => h j (by omega)), h n (by omega)]
theorem gc_sm_lin {f g h : Nat → Int32} {z : Int32} : ∀ n : Nat, (∀ j, j < n → f j = g j + h j * z) → gc_sm f n = gc_sm g n + gc_sm h n * z := by
  intro n
  induction n with
  | zero =>
    intro _
    show (0 : Int32) = 0 + 0 * z
    grind
  | succ n ih =>
    intro e
    have e1 := ih (fun j hj => e j (by omega))
    have e2 := e n (by omega)
    rw [gc_sm_s, gc_sm_s, gc_sm_s, e1, e2]
    grind
def gc_co (k x y : Int32) (c : Nat → Nat → Int32) (i : Nat) : Int32 :=
  if k = 2 then c x.toNatClampNeg i + c y.toNatClampNeg i
  else if k = 3 then c x.toNatClampNeg i - c y.toNatClampNeg i
  else if k = 5 then gc_sm (c x.toNatClampNeg) 4
  else if k = 6 then c x.toNatClampNeg ((i + 1) % 4)
  else if k = 7 then c x.toNatClampNeg y.toNatClampNeg
  else if k = 8 then c x.toNatClampNeg i
  else gc_sm (c x.toNatClampNeg) (i + 1)
def gc_ru (k x y : Int32) (A : Nat → Int32) (b : Int32) (M : Nat → Nat → Int32) (Z : Nat → Int32) (c : Nat → Nat → Int32) (i : Nat) : Int32 :=
  if k = 0 then A (4 * x.toNatClampNeg + i)
  else if k = 1 then b
  else if k = 4 then M x.toNatClampNeg y.toNatClampNeg
  else if k = 9 then Z x.toNatClampNeg
  else gc_co k x y c i
section CASES
variable {x y : Int32} {p q i : Nat} {A : Nat → Int32} {b : Int32} {M : Nat → Nat → Int32} {Z : Nat → Int32} {c : Nat → Nat → Int32}
theorem gc_ru_0 (hp : p < 2 ^ 31) : gc_ru 0 (nI p) y A b M Z c i = A (4 * p + i) := by
  unfold gc_ru; rw [if_pos rfl, nI_clamp hp]
theorem gc_ru_1 : gc_ru 1 x y A b M Z c i = b := by
  unfold gc_ru; rw [if_neg (by decide), if_pos rfl]
theorem gc_ru_4 (hp : p < 2 ^ 31) (hq : q < 2 ^ 31) : gc_ru 4 (nI p) (nI q) A b M Z c i = M p q := by
  unfold gc_ru; rw [if_neg (by decide), if_neg (by decide), if_pos rfl, nI_clamp hp, nI_clamp hq]
theorem gc_ru_9 (hp : p < 2 ^ 31) : gc_ru 9 (nI p) y A b M Z c i = Z p := by
  unfold gc_ru; rw [if_neg (by decide), if_neg (by decide), if_neg (by decide), if_pos rfl, nI_clamp hp]
theorem gc_co_2 (hp : p < 2 ^ 31) (hq : q < 2 ^ 31) : gc_co 2 (nI p) (nI q) c i = c p i + c q i := by
  unfold gc_co; rw [if_pos rfl, nI_clamp hp, nI_clamp hq]
theorem gc_co_3 (hp : p < 2 ^ 31) (hq : q < 2 ^ 31) : gc_co 3 (nI p) (nI q) c i = c p i - c q i := by
  unfold gc_co; rw [if_neg (by decide), if_pos rfl, nI_clamp hp, nI_clamp hq]
theorem gc_co_5 (hp : p < 2 ^ 31) : gc_co 5 (nI p) y c i = gc_sm (c p) 4 := by
  unfold gc_co; rw [if_neg (by decide), if_neg (by decide), if_pos rfl, nI_clamp hp]
theorem gc_co_6 (hp : p < 2 ^ 31) : gc_co 6 (nI p) y c i = c p ((i + 1) % 4) := by
  unfold gc_co; rw [if_neg (by decide), if_neg (by decide), if_neg (by decide), if_pos rfl, nI_clamp hp]
theorem gc_co_7 (hp : p < 2 ^ 31) (hq : q < 2 ^ 31) : gc_co 7 (nI p) (nI q) c i = c p q := by
  unfold gc_co; rw [if_neg (by decide), if_neg (by decide), if_neg (by decide), if_neg (by decide), if_pos rfl, nI_clamp hp, nI_clamp hq]
theorem gc_co_8 (hp : p < 2 ^ 31) : gc_co 8 (nI p) y c i = c p i := by
  unfold gc_co; rw [if_neg (by decide), if_neg (by decide), if_neg (by decide), if_neg (by decide), if_neg (by decide), if_pos rfl, nI_clamp hp]
theorem gc_co_10 (hp : p < 2 ^ 31) : gc_co 10 (nI p) y c i = gc_sm (c p) (i + 1) := by
  unfold gc_co; rw [if_neg (by decide), if_neg (by decide), if_neg (by decide), if_neg (by decide), if_neg (by decide), if_neg (by decide), nI_clamp hp]
theorem gc_ru_co {k : Int32} (h0 : ¬ k = 0) (h1 : ¬ k = 1) (h4 : ¬ k = 4) (h9 : ¬ k = 9) : gc_ru k x y A b M Z c i = gc_co k x y c i := by
  unfold gc_ru; rw [if_neg h0, if_neg h1, if_neg h4, if_neg h9]
theorem gc_ru_2 (hp : p < 2 ^ 31) (hq : q < 2 ^ 31) : gc_ru 2 (nI p) (nI q) A b M Z c i = c p i + c q i := by
  rw [gc_ru_co (by decide) (by decide) (by decide) (by decide), gc_co_2 hp hq]
theorem gc_ru_3 (hp : p < 2 ^ 31) (hq : q < 2 ^ 31) : gc_ru 3 (nI p) (nI q) A b M Z c i = c p i - c q i := by
  rw [gc_ru_co (by decide) (by decide) (by decide) (by decide), gc_co_3 hp hq]
theorem gc_ru_5 (hp : p < 2 ^ 31) : gc_ru 5 (nI p) y A b M Z c i = gc_sm (c p) 4 := by
  rw [gc_ru_co (by decide) (by decide) (by decide) (by decide), gc_co_5 hp]
theorem gc_ru_6 (hp : p < 2 ^ 31) : gc_ru 6 (nI p) y A b M Z c i = c p ((i + 1) % 4) := by
  rw [gc_ru_co (by decide) (by decide) (by decide) (by decide), gc_co_6 hp]
theorem gc_ru_7 (hp : p < 2 ^ 31) (hq : q < 2 ^ 31) : gc_ru 7 (nI p) (nI q) A b M Z c i = c p q := by
  rw [gc_ru_co (by decide) (by decide) (by decide) (by decide), gc_co_7 hp hq]
theorem gc_ru_8 (hp : p < 2 ^ 31) : gc_ru 8 (nI p) y A b M Z c i = c p i := by
  rw [gc_ru_co (by decide) (by decide) (by decide) (by decide), gc_co_8 hp]
theorem gc_ru_10 (hp : p < 2 ^ 31) : gc_ru 10 (nI p) y A b M Z c i = gc_sm (c p) (i + 1) := by
  rw [gc_ru_co (by decide) (by decide) (by decide) (by decide), gc_co_10 hp]
end CASES
def gc_or (p q : Int32) : Int32 := if p = 0 then (if q = 0 then 0 else 1) else 1
theorem gc_or_0 {p q : Int32} (h : (0 : Int32) = gc_or p q) : p = 0 ∧ q = 0 := by
  unfold gc_or at h
  by_cases hp : p = 0
  · rw [if_pos hp] at h
    by_cases hq : q = 0
    · exact ⟨hp, hq⟩
    · rw [if_neg hq] at h
      exact absurd h (by decide)
  · rw [if_neg hp] at h
    exact absurd h (by decide)
theorem gc_or_01 (p q : Int32) : gc_or p q = 0 ∨ gc_or p q = 1 := by
  unfold gc_or
  by_cases hp : p = 0
  · rw [if_pos hp]
    by_cases hq : q = 0
    · rw [if_pos hq]; exact Or.inl rfl
    · rw [if_neg hq]; exact Or.inr rfl
  · rw [if_neg hp]; exact Or.inr rfl
/-- a well made node m: its kind k, operands x and y, and whether it is a vector, v; V tells the earlier ones -/
def gc_N (V : Nat → Int32) (m : Nat) (k x y v : Int32) : Prop :=
  (k = 0 ∧ v = 1 ∧ ∃ p, p < 3 ∧ x = nI p) ∨
  (k = 1 ∧ v = 0) ∨
  (k = 2 ∧ ∃ p q, p < m ∧ q < m ∧ x = nI p ∧ y = nI q ∧ v = gc_or (V p) (V q)) ∨
  (k = 3 ∧ ∃ p q, p < m ∧ q < m ∧ x = nI p ∧ y = nI q ∧ v = gc_or (V p) (V q)) ∨
  (k = 4 ∧ ∃ p q, p < m ∧ q < m ∧ x = nI p ∧ y = nI q ∧ v = gc_or (V p) (V q)) ∨
  (k = 5 ∧ v = 0 ∧ ∃ p, p < m ∧ x = nI p ∧ V p = 1) ∨
  (k = 6 ∧ v = 1 ∧ ∃ p, p < m ∧ x = nI p ∧ V p = 1) ∨
  (k = 7 ∧ v = 0 ∧ ∃ p, p < m ∧ x = nI p ∧ V p = 1 ∧ ∃ q, q < 4 ∧ y = nI q) ∨
  (k = 8 ∧ v = 1 ∧ ∃ p, p < m ∧ x = nI p ∧ V p = 0) ∨
  (k = 9 ∧ ∃ p, p < m ∧ x = nI p ∧ v = V p) ∨
  (k = 10 ∧ v = 1 ∧ ∃ p, p < m ∧ x = nI p ∧ V p = 1)
theorem gc_ru_congr {V : Nat → Int32} {m : Nat} {k x y v : Int32} (hm : m ≤ 12) (w : gc_N V m k x y v) {A A' : Nat → Int32} {b b' : Int32} {M M' : Nat → Nat → Int32} {Z Z' : Nat → Int32} {c c' : Nat → Nat → Int32} {i : Nat} (hi : i < 4)
    (hA : ∀ p, p < 12 → A p = A' p) (hb : b = b') (hM : ∀ p q, p < m → q < m → M p q = M' p q) (hZ : ∀ p, p < m → Z p = Z' p) (hc : ∀ p, p < m → ∀ j, j < 4 → c p j = c' p j) :
    gc_ru k x y A b M Z c i = gc_ru k x y A' b' M' Z' c' i := by
  rcases w with ⟨rfl, hv, p, hp, rfl⟩ | ⟨rfl, hv⟩ | ⟨rfl, p, q, hp, hq, rfl, rfl, hv⟩ | ⟨rfl, p, q, hp, hq, rfl, rfl, hv⟩ | ⟨rfl, p, q, hp, hq, rfl, rfl, hv⟩ | ⟨rfl, hv, p, hp, rfl, hw⟩ | ⟨rfl, hv, p, hp, rfl, hw⟩ | ⟨rfl, hv, p, hp, rfl, hw, q, hq, rfl⟩ | ⟨rfl, hv, p, hp, rfl, hw⟩ | ⟨rfl, p, hp, rfl, hv⟩ | ⟨rfl, hv, p, hp, rfl, hw⟩
  · rw [gc_ru_0 (by omega), gc_ru_0 (by omega)]; exact hA _ (by omega)
  · rw [gc_ru_1, gc_ru_1]; exact hb
  · rw [gc_ru_2 (by omega) (by omega), gc_ru_2 (by omega) (by omega), hc p hp i hi, hc q hq i hi]
  · rw [gc_ru_3 (by omega) (by omega), gc_ru_3 (by omega) (by omega), hc p hp i hi, hc q hq i hi]
  · rw [gc_ru_4 (by omega) (by omega), gc_ru_4 (by omega) (by omega)]; exact hM p q hp hq
  · rw [gc_ru_5 (by omega), gc_ru_5 (by omega)]; exact gc_sm_congr 4 (fun j hj => hc p hp j hj)
  · rw [gc_ru_6 (by omega), gc_ru_6 (by omega)]; exact hc p hp _ (Nat.mod_lt _ (by omega))
  · rw [gc_ru_7 (by omega) (by omega), gc_ru_7 (by omega) (by omega)]; exact hc p hp q hq
  · rw [gc_ru_8 (by omega), gc_ru_8 (by omega)]; exact hc p hp i hi
  · rw [gc_ru_9 (by omega), gc_ru_9 (by omega)]; exact hZ p hp
  · rw [gc_ru_10 (by omega), gc_ru_10 (by omega)]; exact gc_sm_congr (i + 1) (fun j hj => hc p hp j (by omega))
theorem gc_01 : ¬ (0 : Int32) = 1 := by decide
theorem gc_ru_uni {V : Nat → Int32} {m : Nat} {k x y : Int32} (hm : m ≤ 12) (w : gc_N V m k x y 0) {A : Nat → Int32} {b : Int32} (M : Nat → Nat → Nat → Int32) (Z : Nat → Nat → Int32) {c : Nat → Nat → Int32} {i : Nat}
    (hM : ∀ p q, p < m → q < m → V p = 0 → V q = 0 → M i p q = M 0 p q) (hZ : ∀ p, p < m → V p = 0 → Z i p = Z 0 p) (hc : ∀ p, p < m → V p = 0 → c p i = c p 0) :
    gc_ru k x y A b (M i) (Z i) c i = gc_ru k x y A b (M 0) (Z 0) c 0 := by
  rcases w with ⟨rfl, hv, p, hp, rfl⟩ | ⟨rfl, hv⟩ | ⟨rfl, p, q, hp, hq, rfl, rfl, hv⟩ | ⟨rfl, p, q, hp, hq, rfl, rfl, hv⟩ | ⟨rfl, p, q, hp, hq, rfl, rfl, hv⟩ | ⟨rfl, hv, p, hp, rfl, hw⟩ | ⟨rfl, hv, p, hp, rfl, hw⟩ | ⟨rfl, hv, p, hp, rfl, hw, q, hq, rfl⟩ | ⟨rfl, hv, p, hp, rfl, hw⟩ | ⟨rfl, p, hp, rfl, hv⟩ | ⟨rfl, hv, p, hp, rfl, hw⟩
  · exact absurd hv gc_01
  · rw [gc_ru_1, gc_ru_1]
  · obtain ⟨h1, h2⟩ := gc_or_0 hv
    rw [gc_ru_2 (by omega) (by omega), gc_ru_2 (by omega) (by omega), hc p hp h1, hc q hq h2]
  · obtain ⟨h1, h2⟩ := gc_or_0 hv
    rw [gc_ru_3 (by omega) (by omega), gc_ru_3 (by omega) (by omega), hc p hp h1, hc q hq h2]
  · obtain ⟨h1, h2⟩ := gc_or_0 hv
    rw [gc_ru_4 (by omega) (by omega), gc_ru_4 (by omega) (by omega)]; exact hM p q hp hq h1 h2
  · rw [gc_ru_5 (by omega), gc_ru_5 (by omega)]
  · exact absurd hv gc_01
  · rw [gc_ru_7 (by omega) (by omega), gc_ru_7 (by omega) (by omega)]
  · exact absurd hv gc_01
  · rw [gc_ru_9 (by omega), gc_ru_9 (by omega)]; exact hZ p hp hv.symm
  · exact absurd hv gc_01
theorem gc_ru_lin {V : Nat → Int32} {m : Nat} {k x y v : Int32} (hm : m ≤ 12) (w : gc_N V m k x y v) {A B C : Nat → Int32} {z : Int32} {va c d e : Nat → Nat → Int32} {i : Nat} (hi : i < 4)
    (hA : ∀ p, p < 12 → A p = B p + C p * z) (hc : ∀ p, p < m → ∀ j, j < 4 → c p j = d p j + e p j * z) :
    gc_ru k x y A 0 (fun p q => c p i * va q i + va p i * c q i) (fun p => if 0 < va p i then c p i else 0) c i
      = gc_ru k x y B 0 (fun p q => d p i * va q i + va p i * d q i) (fun p => if 0 < va p i then d p i else 0) d i
        + gc_ru k x y C 0 (fun p q => e p i * va q i + va p i * e q i) (fun p => if 0 < va p i then e p i else 0) e i * z := by
  rcases w with ⟨rfl, hv, p, hp, rfl⟩ | ⟨rfl, hv⟩ | ⟨rfl, p, q, hp, hq, rfl, rfl, hv⟩ | ⟨rfl, p, q, hp, hq, rfl, rfl, hv⟩ | ⟨rfl, p, q, hp, hq, rfl, rfl, hv⟩ | ⟨rfl, hv, p, hp, rfl, hw⟩ | ⟨rfl, hv, p, hp, rfl, hw⟩ | ⟨rfl, hv, p, hp, rfl, hw, q, hq, rfl⟩ | ⟨rfl, hv, p, hp, rfl, hw⟩ | ⟨rfl, p, hp, rfl, hv⟩ | ⟨rfl, hv, p, hp, rfl, hw⟩
  · rw [gc_ru_0 (by omega), gc_ru_0 (by omega), gc_ru_0 (by omega)]; exact hA _ (by omega)
  · rw [gc_ru_1, gc_ru_1, gc_ru_1]; grind
  · have h1 := hc p hp i hi
    have h2 := hc q hq i hi
    rw [gc_ru_2 (by omega) (by omega), gc_ru_2 (by omega) (by omega), gc_ru_2 (by omega) (by omega), h1, h2]; grind
  · have h1 := hc p hp i hi
    have h2 := hc q hq i hi
    rw [gc_ru_3 (by omega) (by omega), gc_ru_3 (by omega) (by omega), gc_ru_3 (by omega) (by omega), h1, h2]; grind
  · have h1 := hc p hp i hi
    have h2 := hc q hq i hi
    rw [gc_ru_4 (by omega) (by omega), gc_ru_4 (by omega) (by omega), gc_ru_4 (by omega) (by omega)]
    try dsimp only
    rw [h1, h2]; grind
  · rw [gc_ru_5 (by omega), gc_ru_5 (by omega), gc_ru_5 (by omega)]; exact gc_sm_lin 4 (fun j hj => hc p hp j hj)
  · rw [gc_ru_6 (by omega), gc_ru_6 (by omega), gc_ru_6 (by omega)]; exact hc p hp _ (Nat.mod_lt _ (by omega))
  · rw [gc_ru_7 (by omega) (by omega), gc_ru_7 (by omega) (by omega), gc_ru_7 (by omega) (by omega)]; exact hc p hp q hq
  · rw [gc_ru_8 (by omega), gc_ru_8 (by omega), gc_ru_8 (by omega)]; exact hc p hp i hi
  · have h1 := hc p hp i hi
    rw [gc_ru_9 (by omega), gc_ru_9 (by omega), gc_ru_9 (by omega)]
    try dsimp only
    by_cases hz : 0 < va p i
    · rw [if_pos hz, if_pos hz, if_pos hz]; exact h1
    · rw [if_neg hz, if_neg hz, if_neg hz]; grind
  · rw [gc_ru_10 (by omega), gc_ru_10 (by omega), gc_ru_10 (by omega)]; exact gc_sm_lin (i + 1) (fun j hj => hc p hp j (by omega))
end GCA
