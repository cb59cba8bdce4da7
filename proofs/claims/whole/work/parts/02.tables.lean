section GCB
/-! values, derivatives, second derivatives over the tables K (kinds), X, Y (operands) -/
def gc_rv (K X Y s : Nat → Int32) (c : Nat → Nat → Int32) (m i : Nat) : Int32 :=
  gc_ru (K m) (X m) (Y m) s (X m) (fun p q => c p i * c q i) (fun p => if 0 < c p i then c p i else 0) c i
def gc_rd (K X Y t : Nat → Int32) (v c : Nat → Nat → Int32) (m i : Nat) : Int32 :=
  gc_ru (K m) (X m) (Y m) t 0 (fun p q => c p i * v q i + v p i * c q i) (fun p => if 0 < v p i then c p i else 0) c i
def gc_rb (K X Y : Nat → Int32) (v d e c : Nat → Nat → Int32) (m i : Nat) : Int32 :=
  gc_ru (K m) (X m) (Y m) (fun _ => 0) 0 (fun p q => c p i * v q i + d p i * e q i + e p i * d q i + v p i * c q i) (fun p => if 0 < v p i then c p i else 0) c i
def gc_V (K X Y s : Nat → Int32) : Nat → Nat → Int32 := gc_fx (gc_rv K X Y s)
def gc_D (K X Y s t : Nat → Int32) : Nat → Nat → Int32 := gc_fx (gc_rd K X Y t (gc_V K X Y s))
def gc_B (K X Y s t r : Nat → Int32) : Nat → Nat → Int32 := gc_fx (gc_rb K X Y (gc_V K X Y s) (gc_D K X Y s t) (gc_D K X Y s r))
def gc_W (K X Y V : Nat → Int32) (n : Nat) : Prop := ∀ m, m < n → gc_N V m (K m) (X m) (Y m) (V m) ∧ (V m = 0 ∨ V m = 1)
section STEPS
variable {K X Y V s t r A : Nat → Int32} {n m i : Nat} {v d e c : Nat → Nat → Int32}
theorem gc_V_eq : gc_V K X Y s m i = gc_rv K X Y s (gc_tb (gc_rv K X Y s) m) m i := rfl
theorem gc_D_eq : gc_D K X Y s t m i = gc_rd K X Y t (gc_V K X Y s) (gc_tb (gc_rd K X Y t (gc_V K X Y s)) m) m i := rfl
theorem gc_B_eq : gc_B K X Y s t r m i = gc_rb K X Y (gc_V K X Y s) (gc_D K X Y s t) (gc_D K X Y s r) (gc_tb (gc_rb K X Y (gc_V K X Y s) (gc_D K X Y s t) (gc_D K X Y s r)) m) m i := rfl
theorem gc_V_st (hn : n ≤ 12) (w : gc_W K X Y V n) (hm : m < n) (hi : i < 4) (hA : ∀ p, p < 12 → A p = s p) (hc : ∀ p, p < m → ∀ j, j < 4 → c p j = gc_V K X Y s p j) :
    gc_rv K X Y A c m i = gc_V K X Y s m i := by
  have hc' : ∀ p, p < m → ∀ j, j < 4 → c p j = gc_tb (gc_rv K X Y s) m p j := fun p hp j hj => (hc p hp j hj).trans (gc_tb_fx (gc_rv K X Y s) m p j hp).symm
  rw [gc_V_eq]
  generalize gc_tb (gc_rv K X Y s) m = T at hc' ⊢
  unfold gc_rv
  refine gc_ru_congr (by omega) (w m hm).1 hi hA rfl ?_ ?_ hc'
  · intro p q hp hq
    try dsimp only
    rw [hc' p hp i hi, hc' q hq i hi]
  · intro p hp
    try dsimp only
    rw [hc' p hp i hi]
theorem gc_D_st (hn : n ≤ 12) (w : gc_W K X Y V n) (hm : m < n) (hi : i < 4) (hA : ∀ p, p < 12 → A p = t p) (hv : ∀ p, p < m → ∀ j, j < 4 → v p j = gc_V K X Y s p j) (hc : ∀ p, p < m → ∀ j, j < 4 → c p j = gc_D K X Y s t p j) :
    gc_rd K X Y A v c m i = gc_D K X Y s t m i := by
  have hc' : ∀ p, p < m → ∀ j, j < 4 → c p j = gc_tb (gc_rd K X Y t (gc_V K X Y s)) m p j := fun p hp j hj => (hc p hp j hj).trans (gc_tb_fx (gc_rd K X Y t (gc_V K X Y s)) m p j hp).symm
  rw [gc_D_eq]
  generalize gc_tb (gc_rd K X Y t (gc_V K X Y s)) m = T at hc' ⊢
  unfold gc_rd
  refine gc_ru_congr (by omega) (w m hm).1 hi hA rfl ?_ ?_ hc'
  · intro p q hp hq
    try dsimp only
    rw [hc' p hp i hi, hc' q hq i hi, hv p hp i hi, hv q hq i hi]
  · intro p hp
    try dsimp only
    rw [hc' p hp i hi, hv p hp i hi]
theorem gc_B_st (hn : n ≤ 12) (w : gc_W K X Y V n) (hm : m < n) (hi : i < 4) (hv : ∀ p, p < m → ∀ j, j < 4 → v p j = gc_V K X Y s p j) (hd : ∀ p, p < m → ∀ j, j < 4 → d p j = gc_D K X Y s t p j) (he : ∀ p, p < m → ∀ j, j < 4 → e p j = gc_D K X Y s r p j) (hc : ∀ p, p < m → ∀ j, j < 4 → c p j = gc_B K X Y s t r p j) :
    gc_rb K X Y v d e c m i = gc_B K X Y s t r m i := by
  have hc' : ∀ p, p < m → ∀ j, j < 4 → c p j = gc_tb (gc_rb K X Y (gc_V K X Y s) (gc_D K X Y s t) (gc_D K X Y s r)) m p j := fun p hp j hj => (hc p hp j hj).trans (gc_tb_fx (gc_rb K X Y (gc_V K X Y s) (gc_D K X Y s t) (gc_D K X Y s r)) m p j hp).symm
  rw [gc_B_eq]
  generalize gc_tb (gc_rb K X Y (gc_V K X Y s) (gc_D K X Y s t) (gc_D K X Y s r)) m = T at hc' ⊢
  unfold gc_rb
  refine gc_ru_congr (by omega) (w m hm).1 hi (fun _ _ => rfl) rfl ?_ ?_ hc'
  · intro p q hp hq
    try dsimp only
    rw [hc' p hp i hi, hc' q hq i hi, hv p hp i hi, hv q hq i hi, hd p hp i hi, hd q hq i hi, he p hp i hi, he q hq i hi]
  · intro p hp
    try dsimp only
    rw [hc' p hp i hi, hv p hp i hi]
theorem gc_V_uni (hn : n ≤ 12) (w : gc_W K X Y V n) : ∀ m, m < n → V m = 0 → ∀ i, i < 4 → gc_V K X Y s m i = gc_V K X Y s m 0 := by
  intro m
  induction m using Nat.strongRecOn with
  | ind m ih =>
    intro hm h0 i hi
    have w' := (w m hm).1
    rw [h0] at w'
    have hu : ∀ p, p < m → V p = 0 → gc_tb (gc_rv K X Y s) m p i = gc_tb (gc_rv K X Y s) m p 0 := by
      intro p hp hz
      rw [gc_tb_fx _ m p i hp, gc_tb_fx _ m p 0 hp]
      exact ih p hp (by omega) hz i hi
    refine gc_ru_uni (by omega) w' (fun i p q => gc_tb (gc_rv K X Y s) m p i * gc_tb (gc_rv K X Y s) m q i) (fun i p => if 0 < gc_tb (gc_rv K X Y s) m p i then gc_tb (gc_rv K X Y s) m p i else 0) ?_ ?_ hu
    · intro p q hp hq h1 h2
      try dsimp only
      rw [hu p hp h1, hu q hq h2]
    · intro p hp h1
      try dsimp only
      rw [hu p hp h1]
theorem gc_D_uni (hn : n ≤ 12) (w : gc_W K X Y V n) : ∀ m, m < n → V m = 0 → ∀ i, i < 4 → gc_D K X Y s t m i = gc_D K X Y s t m 0 := by
  intro m
  induction m using Nat.strongRecOn with
  | ind m ih =>
    intro hm h0 i hi
    have w' := (w m hm).1
    rw [h0] at w'
    have hu : ∀ p, p < m → V p = 0 → gc_tb (gc_rd K X Y t (gc_V K X Y s)) m p i = gc_tb (gc_rd K X Y t (gc_V K X Y s)) m p 0 := by
      intro p hp hz
      rw [gc_tb_fx _ m p i hp, gc_tb_fx _ m p 0 hp]
      exact ih p hp (by omega) hz i hi
    have hq : ∀ p, p < m → V p = 0 → gc_V K X Y s p i = gc_V K X Y s p 0 := fun p hp hz => gc_V_uni hn w p (by omega) hz i hi
    refine gc_ru_uni (by omega) w' (fun i p q => gc_tb (gc_rd K X Y t (gc_V K X Y s)) m p i * gc_V K X Y s q i + gc_V K X Y s p i * gc_tb (gc_rd K X Y t (gc_V K X Y s)) m q i) (fun i p => if 0 < gc_V K X Y s p i then gc_tb (gc_rd K X Y t (gc_V K X Y s)) m p i else 0) ?_ ?_ hu
    · intro p q hp hq' h1 h2
      try dsimp only
      rw [hu p hp h1, hu q hq' h2, hq p hp h1, hq q hq' h2]
    · intro p hp h1
      try dsimp only
      rw [hu p hp h1, hq p hp h1]
theorem gc_B_uni (hn : n ≤ 12) (w : gc_W K X Y V n) : ∀ m, m < n → V m = 0 → ∀ i, i < 4 → gc_B K X Y s t r m i = gc_B K X Y s t r m 0 := by
  intro m
  induction m using Nat.strongRecOn with
  | ind m ih =>
    intro hm h0 i hi
    have w' := (w m hm).1
    rw [h0] at w'
    have hu : ∀ p, p < m → V p = 0 → gc_tb (gc_rb K X Y (gc_V K X Y s) (gc_D K X Y s t) (gc_D K X Y s r)) m p i = gc_tb (gc_rb K X Y (gc_V K X Y s) (gc_D K X Y s t) (gc_D K X Y s r)) m p 0 := by
      intro p hp hz
      rw [gc_tb_fx _ m p i hp, gc_tb_fx _ m p 0 hp]
      exact ih p hp (by omega) hz i hi
    have hq : ∀ p, p < m → V p = 0 → gc_V K X Y s p i = gc_V K X Y s p 0 := fun p hp hz => gc_V_uni hn w p (by omega) hz i hi
    have hd : ∀ p, p < m → V p = 0 → gc_D K X Y s t p i = gc_D K X Y s t p 0 := fun p hp hz => gc_D_uni hn w p (by omega) hz i hi
    have he : ∀ p, p < m → V p = 0 → gc_D K X Y s r p i = gc_D K X Y s r p 0 := fun p hp hz => gc_D_uni hn w p (by omega) hz i hi
    rw [gc_B_eq, gc_B_eq]
    generalize gc_tb (gc_rb K X Y (gc_V K X Y s) (gc_D K X Y s t) (gc_D K X Y s r)) m = T at hu ⊢
    unfold gc_rb
    refine gc_ru_uni (by omega) w' (fun i p q => T p i * gc_V K X Y s q i + gc_D K X Y s t p i * gc_D K X Y s r q i + gc_D K X Y s r p i * gc_D K X Y s t q i + gc_V K X Y s p i * T q i) (fun i p => if 0 < gc_V K X Y s p i then T p i else 0) ?_ ?_ hu
    · intro p q hp hq' h1 h2
      try dsimp only
      rw [hu p hp h1, hu q hq' h2, hq p hp h1, hq q hq' h2, hd p hp h1, hd q hq' h2, he p hp h1, he q hq' h2]
    · intro p hp h1
      try dsimp only
      rw [hu p hp h1, hq p hp h1]
/-- other tables and inputs that agree as far as is looked -/
theorem gc_V_congr {K' X' Y' s' : Nat → Int32} (hn : n ≤ 12) (w : gc_W K X Y V n) (hK : ∀ m, m < n → K' m = K m ∧ X' m = X m ∧ Y' m = Y m) (hs : ∀ p, p < 12 → s p = s' p) : ∀ m, m < n → ∀ i, i < 4 → gc_V K X Y s m i = gc_V K' X' Y' s' m i := by
  refine gc_fx_congr n ?_
  intro m hm c c' hc i hi
  obtain ⟨e1, e2, e3⟩ := hK m hm
  unfold gc_rv
  rw [e1, e2, e3]
  refine gc_ru_congr (by omega) (w m hm).1 hi hs rfl ?_ ?_ hc
  · intro p q hp hq
    try dsimp only
    rw [hc p hp i hi, hc q hq i hi]
  · intro p hp
    try dsimp only
    rw [hc p hp i hi]
theorem gc_D_lin {u : Nat → Int32} {z : Int32} (hn : n ≤ 12) (w : gc_W K X Y V n) (h : ∀ p, p < 12 → t p = u p + r p * z) : ∀ m, m < n → ∀ i, i < 4 → gc_D K X Y s t m i = gc_D K X Y s u m i + gc_D K X Y s r m i * z := by
  intro m
  induction m using Nat.strongRecOn with
  | ind m ih =>
    intro hm i hi
    have e (t : Nat → Int32) : gc_D K X Y s t m i = gc_rd K X Y t (gc_V K X Y s) (gc_D K X Y s t) m i :=
      (gc_D_st hn w hm hi (fun _ _ => rfl) (fun _ _ _ _ => rfl) (fun _ _ _ _ => rfl)).symm
    rw [e t, e u, e r]
    exact gc_ru_lin (by omega) (w m hm).1 hi h (fun p hp j hj => ih p hp (by omega) j hj)
theorem gc_D_seed {u : Nat → Int32} (hn : n ≤ 12) (w : gc_W K X Y V n) (h : ∀ p, p < 12 → t p = u p) (hm : m < n) (hi : i < 4) : gc_D K X Y s t m i = gc_D K X Y s u m i := by
  have := gc_D_lin (s := s) (t := t) (u := u) (r := t) (z := 0) hn w (fun p hp => by rw [h p hp]; grind) m hm i hi
  rw [this]; grind
theorem gc_D_zero (hn : n ≤ 12) (w : gc_W K X Y V n) (h : ∀ p, p < 12 → t p = 0) (hm : m < n) (hi : i < 4) : gc_D K X Y s t m i = 0 := by
  have := gc_D_lin (s := s) (t := t) (u := t) (r := t) (z := 1) hn w (fun p hp => by rw [h p hp]; decide) m hm i hi
  grind
end STEPS
end GCB
