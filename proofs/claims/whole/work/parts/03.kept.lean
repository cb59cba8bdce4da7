section GCK
/-! numbers within, kept values, cells written one by one -/
def gc_in (N : Nat) (x : Int32) : Prop := ∃ j, j < N ∧ x = nI j
theorem gc_in_iff {N : Nat} {x : Int32} (hN : N < 2 ^ 31) : gc_in N x ↔ 0 ≤ x.toInt ∧ x.toInt < N := by
  constructor
  · intro ⟨j, hj, e⟩
    rw [e, nI_toInt (by omega)]
    omega
  · intro h
    exact vp_in_of (vp_in_iff.mpr h) hN
theorem gc_m4 (a : Nat) : nI a * 4 = nI (a * 4) := gc_mul a 4
theorem gc_m12 (a : Nat) : nI a * 12 = nI (a * 12) := gc_mul a 12
theorem gc_4m (a : Nat) : 4 * nI a = nI (4 * a) := gc_mul 4 a
theorem gc_12m (a : Nat) : 12 * nI a = nI (12 * a) := gc_mul 12 a
theorem gc_im {a b : Nat} (h : nI a = nI b) (ha : a < 2 ^ 31) (hb : b < 2 ^ 31) : a = b := (nI_eq ha hb).mp h
theorem gc_10 : ¬ (1 : Int32) = 0 := by decide
def gc_C (K X Y IN va st : Nat → Int32) (n : Nat) : Prop := ∀ e, e < 3 → ∃ q, q ≤ n ∧ st e = nI q ∧ ∀ p, p < q → ∀ j, j < 4 → va ((e * 12 + p) * 4 + j) = gc_V K X Y (fun c => IN (12 * e + c)) p j
def gc_P (F : Nat → Nat → Int32) (e : Nat) (va : Nat → Int32) (m i : Nat) : Prop := (∀ p, p < m → ∀ j, j < 4 → va ((e * 12 + p) * 4 + j) = F p j) ∧ (∀ j, j < i → va ((e * 12 + m) * 4 + j) = F m j)
section
variable {K X Y V IN va st : Nat → Int32} {n e m i : Nat} {F : Nat → Nat → Int32}
theorem gc_P_0 : gc_P F e va 0 0 := ⟨fun p hp => absurd hp (Nat.not_lt_zero p), fun j hj => absurd hj (Nat.not_lt_zero j)⟩
theorem gc_P_s (h : gc_P F e va m 4) : gc_P F e va (m + 1) 0 := by
  refine ⟨fun p hp j hj => ?_, fun j hj => absurd hj (Nat.not_lt_zero j)⟩
  by_cases E : p = m
  · subst E; exact h.2 j hj
  · exact h.1 p (by omega) j hj
theorem gc_P_w (hi : i < 4) (h : gc_P F e va m i) : gc_P F e (upd va ((e * 12 + m) * 4 + i) (F m i)) m (i + 1) := by
  refine ⟨fun p hp j hj => ?_, fun j hj => ?_⟩
  · rw [gc_un (by omega)]; exact h.1 p hp j hj
  · by_cases E : j = i
    · subst E; exact gc_us
    · rw [gc_un (by omega)]; exact h.2 j (by omega)
theorem gc_P_at (h : gc_P F e va (m + 1) 0) (hi : i < 4) : va ((e * 12 + m) * 4 + i) = F m i := h.1 m (by omega) i hi
theorem gc_C_w (hn : n ≤ 12) (he : e < 3) (hm : m < 12) (hi : i < 4) (C : gc_C K X Y IN va st n) : gc_C K X Y IN (upd va ((e * 12 + m) * 4 + i) (gc_V K X Y (fun c => IN (12 * e + c)) m i)) st n := by
  intro e' he'
  obtain ⟨q, hq, hs, h⟩ := C e' he'
  refine ⟨q, hq, hs, fun p hp j hj => ?_⟩
  by_cases E : (e' * 12 + p) * 4 + j = (e * 12 + m) * 4 + i
  · have e1 : e' = e := by omega
    subst e1
    have e2 : p = m := by omega
    subst e2
    have e3 : j = i := by omega
    subst e3
    exact gc_us
  · rw [gc_un E]; exact h p hp j hj
theorem gc_C_st {q : Nat} (he : e < 3) (hq : q ≤ n) (h : ∀ p, p < q → ∀ j, j < 4 → va ((e * 12 + p) * 4 + j) = gc_V K X Y (fun c => IN (12 * e + c)) p j) (C : gc_C K X Y IN va st n) : gc_C K X Y IN va (upd st e (nI q)) n := by
  intro e' he'
  by_cases E : e' = e
  · subst E; exact ⟨q, hq, gc_us, h⟩
  · obtain ⟨q', hq', hs, h'⟩ := C e' he'
    exact ⟨q', hq', by rw [gc_un E]; exact hs, h'⟩
theorem gc_C_0 {IN' : Nat → Int32} (hn : n ≤ 12) (w : gc_W K X Y V n) (h : ∀ e', e' < 3 → e' ≠ e → ∀ c, c < 12 → IN (12 * e' + c) = IN' (12 * e' + c)) (C : gc_C K X Y IN va st n) : gc_C K X Y IN' va (upd st e 0) n := by
  intro e' he'
  by_cases E : e' = e
  · subst E; exact ⟨0, Nat.zero_le _, gc_us, fun p hp => absurd hp (Nat.not_lt_zero p)⟩
  · obtain ⟨q', hq', hs, h'⟩ := C e' he'
    refine ⟨q', hq', by rw [gc_un E]; exact hs, fun p hp j hj => ?_⟩
    rw [h' p hp j hj]
    exact gc_V_congr hn w (fun _ _ => ⟨rfl, rfl, rfl⟩) (h e' he' E) p (by omega) j hj
theorem gc_C_node {k x y : Int32} (hn : n ≤ 12) (w : gc_W K X Y V n) (C : gc_C K X Y IN va st n) : gc_C (upd K n k) (upd X n x) (upd Y n y) IN va st (n + 1) := by
  intro e' he'
  obtain ⟨q', hq', hs, h'⟩ := C e' he'
  refine ⟨q', by omega, hs, fun p hp j hj => ?_⟩
  rw [h' p hp j hj]
  exact gc_V_congr hn w (fun m hm => ⟨gc_un (by omega), gc_un (by omega), gc_un (by omega)⟩) (fun _ _ => rfl) p (by omega) j hj
theorem gc_C_forget (h : ∀ e, e < 3 → st e = 0) : gc_C K X Y IN va st 0 :=
  fun e he => ⟨0, Nat.le_refl _, h e he, fun p hp => absurd hp (Nat.not_lt_zero p)⟩
theorem gc_N_V {V' : Nat → Int32} {k x y v : Int32} (h : ∀ p, p < m → V' p = V p) (w : gc_N V m k x y v) : gc_N V' m k x y v := by
  unfold gc_N at w ⊢
  rcases w with w | w | ⟨e, p, q, hp, hq, w1, w2, w3⟩ | ⟨e, p, q, hp, hq, w1, w2, w3⟩ | ⟨e, p, q, hp, hq, w1, w2, w3⟩ | ⟨e, f, p, hp, w1, w2⟩ | ⟨e, f, p, hp, w1, w2⟩ | ⟨e, f, p, hp, w1, w2, w3⟩ | ⟨e, f, p, hp, w1, w2⟩ | ⟨e, p, hp, w1, w2⟩ | ⟨e, f, p, hp, w1, w2⟩
  · exact Or.inl w
  · exact Or.inr (Or.inl w)
  · exact Or.inr (Or.inr (Or.inl ⟨e, p, q, hp, hq, w1, w2, by rw [h p hp, h q hq]; exact w3⟩))
  · exact Or.inr (Or.inr (Or.inr (Or.inl ⟨e, p, q, hp, hq, w1, w2, by rw [h p hp, h q hq]; exact w3⟩)))
  · exact Or.inr (Or.inr (Or.inr (Or.inr (Or.inl ⟨e, p, q, hp, hq, w1, w2, by rw [h p hp, h q hq]; exact w3⟩))))
  · exact Or.inr (Or.inr (Or.inr (Or.inr (Or.inr (Or.inl ⟨e, f, p, hp, w1, by rw [h p hp]; exact w2⟩)))))
  · exact Or.inr (Or.inr (Or.inr (Or.inr (Or.inr (Or.inr (Or.inl ⟨e, f, p, hp, w1, by rw [h p hp]; exact w2⟩))))))
  · exact Or.inr (Or.inr (Or.inr (Or.inr (Or.inr (Or.inr (Or.inr (Or.inl ⟨e, f, p, hp, w1, by rw [h p hp]; exact w2, w3⟩)))))))
  · exact Or.inr (Or.inr (Or.inr (Or.inr (Or.inr (Or.inr (Or.inr (Or.inr (Or.inl ⟨e, f, p, hp, w1, by rw [h p hp]; exact w2⟩))))))))
  · exact Or.inr (Or.inr (Or.inr (Or.inr (Or.inr (Or.inr (Or.inr (Or.inr (Or.inr (Or.inl ⟨e, p, hp, w1, by rw [h p hp]; exact w2⟩)))))))))
  · exact Or.inr (Or.inr (Or.inr (Or.inr (Or.inr (Or.inr (Or.inr (Or.inr (Or.inr (Or.inr ⟨e, f, p, hp, w1, by rw [h p hp]; exact w2⟩)))))))))
theorem gc_W_node {k x y v : Int32} (w : gc_W K X Y V n) (hv : v = 0 ∨ v = 1) (h : gc_N V n k x y v) : gc_W (upd K n k) (upd X n x) (upd Y n y) (upd V n v) (n + 1) := by
  intro m hm
  by_cases E : m = n
  · subst E
    rw [gc_us, gc_us, gc_us, gc_us]
    exact ⟨gc_N_V (fun p hp => gc_un (by omega)) h, hv⟩
  · rw [gc_un E, gc_un E, gc_un E, gc_un E]
    have := w m (by omega)
    exact ⟨gc_N_V (fun p hp => gc_un (by omega)) this.1, this.2⟩
theorem gc_W_0 : gc_W K X Y V 0 := fun m hm => absurd hm (Nat.not_lt_zero m)
end
/-! the reference's cells: a number has one, a vector four -/
def gc_ac (V pl : Nat → Int32) (p j : Nat) : Int32 := pl (4 * p + (if V p = 0 then 0 else j))
def gc_Q (V : Nat → Int32) (F : Nat → Nat → Int32) (pl : Nat → Int32) (m i : Nat) : Prop := (∀ p, p < m → ∀ j, j < 4 → gc_ac V pl p j = F p j) ∧ (∀ j, j < i → (V m = 0 → j = 0) → pl (4 * m + j) = F m j)
section
variable {V pl : Nat → Int32} {m i : Nat} {F : Nat → Nat → Int32}
theorem gc_ac_0 {p j : Nat} (h : V p = 0) : gc_ac V pl p j = pl (4 * p) := by
  unfold gc_ac; rw [if_pos h]; rfl
theorem gc_ac_1 {p j : Nat} (h : ¬ V p = 0) : gc_ac V pl p j = pl (4 * p + j) := by
  unfold gc_ac; rw [if_neg h]
theorem gc_ac_v {p j : Nat} (h : V p = 1) : gc_ac V pl p j = pl (4 * p + j) := gc_ac_1 (by rw [h]; exact gc_10)
theorem gc_ac_c {p j : Nat} (h : V p = 0 → j = 0) : gc_ac V pl p j = pl (4 * p + j) := by
  by_cases z : V p = 0
  · rw [gc_ac_0 z, h z]; rfl
  · exact gc_ac_1 z
theorem gc_Q_0 : gc_Q V F pl 0 0 := ⟨fun p hp => absurd hp (Nat.not_lt_zero p), fun j hj => absurd hj (Nat.not_lt_zero j)⟩
theorem gc_Q_s (hu : V m = 0 → ∀ j, j < 4 → F m j = F m 0) (h : gc_Q V F pl m 4) : gc_Q V F pl (m + 1) 0 := by
  refine ⟨fun p hp j hj => ?_, fun j hj => absurd hj (Nat.not_lt_zero j)⟩
  by_cases E : p = m
  · subst E
    by_cases z : V p = 0
    · rw [gc_ac_0 z, hu z j hj]; exact h.2 0 (by omega) (fun _ => rfl)
    · rw [gc_ac_1 z]; exact h.2 j hj (fun z' => absurd z' z)
  · exact h.1 p (by omega) j hj
theorem gc_Q_w (hi : i < 4) (h : gc_Q V F pl m i) : gc_Q V F (upd pl (4 * m + i) (F m i)) m (i + 1) := by
  refine ⟨fun p hp j hj => ?_, fun j hj z => ?_⟩
  · rw [← h.1 p hp j hj]
    unfold gc_ac
    by_cases z : V p = 0
    · rw [if_pos z]; exact gc_un (by omega)
    · rw [if_neg z]; exact gc_un (by omega)
  · by_cases E : j = i
    · subst E; exact gc_us
    · rw [gc_un (by omega)]; exact h.2 j (by omega) z
theorem gc_Q_skip (hz : V m = 0) (hi : i ≠ 0) (h : gc_Q V F pl m i) : gc_Q V F pl m (i + 1) := by
  refine ⟨h.1, fun j hj z => ?_⟩
  by_cases E : j = i
  · exact absurd (z hz) (by omega)
  · exact h.2 j (by omega) z
theorem gc_Q_at {n : Nat} (h : gc_Q V F pl n 0) (hm : m < n) (hi : i < 4) (z : V m = 0 → i = 0) : pl (4 * m + i) = F m i := by
  exact (gc_ac_c (pl := pl) z).symm.trans (h.1 m hm i hi)
end
end GCK
