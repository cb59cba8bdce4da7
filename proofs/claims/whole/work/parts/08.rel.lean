section GR
/-- the same nodes, inputs, directions on both sides; the component's kept values hold -/
def i_Rel (k : Nat) (u : SX) (v : SY) : Prop :=
  ∃ (n : Nat) (lv : Int32) (IN DI sp K X Y V va fi se bo st on tw pl f1 f2 f3 sl : Nat → Int32), n ≤ 12 ∧ gc_W K X Y V n ∧ gc_C K X Y IN va st n ∧
    u = (nI n, lv, IN, DI, sp, K, X, Y, V, va, fi, se, bo, st) ∧ v = (nI n, K, X, Y, V, IN, DI, on, tw, pl, f1, f2, f3, sl)
theorem gr_mk {k n : Nat} {lv : Int32} {IN DI sp K X Y V va fi se bo st on tw pl f1 f2 f3 sl : Nat → Int32} (hn : n ≤ 12) (w : gc_W K X Y V n) (c : gc_C K X Y IN va st n) : i_Rel k (nI n, lv, IN, DI, sp, K, X, Y, V, va, fi, se, bo, st) (nI n, K, X, Y, V, IN, DI, on, tw, pl, f1, f2, f3, sl) :=
  ⟨n, lv, IN, DI, sp, K, X, Y, V, va, fi, se, bo, st, on, tw, pl, f1, f2, f3, sl, hn, w, c, rfl, rfl⟩
theorem i_up {k : Nat} {u : SX} {v : SY} (h : i_Rel k u v) : i_Rel (k + 5) u v := h
theorem i_vc0 : wpX_init (fun u => wpY_init (fun v => i_Rel 0 u v)) :=
  gr_mk (k := 0) (n := 0) (Nat.zero_le _) gc_W_0 (gc_C_forget (fun _ _ => rfl))
section
variable {n : Nat} {lv : Int32} {IN DI sp K X Y V va fi se bo : Nat → Int32} {post : Int32 → SX → Prop} {x1 x2 : Int32}
theorem gx_f12 (hp : ∀ st' : Nat → Int32, (∀ e, e < 3 → st' e = 0) → post x1 (x2, lv, IN, DI, sp, K, X, Y, V, va, fi, se, bo, st')) : ∀ (d j : Nat) (st : Nat → Int32), j + d = 3 → (∀ e, e < j → st e = 0) →
    wX_forget_12 post x1 x2 lv (d + 1) (nI j) IN DI sp K X Y V va fi se bo st := by
  intro d
  induction d with
  | zero =>
    intro j st hj h
    have e : j = 3 := by omega
    subst e
    exact br_t (nI_le (a := 3) (Nat.le_refl _) (by omega)) (hp st h)
  | succ d ih =>
    intro j st hj h
    refine br_f (nI_ge (b := 3) (by omega) (by omega)) ⟨vp_in_nI (by omega) (by omega), nm_r (e' := upd st j 0) (by rw [nI_clamp (by omega)]) (nm_r (nI_1 j) (ih (j + 1) _ (by omega) ?_))⟩
    intro e he
    by_cases E : e = j
    · subst E; exact gc_us
    · rw [gc_un E]; exact h e (by omega)
end
theorem i_vc_forget {k : Nat} {u : SX} {v : SY} (I : i_Rel k u v) (hk : k + 5 ≤ 2560) : wpX_forget (fun r u' => wpY_forget (fun r' v' => r' = r ∧ i_Rel (k + 5) u' v') v) u := by
  obtain ⟨n, lv, IN, DI, sp, K, X, Y, V, va, fi, se, bo, st, on, tw, pl, f1, f2, f3, sl, hn, w, c, rfl, rfl⟩ := I
  exact ⟨4, gx_f12 (fun st' h => And.intro rfl (gr_mk (n := 0) (Nat.zero_le _) gc_W_0 (gc_C_forget h))) 3 0 st rfl (fun e he => absurd he (Nat.not_lt_zero e))⟩
theorem i_vc_level {k : Nat} {u : SX} {v : SY} (I : i_Rel k u v) (hk : k + 5 ≤ 2560) (v1 : Int32) : wpX_level (fun r u' => wpY_level (fun r' => r' = r ∧ i_Rel (k + 5) u' v) v v1) u v1 := by
  obtain ⟨n, lv, IN, DI, sp, K, X, Y, V, va, fi, se, bo, st, on, tw, pl, f1, f2, f3, sl, hn, w, c, rfl, rfl⟩ := I
  have z : (0 : Int32).toInt = 0 := by decide
  have t : (2 : Int32).toInt = 2 := by decide
  refine br_c (fun a => ?_) (fun a => br_c (fun b => ?_) (fun b => ?_))
  · unfold wpY_level
    refine gy_in gy_2 (by omega) (fun h => ?_) (fun h => ⟨gc_01b, rfl, gr_mk hn w c⟩)
    rw [gc_in_iff (by omega)] at h
    rw [Int32.lt_iff_toInt_lt, z] at a
    omega
  · unfold wpY_level
    refine gy_in gy_2 (by omega) (fun h => ⟨gc_11b, rfl, gr_mk hn w c⟩) (fun h => ?_)
    rw [gc_in_iff (by omega)] at h
    rw [Int32.lt_iff_toInt_lt, z] at a
    rw [Int32.le_iff_toInt_le, t] at b
    omega
  · unfold wpY_level
    refine gy_in gy_2 (by omega) (fun h => ?_) (fun h => ⟨gc_01b, rfl, gr_mk hn w c⟩)
    rw [gc_in_iff (by omega)] at h
    rw [Int32.lt_iff_toInt_lt, z] at a
    rw [Int32.le_iff_toInt_le, t] at b
    omega
theorem gc_a12 (e p : Nat) : nI e * 12 + nI p = nI (12 * e + p) := by
  rw [gc_m12, nI_add, Nat.mul_comm]
theorem gc_b12 (e p : Nat) : 12 * nI e + nI p = nI (12 * e + p) := by
  rw [gc_12m, nI_add]
section
variable {n : Nat} {K X Y V IN DI on tw pl f1 f2 f3 sl : Nat → Int32} {post : Int32 → SY → Prop} {x y z : Int32} {e p : Nat}
theorem gy_set_g (he : e < 3) (hp : p < 12) (h : post 1 (nI n, K, X, Y, V, upd IN (12 * e + p) z, DI, on, tw, pl, f1, f2, f3, sl)) : wpY_set post (nI n, K, X, Y, V, IN, DI, on, tw, pl, f1, f2, f3, sl) (nI p) (nI e) z := by
  unfold wpY_set
  refine gy_isPlace (fun _ _ => br_f gc_10 ?_) (fun g => absurd ⟨⟨p, hp, rfl⟩, ⟨e, he, rfl⟩⟩ g)
  rw [gc_b12, nI_clamp (by omega)]
  exact ⟨vp_in_nI (by omega) (by omega), nm_e h⟩
theorem gy_set_b (g : ¬ (gc_in 12 x ∧ gc_in 3 y)) (h : post 0 (nI n, K, X, Y, V, IN, DI, on, tw, pl, f1, f2, f3, sl)) : wpY_set post (nI n, K, X, Y, V, IN, DI, on, tw, pl, f1, f2, f3, sl) x y z := by
  unfold wpY_set
  exact gy_isPlace (fun a b => absurd ⟨a, b⟩ g) (fun _ => br_t rfl h)
theorem gy_aim_g (he : e < 3) (hp : p < 12) (h : post 1 (nI n, K, X, Y, V, IN, upd DI (12 * e + p) z, on, tw, pl, f1, f2, f3, sl)) : wpY_aim post (nI n, K, X, Y, V, IN, DI, on, tw, pl, f1, f2, f3, sl) (nI p) (nI e) z := by
  unfold wpY_aim
  refine gy_isPlace (fun _ _ => br_f gc_10 ?_) (fun g => absurd ⟨⟨p, hp, rfl⟩, ⟨e, he, rfl⟩⟩ g)
  rw [gc_b12, nI_clamp (by omega)]
  exact ⟨vp_in_nI (by omega) (by omega), nm_e h⟩
theorem gy_aim_b (g : ¬ (gc_in 12 x ∧ gc_in 3 y)) (h : post 0 (nI n, K, X, Y, V, IN, DI, on, tw, pl, f1, f2, f3, sl)) : wpY_aim post (nI n, K, X, Y, V, IN, DI, on, tw, pl, f1, f2, f3, sl) x y z := by
  unfold wpY_aim
  exact gy_isPlace (fun a b => absurd ⟨a, b⟩ g) (fun _ => br_t rfl h)
end
theorem i_vc_set {k : Nat} {u : SX} {v : SY} (I : i_Rel k u v) (hk : k + 5 ≤ 2560) (v1 : Int32) (v2 : Int32) (v3 : Int32) : wpX_set (fun r u' => wpY_set (fun r' v' => r' = r ∧ i_Rel (k + 5) u' v') v v1 v2 v3) u v1 v2 v3 := by
  obtain ⟨n, lv, IN, DI, sp, K, X, Y, V, va, fi, se, bo, st, on, tw, pl, f1, f2, f3, sl, hn, w, c, rfl, rfl⟩ := I
  unfold wpX_set
  refine gx_isPlace (fun a => br_f gc_10 ?_) (fun a => br_t rfl (gy_set_b (fun g => a g.1) ⟨rfl, gr_mk hn w c⟩))
  refine gx_isExample (fun b => br_f gc_10 ?_) (fun b => br_t rfl (gy_set_b (fun g => b g.2) ⟨rfl, gr_mk hn w c⟩))
  obtain ⟨p, hp, rfl⟩ := a
  obtain ⟨e, he, rfl⟩ := b
  rw [gc_a12, nI_clamp (by omega), nI_clamp (n := e) (by omega)]
  refine ⟨vp_in_nI (by omega) (by omega), nm_e ⟨vp_in_nI (by omega) (by omega), nm_e (gy_set_g he hp ⟨rfl, gr_mk hn w (gc_C_0 hn w ?_ c)⟩)⟩⟩
  intro e' he' ne q hq
  exact (gc_un (by omega)).symm
theorem i_vc_aim {k : Nat} {u : SX} {v : SY} (I : i_Rel k u v) (hk : k + 5 ≤ 2560) (v1 : Int32) (v2 : Int32) (v3 : Int32) : wpX_aim (fun r u' => wpY_aim (fun r' v' => r' = r ∧ i_Rel (k + 5) u' v') v v1 v2 v3) u v1 v2 v3 := by
  obtain ⟨n, lv, IN, DI, sp, K, X, Y, V, va, fi, se, bo, st, on, tw, pl, f1, f2, f3, sl, hn, w, c, rfl, rfl⟩ := I
  unfold wpX_aim
  refine gx_isPlace (fun a => br_f gc_10 ?_) (fun a => br_t rfl (gy_aim_b (fun g => a g.1) ⟨rfl, gr_mk hn w c⟩))
  refine gx_isExample (fun b => br_f gc_10 ?_) (fun b => br_t rfl (gy_aim_b (fun g => b g.2) ⟨rfl, gr_mk hn w c⟩))
  obtain ⟨p, hp, rfl⟩ := a
  obtain ⟨e, he, rfl⟩ := b
  rw [gc_a12, nI_clamp (by omega)]
  exact ⟨vp_in_nI (by omega) (by omega), nm_e (gy_aim_g he hp ⟨rfl, gr_mk hn w c⟩)⟩
theorem i_vc_input {k : Nat} {u : SX} {v : SY} (I : i_Rel k u v) (hk : k + 5 ≤ 2560) (v1 : Int32) (v2 : Int32) : wpX_input (fun r => wpY_input (fun r' => r' = r ∧ i_Rel (k + 5) u v) v v1 v2) u v1 v2 := by
  obtain ⟨n, lv, IN, DI, sp, K, X, Y, V, va, fi, se, bo, st, on, tw, pl, f1, f2, f3, sl, hn, w, c, rfl, rfl⟩ := I
  have R : i_Rel (k + 5) (nI n, lv, IN, DI, sp, K, X, Y, V, va, fi, se, bo, st) (nI n, K, X, Y, V, IN, DI, on, tw, pl, f1, f2, f3, sl) := gr_mk hn w c
  have B : ¬ (gc_in 12 v1 ∧ gc_in 3 v2) → wpY_input (fun r' => r' = 0 ∧ i_Rel (k + 5) (nI n, lv, IN, DI, sp, K, X, Y, V, va, fi, se, bo, st) (nI n, K, X, Y, V, IN, DI, on, tw, pl, f1, f2, f3, sl)) (nI n, K, X, Y, V, IN, DI, on, tw, pl, f1, f2, f3, sl) v1 v2 := by
    intro g
    unfold wpY_input
    exact gy_isPlace (fun a b => absurd ⟨a, b⟩ g) (fun _ => br_t rfl ⟨rfl, R⟩)
  unfold wpX_input
  refine gx_isPlace (fun a => br_f gc_10 ?_) (fun a => br_t rfl (B (fun g => a g.1)))
  refine gx_isExample (fun b => br_f gc_10 ?_) (fun b => br_t rfl (B (fun g => b g.2)))
  obtain ⟨p, hp, rfl⟩ := a
  obtain ⟨e, he, rfl⟩ := b
  rw [gc_a12, nI_clamp (by omega)]
  refine ⟨vp_in_nI (by omega) (by omega), ?_⟩
  unfold wpY_input
  refine gy_isPlace (fun _ _ => br_f gc_10 ?_) (fun g => absurd ⟨⟨p, hp, rfl⟩, ⟨e, he, rfl⟩⟩ g)
  rw [gc_b12, nI_clamp (by omega)]
  exact ⟨vp_in_nI (by omega) (by omega), rfl, R⟩
theorem i_vc_isVector {k : Nat} {u : SX} {v : SY} (I : i_Rel k u v) (hk : k + 5 ≤ 2560) (v1 : Int32) : wpX_isVector (fun r => wpY_isVector (fun r' => r' = r ∧ i_Rel (k + 5) u v) v v1) u v1 := by
  obtain ⟨n, lv, IN, DI, sp, K, X, Y, V, va, fi, se, bo, st, on, tw, pl, f1, f2, f3, sl, hn, w, c, rfl, rfl⟩ := I
  have R : i_Rel (k + 5) (nI n, lv, IN, DI, sp, K, X, Y, V, va, fi, se, bo, st) (nI n, K, X, Y, V, IN, DI, on, tw, pl, f1, f2, f3, sl) := gr_mk hn w c
  unfold wpX_isVector
  refine gx_isNode hn (fun a => br_f gc_10 ?_) (fun a => br_t rfl ?_)
  · have a' := a
    obtain ⟨m, hm, rfl⟩ := a
    have v12 : vp_in (nI m) 12 := vp_in_nI (by omega) (by omega)
    have km : (nI m).toNatClampNeg = m := nI_clamp (by omega)
    refine ⟨v12, br_c (fun z => ?_) (fun z => ?_)⟩
    · unfold wpY_isVector
      exact gy_isNode hn (fun _ => br_f gc_10 ⟨v12, br_t z ⟨rfl, R⟩⟩) (fun g => absurd a' g)
    · unfold wpY_isVector
      exact gy_isNode hn (fun _ => br_f gc_10 ⟨v12, br_f z ⟨rfl, R⟩⟩) (fun g => absurd a' g)
  · unfold wpY_isVector
    exact gy_isNode hn (fun g => absurd g a) (fun _ => br_t rfl ⟨rfl, R⟩)
end GR
