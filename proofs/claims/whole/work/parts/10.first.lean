section GM
/-! value, slope, bend -/
theorem gc_sd_p {DI : Nat → Int32} {e q : Nat} {y : Int32} (h : gc_in 12 y) : gc_sd DI e y q = gc_un1 y q := by
  obtain ⟨p, hp, rfl⟩ := h
  have z : ¬ nI p = -1 := by
    intro z
    have := nI_pos (n := p) (by omega)
    rw [z] at this
    exact this (by decide)
  unfold gc_sd gc_un1
  rw [if_neg z]
theorem gc_sd_d {DI : Nat → Int32} {e q : Nat} : gc_sd DI e (-1) q = DI (12 * e + q) := if_pos rfl
theorem gc_B_seed {K X Y V s t t' r r' : Nat → Int32} {n : Nat} (hn : n ≤ 12) (w : gc_W K X Y V n) (ht : ∀ p, p < 12 → t p = t' p) (hr : ∀ p, p < 12 → r p = r' p) : ∀ m, m < n → ∀ i, i < 4 → gc_B K X Y s t r m i = gc_B K X Y s t' r' m i := by
  intro m
  induction m using Nat.strongRecOn with
  | ind m ih =>
    intro hm i hi
    have e : gc_rb K X Y (gc_V K X Y s) (gc_D K X Y s t) (gc_D K X Y s r) (gc_B K X Y s t r) m i = gc_B K X Y s t r m i :=
      gc_B_st hn w hm hi (fun _ _ _ _ => rfl) (fun _ _ _ _ => rfl) (fun _ _ _ _ => rfl) (fun _ _ _ _ => rfl)
    rw [← e]
    exact gc_B_st hn w hm hi (fun _ _ _ _ => rfl) (fun p hp j hj => gc_D_seed hn w ht (by omega) hj) (fun p hp j hj => gc_D_seed hn w hr (by omega) hj) (fun p hp j hj => ih p hp (by omega) j hj)
theorem gc_cmp_o {n : Nat} {V : Nat → Int32} {x y : Int32} (h : gc_cmp n V x y) : ∃ m i, m < n ∧ x = nI m ∧ y = nI i ∧ i < 4 ∧ (V m = 0 → i = 0) := by
  obtain ⟨m, hm, hx, i, hi, hy⟩ := h
  by_cases z : V m = 0
  · rw [if_pos z] at hi
    exact ⟨m, i, hm, hx, hy, by omega, fun _ => by omega⟩
  · rw [if_neg z] at hi
    exact ⟨m, i, hm, hx, hy, hi, fun z' => absurd z' z⟩
section
variable {n : Nat} {K X Y V IN DI on tw pl f1 f2 f3 sl : Nat → Int32} {post : Int32 → SY → Prop} {x y z t : Int32} {m i e : Nat}
theorem gy_value_g (hn : n ≤ 12) (w : gc_W K X Y V n) (g : gc_cmp n V (nI m) (nI i)) (hm : m < n) (hi : i < 4) (hz : V m = 0 → i = 0) (he : e < 3) (h : ∀ on' tw' pl' f1' f2' f3' : Nat → Int32, post (gc_V K X Y (fun c => IN (12 * e + c)) m i) (nI n, K, X, Y, V, IN, DI, on', tw', pl', f1', f2', f3', sl)) : wpY_value post (nI n, K, X, Y, V, IN, DI, on, tw, pl, f1, f2, f3, sl) (nI m) (nI i) (nI e) := by
  unfold wpY_value
  refine gy_isComponent hn (fun _ _ => br_f gc_10 ?_) (fun b => absurd ⟨g, ⟨e, he, rfl⟩⟩ b)
  refine gy_seed (fun on' tw' s1 s2 => ?_)
  refine gy_workAll hn w he (fun pl' f1' f2' f3' q => ?_)
  try dsimp only
  rw [gc_4m, nI_add, nI_clamp (by omega), gc_Q_at q.1 hm hi hz]
  exact ⟨vp_in_nI (by omega) (by omega), h on' tw' pl' f1' f2' f3'⟩
theorem gy_value_b (hn : n ≤ 12) (g : ¬ (gc_cmp n V x y ∧ gc_in 3 z)) (h : post 0 (nI n, K, X, Y, V, IN, DI, on, tw, pl, f1, f2, f3, sl)) : wpY_value post (nI n, K, X, Y, V, IN, DI, on, tw, pl, f1, f2, f3, sl) x y z := by
  unfold wpY_value
  exact gy_isComponent hn (fun a b => absurd ⟨a, b⟩ g) (fun _ => br_t rfl h)
theorem gy_bend_g (hn : n ≤ 12) (w : gc_W K X Y V n) (hm : m < n) (hv : V m = 0) (hx : gc_in 12 x) (hy : gc_in 12 y) (he : e < 3) (h : ∀ on' tw' pl' f1' f2' f3' : Nat → Int32, post (gc_B K X Y (fun c => IN (12 * e + c)) (gc_un1 x) (gc_un1 y) m 0) (nI n, K, X, Y, V, IN, DI, on', tw', pl', f1', f2', f3', sl)) : wpY_bend post (nI n, K, X, Y, V, IN, DI, on, tw, pl, f1, f2, f3, sl) (nI m) x y (nI e) := by
  unfold wpY_bend
  refine gy_isNumber hn (fun _ => br_f gc_10 ?_) (fun b => absurd ⟨m, hm, rfl, hv⟩ b)
  refine gy_isPlace (fun _ _ => br_f gc_10 ?_) (fun b => absurd ⟨hx, ⟨e, he, rfl⟩⟩ b)
  refine gy_isPlace (fun _ _ => br_f gc_10 ?_) (fun b => absurd ⟨hy, ⟨e, he, rfl⟩⟩ b)
  refine gy_seed (fun on' tw' s1 s2 => ?_)
  refine gy_workAll hn w he (fun pl' f1' f2' f3' q => ?_)
  have t : f3' (4 * m) = gc_B K X Y (fun c => IN (12 * e + c)) (gc_un1 x) (gc_un1 y) m 0 := (gc_Q_at (i := 0) q.2.2.2 hm (by omega) (fun _ => rfl)).trans (gc_B_seed hn w (fun p hp => s1 p hp) (fun p hp => s2 p hp) m hm 0 (by omega))
  try dsimp only
  rw [gc_4m, nI_clamp (by omega), t]
  exact ⟨vp_in_nI (by omega) (by omega), h on' tw' pl' f1' f2' f3'⟩
theorem gy_bend_b (hn : n ≤ 12) (g : ¬ (gc_num n V x ∧ gc_in 12 y ∧ gc_in 12 z ∧ gc_in 3 t)) (h : post 0 (nI n, K, X, Y, V, IN, DI, on, tw, pl, f1, f2, f3, sl)) : wpY_bend post (nI n, K, X, Y, V, IN, DI, on, tw, pl, f1, f2, f3, sl) x y z t := by
  unfold wpY_bend
  refine gy_isNumber hn (fun a => br_f gc_10 ?_) (fun _ => br_t rfl h)
  refine gy_isPlace (fun b _ => br_f gc_10 ?_) (fun _ => br_t rfl h)
  exact gy_isPlace (fun c d => absurd ⟨a, b, c, d⟩ g) (fun _ => br_t rfl h)
theorem gy_slope_g (hn : n ≤ 12) (w : gc_W K X Y V n) (hm : m < n) (hv : V m = 0) (hy : gc_in 12 y) (he : e < 3) (h : ∀ on' tw' pl' f1' f2' f3' : Nat → Int32, post (gc_D K X Y (fun c => IN (12 * e + c)) (gc_un1 y) m 0) (nI n, K, X, Y, V, IN, DI, on', tw', pl', f1', f2', f3', sl)) : wpY_slope post (nI n, K, X, Y, V, IN, DI, on, tw, pl, f1, f2, f3, sl) (nI m) y (nI e) := by
  refine gy_slope hn w (fun m' e' hm' _ ex _ he' ez on' tw' pl' f1' f2' f3' => ?_) (fun b => absurd ⟨⟨m, hm, rfl, hv⟩, hy, ⟨e, he, rfl⟩⟩ b)
  have e1 : m = m' := gc_im ex (by omega) (by omega)
  have e2 : e = e' := gc_im ez (by omega) (by omega)
  subst e1 e2
  exact h on' tw' pl' f1' f2' f3'
theorem gy_slope_b (hn : n ≤ 12) (w : gc_W K X Y V n) (g : ¬ (gc_num n V x ∧ gc_in 12 y ∧ gc_in 3 z)) (h : post 0 (nI n, K, X, Y, V, IN, DI, on, tw, pl, f1, f2, f3, sl)) : wpY_slope post (nI n, K, X, Y, V, IN, DI, on, tw, pl, f1, f2, f3, sl) x y z :=
  gy_slope hn w (fun m e hm hv hx hy he hz _ _ _ _ _ _ => absurd ⟨⟨m, hm, hx, hv⟩, hy, ⟨e, he, hz⟩⟩ g) (fun _ => h)
end
theorem i_vc_value {k : Nat} {u : SX} {v : SY} (I : i_Rel k u v) (hk : k + 5 ≤ 2560) (v1 : Int32) (v2 : Int32) (v3 : Int32) : wpX_value (fun r u' => wpY_value (fun r' v' => r' = r ∧ i_Rel (k + 5) u' v') v v1 v2 v3) u v1 v2 v3 := by
  obtain ⟨n, lv, IN, DI, sp, K, X, Y, V, va, fi, se, bo, st, on, tw, pl, f1, f2, f3, sl, hn, w, c, rfl, rfl⟩ := I
  unfold wpX_value
  refine gx_hasComponent hn (fun a => br_f gc_10 ?_) (fun a => br_t rfl (gy_value_b hn (fun g => a g.1) ⟨rfl, gr_mk hn w c⟩))
  refine gx_isExample (fun b => br_f gc_10 ?_) (fun b => br_t rfl (gy_value_b hn (fun g => b g.2) ⟨rfl, gr_mk hn w c⟩))
  have a' := a
  obtain ⟨m, i, hm, rfl, rfl, hi, hz⟩ := gc_cmp_o a'
  obtain ⟨e, he, rfl⟩ := b
  refine gx_workOutValues hn w hm he c (fun va' st' c' P => ?_)
  refine gx_fc rfl (And.intro (gc_vi (by omega) (by omega)) ?_)
  rw [gc_ix (by omega), gc_P_at P hi]
  exact gy_value_g hn w a hm hi hz he (fun _ _ _ _ _ _ => ⟨rfl, gr_mk hn w c'⟩)
theorem i_vc_slope {k : Nat} {u : SX} {v : SY} (I : i_Rel k u v) (hk : k + 5 ≤ 2560) (v1 : Int32) (v2 : Int32) (v3 : Int32) : wpX_slope (fun r u' => wpY_slope (fun r' v' => r' = r ∧ i_Rel (k + 5) u' v') v v1 v2 v3) u v1 v2 v3 := by
  obtain ⟨n, lv, IN, DI, sp, K, X, Y, V, va, fi, se, bo, st, on, tw, pl, f1, f2, f3, sl, hn, w, c, rfl, rfl⟩ := I
  unfold wpX_slope
  refine gx_isNumber hn (fun a => br_f gc_10 ?_) (fun a => br_t rfl (gy_slope_b hn w (fun g => a g.1) ⟨rfl, gr_mk hn w c⟩))
  refine gx_isPlace (fun b => br_f gc_10 ?_) (fun b => br_t rfl (gy_slope_b hn w (fun g => b g.2.1) ⟨rfl, gr_mk hn w c⟩))
  refine gx_isExample (fun d => br_f gc_10 ?_) (fun d => br_t rfl (gy_slope_b hn w (fun g => d g.2.2) ⟨rfl, gr_mk hn w c⟩))
  obtain ⟨m, hm, rfl, hv⟩ := a
  obtain ⟨e, he, rfl⟩ := d
  refine gx_derivative (i := 0) hn w hm (by omega) he c (fun va' fi' st' c' => ?_)
  exact gy_slope_g hn w hm hv b he (fun _ _ _ _ _ _ => ⟨gc_D_seed hn w (fun p _ => (gc_sd_p b).symm) hm (by omega), gr_mk hn w c'⟩)
theorem i_vc_bend {k : Nat} {u : SX} {v : SY} (I : i_Rel k u v) (hk : k + 5 ≤ 2560) (v1 : Int32) (v2 : Int32) (v3 : Int32) (v4 : Int32) : wpX_bend (fun r u' => wpY_bend (fun r' v' => r' = r ∧ i_Rel (k + 5) u' v') v v1 v2 v3 v4) u v1 v2 v3 v4 := by
  obtain ⟨n, lv, IN, DI, sp, K, X, Y, V, va, fi, se, bo, st, on, tw, pl, f1, f2, f3, sl, hn, w, c, rfl, rfl⟩ := I
  unfold wpX_bend
  refine gx_isNumber hn (fun a => br_f gc_10 ?_) (fun a => br_t rfl (gy_bend_b hn (fun g => a g.1) ⟨rfl, gr_mk hn w c⟩))
  refine gx_isPlace (fun b => br_f gc_10 ?_) (fun b => br_t rfl (gy_bend_b hn (fun g => b g.2.1) ⟨rfl, gr_mk hn w c⟩))
  refine gx_isPlace (fun b' => br_f gc_10 ?_) (fun b' => br_t rfl (gy_bend_b hn (fun g => b' g.2.2.1) ⟨rfl, gr_mk hn w c⟩))
  refine gx_isExample (fun d => br_f gc_10 ?_) (fun d => br_t rfl (gy_bend_b hn (fun g => d g.2.2.2) ⟨rfl, gr_mk hn w c⟩))
  obtain ⟨m, hm, rfl, hv⟩ := a
  obtain ⟨e, he, rfl⟩ := d
  refine gx_workOutValues hn w hm he c (fun va' st' c' Pv => ?_)
  refine gx_workOutDerivatives_byFirst hn w hm he Pv (fun fi' P1 => ?_)
  refine gx_workOutDerivatives_bySecond hn w hm he Pv (fun se' P2 => ?_)
  refine gx_workOutSecondDerivatives hn w hm he Pv P1 P2 (fun bo' P => ?_)
  refine gx_fc rfl (And.intro (vp_in_nI (by omega) (by omega)) ?_)
  rw [nI_clamp (by omega)]
  have t := gc_P_at (i := 0) P (by omega)
  rw [show (e * 12 + m) * 4 = (e * 12 + m) * 4 + 0 from rfl, t]
  exact gy_bend_g hn w hm hv b b' he (fun _ _ _ _ _ _ => ⟨gc_B_seed hn w (fun p _ => (gc_sd_p b).symm) (fun p _ => (gc_sd_p b').symm) m hm 0 (by omega), gr_mk hn w c'⟩)
end GM
