section GL
/-! along -/
section
variable {n : Nat} {lv : Int32} {IN DI sp K X Y V se bo : Nat → Int32} {post : Int32 → SX → Prop} {m i e : Nat}
theorem gx_al40 (hn : n ≤ 12) (w : gc_W K X Y V n) (hm : m < n) (hi : i < 4) (he : e < 3)
    (hp : ∀ va' fi' st' : Nat → Int32, gc_C K X Y IN va' st' n → post (gc_D K X Y (fun c => IN (12 * e + c)) (fun q => DI (12 * e + q)) m i) (nI n, lv, IN, DI, sp, K, X, Y, V, va', fi', se, bo, st')) : ∀ (d j : Nat) (va fi st : Nat → Int32), j + d = 12 → gc_C K X Y IN va st n →
    wX_along_40 post (nI m) (nI i) (nI e) (d + 1) (gc_D K X Y (fun c => IN (12 * e + c)) (fun q => if q < j then DI (12 * e + q) else 0) m i) (nI j) (nI n) lv IN DI sp K X Y V va fi se bo st := by
  intro d
  induction d with
  | zero =>
    intro j va fi st hj c
    have e12 : j = 12 := by omega
    subst e12
    refine br_t (nI_le (a := 12) (Nat.le_refl _) (by omega)) ?_
    rw [gc_D_seed (t := (fun q => if q < 12 then DI (12 * e + q) else 0)) (u := (fun q => DI (12 * e + q))) hn w (fun p hp => if_pos hp) hm hi]
    exact hp va fi st c
  | succ d ih =>
    intro j va fi st hj c
    refine br_f (nI_ge (b := 12) (by omega) (by omega)) (gx_derivative hn w hm hi he c (fun va' fi' st' c' => ?_))
    try dsimp only
    rw [gc_a12, nI_clamp (by omega)]
    refine ⟨vp_in_nI (by omega) (by omega), nm_r (e' := gc_D K X Y (fun c => IN (12 * e + c)) (fun q => if q < (j + 1) then DI (12 * e + q) else 0) m i) ?_ (nm_r (nI_1 j) (ih (j + 1) va' fi' st' (by omega) c'))⟩
    refine (gc_D_lin hn w (fun p hp => ?_) m hm i hi).symm
    rw [gc_sd_p ⟨j, by omega, rfl⟩]
    unfold gc_un1
    by_cases h1 : p = j
    · subst h1
      rw [if_pos (by omega), if_neg (by omega), if_pos rfl]
      grind
    · have h2 : ¬ nI p = nI j := fun z => h1 (gc_im z (by omega) (by omega))
      rw [if_neg h2]
      by_cases h3 : p < j
      · rw [if_pos (by omega), if_pos h3]; grind
      · rw [if_neg (by omega), if_neg h3]; grind
end
section
variable {n : Nat} {K X Y V IN DI pl f1 f2 f3 sl : Nat → Int32} {post : Int32 → SY → Prop} {x y z : Int32} {m i e : Nat}
theorem gy_al15 (hn : n ≤ 12) (w : gc_W K X Y V n) (hm : m < n) (hi : i < 4) (hz : V m = 0 → i = 0) (he : e < 3) (h : ∀ on' tw' pl' f1' f2' f3' : Nat → Int32, post (gc_D K X Y (fun c => IN (12 * e + c)) (fun q => DI (12 * e + q)) m i) (nI n, K, X, Y, V, IN, DI, on', tw', pl', f1', f2', f3', sl)) : ∀ (d j : Nat) (on tw : Nat → Int32), j + d = 12 → (∀ q, q < j → on q = DI (12 * e + q)) →
    wY_along_15 post (nI m) (nI i) (nI e) (nI n) (d + 1) (nI j) K X Y V IN DI on tw pl f1 f2 f3 sl := by
  intro d
  induction d with
  | zero =>
    intro j on tw hj ho
    have e12 : j = 12 := by omega
    subst e12
    refine br_t (nI_le (a := 12) (Nat.le_refl _) (by omega)) (gy_workAll hn w he (fun pl' f1' f2' f3' q => ?_))
    have t : f1' (4 * m + i) = gc_D K X Y (fun c => IN (12 * e + c)) (fun q => DI (12 * e + q)) m i := (gc_Q_at q.2.1 hm hi hz).trans (gc_D_seed hn w ho hm hi)
    try dsimp only
    rw [gc_4m, nI_add, nI_clamp (by omega), t]
    exact ⟨vp_in_nI (by omega) (by omega), h on tw pl' f1' f2' f3'⟩
  | succ d ih =>
    intro j on tw hj ho
    have v : vp_in (nI j) 12 := vp_in_nI (by omega) (by omega)
    refine br_f (nI_ge (b := 12) (by omega) (by omega)) ?_
    try dsimp only
    rw [gc_b12, nI_clamp (n := 12 * e + j) (by omega), nI_clamp (n := j) (by omega)]
    refine ⟨vp_in_nI (by omega) (by omega), v, nm_e ⟨v, nm_e (nm_r (nI_1 j) (ih (j + 1) _ _ (by omega) ?_))⟩⟩
    intro q hq
    by_cases E : q = j
    · subst E; exact gc_us
    · rw [gc_un E]; exact ho q (by omega)
theorem gy_along_g {on tw : Nat → Int32} (hn : n ≤ 12) (w : gc_W K X Y V n) (g : gc_cmp n V (nI m) (nI i)) (hm : m < n) (hi : i < 4) (hz : V m = 0 → i = 0) (he : e < 3) (h : ∀ on' tw' pl' f1' f2' f3' : Nat → Int32, post (gc_D K X Y (fun c => IN (12 * e + c)) (fun q => DI (12 * e + q)) m i) (nI n, K, X, Y, V, IN, DI, on', tw', pl', f1', f2', f3', sl)) : wpY_along post (nI n, K, X, Y, V, IN, DI, on, tw, pl, f1, f2, f3, sl) (nI m) (nI i) (nI e) := by
  unfold wpY_along
  refine gy_isComponent hn (fun _ _ => br_f gc_10 ?_) (fun b => absurd ⟨g, ⟨e, he, rfl⟩⟩ b)
  exact ⟨13, gy_al15 hn w hm hi hz he h 12 0 on tw rfl (fun q hq => absurd hq (Nat.not_lt_zero q))⟩
theorem gy_along_b {on tw : Nat → Int32} (hn : n ≤ 12) (g : ¬ (gc_cmp n V x y ∧ gc_in 3 z)) (h : post 0 (nI n, K, X, Y, V, IN, DI, on, tw, pl, f1, f2, f3, sl)) : wpY_along post (nI n, K, X, Y, V, IN, DI, on, tw, pl, f1, f2, f3, sl) x y z := by
  unfold wpY_along
  exact gy_isComponent hn (fun a b => absurd ⟨a, b⟩ g) (fun _ => br_t rfl h)
end
theorem i_vc_along {k : Nat} {u : SX} {v : SY} (I : i_Rel k u v) (hk : k + 5 ≤ 2560) (v1 : Int32) (v2 : Int32) (v3 : Int32) : wpX_along (fun r u' => wpY_along (fun r' v' => r' = r ∧ i_Rel (k + 5) u' v') v v1 v2 v3) u v1 v2 v3 := by
  obtain ⟨n, lv, IN, DI, sp, K, X, Y, V, va, fi, se, bo, st, on, tw, pl, f1, f2, f3, sl, hn, w, c, rfl, rfl⟩ := I
  unfold wpX_along
  refine gx_hasComponent hn (fun a => br_f gc_10 ?_) (fun a => br_t rfl (gy_along_b hn (fun g => a g.1) ⟨rfl, gr_mk hn w c⟩))
  refine gx_isExample (fun b => br_f gc_10 ?_) (fun b => br_t rfl (gy_along_b hn (fun g => b g.2) ⟨rfl, gr_mk hn w c⟩))
  have a' := a
  obtain ⟨m, i, hm, rfl, rfl, hi, hz⟩ := gc_cmp_o a'
  obtain ⟨e, he, rfl⟩ := b
  refine br_c (fun _ => ⟨13, ?_⟩) (fun _ => ?_)
  · have z : gc_D K X Y (fun c => IN (12 * e + c)) (fun q => if q < 0 then DI (12 * e + q) else 0) m i = 0 := gc_D_zero hn w (fun p _ => if_neg (Nat.not_lt_zero p)) hm hi
    have H := gx_al40 (lv := lv) (sp := sp) (se := se) (bo := bo) (post := fun r u' => wpY_along (fun r' v' => r' = r ∧ i_Rel (k + 5) u' v') (nI n, K, X, Y, V, IN, DI, on, tw, pl, f1, f2, f3, sl) (nI m) (nI i) (nI e)) hn w hm hi he (fun va' fi' st' c' => gy_along_g hn w a hm hi hz he (fun _ _ _ _ _ _ => ⟨rfl, gr_mk hn w c'⟩)) 12 0 va fi st rfl c
    rw [z] at H
    exact H
  · refine gx_derivative hn w hm hi he c (fun va' fi' st' c' => ?_)
    exact gy_along_g hn w a hm hi hz he (fun _ _ _ _ _ _ => ⟨gc_D_seed hn w (fun p _ => gc_sd_d.symm) hm hi, gr_mk hn w c'⟩)
/-! slopeOfAll -/
section
variable {n : Nat} {lv : Int32} {IN DI sp K X Y V se bo : Nat → Int32} {post : Int32 → SX → Prop} {m : Nat} {y : Int32}
theorem gx_so22 (hn : n ≤ 12) (w : gc_W K X Y V n) (hm : m < n) (hy : gc_in 12 y)
    (hp : ∀ va' fi' st' : Nat → Int32, gc_C K X Y IN va' st' n → post (gc_sm (fun e => gc_D K X Y (fun c => IN (12 * e + c)) (gc_un1 y) m 0) 3) (nI n, lv, IN, DI, sp, K, X, Y, V, va', fi', se, bo, st')) : ∀ (d j : Nat) (va fi st : Nat → Int32), j + d = 3 → gc_C K X Y IN va st n →
    wX_slopeOfAll_22 post (nI m) y (d + 1) (gc_sm (fun e => gc_D K X Y (fun c => IN (12 * e + c)) (gc_un1 y) m 0) j) (nI j) (nI n) lv IN DI sp K X Y V va fi se bo st := by
  intro d
  induction d with
  | zero =>
    intro j va fi st hj c
    have e3 : j = 3 := by omega
    subst e3
    exact br_t (nI_le (a := 3) (Nat.le_refl _) (by omega)) (hp va fi st c)
  | succ d ih =>
    intro j va fi st hj c
    refine br_f (nI_ge (b := 3) (by omega) (by omega)) (gx_derivative (i := 0) hn w hm (by omega) (by omega) c (fun va' fi' st' c' => ?_))
    refine nm_r (e' := gc_sm (fun e => gc_D K X Y (fun c => IN (12 * e + c)) (gc_un1 y) m 0) (j + 1)) ?_ (nm_r (nI_1 j) (ih (j + 1) va' fi' st' (by omega) c'))
    rw [gc_sm_s, gc_D_seed hn w (fun p _ => gc_sd_p hy) hm (by omega)]
end
section
variable {n : Nat} {K X Y V IN DI sl : Nat → Int32} {post : Int32 → SY → Prop} {m : Nat} {x y : Int32}
theorem gy_soa_g {on tw pl f1 f2 f3 : Nat → Int32} (hn : n ≤ 12) (w : gc_W K X Y V n) (hm : m < n) (hv : V m = 0) (hy : gc_in 12 y) (h : ∀ on' tw' pl' f1' f2' f3' : Nat → Int32, post (gc_sm (fun e => gc_D K X Y (fun c => IN (12 * e + c)) (gc_un1 y) m 0) 3) (nI n, K, X, Y, V, IN, DI, on', tw', pl', f1', f2', f3', sl)) : wpY_slopeOfAll post (nI n, K, X, Y, V, IN, DI, on, tw, pl, f1, f2, f3, sl) (nI m) y := by
  unfold wpY_slopeOfAll
  refine gy_slope_g (e := 0) hn w hm hv hy (by omega) (fun _ _ _ _ _ _ => ?_)
  refine gy_slope_g (e := 1) hn w hm hv hy (by omega) (fun _ _ _ _ _ _ => ?_)
  refine gy_slope_g (e := 2) hn w hm hv hy (by omega) (fun on' tw' pl' f1' f2' f3' => ?_)
  have t := h on' tw' pl' f1' f2' f3'
  rw [gc_sm_s, gc_sm_s, gc_sm_s, show gc_sm (fun e => gc_D K X Y (fun c => IN (12 * e + c)) (gc_un1 y) m 0) 0 = 0 from rfl, Int32.zero_add] at t
  exact t
theorem gy_soa_b {on tw pl f1 f2 f3 : Nat → Int32} (hn : n ≤ 12) (w : gc_W K X Y V n) (g : ¬ (gc_num n V x ∧ gc_in 12 y)) (h : post 0 (nI n, K, X, Y, V, IN, DI, on, tw, pl, f1, f2, f3, sl)) : wpY_slopeOfAll post (nI n, K, X, Y, V, IN, DI, on, tw, pl, f1, f2, f3, sl) x y := by
  unfold wpY_slopeOfAll
  have b : ∀ z, ¬ (gc_num n V x ∧ gc_in 12 y ∧ gc_in 3 z) := fun z q => g ⟨q.1, q.2.1⟩
  refine gy_slope_b hn w (b _) ?_
  refine gy_slope_b hn w (b _) ?_
  exact gy_slope_b hn w (b _) h
end
theorem i_vc_slopeOfAll {k : Nat} {u : SX} {v : SY} (I : i_Rel k u v) (hk : k + 5 ≤ 2560) (v1 : Int32) (v2 : Int32) : wpX_slopeOfAll (fun r u' => wpY_slopeOfAll (fun r' v' => r' = r ∧ i_Rel (k + 5) u' v') v v1 v2) u v1 v2 := by
  obtain ⟨n, lv, IN, DI, sp, K, X, Y, V, va, fi, se, bo, st, on, tw, pl, f1, f2, f3, sl, hn, w, c, rfl, rfl⟩ := I
  unfold wpX_slopeOfAll
  refine gx_isNumber hn (fun a => br_f gc_10 ?_) (fun a => br_t rfl (gy_soa_b hn w (fun g => a g.1) ⟨rfl, gr_mk hn w c⟩))
  refine gx_isPlace (fun b => br_f gc_10 ?_) (fun b => br_t rfl (gy_soa_b hn w (fun g => b g.2) ⟨rfl, gr_mk hn w c⟩))
  obtain ⟨m, hm, rfl, hv⟩ := a
  exact ⟨4, gx_so22 hn w hm b (fun va' fi' st' c' => gy_soa_g hn w hm hv b (fun _ _ _ _ _ _ => ⟨rfl, gr_mk hn w c'⟩)) 3 0 va fi st rfl c⟩
/-! step -/
def gc_u4 (f : Nat → Int32) (b : Nat) (g : Nat → Int32) : Nat → Nat → Int32
  | 0 => f
  | j + 1 => upd (gc_u4 f b g j) (b + j) (g j)
theorem gc_u4_s {f g : Nat → Int32} {b j : Nat} : gc_u4 f b g (j + 1) = upd (gc_u4 f b g j) (b + j) (g j) := rfl
theorem gc_u4_out {f g : Nat → Int32} {b q : Nat} : ∀ j : Nat, (q < b ∨ b + j ≤ q) → gc_u4 f b g j q = f q := by
  intro j
  induction j with
  | zero => intro _; rfl
  | succ j ih =>
    intro h
    rw [gc_u4_s, gc_un (by omega)]
    exact ih (by omega)
section
variable {n : Nat} {lv : Int32} {DI sp K X Y V va fi se bo st : Nat → Int32} {post : Int32 → SX → Prop} {b e : Nat} {f g : Nat → Int32}
theorem gx_st88 (hb : b + 4 ≤ 36) (he : e < 3) (hg : ∀ q, q < 4 → sp q = g q) (hp : post 1 (nI n, lv, gc_u4 f b g 4, DI, sp, K, X, Y, V, va, fi, se, bo, upd st e 0)) : ∀ d j : Nat, j + d = 4 →
    wX_step_88 post (nI e) (nI b) (nI n) lv (d + 1) (nI j) (gc_u4 f b g j) DI sp K X Y V va fi se bo st := by
  intro d
  induction d with
  | zero =>
    intro j hj
    have e4 : j = 4 := by omega
    subst e4
    exact br_t (gc_4le (Nat.le_refl _) (by omega)) ⟨vp_in_nI he (by omega), nm_r (e' := upd st e 0) (by rw [nI_clamp (by omega)]) hp⟩
  | succ d ih =>
    intro j hj
    refine br_f (gc_n4le (by omega)) ⟨vp_in_nI (by omega) (by omega), gc_vi (by omega) (by omega), nm_r (e' := gc_u4 f b g (j + 1)) ?_ (nm_r (nI_1 j) (ih (j + 1) (by omega)))⟩
    rw [gc_ix (by omega), nI_clamp (by omega), hg j (by omega), gc_u4_s]
end
section
variable {n : Nat} {lv : Int32} {IN DI K X Y V se bo : Nat → Int32} {post : Int32 → SX → Prop} {m a b e : Nat} {x4 : Int32}
theorem gx_st39 (hn : n ≤ 12) (w : gc_W K X Y V n) (hm : m < n) (ha : a < 3) (he : e < 3) (hb : b = 12 * e + 4 * a)
    (hp : ∀ va' fi' st' sp' : Nat → Int32, gc_C K X Y IN va' st' n → post 1 (nI n, lv, gc_u4 IN b (fun q => IN (b + q) - x4 * gc_D K X Y (fun c => IN (12 * e + c)) (gc_un1 (nI (4 * a + q))) m 0) 4, DI, sp', K, X, Y, V, va', fi', se, bo, upd st' e 0)) : ∀ (d j : Nat) (sp va fi st : Nat → Int32), j + d = 4 → gc_C K X Y IN va st n → (∀ q, q < j → sp q = (fun q => IN (b + q) - x4 * gc_D K X Y (fun c => IN (12 * e + c)) (gc_un1 (nI (4 * a + q))) m 0) q) →
    wX_step_39 post (nI m) (nI a) (nI e) x4 (nI b) (d + 1) (nI j) (nI n) lv IN DI sp K X Y V va fi se bo st := by
  intro d
  induction d with
  | zero =>
    intro j sp va fi st hj c h
    have e4 : j = 4 := by omega
    subst e4
    exact br_t (gc_4le (Nat.le_refl _) (by omega)) ⟨5, gx_st88 (f := IN) (by omega) he h (hp va fi st sp c) 4 0 rfl⟩
  | succ d ih =>
    intro j sp va fi st hj c h
    refine br_f (gc_n4le (by omega)) ⟨gc_vi (by omega) (by omega), ?_⟩
    rw [gc_4m, nI_add (4 * a) j, gc_ix (a := b) (b := j) (by omega)]
    refine gx_derivative (i := 0) hn w hm (by omega) he c (fun va' fi' st' c' => ?_)
    refine ⟨vp_in_nI (by omega) (by omega), nm_r (e' := upd sp j ((fun q => IN (b + q) - x4 * gc_D K X Y (fun c => IN (12 * e + c)) (gc_un1 (nI (4 * a + q))) m 0) j)) ?_ (nm_r (nI_1 j) (ih (j + 1) _ va' fi' st' (by omega) c' ?_))⟩
    · rw [nI_clamp (by omega), gc_D_seed hn w (fun p _ => gc_sd_p ⟨4 * a + j, by omega, rfl⟩) hm (by omega)]
    · intro q hq
      by_cases E : q = j
      · subst E; exact gc_us
      · rw [gc_un E]; exact h q (by omega)
end
section
variable {n : Nat} {K X Y V DI on tw pl f1 f2 f3 sl : Nat → Int32} {post : Int32 → SY → Prop} {a b e : Nat} {x4 : Int32} {f g : Nat → Int32}
theorem gy_st67 (hb : b = 12 * e + 4 * a) (ha : a < 3) (he : e < 3) (hg : ∀ q, q < 4 → f (b + q) - x4 * sl q = g q) (hp : post 1 (nI n, K, X, Y, V, gc_u4 f b g 4, DI, on, tw, pl, f1, f2, f3, sl)) : ∀ d j : Nat, j + d = 4 →
    wY_step_67 post (nI a) (nI e) x4 (nI n) (d + 1) (nI j) K X Y V (gc_u4 f b g j) DI on tw pl f1 f2 f3 sl := by
  intro d
  induction d with
  | zero =>
    intro j hj
    have e4 : j = 4 := by omega
    subst e4
    exact br_t (gc_4le (Nat.le_refl _) (by omega)) hp
  | succ d ih =>
    intro j hj
    have ei : 12 * nI e + 4 * nI a + nI j = nI (b + j) := by rw [gc_12m, gc_4m, nI_add, nI_add, hb]
    refine br_f (gc_n4le (by omega)) ?_
    try dsimp only
    rw [ei]
    refine ⟨vp_in_nI (by omega) (by omega), vp_in_nI (by omega) (by omega), vp_in_nI (by omega) (by omega), nm_r (e' := gc_u4 f b g (j + 1)) ?_ (nm_r (nI_1 j) (ih (j + 1) (by omega)))⟩
    rw [nI_clamp (by omega), nI_clamp (by omega), gc_u4_out j (by omega), hg j (by omega), gc_u4_s]
end
section
variable {n : Nat} {K X Y V IN DI : Nat → Int32} {post : Int32 → SY → Prop} {m a b e : Nat} {x4 x y z : Int32}
theorem gy_st33 (hn : n ≤ 12) (w : gc_W K X Y V n) (hm : m < n) (hv : V m = 0) (ha : a < 3) (he : e < 3) (hb : b = 12 * e + 4 * a)
    (hp : ∀ on' tw' pl' f1' f2' f3' sl' : Nat → Int32, post 1 (nI n, K, X, Y, V, gc_u4 IN b (fun q => IN (b + q) - x4 * gc_D K X Y (fun c => IN (12 * e + c)) (gc_un1 (nI (4 * a + q))) m 0) 4, DI, on', tw', pl', f1', f2', f3', sl')) : ∀ (d j : Nat) (on tw pl f1 f2 f3 sl : Nat → Int32), j + d = 4 → (∀ q, q < j → sl q = gc_D K X Y (fun c => IN (12 * e + c)) (gc_un1 (nI (4 * a + q))) m 0) →
    wY_step_33 post (nI m) (nI a) (nI e) x4 (d + 1) (nI j) (nI n) K X Y V IN DI on tw pl f1 f2 f3 sl := by
  intro d
  induction d with
  | zero =>
    intro j on tw pl f1 f2 f3 sl hj h
    have e4 : j = 4 := by omega
    subst e4
    refine br_t (gc_4le (Nat.le_refl _) (by omega)) ⟨5, gy_st67 (f := IN) (g := (fun q => IN (b + q) - x4 * gc_D K X Y (fun c => IN (12 * e + c)) (gc_un1 (nI (4 * a + q))) m 0)) hb ha he ?_ (hp on tw pl f1 f2 f3 sl) 4 0 rfl⟩
    intro q hq
    rw [h q hq]
  | succ d ih =>
    intro j on tw pl f1 f2 f3 sl hj h
    refine br_f (gc_n4le (by omega)) ?_
    try dsimp only
    rw [gc_4m, nI_add]
    refine gy_slope_g hn w hm hv ⟨4 * a + j, by omega, rfl⟩ he (fun on' tw' pl' f1' f2' f3' => ?_)
    refine ⟨vp_in_nI (by omega) (by omega), nm_r (e' := upd sl j (gc_D K X Y (fun c => IN (12 * e + c)) (gc_un1 (nI (4 * a + j))) m 0)) (by rw [nI_clamp (by omega)]) (nm_r (nI_1 j) (ih (j + 1) on' tw' pl' f1' f2' f3' _ (by omega) ?_))⟩
    intro q hq
    by_cases E : q = j
    · subst E; exact gc_us
    · rw [gc_un E]; exact h q (by omega)
theorem gy_step_g {on tw pl f1 f2 f3 sl : Nat → Int32} (hn : n ≤ 12) (w : gc_W K X Y V n) (hm : m < n) (hv : V m = 0) (ha : a < 3) (he : e < 3) (hb : b = 12 * e + 4 * a)
    (hp : ∀ on' tw' pl' f1' f2' f3' sl' : Nat → Int32, post 1 (nI n, K, X, Y, V, gc_u4 IN b (fun q => IN (b + q) - x4 * gc_D K X Y (fun c => IN (12 * e + c)) (gc_un1 (nI (4 * a + q))) m 0) 4, DI, on', tw', pl', f1', f2', f3', sl')) : wpY_step post (nI n, K, X, Y, V, IN, DI, on, tw, pl, f1, f2, f3, sl) (nI m) (nI a) (nI e) x4 := by
  unfold wpY_step
  refine gy_isNumber hn (fun _ => br_f gc_10 ?_) (fun q => absurd ⟨m, hm, rfl, hv⟩ q)
  refine gy_in gy_2 (by omega) (fun _ => br_f gc_10 ?_) (fun q => absurd ⟨a, ha, rfl⟩ q)
  refine gy_in gy_2 (by omega) (fun _ => br_f gc_10 ?_) (fun q => absurd ⟨e, he, rfl⟩ q)
  exact ⟨5, gy_st33 hn w hm hv ha he hb hp 4 0 on tw pl f1 f2 f3 sl rfl (fun q hq => absurd hq (Nat.not_lt_zero q))⟩
theorem gy_step_b {on tw pl f1 f2 f3 sl : Nat → Int32} (hn : n ≤ 12) (g : ¬ (gc_num n V x ∧ gc_in 3 y ∧ gc_in 3 z)) (h : post 0 (nI n, K, X, Y, V, IN, DI, on, tw, pl, f1, f2, f3, sl)) : wpY_step post (nI n, K, X, Y, V, IN, DI, on, tw, pl, f1, f2, f3, sl) x y z x4 := by
  unfold wpY_step
  refine gy_isNumber hn (fun p => br_f gc_10 ?_) (fun _ => br_t rfl h)
  refine gy_in gy_2 (by omega) (fun q => br_f gc_10 ?_) (fun _ => br_t rfl h)
  exact gy_in gy_2 (by omega) (fun r => absurd ⟨p, q, r⟩ g) (fun _ => br_t rfl h)
end
theorem i_vc_step {k : Nat} {u : SX} {v : SY} (I : i_Rel k u v) (hk : k + 5 ≤ 2560) (v1 : Int32) (v2 : Int32) (v3 : Int32) (v4 : Int32) : wpX_step (fun r u' => wpY_step (fun r' v' => r' = r ∧ i_Rel (k + 5) u' v') v v1 v2 v3 v4) u v1 v2 v3 v4 := by
  obtain ⟨n, lv, IN, DI, sp, K, X, Y, V, va, fi, se, bo, st, on, tw, pl, f1, f2, f3, sl, hn, w, c, rfl, rfl⟩ := I
  unfold wpX_step
  refine gx_isNumber hn (fun p => br_f gc_10 ?_) (fun p => br_t rfl (gy_step_b hn (fun g => p g.1) ⟨rfl, gr_mk hn w c⟩))
  refine gc_br (N := 3) rfl (by omega) (fun q => ?_) (fun q => gy_step_b hn (fun g => q g.2.1) ⟨rfl, gr_mk hn w c⟩)
  refine gx_isExample (fun r => br_f gc_10 ?_) (fun r => br_t rfl (gy_step_b hn (fun g => r g.2.2) ⟨rfl, gr_mk hn w c⟩))
  obtain ⟨m, hm, rfl, hv⟩ := p
  obtain ⟨a, ha, rfl⟩ := q
  obtain ⟨e, he, rfl⟩ := r
  refine nm_r (e' := nI (12 * e + 4 * a)) (by rw [gc_4m, gc_a12]) ⟨5, gx_st39 hn w hm ha he rfl (fun va' fi' st' sp' c' => ?_) 4 0 sp va fi st rfl c (fun q hq => absurd hq (Nat.not_lt_zero q))⟩
  refine gy_step_g hn w hm hv ha he rfl (fun _ _ _ _ _ _ _ => ⟨rfl, gr_mk hn w (gc_C_0 hn w (fun e' he' ne q hq => ?_) c')⟩)
  exact (gc_u4_out 4 (by omega)).symm
end GL
