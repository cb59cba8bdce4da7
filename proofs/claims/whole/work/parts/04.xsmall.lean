section GXA
/-! the component: tests of arguments, the rules of one node -/
theorem gc_nb {v : Int32} (h : v = 0 ∨ v = 1) : narrow .boolean (.int v) = .int v := by
  rcases h with rfl | rfl
  · rfl
  · rfl
theorem gc_vb {v : Int32} (h : v = 0 ∨ v = 1) : vp_nar .boolean v = v := by
  rcases h with rfl | rfl
  · decide
  · decide
theorem gc_br {N : Nat} {x M : Int32} {A B : Prop} (hM : M = nI N) (hN : N < 2 ^ 31) (h1 : gc_in N x → B) (h0 : ¬ gc_in N x → A) : (x < 0 → A) ∧ (¬ x < 0 → ((M ≤ x → A) ∧ (¬ M ≤ x → B))) := by
  subst hM
  refine br_c (fun a => h0 ?_) (fun a => br_c (fun b => h0 ?_) (fun b => h1 ?_))
  · intro ⟨j, hj, e⟩
    rw [e] at a
    exact nI_pos (by omega) a
  · intro ⟨j, hj, e⟩
    rw [e] at b
    have := (nI_leI hN (by omega)).mp b
    omega
  · obtain ⟨j, hj, e⟩ := nI_of a
    rw [e] at b
    have : ¬ N ≤ j := fun z => b ((nI_leI hN hj).mpr z)
    exact ⟨j, by omega, e⟩
theorem gc_vi {a b N : Nat} (h : a + b < N) (hN : N < 2 ^ 31) : vp_in (nI a + nI b) N := by
  rw [nI_add]; exact vp_in_nI h hN
theorem gc_ix {a b : Nat} (h : a + b < 2 ^ 31) : (nI a + nI b).toNatClampNeg = a + b := by
  rw [nI_add]; exact nI_clamp h
theorem gc_and3 {i : Nat} (hi : i < 4) : nI i + 1 &&& 3 = nI ((i + 1) % 4) := by
  have : i = 0 ∨ i = 1 ∨ i = 2 ∨ i = 3 := by omega
  rcases this with rfl | rfl | rfl | rfl <;> decide
theorem gc_and3' {i : Nat} (hi : i < 4) : nI i &&& 3 = nI i := by
  have : i = 0 ∨ i = 1 ∨ i = 2 ∨ i = 3 := by omega
  rcases this with rfl | rfl | rfl | rfl <;> decide
def gc_num (n : Nat) (V : Nat → Int32) (x : Int32) : Prop := ∃ m, m < n ∧ x = nI m ∧ V m = 0
def gc_cmp (n : Nat) (V : Nat → Int32) (x i : Int32) : Prop := ∃ m, m < n ∧ x = nI m ∧ gc_in (if V m = 0 then 1 else 4) i
def gc_sd (DI : Nat → Int32) (e : Nat) (t : Int32) (q : Nat) : Int32 := if t = -1 then DI (12 * e + q) else if nI q = t then 1 else 0
section
variable {n : Nat} {lv : Int32} {IN DI sp K X Y V va fi se bo st : Nat → Int32} {post : Int32 → Prop} {x y t : Int32} {m i e p q : Nat}
theorem gx_isNode (hn : n ≤ 12) (h1 : gc_in n x → post 1) (h0 : ¬ gc_in n x → post 0) : wpX_isNode post (nI n, lv, IN, DI, sp, K, X, Y, V, va, fi, se, bo, st) x :=
  gc_br rfl (by omega) h1 h0
theorem gx_isPlace (h1 : gc_in 12 x → post 1) (h0 : ¬ gc_in 12 x → post 0) : wpX_isPlace post x :=
  gc_br (N := 12) rfl (by omega) h1 h0
theorem gx_isExample (h1 : gc_in 3 x → post 1) (h0 : ¬ gc_in 3 x → post 0) : wpX_isExample post x :=
  gc_br (N := 3) rfl (by omega) h1 h0
theorem gx_isNumber (hn : n ≤ 12) (h1 : gc_num n V x → post 1) (h0 : ¬ gc_num n V x → post 0) : wpX_isNumber post (nI n, lv, IN, DI, sp, K, X, Y, V, va, fi, se, bo, st) x := by
  unfold wpX_isNumber
  refine gx_isNode hn (fun h => br_f gc_10 ?_) (fun h => br_t rfl (h0 ?_))
  · obtain ⟨m, hm, rfl⟩ := h
    refine ⟨vp_in_nI (by omega) (by omega), ?_⟩
    rw [nI_clamp (by omega)]
    refine br_c (fun z => h1 ⟨m, hm, rfl, z⟩) (fun z => h0 ?_)
    intro ⟨m', hm', e', z'⟩
    have := gc_im e' (by omega) (by omega)
    subst this
    exact z z'
  · intro ⟨m, hm, e, z⟩
    exact h ⟨m, hm, e⟩
theorem gx_hasComponent (hn : n ≤ 12) (h1 : gc_cmp n V x y → post 1) (h0 : ¬ gc_cmp n V x y → post 0) : wpX_hasComponent post (nI n, lv, IN, DI, sp, K, X, Y, V, va, fi, se, bo, st) x y := by
  unfold wpX_hasComponent
  refine gx_isNode hn (fun h => br_f gc_10 ?_) (fun h => br_t rfl (h0 ?_))
  · obtain ⟨m, hm, rfl⟩ := h
    have hj : ∀ {m' : Nat}, m' < n → nI m = nI m' → m' = m := fun h e => (gc_im e (by omega) (by omega)).symm
    by_cases z : V m = 0
    · have H : (y < 0 → post 0) ∧ (¬ y < 0 → ((1 ≤ y → post 0) ∧ (¬ 1 ≤ y → post 1))) := by
        refine gc_br (N := 1) rfl (by omega) (fun g => h1 ⟨m, hm, rfl, by rw [if_pos z]; exact g⟩) (fun g => h0 ?_)
        intro ⟨m', hm', e', g'⟩
        have := hj hm' e'
        subst this
        rw [if_pos z] at g'
        exact g g'
      refine ⟨H.1, fun c => ⟨vp_in_nI (by omega) (by omega), ?_⟩⟩
      rw [nI_clamp (by omega)]
      exact br_t z (H.2 c)
    · have H : (y < 0 → post 0) ∧ (¬ y < 0 → ((4 ≤ y → post 0) ∧ (¬ 4 ≤ y → post 1))) := by
        refine gc_br (N := 4) rfl (by omega) (fun g => h1 ⟨m, hm, rfl, by rw [if_neg z]; exact g⟩) (fun g => h0 ?_)
        intro ⟨m', hm', e', g'⟩
        have := hj hm' e'
        subst this
        rw [if_neg z] at g'
        exact g g'
      refine ⟨H.1, fun c => ⟨vp_in_nI (by omega) (by omega), ?_⟩⟩
      rw [nI_clamp (by omega)]
      exact br_f z (H.2 c)
  · intro ⟨m, hm, e, z⟩
    exact h ⟨m, hm, e⟩
theorem gx_fc (hx : x = nI p) (h : post (nI ((e * 12 + p) * 4))) : wpX_firstCell post x (nI e) := by
  subst hx
  unfold wpX_firstCell
  rw [gc_m12, nI_add, gc_m4]
  exact h
theorem gx_fa (h : ∀ r, post r) : wpX_firstCell post x y := h _
theorem gx_startOf (hx : x = nI q) (hq : q < 12) (he : e < 3) (h : post (gc_sd DI e t q)) : wpX_startOf post (nI n, lv, IN, DI, sp, K, X, Y, V, va, fi, se, bo, st) x t (nI e) := by
  subst hx
  unfold gc_sd at h
  by_cases z : t = -1
  · rw [if_pos z] at h
    have ei : nI e * 12 + nI q = nI (12 * e + q) := by
      rw [gc_m12, nI_add, Nat.mul_comm]
    refine br_t z (And.intro ?_ ?_)
    · rw [ei]; exact vp_in_nI (by omega) (by omega)
    · rw [ei, nI_clamp (by omega)]; exact h
  · rw [if_neg z] at h
    by_cases z' : nI q = t
    · rw [if_pos z'] at h; exact br_f z (br_t z' h)
    · rw [if_neg z'] at h; exact br_f z (br_f z' h)
theorem gx_sum_values {a L : Nat} (hL : a + L ≤ 144) (hp : post (gc_sm (fun t => va (a + t)) L)) : ∀ d j : Nat, j + d = L → wX_sumOf__values_5 post (nI a) (nI L) (nI n) lv IN DI sp K X Y V va fi se bo st (d + 1) (gc_sm (fun t => va (a + t)) j) (nI j) := by
  intro d
  induction d with
  | zero =>
    intro j hj
    have e : j = L := by omega
    subst e
    exact br_t (nI_le (Nat.le_refl _) (by omega)) hp
  | succ d ih =>
    intro j hj
    refine br_f (nI_ge (by omega) (by omega)) ⟨gc_vi (by omega) (by omega), nm_r (e' := gc_sm (fun t => va (a + t)) (j + 1)) ?_ (nm_r (nI_1 j) (ih (j + 1) (by omega)))⟩
    rw [gc_ix (by omega), gc_sm_s]
theorem gx_sumOf_values {a L : Nat} (hL : a + L ≤ 144) (hp : post (gc_sm (fun t => va (a + t)) L)) : wpX_sumOf__values post (nI n, lv, IN, DI, sp, K, X, Y, V, va, fi, se, bo, st) (nI a) (nI L) :=
  ⟨L + 1, gx_sum_values hL hp L 0 (Nat.zero_add L)⟩
theorem gx_combined_values (hm : m < 12) (hi : i < 4) (he : e < 3) (w : gc_N V m (K m) (X m) (Y m) (V m)) (g0 : ¬ K m = 0) (g1 : ¬ K m = 1) (g4 : ¬ K m = 4) (g9 : ¬ K m = 9) (h : post (gc_co (K m) (X m) (Y m) (fun p j => va ((e * 12 + p) * 4 + j)) i)) : wpX_combined__values post (nI n, lv, IN, DI, sp, K, X, Y, V, va, fi, se, bo, st) (nI m) (nI i) (nI e) := by
  have hk : (nI m).toNatClampNeg = m := nI_clamp (by omega)
  have hm' : vp_in (nI m) 12 := vp_in_nI (by omega) (by omega)
  unfold wpX_combined__values
  dsimp only
  rw [hk]
  rcases w with ⟨ek, hv, p, hp, ex⟩ | ⟨ek, hv⟩ | ⟨ek, p, q, hp, hq, ex, ey, hv⟩ | ⟨ek, p, q, hp, hq, ex, ey, hv⟩ | ⟨ek, p, q, hp, hq, ex, ey, hv⟩ | ⟨ek, hv, p, hp, ex, hw⟩ | ⟨ek, hv, p, hp, ex, hw⟩ | ⟨ek, hv, p, hp, ex, hw, q, hq, ey⟩ | ⟨ek, hv, p, hp, ex, hw⟩ | ⟨ek, p, hp, ex, hv⟩ | ⟨ek, hv, p, hp, ex, hw⟩
  · exact absurd ek g0
  · exact absurd ek g1
  · rw [ek, ex, ey, gc_co_2 (by omega) (by omega)] at h
    refine ⟨hm', gx_fc ex ⟨hm', gx_fc ey ⟨hm', nm_r ek (br_f (by decide) (br_f (by decide) (br_t rfl ⟨gc_vi (by omega) (by omega), gc_vi (by omega) (by omega), ?_⟩)))⟩⟩⟩
    rw [gc_ix (by omega), gc_ix (by omega)]
    exact h
  · rw [ek, ex, ey, gc_co_3 (by omega) (by omega)] at h
    refine ⟨hm', gx_fc ex ⟨hm', gx_fc ey ⟨hm', nm_r ek (br_f (by decide) (br_f (by decide) (br_f (by decide) (br_t rfl ⟨gc_vi (by omega) (by omega), gc_vi (by omega) (by omega), ?_⟩))))⟩⟩⟩
    rw [gc_ix (by omega), gc_ix (by omega)]
    exact h
  · exact absurd ek g4
  · rw [ek, ex, gc_co_5 (by omega)] at h
    exact ⟨hm', gx_fc ex ⟨hm', gx_fa fun r => ⟨hm', nm_r ek (br_f (by decide) (br_f (by decide) (br_f (by decide) (br_f (by decide) (br_f (by decide) (br_t rfl (gx_sumOf_values (L := 4) (by omega) h)))))))⟩⟩⟩
  · rw [ek, ex, gc_co_6 (by omega)] at h
    have ei : nI i + 1 &&& 3 = nI ((i + 1) % 4) := gc_and3 hi
    refine ⟨hm', gx_fc ex ⟨hm', gx_fa fun r => ⟨hm', nm_r ek (br_f (by decide) (br_f (by decide) (br_f (by decide) (br_f (by decide) (br_f (by decide) (br_f (by decide) (br_t rfl ⟨?_, ?_⟩)))))))⟩⟩⟩
    · rw [ei]; exact gc_vi (by omega) (by omega)
    · rw [ei, gc_ix (by omega)]; exact h
  · rw [ek, ex, ey, gc_co_7 (by omega) (by omega)] at h
    refine ⟨hm', gx_fc ex ⟨hm', gx_fa fun r => ⟨hm', nm_r ek (br_f (by decide) (br_f (by decide) (br_f (by decide) (br_f (by decide) (br_f (by decide) (br_f (by decide) (br_f (by decide) (br_t rfl ⟨hm', ?_, ?_⟩))))))))⟩⟩⟩
    · rw [ey]; exact gc_vi (by omega) (by omega)
    · rw [ey, gc_ix (by omega)]; exact h
  · rw [ek, ex, gc_co_8 (by omega)] at h
    refine ⟨hm', gx_fc ex ⟨hm', gx_fa fun r => ⟨hm', nm_r ek (br_f (by decide) (br_f (by decide) (br_f (by decide) (br_f (by decide) (br_f (by decide) (br_f (by decide) (br_f (by decide) (br_f (by decide) (br_t rfl ⟨gc_vi (by omega) (by omega), ?_⟩)))))))))⟩⟩⟩
    rw [gc_ix (by omega)]
    exact h
  · exact absurd ek g9
  · rw [ek, ex, gc_co_10 (by omega)] at h
    refine ⟨hm', gx_fc ex ⟨hm', gx_fa fun r => ⟨hm', nm_r ek (br_f (by decide) (br_f (by decide) (br_f (by decide) (br_f (by decide) (br_f (by decide) (br_f (by decide) (br_f (by decide) (br_f (by decide) (br_f (by decide) (br_f (by decide) (br_t rfl ?_)))))))))))⟩⟩⟩
    rw [nI_1]
    exact gx_sumOf_values (by omega) h
theorem gx_sum_byFirst {a L : Nat} (hL : a + L ≤ 144) (hp : post (gc_sm (fun t => fi (a + t)) L)) : ∀ d j : Nat, j + d = L → wX_sumOf__byFirst_5 post (nI a) (nI L) (nI n) lv IN DI sp K X Y V va fi se bo st (d + 1) (gc_sm (fun t => fi (a + t)) j) (nI j) := by
  intro d
  induction d with
  | zero =>
    intro j hj
    have e : j = L := by omega
    subst e
    exact br_t (nI_le (Nat.le_refl _) (by omega)) hp
  | succ d ih =>
    intro j hj
    refine br_f (nI_ge (by omega) (by omega)) ⟨gc_vi (by omega) (by omega), nm_r (e' := gc_sm (fun t => fi (a + t)) (j + 1)) ?_ (nm_r (nI_1 j) (ih (j + 1) (by omega)))⟩
    rw [gc_ix (by omega), gc_sm_s]
theorem gx_sumOf_byFirst {a L : Nat} (hL : a + L ≤ 144) (hp : post (gc_sm (fun t => fi (a + t)) L)) : wpX_sumOf__byFirst post (nI n, lv, IN, DI, sp, K, X, Y, V, va, fi, se, bo, st) (nI a) (nI L) :=
  ⟨L + 1, gx_sum_byFirst hL hp L 0 (Nat.zero_add L)⟩
theorem gx_combined_byFirst (hm : m < 12) (hi : i < 4) (he : e < 3) (w : gc_N V m (K m) (X m) (Y m) (V m)) (g0 : ¬ K m = 0) (g1 : ¬ K m = 1) (g4 : ¬ K m = 4) (g9 : ¬ K m = 9) (h : post (gc_co (K m) (X m) (Y m) (fun p j => fi ((e * 12 + p) * 4 + j)) i)) : wpX_combined__byFirst post (nI n, lv, IN, DI, sp, K, X, Y, V, va, fi, se, bo, st) (nI m) (nI i) (nI e) := by
  have hk : (nI m).toNatClampNeg = m := nI_clamp (by omega)
  have hm' : vp_in (nI m) 12 := vp_in_nI (by omega) (by omega)
  unfold wpX_combined__byFirst
  dsimp only
  rw [hk]
  rcases w with ⟨ek, hv, p, hp, ex⟩ | ⟨ek, hv⟩ | ⟨ek, p, q, hp, hq, ex, ey, hv⟩ | ⟨ek, p, q, hp, hq, ex, ey, hv⟩ | ⟨ek, p, q, hp, hq, ex, ey, hv⟩ | ⟨ek, hv, p, hp, ex, hw⟩ | ⟨ek, hv, p, hp, ex, hw⟩ | ⟨ek, hv, p, hp, ex, hw, q, hq, ey⟩ | ⟨ek, hv, p, hp, ex, hw⟩ | ⟨ek, p, hp, ex, hv⟩ | ⟨ek, hv, p, hp, ex, hw⟩
  · exact absurd ek g0
  · exact absurd ek g1
  · rw [ek, ex, ey, gc_co_2 (by omega) (by omega)] at h
    refine ⟨hm', gx_fc ex ⟨hm', gx_fc ey ⟨hm', nm_r ek (br_f (by decide) (br_f (by decide) (br_t rfl ⟨gc_vi (by omega) (by omega), gc_vi (by omega) (by omega), ?_⟩)))⟩⟩⟩
    rw [gc_ix (by omega), gc_ix (by omega)]
    exact h
  · rw [ek, ex, ey, gc_co_3 (by omega) (by omega)] at h
    refine ⟨hm', gx_fc ex ⟨hm', gx_fc ey ⟨hm', nm_r ek (br_f (by decide) (br_f (by decide) (br_f (by decide) (br_t rfl ⟨gc_vi (by omega) (by omega), gc_vi (by omega) (by omega), ?_⟩))))⟩⟩⟩
    rw [gc_ix (by omega), gc_ix (by omega)]
    exact h
  · exact absurd ek g4
  · rw [ek, ex, gc_co_5 (by omega)] at h
    exact ⟨hm', gx_fc ex ⟨hm', gx_fa fun r => ⟨hm', nm_r ek (br_f (by decide) (br_f (by decide) (br_f (by decide) (br_f (by decide) (br_f (by decide) (br_t rfl (gx_sumOf_byFirst (L := 4) (by omega) h)))))))⟩⟩⟩
  · rw [ek, ex, gc_co_6 (by omega)] at h
    have ei : nI i + 1 &&& 3 = nI ((i + 1) % 4) := gc_and3 hi
    refine ⟨hm', gx_fc ex ⟨hm', gx_fa fun r => ⟨hm', nm_r ek (br_f (by decide) (br_f (by decide) (br_f (by decide) (br_f (by decide) (br_f (by decide) (br_f (by decide) (br_t rfl ⟨?_, ?_⟩)))))))⟩⟩⟩
    · rw [ei]; exact gc_vi (by omega) (by omega)
    · rw [ei, gc_ix (by omega)]; exact h
  · rw [ek, ex, ey, gc_co_7 (by omega) (by omega)] at h
    refine ⟨hm', gx_fc ex ⟨hm', gx_fa fun r => ⟨hm', nm_r ek (br_f (by decide) (br_f (by decide) (br_f (by decide) (br_f (by decide) (br_f (by decide) (br_f (by decide) (br_f (by decide) (br_t rfl ⟨hm', ?_, ?_⟩))))))))⟩⟩⟩
    · rw [ey]; exact gc_vi (by omega) (by omega)
    · rw [ey, gc_ix (by omega)]; exact h
  · rw [ek, ex, gc_co_8 (by omega)] at h
    refine ⟨hm', gx_fc ex ⟨hm', gx_fa fun r => ⟨hm', nm_r ek (br_f (by decide) (br_f (by decide) (br_f (by decide) (br_f (by decide) (br_f (by decide) (br_f (by decide) (br_f (by decide) (br_f (by decide) (br_t rfl ⟨gc_vi (by omega) (by omega), ?_⟩)))))))))⟩⟩⟩
    rw [gc_ix (by omega)]
    exact h
  · exact absurd ek g9
  · rw [ek, ex, gc_co_10 (by omega)] at h
    refine ⟨hm', gx_fc ex ⟨hm', gx_fa fun r => ⟨hm', nm_r ek (br_f (by decide) (br_f (by decide) (br_f (by decide) (br_f (by decide) (br_f (by decide) (br_f (by decide) (br_f (by decide) (br_f (by decide) (br_f (by decide) (br_f (by decide) (br_t rfl ?_)))))))))))⟩⟩⟩
    rw [nI_1]
    exact gx_sumOf_byFirst (by omega) h
theorem gx_sum_byBoth {a L : Nat} (hL : a + L ≤ 144) (hp : post (gc_sm (fun t => bo (a + t)) L)) : ∀ d j : Nat, j + d = L → wX_sumOf__byBoth_5 post (nI a) (nI L) (nI n) lv IN DI sp K X Y V va fi se bo st (d + 1) (gc_sm (fun t => bo (a + t)) j) (nI j) := by
  intro d
  induction d with
  | zero =>
    intro j hj
    have e : j = L := by omega
    subst e
    exact br_t (nI_le (Nat.le_refl _) (by omega)) hp
  | succ d ih =>
    intro j hj
    refine br_f (nI_ge (by omega) (by omega)) ⟨gc_vi (by omega) (by omega), nm_r (e' := gc_sm (fun t => bo (a + t)) (j + 1)) ?_ (nm_r (nI_1 j) (ih (j + 1) (by omega)))⟩
    rw [gc_ix (by omega), gc_sm_s]
theorem gx_sumOf_byBoth {a L : Nat} (hL : a + L ≤ 144) (hp : post (gc_sm (fun t => bo (a + t)) L)) : wpX_sumOf__byBoth post (nI n, lv, IN, DI, sp, K, X, Y, V, va, fi, se, bo, st) (nI a) (nI L) :=
  ⟨L + 1, gx_sum_byBoth hL hp L 0 (Nat.zero_add L)⟩
theorem gx_combined_byBoth (hm : m < 12) (hi : i < 4) (he : e < 3) (w : gc_N V m (K m) (X m) (Y m) (V m)) (g0 : ¬ K m = 0) (g1 : ¬ K m = 1) (g4 : ¬ K m = 4) (g9 : ¬ K m = 9) (h : post (gc_co (K m) (X m) (Y m) (fun p j => bo ((e * 12 + p) * 4 + j)) i)) : wpX_combined__byBoth post (nI n, lv, IN, DI, sp, K, X, Y, V, va, fi, se, bo, st) (nI m) (nI i) (nI e) := by
  have hk : (nI m).toNatClampNeg = m := nI_clamp (by omega)
  have hm' : vp_in (nI m) 12 := vp_in_nI (by omega) (by omega)
  unfold wpX_combined__byBoth
  dsimp only
  rw [hk]
  rcases w with ⟨ek, hv, p, hp, ex⟩ | ⟨ek, hv⟩ | ⟨ek, p, q, hp, hq, ex, ey, hv⟩ | ⟨ek, p, q, hp, hq, ex, ey, hv⟩ | ⟨ek, p, q, hp, hq, ex, ey, hv⟩ | ⟨ek, hv, p, hp, ex, hw⟩ | ⟨ek, hv, p, hp, ex, hw⟩ | ⟨ek, hv, p, hp, ex, hw, q, hq, ey⟩ | ⟨ek, hv, p, hp, ex, hw⟩ | ⟨ek, p, hp, ex, hv⟩ | ⟨ek, hv, p, hp, ex, hw⟩
  · exact absurd ek g0
  · exact absurd ek g1
  · rw [ek, ex, ey, gc_co_2 (by omega) (by omega)] at h
    refine ⟨hm', gx_fc ex ⟨hm', gx_fc ey ⟨hm', nm_r ek (br_f (by decide) (br_f (by decide) (br_t rfl ⟨gc_vi (by omega) (by omega), gc_vi (by omega) (by omega), ?_⟩)))⟩⟩⟩
    rw [gc_ix (by omega), gc_ix (by omega)]
    exact h
  · rw [ek, ex, ey, gc_co_3 (by omega) (by omega)] at h
    refine ⟨hm', gx_fc ex ⟨hm', gx_fc ey ⟨hm', nm_r ek (br_f (by decide) (br_f (by decide) (br_f (by decide) (br_t rfl ⟨gc_vi (by omega) (by omega), gc_vi (by omega) (by omega), ?_⟩))))⟩⟩⟩
    rw [gc_ix (by omega), gc_ix (by omega)]
    exact h
  · exact absurd ek g4
  · rw [ek, ex, gc_co_5 (by omega)] at h
    exact ⟨hm', gx_fc ex ⟨hm', gx_fa fun r => ⟨hm', nm_r ek (br_f (by decide) (br_f (by decide) (br_f (by decide) (br_f (by decide) (br_f (by decide) (br_t rfl (gx_sumOf_byBoth (L := 4) (by omega) h)))))))⟩⟩⟩
  · rw [ek, ex, gc_co_6 (by omega)] at h
    have ei : nI i + 1 &&& 3 = nI ((i + 1) % 4) := gc_and3 hi
    refine ⟨hm', gx_fc ex ⟨hm', gx_fa fun r => ⟨hm', nm_r ek (br_f (by decide) (br_f (by decide) (br_f (by decide) (br_f (by decide) (br_f (by decide) (br_f (by decide) (br_t rfl ⟨?_, ?_⟩)))))))⟩⟩⟩
    · rw [ei]; exact gc_vi (by omega) (by omega)
    · rw [ei, gc_ix (by omega)]; exact h
  · rw [ek, ex, ey, gc_co_7 (by omega) (by omega)] at h
    refine ⟨hm', gx_fc ex ⟨hm', gx_fa fun r => ⟨hm', nm_r ek (br_f (by decide) (br_f (by decide) (br_f (by decide) (br_f (by decide) (br_f (by decide) (br_f (by decide) (br_f (by decide) (br_t rfl ⟨hm', ?_, ?_⟩))))))))⟩⟩⟩
    · rw [ey]; exact gc_vi (by omega) (by omega)
    · rw [ey, gc_ix (by omega)]; exact h
  · rw [ek, ex, gc_co_8 (by omega)] at h
    refine ⟨hm', gx_fc ex ⟨hm', gx_fa fun r => ⟨hm', nm_r ek (br_f (by decide) (br_f (by decide) (br_f (by decide) (br_f (by decide) (br_f (by decide) (br_f (by decide) (br_f (by decide) (br_f (by decide) (br_t rfl ⟨gc_vi (by omega) (by omega), ?_⟩)))))))))⟩⟩⟩
    rw [gc_ix (by omega)]
    exact h
  · exact absurd ek g9
  · rw [ek, ex, gc_co_10 (by omega)] at h
    refine ⟨hm', gx_fc ex ⟨hm', gx_fa fun r => ⟨hm', nm_r ek (br_f (by decide) (br_f (by decide) (br_f (by decide) (br_f (by decide) (br_f (by decide) (br_f (by decide) (br_f (by decide) (br_f (by decide) (br_f (by decide) (br_f (by decide) (br_t rfl ?_)))))))))))⟩⟩⟩
    rw [nI_1]
    exact gx_sumOf_byBoth (by omega) h
theorem gx_sum_bySecond {a L : Nat} (hL : a + L ≤ 144) (hp : post (gc_sm (fun t => se (a + t)) L)) : ∀ d j : Nat, j + d = L → wX_sumOf__bySecond_5 post (nI a) (nI L) (nI n) lv IN DI sp K X Y V va fi se bo st (d + 1) (gc_sm (fun t => se (a + t)) j) (nI j) := by
  intro d
  induction d with
  | zero =>
    intro j hj
    have e : j = L := by omega
    subst e
    exact br_t (nI_le (Nat.le_refl _) (by omega)) hp
  | succ d ih =>
    intro j hj
    refine br_f (nI_ge (by omega) (by omega)) ⟨gc_vi (by omega) (by omega), nm_r (e' := gc_sm (fun t => se (a + t)) (j + 1)) ?_ (nm_r (nI_1 j) (ih (j + 1) (by omega)))⟩
    rw [gc_ix (by omega), gc_sm_s]
theorem gx_sumOf_bySecond {a L : Nat} (hL : a + L ≤ 144) (hp : post (gc_sm (fun t => se (a + t)) L)) : wpX_sumOf__bySecond post (nI n, lv, IN, DI, sp, K, X, Y, V, va, fi, se, bo, st) (nI a) (nI L) :=
  ⟨L + 1, gx_sum_bySecond hL hp L 0 (Nat.zero_add L)⟩
theorem gx_combined_bySecond (hm : m < 12) (hi : i < 4) (he : e < 3) (w : gc_N V m (K m) (X m) (Y m) (V m)) (g0 : ¬ K m = 0) (g1 : ¬ K m = 1) (g4 : ¬ K m = 4) (g9 : ¬ K m = 9) (h : post (gc_co (K m) (X m) (Y m) (fun p j => se ((e * 12 + p) * 4 + j)) i)) : wpX_combined__bySecond post (nI n, lv, IN, DI, sp, K, X, Y, V, va, fi, se, bo, st) (nI m) (nI i) (nI e) := by
  have hk : (nI m).toNatClampNeg = m := nI_clamp (by omega)
  have hm' : vp_in (nI m) 12 := vp_in_nI (by omega) (by omega)
  unfold wpX_combined__bySecond
  dsimp only
  rw [hk]
  rcases w with ⟨ek, hv, p, hp, ex⟩ | ⟨ek, hv⟩ | ⟨ek, p, q, hp, hq, ex, ey, hv⟩ | ⟨ek, p, q, hp, hq, ex, ey, hv⟩ | ⟨ek, p, q, hp, hq, ex, ey, hv⟩ | ⟨ek, hv, p, hp, ex, hw⟩ | ⟨ek, hv, p, hp, ex, hw⟩ | ⟨ek, hv, p, hp, ex, hw, q, hq, ey⟩ | ⟨ek, hv, p, hp, ex, hw⟩ | ⟨ek, p, hp, ex, hv⟩ | ⟨ek, hv, p, hp, ex, hw⟩
  · exact absurd ek g0
  · exact absurd ek g1
  · rw [ek, ex, ey, gc_co_2 (by omega) (by omega)] at h
    refine ⟨hm', gx_fc ex ⟨hm', gx_fc ey ⟨hm', nm_r ek (br_f (by decide) (br_f (by decide) (br_t rfl ⟨gc_vi (by omega) (by omega), gc_vi (by omega) (by omega), ?_⟩)))⟩⟩⟩
    rw [gc_ix (by omega), gc_ix (by omega)]
    exact h
  · rw [ek, ex, ey, gc_co_3 (by omega) (by omega)] at h
    refine ⟨hm', gx_fc ex ⟨hm', gx_fc ey ⟨hm', nm_r ek (br_f (by decide) (br_f (by decide) (br_f (by decide) (br_t rfl ⟨gc_vi (by omega) (by omega), gc_vi (by omega) (by omega), ?_⟩))))⟩⟩⟩
    rw [gc_ix (by omega), gc_ix (by omega)]
    exact h
  · exact absurd ek g4
  · rw [ek, ex, gc_co_5 (by omega)] at h
    exact ⟨hm', gx_fc ex ⟨hm', gx_fa fun r => ⟨hm', nm_r ek (br_f (by decide) (br_f (by decide) (br_f (by decide) (br_f (by decide) (br_f (by decide) (br_t rfl (gx_sumOf_bySecond (L := 4) (by omega) h)))))))⟩⟩⟩
  · rw [ek, ex, gc_co_6 (by omega)] at h
    have ei : nI i + 1 &&& 3 = nI ((i + 1) % 4) := gc_and3 hi
    refine ⟨hm', gx_fc ex ⟨hm', gx_fa fun r => ⟨hm', nm_r ek (br_f (by decide) (br_f (by decide) (br_f (by decide) (br_f (by decide) (br_f (by decide) (br_f (by decide) (br_t rfl ⟨?_, ?_⟩)))))))⟩⟩⟩
    · rw [ei]; exact gc_vi (by omega) (by omega)
    · rw [ei, gc_ix (by omega)]; exact h
  · rw [ek, ex, ey, gc_co_7 (by omega) (by omega)] at h
    refine ⟨hm', gx_fc ex ⟨hm', gx_fa fun r => ⟨hm', nm_r ek (br_f (by decide) (br_f (by decide) (br_f (by decide) (br_f (by decide) (br_f (by decide) (br_f (by decide) (br_f (by decide) (br_t rfl ⟨hm', ?_, ?_⟩))))))))⟩⟩⟩
    · rw [ey]; exact gc_vi (by omega) (by omega)
    · rw [ey, gc_ix (by omega)]; exact h
  · rw [ek, ex, gc_co_8 (by omega)] at h
    refine ⟨hm', gx_fc ex ⟨hm', gx_fa fun r => ⟨hm', nm_r ek (br_f (by decide) (br_f (by decide) (br_f (by decide) (br_f (by decide) (br_f (by decide) (br_f (by decide) (br_f (by decide) (br_f (by decide) (br_t rfl ⟨gc_vi (by omega) (by omega), ?_⟩)))))))))⟩⟩⟩
    rw [gc_ix (by omega)]
    exact h
  · exact absurd ek g9
  · rw [ek, ex, gc_co_10 (by omega)] at h
    refine ⟨hm', gx_fc ex ⟨hm', gx_fa fun r => ⟨hm', nm_r ek (br_f (by decide) (br_f (by decide) (br_f (by decide) (br_f (by decide) (br_f (by decide) (br_f (by decide) (br_f (by decide) (br_f (by decide) (br_f (by decide) (br_f (by decide) (br_t rfl ?_)))))))))))⟩⟩⟩
    rw [nI_1]
    exact gx_sumOf_bySecond (by omega) h
theorem gx_valueOf (hm : m < 12) (hi : i < 4) (he : e < 3) (w : gc_N V m (K m) (X m) (Y m) (V m)) (h : post (gc_rv K X Y (fun c => IN (12 * e + c)) (fun p j => va ((e * 12 + p) * 4 + j)) m i)) : wpX_valueOf post (nI n, lv, IN, DI, sp, K, X, Y, V, va, fi, se, bo, st) (nI m) (nI i) (nI e) := by
  have hk : (nI m).toNatClampNeg = m := nI_clamp (by omega)
  have hm' : vp_in (nI m) 12 := vp_in_nI (by omega) (by omega)
  unfold wpX_valueOf
  dsimp only
  rw [hk]
  unfold gc_rv at h
  have w0 := w
  rcases w with ⟨ek, hv, p, hp, ex⟩ | ⟨ek, hv⟩ | ⟨ek, p, q, hp, hq, ex, ey, hv⟩ | ⟨ek, p, q, hp, hq, ex, ey, hv⟩ | ⟨ek, p, q, hp, hq, ex, ey, hv⟩ | ⟨ek, hv, p, hp, ex, hw⟩ | ⟨ek, hv, p, hp, ex, hw⟩ | ⟨ek, hv, p, hp, ex, hw, q, hq, ey⟩ | ⟨ek, hv, p, hp, ex, hw⟩ | ⟨ek, p, hp, ex, hv⟩ | ⟨ek, hv, p, hp, ex, hw⟩
  · rw [ek, ex, gc_ru_0 (by omega)] at h
    have ei : nI e * 12 + 4 * X m + nI i = nI (12 * e + (4 * p + i)) := by
      rw [ex, gc_m12, gc_4m, nI_add, nI_add]
      congr 1
      omega
    refine ⟨hm', gx_fa fun r4 x4 e4 => ⟨hm', gx_fa fun r5 x5 e5 => ⟨hm', nm_r ek (br_f (by decide) (br_f (by decide) (br_t rfl ⟨hm', ?_, ?_⟩)))⟩⟩⟩
    · rw [ei]; exact vp_in_nI (by omega) (by omega)
    · rw [ei, nI_clamp (by omega)]; exact h
  · rw [ek, gc_ru_1] at h
    exact ⟨hm', gx_fa fun r4 x4 e4 => ⟨hm', gx_fa fun r5 x5 e5 => ⟨hm', nm_r ek (br_f (by decide) (br_f (by decide) (br_f (by decide) (br_t rfl ⟨hm', h⟩))))⟩⟩⟩
  · have h0 : ¬ K m = 0 := by rw [ek]; decide
    have h1 : ¬ K m = 1 := by rw [ek]; decide
    have h4 : ¬ K m = 4 := by rw [ek]; decide
    have h9 : ¬ K m = 9 := by rw [ek]; decide
    rw [gc_ru_co h0 h1 h4 h9] at h
    exact ⟨hm', gx_fa fun r4 x4 e4 => ⟨hm', gx_fa fun r5 x5 e5 => ⟨hm', nm_r ek (br_f (by decide) (br_f (by decide) (br_f (by decide) (br_f (by decide) (br_t rfl (gx_combined_values hm hi he w0 h0 h1 h4 h9 h))))))⟩⟩⟩
  · have h0 : ¬ K m = 0 := by rw [ek]; decide
    have h1 : ¬ K m = 1 := by rw [ek]; decide
    have h4 : ¬ K m = 4 := by rw [ek]; decide
    have h9 : ¬ K m = 9 := by rw [ek]; decide
    rw [gc_ru_co h0 h1 h4 h9] at h
    exact ⟨hm', gx_fa fun r4 x4 e4 => ⟨hm', gx_fa fun r5 x5 e5 => ⟨hm', nm_r ek (br_f (by decide) (br_f (by decide) (br_f (by decide) (br_f (by decide) (br_f (by decide) (br_t rfl (gx_combined_values hm hi he w0 h0 h1 h4 h9 h)))))))⟩⟩⟩
  · rw [ek, ex, ey, gc_ru_4 (by omega) (by omega)] at h
    have c1 : vp_in (nI ((e * 12 + p) * 4 + i)) 144 := vp_in_nI (by omega) (by omega)
    have c2 : vp_in (nI ((e * 12 + q) * 4 + i)) 144 := vp_in_nI (by omega) (by omega)
    have d1 : (nI ((e * 12 + p) * 4 + i)).toNatClampNeg = (e * 12 + p) * 4 + i := nI_clamp (by omega)
    have d2 : (nI ((e * 12 + q) * 4 + i)).toNatClampNeg = (e * 12 + q) * 4 + i := nI_clamp (by omega)
    refine ⟨hm', gx_fc ex (nm_r (nI_add _ _) ⟨hm', gx_fc ey (nm_r (nI_add _ _) ⟨hm', nm_r ek (br_f (by decide) (br_f (by decide) (br_f (by decide) (br_f (by decide) (br_f (by decide) (br_f (by decide) (br_t rfl ⟨c1, c2, ?_⟩)))))))⟩)⟩)⟩
    rw [d1, d2]
    exact h
  · have h0 : ¬ K m = 0 := by rw [ek]; decide
    have h1 : ¬ K m = 1 := by rw [ek]; decide
    have h4 : ¬ K m = 4 := by rw [ek]; decide
    have h9 : ¬ K m = 9 := by rw [ek]; decide
    rw [gc_ru_co h0 h1 h4 h9] at h
    exact ⟨hm', gx_fa fun r4 x4 e4 => ⟨hm', gx_fa fun r5 x5 e5 => ⟨hm', nm_r ek (br_f (by decide) (br_f (by decide) (br_f (by decide) (br_f (by decide) (br_f (by decide) (br_f (by decide) (br_f (by decide) (br_t rfl (gx_combined_values hm hi he w0 h0 h1 h4 h9 h)))))))))⟩⟩⟩
  · have h0 : ¬ K m = 0 := by rw [ek]; decide
    have h1 : ¬ K m = 1 := by rw [ek]; decide
    have h4 : ¬ K m = 4 := by rw [ek]; decide
    have h9 : ¬ K m = 9 := by rw [ek]; decide
    rw [gc_ru_co h0 h1 h4 h9] at h
    exact ⟨hm', gx_fa fun r4 x4 e4 => ⟨hm', gx_fa fun r5 x5 e5 => ⟨hm', nm_r ek (br_f (by decide) (br_f (by decide) (br_f (by decide) (br_f (by decide) (br_f (by decide) (br_f (by decide) (br_f (by decide) (br_f (by decide) (br_t rfl (gx_combined_values hm hi he w0 h0 h1 h4 h9 h))))))))))⟩⟩⟩
  · have h0 : ¬ K m = 0 := by rw [ek]; decide
    have h1 : ¬ K m = 1 := by rw [ek]; decide
    have h4 : ¬ K m = 4 := by rw [ek]; decide
    have h9 : ¬ K m = 9 := by rw [ek]; decide
    rw [gc_ru_co h0 h1 h4 h9] at h
    exact ⟨hm', gx_fa fun r4 x4 e4 => ⟨hm', gx_fa fun r5 x5 e5 => ⟨hm', nm_r ek (br_f (by decide) (br_f (by decide) (br_f (by decide) (br_f (by decide) (br_f (by decide) (br_f (by decide) (br_f (by decide) (br_f (by decide) (br_f (by decide) (br_t rfl (gx_combined_values hm hi he w0 h0 h1 h4 h9 h)))))))))))⟩⟩⟩
  · have h0 : ¬ K m = 0 := by rw [ek]; decide
    have h1 : ¬ K m = 1 := by rw [ek]; decide
    have h4 : ¬ K m = 4 := by rw [ek]; decide
    have h9 : ¬ K m = 9 := by rw [ek]; decide
    rw [gc_ru_co h0 h1 h4 h9] at h
    exact ⟨hm', gx_fa fun r4 x4 e4 => ⟨hm', gx_fa fun r5 x5 e5 => ⟨hm', nm_r ek (br_f (by decide) (br_f (by decide) (br_f (by decide) (br_f (by decide) (br_f (by decide) (br_f (by decide) (br_f (by decide) (br_f (by decide) (br_f (by decide) (br_f (by decide) (br_t rfl (gx_combined_values hm hi he w0 h0 h1 h4 h9 h))))))))))))⟩⟩⟩
  · rw [ek, ex, gc_ru_9 (by omega)] at h
    have c1 : vp_in (nI ((e * 12 + p) * 4 + i)) 144 := vp_in_nI (by omega) (by omega)
    have d1 : (nI ((e * 12 + p) * 4 + i)).toNatClampNeg = (e * 12 + p) * 4 + i := nI_clamp (by omega)
    refine ⟨hm', gx_fc ex (nm_r (nI_add _ _) ⟨hm', gx_fa fun r5 x5 e5 => ⟨hm', nm_r ek (br_f (by decide) (br_f (by decide) (br_f (by decide) (br_f (by decide) (br_f (by decide) (br_f (by decide) (br_f (by decide) (br_f (by decide) (br_f (by decide) (br_f (by decide) (br_f (by decide) (br_t rfl ⟨c1, ?_⟩))))))))))))⟩⟩)⟩
    rw [d1]
    try dsimp only at h
    by_cases z : va ((e * 12 + p) * 4 + i) ≤ 0
    · rw [if_neg (Int32.not_lt.mpr z)] at h
      exact br_t z h
    · rw [if_pos (Int32.not_le.mp z)] at h
      exact br_f z ⟨c1, h⟩
  · have h0 : ¬ K m = 0 := by rw [ek]; decide
    have h1 : ¬ K m = 1 := by rw [ek]; decide
    have h4 : ¬ K m = 4 := by rw [ek]; decide
    have h9 : ¬ K m = 9 := by rw [ek]; decide
    rw [gc_ru_co h0 h1 h4 h9] at h
    exact ⟨hm', gx_fa fun r4 x4 e4 => ⟨hm', gx_fa fun r5 x5 e5 => ⟨hm', nm_r ek (br_f (by decide) (br_t (by decide) (gx_combined_values hm hi he w0 h0 h1 h4 h9 h)))⟩⟩⟩
theorem gx_derivativeOf_byFirst (hm : m < 12) (hi : i < 4) (he : e < 3) (w : gc_N V m (K m) (X m) (Y m) (V m)) (h : post (gc_rd K X Y (gc_sd DI e t) (fun p j => va ((e * 12 + p) * 4 + j)) (fun p j => fi ((e * 12 + p) * 4 + j)) m i)) : wpX_derivativeOf__byFirst post (nI n, lv, IN, DI, sp, K, X, Y, V, va, fi, se, bo, st) (nI m) (nI i) t (nI e) := by
  have hk : (nI m).toNatClampNeg = m := nI_clamp (by omega)
  have hm' : vp_in (nI m) 12 := vp_in_nI (by omega) (by omega)
  unfold wpX_derivativeOf__byFirst
  dsimp only
  rw [hk]
  unfold gc_rd at h
  have w0 := w
  rcases w with ⟨ek, hv, p, hp, ex⟩ | ⟨ek, hv⟩ | ⟨ek, p, q, hp, hq, ex, ey, hv⟩ | ⟨ek, p, q, hp, hq, ex, ey, hv⟩ | ⟨ek, p, q, hp, hq, ex, ey, hv⟩ | ⟨ek, hv, p, hp, ex, hw⟩ | ⟨ek, hv, p, hp, ex, hw⟩ | ⟨ek, hv, p, hp, ex, hw, q, hq, ey⟩ | ⟨ek, hv, p, hp, ex, hw⟩ | ⟨ek, p, hp, ex, hv⟩ | ⟨ek, hv, p, hp, ex, hw⟩
  · rw [ek, ex, gc_ru_0 (by omega)] at h
    have ei : 4 * X m + nI i = nI (4 * p + i) := by
      rw [ex, gc_4m, nI_add]
    exact ⟨hm', gx_fa fun r4 x4 e4 => ⟨hm', gx_fa fun r5 x5 e5 => ⟨hm', nm_r ek (br_f (by decide) (br_f (by decide) (br_t rfl ⟨hm', gx_startOf ei (by omega) he h⟩)))⟩⟩⟩
  · rw [ek, gc_ru_1] at h
    exact ⟨hm', gx_fa fun r4 x4 e4 => ⟨hm', gx_fa fun r5 x5 e5 => ⟨hm', nm_r ek (br_f (by decide) (br_f (by decide) (br_f (by decide) (br_t rfl h))))⟩⟩⟩
  · have h0 : ¬ K m = 0 := by rw [ek]; decide
    have h1 : ¬ K m = 1 := by rw [ek]; decide
    have h4 : ¬ K m = 4 := by rw [ek]; decide
    have h9 : ¬ K m = 9 := by rw [ek]; decide
    rw [gc_ru_co h0 h1 h4 h9] at h
    exact ⟨hm', gx_fa fun r4 x4 e4 => ⟨hm', gx_fa fun r5 x5 e5 => ⟨hm', nm_r ek (br_f (by decide) (br_f (by decide) (br_f (by decide) (br_f (by decide) (br_t rfl (gx_combined_byFirst hm hi he w0 h0 h1 h4 h9 h))))))⟩⟩⟩
  · have h0 : ¬ K m = 0 := by rw [ek]; decide
    have h1 : ¬ K m = 1 := by rw [ek]; decide
    have h4 : ¬ K m = 4 := by rw [ek]; decide
    have h9 : ¬ K m = 9 := by rw [ek]; decide
    rw [gc_ru_co h0 h1 h4 h9] at h
    exact ⟨hm', gx_fa fun r4 x4 e4 => ⟨hm', gx_fa fun r5 x5 e5 => ⟨hm', nm_r ek (br_f (by decide) (br_f (by decide) (br_f (by decide) (br_f (by decide) (br_f (by decide) (br_t rfl (gx_combined_byFirst hm hi he w0 h0 h1 h4 h9 h)))))))⟩⟩⟩
  · rw [ek, ex, ey, gc_ru_4 (by omega) (by omega)] at h
    have c1 : vp_in (nI ((e * 12 + p) * 4 + i)) 144 := vp_in_nI (by omega) (by omega)
    have c2 : vp_in (nI ((e * 12 + q) * 4 + i)) 144 := vp_in_nI (by omega) (by omega)
    have d1 : (nI ((e * 12 + p) * 4 + i)).toNatClampNeg = (e * 12 + p) * 4 + i := nI_clamp (by omega)
    have d2 : (nI ((e * 12 + q) * 4 + i)).toNatClampNeg = (e * 12 + q) * 4 + i := nI_clamp (by omega)
    refine ⟨hm', gx_fc ex (nm_r (nI_add _ _) ⟨hm', gx_fc ey (nm_r (nI_add _ _) ⟨hm', nm_r ek (br_f (by decide) (br_f (by decide) (br_f (by decide) (br_f (by decide) (br_f (by decide) (br_f (by decide) (br_t rfl ⟨c1, c2, c1, c2, ?_⟩)))))))⟩)⟩)⟩
    rw [d1, d2]
    exact h
  · have h0 : ¬ K m = 0 := by rw [ek]; decide
    have h1 : ¬ K m = 1 := by rw [ek]; decide
    have h4 : ¬ K m = 4 := by rw [ek]; decide
    have h9 : ¬ K m = 9 := by rw [ek]; decide
    rw [gc_ru_co h0 h1 h4 h9] at h
    exact ⟨hm', gx_fa fun r4 x4 e4 => ⟨hm', gx_fa fun r5 x5 e5 => ⟨hm', nm_r ek (br_f (by decide) (br_f (by decide) (br_f (by decide) (br_f (by decide) (br_f (by decide) (br_f (by decide) (br_f (by decide) (br_t rfl (gx_combined_byFirst hm hi he w0 h0 h1 h4 h9 h)))))))))⟩⟩⟩
  · have h0 : ¬ K m = 0 := by rw [ek]; decide
    have h1 : ¬ K m = 1 := by rw [ek]; decide
    have h4 : ¬ K m = 4 := by rw [ek]; decide
    have h9 : ¬ K m = 9 := by rw [ek]; decide
    rw [gc_ru_co h0 h1 h4 h9] at h
    exact ⟨hm', gx_fa fun r4 x4 e4 => ⟨hm', gx_fa fun r5 x5 e5 => ⟨hm', nm_r ek (br_f (by decide) (br_f (by decide) (br_f (by decide) (br_f (by decide) (br_f (by decide) (br_f (by decide) (br_f (by decide) (br_f (by decide) (br_t rfl (gx_combined_byFirst hm hi he w0 h0 h1 h4 h9 h))))))))))⟩⟩⟩
  · have h0 : ¬ K m = 0 := by rw [ek]; decide
    have h1 : ¬ K m = 1 := by rw [ek]; decide
    have h4 : ¬ K m = 4 := by rw [ek]; decide
    have h9 : ¬ K m = 9 := by rw [ek]; decide
    rw [gc_ru_co h0 h1 h4 h9] at h
    exact ⟨hm', gx_fa fun r4 x4 e4 => ⟨hm', gx_fa fun r5 x5 e5 => ⟨hm', nm_r ek (br_f (by decide) (br_f (by decide) (br_f (by decide) (br_f (by decide) (br_f (by decide) (br_f (by decide) (br_f (by decide) (br_f (by decide) (br_f (by decide) (br_t rfl (gx_combined_byFirst hm hi he w0 h0 h1 h4 h9 h)))))))))))⟩⟩⟩
  · have h0 : ¬ K m = 0 := by rw [ek]; decide
    have h1 : ¬ K m = 1 := by rw [ek]; decide
    have h4 : ¬ K m = 4 := by rw [ek]; decide
    have h9 : ¬ K m = 9 := by rw [ek]; decide
    rw [gc_ru_co h0 h1 h4 h9] at h
    exact ⟨hm', gx_fa fun r4 x4 e4 => ⟨hm', gx_fa fun r5 x5 e5 => ⟨hm', nm_r ek (br_f (by decide) (br_f (by decide) (br_f (by decide) (br_f (by decide) (br_f (by decide) (br_f (by decide) (br_f (by decide) (br_f (by decide) (br_f (by decide) (br_f (by decide) (br_t rfl (gx_combined_byFirst hm hi he w0 h0 h1 h4 h9 h))))))))))))⟩⟩⟩
  · rw [ek, ex, gc_ru_9 (by omega)] at h
    have c1 : vp_in (nI ((e * 12 + p) * 4 + i)) 144 := vp_in_nI (by omega) (by omega)
    have d1 : (nI ((e * 12 + p) * 4 + i)).toNatClampNeg = (e * 12 + p) * 4 + i := nI_clamp (by omega)
    refine ⟨hm', gx_fc ex (nm_r (nI_add _ _) ⟨hm', gx_fa fun r5 x5 e5 => ⟨hm', nm_r ek (br_f (by decide) (br_f (by decide) (br_f (by decide) (br_f (by decide) (br_f (by decide) (br_f (by decide) (br_f (by decide) (br_f (by decide) (br_f (by decide) (br_f (by decide) (br_f (by decide) (br_t rfl ⟨c1, ?_⟩))))))))))))⟩⟩)⟩
    rw [d1]
    try dsimp only at h
    by_cases z : va ((e * 12 + p) * 4 + i) ≤ 0
    · rw [if_neg (Int32.not_lt.mpr z)] at h
      exact br_t z h
    · rw [if_pos (Int32.not_le.mp z)] at h
      exact br_f z ⟨c1, h⟩
  · have h0 : ¬ K m = 0 := by rw [ek]; decide
    have h1 : ¬ K m = 1 := by rw [ek]; decide
    have h4 : ¬ K m = 4 := by rw [ek]; decide
    have h9 : ¬ K m = 9 := by rw [ek]; decide
    rw [gc_ru_co h0 h1 h4 h9] at h
    exact ⟨hm', gx_fa fun r4 x4 e4 => ⟨hm', gx_fa fun r5 x5 e5 => ⟨hm', nm_r ek (br_f (by decide) (br_t (by decide) (gx_combined_byFirst hm hi he w0 h0 h1 h4 h9 h)))⟩⟩⟩
theorem gx_derivativeOf_bySecond (hm : m < 12) (hi : i < 4) (he : e < 3) (w : gc_N V m (K m) (X m) (Y m) (V m)) (h : post (gc_rd K X Y (gc_sd DI e t) (fun p j => va ((e * 12 + p) * 4 + j)) (fun p j => se ((e * 12 + p) * 4 + j)) m i)) : wpX_derivativeOf__bySecond post (nI n, lv, IN, DI, sp, K, X, Y, V, va, fi, se, bo, st) (nI m) (nI i) t (nI e) := by
  have hk : (nI m).toNatClampNeg = m := nI_clamp (by omega)
  have hm' : vp_in (nI m) 12 := vp_in_nI (by omega) (by omega)
  unfold wpX_derivativeOf__bySecond
  dsimp only
  rw [hk]
  unfold gc_rd at h
  have w0 := w
  rcases w with ⟨ek, hv, p, hp, ex⟩ | ⟨ek, hv⟩ | ⟨ek, p, q, hp, hq, ex, ey, hv⟩ | ⟨ek, p, q, hp, hq, ex, ey, hv⟩ | ⟨ek, p, q, hp, hq, ex, ey, hv⟩ | ⟨ek, hv, p, hp, ex, hw⟩ | ⟨ek, hv, p, hp, ex, hw⟩ | ⟨ek, hv, p, hp, ex, hw, q, hq, ey⟩ | ⟨ek, hv, p, hp, ex, hw⟩ | ⟨ek, p, hp, ex, hv⟩ | ⟨ek, hv, p, hp, ex, hw⟩
  · rw [ek, ex, gc_ru_0 (by omega)] at h
    have ei : 4 * X m + nI i = nI (4 * p + i) := by
      rw [ex, gc_4m, nI_add]
    exact ⟨hm', gx_fa fun r4 x4 e4 => ⟨hm', gx_fa fun r5 x5 e5 => ⟨hm', nm_r ek (br_f (by decide) (br_f (by decide) (br_t rfl ⟨hm', gx_startOf ei (by omega) he h⟩)))⟩⟩⟩
  · rw [ek, gc_ru_1] at h
    exact ⟨hm', gx_fa fun r4 x4 e4 => ⟨hm', gx_fa fun r5 x5 e5 => ⟨hm', nm_r ek (br_f (by decide) (br_f (by decide) (br_f (by decide) (br_t rfl h))))⟩⟩⟩
  · have h0 : ¬ K m = 0 := by rw [ek]; decide
    have h1 : ¬ K m = 1 := by rw [ek]; decide
    have h4 : ¬ K m = 4 := by rw [ek]; decide
    have h9 : ¬ K m = 9 := by rw [ek]; decide
    rw [gc_ru_co h0 h1 h4 h9] at h
    exact ⟨hm', gx_fa fun r4 x4 e4 => ⟨hm', gx_fa fun r5 x5 e5 => ⟨hm', nm_r ek (br_f (by decide) (br_f (by decide) (br_f (by decide) (br_f (by decide) (br_t rfl (gx_combined_bySecond hm hi he w0 h0 h1 h4 h9 h))))))⟩⟩⟩
  · have h0 : ¬ K m = 0 := by rw [ek]; decide
    have h1 : ¬ K m = 1 := by rw [ek]; decide
    have h4 : ¬ K m = 4 := by rw [ek]; decide
    have h9 : ¬ K m = 9 := by rw [ek]; decide
    rw [gc_ru_co h0 h1 h4 h9] at h
    exact ⟨hm', gx_fa fun r4 x4 e4 => ⟨hm', gx_fa fun r5 x5 e5 => ⟨hm', nm_r ek (br_f (by decide) (br_f (by decide) (br_f (by decide) (br_f (by decide) (br_f (by decide) (br_t rfl (gx_combined_bySecond hm hi he w0 h0 h1 h4 h9 h)))))))⟩⟩⟩
  · rw [ek, ex, ey, gc_ru_4 (by omega) (by omega)] at h
    have c1 : vp_in (nI ((e * 12 + p) * 4 + i)) 144 := vp_in_nI (by omega) (by omega)
    have c2 : vp_in (nI ((e * 12 + q) * 4 + i)) 144 := vp_in_nI (by omega) (by omega)
    have d1 : (nI ((e * 12 + p) * 4 + i)).toNatClampNeg = (e * 12 + p) * 4 + i := nI_clamp (by omega)
    have d2 : (nI ((e * 12 + q) * 4 + i)).toNatClampNeg = (e * 12 + q) * 4 + i := nI_clamp (by omega)
    refine ⟨hm', gx_fc ex (nm_r (nI_add _ _) ⟨hm', gx_fc ey (nm_r (nI_add _ _) ⟨hm', nm_r ek (br_f (by decide) (br_f (by decide) (br_f (by decide) (br_f (by decide) (br_f (by decide) (br_f (by decide) (br_t rfl ⟨c1, c2, c1, c2, ?_⟩)))))))⟩)⟩)⟩
    rw [d1, d2]
    exact h
  · have h0 : ¬ K m = 0 := by rw [ek]; decide
    have h1 : ¬ K m = 1 := by rw [ek]; decide
    have h4 : ¬ K m = 4 := by rw [ek]; decide
    have h9 : ¬ K m = 9 := by rw [ek]; decide
    rw [gc_ru_co h0 h1 h4 h9] at h
    exact ⟨hm', gx_fa fun r4 x4 e4 => ⟨hm', gx_fa fun r5 x5 e5 => ⟨hm', nm_r ek (br_f (by decide) (br_f (by decide) (br_f (by decide) (br_f (by decide) (br_f (by decide) (br_f (by decide) (br_f (by decide) (br_t rfl (gx_combined_bySecond hm hi he w0 h0 h1 h4 h9 h)))))))))⟩⟩⟩
  · have h0 : ¬ K m = 0 := by rw [ek]; decide
    have h1 : ¬ K m = 1 := by rw [ek]; decide
    have h4 : ¬ K m = 4 := by rw [ek]; decide
    have h9 : ¬ K m = 9 := by rw [ek]; decide
    rw [gc_ru_co h0 h1 h4 h9] at h
    exact ⟨hm', gx_fa fun r4 x4 e4 => ⟨hm', gx_fa fun r5 x5 e5 => ⟨hm', nm_r ek (br_f (by decide) (br_f (by decide) (br_f (by decide) (br_f (by decide) (br_f (by decide) (br_f (by decide) (br_f (by decide) (br_f (by decide) (br_t rfl (gx_combined_bySecond hm hi he w0 h0 h1 h4 h9 h))))))))))⟩⟩⟩
  · have h0 : ¬ K m = 0 := by rw [ek]; decide
    have h1 : ¬ K m = 1 := by rw [ek]; decide
    have h4 : ¬ K m = 4 := by rw [ek]; decide
    have h9 : ¬ K m = 9 := by rw [ek]; decide
    rw [gc_ru_co h0 h1 h4 h9] at h
    exact ⟨hm', gx_fa fun r4 x4 e4 => ⟨hm', gx_fa fun r5 x5 e5 => ⟨hm', nm_r ek (br_f (by decide) (br_f (by decide) (br_f (by decide) (br_f (by decide) (br_f (by decide) (br_f (by decide) (br_f (by decide) (br_f (by decide) (br_f (by decide) (br_t rfl (gx_combined_bySecond hm hi he w0 h0 h1 h4 h9 h)))))))))))⟩⟩⟩
  · have h0 : ¬ K m = 0 := by rw [ek]; decide
    have h1 : ¬ K m = 1 := by rw [ek]; decide
    have h4 : ¬ K m = 4 := by rw [ek]; decide
    have h9 : ¬ K m = 9 := by rw [ek]; decide
    rw [gc_ru_co h0 h1 h4 h9] at h
    exact ⟨hm', gx_fa fun r4 x4 e4 => ⟨hm', gx_fa fun r5 x5 e5 => ⟨hm', nm_r ek (br_f (by decide) (br_f (by decide) (br_f (by decide) (br_f (by decide) (br_f (by decide) (br_f (by decide) (br_f (by decide) (br_f (by decide) (br_f (by decide) (br_f (by decide) (br_t rfl (gx_combined_bySecond hm hi he w0 h0 h1 h4 h9 h))))))))))))⟩⟩⟩
  · rw [ek, ex, gc_ru_9 (by omega)] at h
    have c1 : vp_in (nI ((e * 12 + p) * 4 + i)) 144 := vp_in_nI (by omega) (by omega)
    have d1 : (nI ((e * 12 + p) * 4 + i)).toNatClampNeg = (e * 12 + p) * 4 + i := nI_clamp (by omega)
    refine ⟨hm', gx_fc ex (nm_r (nI_add _ _) ⟨hm', gx_fa fun r5 x5 e5 => ⟨hm', nm_r ek (br_f (by decide) (br_f (by decide) (br_f (by decide) (br_f (by decide) (br_f (by decide) (br_f (by decide) (br_f (by decide) (br_f (by decide) (br_f (by decide) (br_f (by decide) (br_f (by decide) (br_t rfl ⟨c1, ?_⟩))))))))))))⟩⟩)⟩
    rw [d1]
    try dsimp only at h
    by_cases z : va ((e * 12 + p) * 4 + i) ≤ 0
    · rw [if_neg (Int32.not_lt.mpr z)] at h
      exact br_t z h
    · rw [if_pos (Int32.not_le.mp z)] at h
      exact br_f z ⟨c1, h⟩
  · have h0 : ¬ K m = 0 := by rw [ek]; decide
    have h1 : ¬ K m = 1 := by rw [ek]; decide
    have h4 : ¬ K m = 4 := by rw [ek]; decide
    have h9 : ¬ K m = 9 := by rw [ek]; decide
    rw [gc_ru_co h0 h1 h4 h9] at h
    exact ⟨hm', gx_fa fun r4 x4 e4 => ⟨hm', gx_fa fun r5 x5 e5 => ⟨hm', nm_r ek (br_f (by decide) (br_t (by decide) (gx_combined_bySecond hm hi he w0 h0 h1 h4 h9 h)))⟩⟩⟩
theorem gx_secondDerivativeOf (hm : m < 12) (hi : i < 4) (he : e < 3) (w : gc_N V m (K m) (X m) (Y m) (V m)) (h : post (gc_rb K X Y (fun p j => va ((e * 12 + p) * 4 + j)) (fun p j => fi ((e * 12 + p) * 4 + j)) (fun p j => se ((e * 12 + p) * 4 + j)) (fun p j => bo ((e * 12 + p) * 4 + j)) m i)) : wpX_secondDerivativeOf post (nI n, lv, IN, DI, sp, K, X, Y, V, va, fi, se, bo, st) (nI m) (nI i) (nI e) := by
  have hk : (nI m).toNatClampNeg = m := nI_clamp (by omega)
  have hm' : vp_in (nI m) 12 := vp_in_nI (by omega) (by omega)
  unfold wpX_secondDerivativeOf
  dsimp only
  rw [hk]
  unfold gc_rb at h
  have w0 := w
  rcases w with ⟨ek, hv, p, hp, ex⟩ | ⟨ek, hv⟩ | ⟨ek, p, q, hp, hq, ex, ey, hv⟩ | ⟨ek, p, q, hp, hq, ex, ey, hv⟩ | ⟨ek, p, q, hp, hq, ex, ey, hv⟩ | ⟨ek, hv, p, hp, ex, hw⟩ | ⟨ek, hv, p, hp, ex, hw⟩ | ⟨ek, hv, p, hp, ex, hw, q, hq, ey⟩ | ⟨ek, hv, p, hp, ex, hw⟩ | ⟨ek, p, hp, ex, hv⟩ | ⟨ek, hv, p, hp, ex, hw⟩
  · rw [ek, ex, gc_ru_0 (by omega)] at h
    exact ⟨hm', gx_fa fun r4 x4 e4 => ⟨hm', gx_fa fun r5 x5 e5 => ⟨hm', nm_r ek (br_f (by decide) (br_f (by decide) (br_t rfl h)))⟩⟩⟩
  · rw [ek, gc_ru_1] at h
    exact ⟨hm', gx_fa fun r4 x4 e4 => ⟨hm', gx_fa fun r5 x5 e5 => ⟨hm', nm_r ek (br_f (by decide) (br_f (by decide) (br_f (by decide) (br_t rfl h))))⟩⟩⟩
  · have h0 : ¬ K m = 0 := by rw [ek]; decide
    have h1 : ¬ K m = 1 := by rw [ek]; decide
    have h4 : ¬ K m = 4 := by rw [ek]; decide
    have h9 : ¬ K m = 9 := by rw [ek]; decide
    rw [gc_ru_co h0 h1 h4 h9] at h
    exact ⟨hm', gx_fa fun r4 x4 e4 => ⟨hm', gx_fa fun r5 x5 e5 => ⟨hm', nm_r ek (br_f (by decide) (br_f (by decide) (br_f (by decide) (br_f (by decide) (br_t rfl (gx_combined_byBoth hm hi he w0 h0 h1 h4 h9 h))))))⟩⟩⟩
  · have h0 : ¬ K m = 0 := by rw [ek]; decide
    have h1 : ¬ K m = 1 := by rw [ek]; decide
    have h4 : ¬ K m = 4 := by rw [ek]; decide
    have h9 : ¬ K m = 9 := by rw [ek]; decide
    rw [gc_ru_co h0 h1 h4 h9] at h
    exact ⟨hm', gx_fa fun r4 x4 e4 => ⟨hm', gx_fa fun r5 x5 e5 => ⟨hm', nm_r ek (br_f (by decide) (br_f (by decide) (br_f (by decide) (br_f (by decide) (br_f (by decide) (br_t rfl (gx_combined_byBoth hm hi he w0 h0 h1 h4 h9 h)))))))⟩⟩⟩
  · rw [ek, ex, ey, gc_ru_4 (by omega) (by omega)] at h
    have c1 : vp_in (nI ((e * 12 + p) * 4 + i)) 144 := vp_in_nI (by omega) (by omega)
    have c2 : vp_in (nI ((e * 12 + q) * 4 + i)) 144 := vp_in_nI (by omega) (by omega)
    have d1 : (nI ((e * 12 + p) * 4 + i)).toNatClampNeg = (e * 12 + p) * 4 + i := nI_clamp (by omega)
    have d2 : (nI ((e * 12 + q) * 4 + i)).toNatClampNeg = (e * 12 + q) * 4 + i := nI_clamp (by omega)
    refine ⟨hm', gx_fc ex (nm_r (nI_add _ _) ⟨hm', gx_fc ey (nm_r (nI_add _ _) ⟨hm', nm_r ek (br_f (by decide) (br_f (by decide) (br_f (by decide) (br_f (by decide) (br_f (by decide) (br_f (by decide) (br_t rfl ⟨c1, c2, c1, c2, c1, c2, c1, c2, ?_⟩)))))))⟩)⟩)⟩
    rw [d1, d2]
    exact h
  · have h0 : ¬ K m = 0 := by rw [ek]; decide
    have h1 : ¬ K m = 1 := by rw [ek]; decide
    have h4 : ¬ K m = 4 := by rw [ek]; decide
    have h9 : ¬ K m = 9 := by rw [ek]; decide
    rw [gc_ru_co h0 h1 h4 h9] at h
    exact ⟨hm', gx_fa fun r4 x4 e4 => ⟨hm', gx_fa fun r5 x5 e5 => ⟨hm', nm_r ek (br_f (by decide) (br_f (by decide) (br_f (by decide) (br_f (by decide) (br_f (by decide) (br_f (by decide) (br_f (by decide) (br_t rfl (gx_combined_byBoth hm hi he w0 h0 h1 h4 h9 h)))))))))⟩⟩⟩
  · have h0 : ¬ K m = 0 := by rw [ek]; decide
    have h1 : ¬ K m = 1 := by rw [ek]; decide
    have h4 : ¬ K m = 4 := by rw [ek]; decide
    have h9 : ¬ K m = 9 := by rw [ek]; decide
    rw [gc_ru_co h0 h1 h4 h9] at h
    exact ⟨hm', gx_fa fun r4 x4 e4 => ⟨hm', gx_fa fun r5 x5 e5 => ⟨hm', nm_r ek (br_f (by decide) (br_f (by decide) (br_f (by decide) (br_f (by decide) (br_f (by decide) (br_f (by decide) (br_f (by decide) (br_f (by decide) (br_t rfl (gx_combined_byBoth hm hi he w0 h0 h1 h4 h9 h))))))))))⟩⟩⟩
  · have h0 : ¬ K m = 0 := by rw [ek]; decide
    have h1 : ¬ K m = 1 := by rw [ek]; decide
    have h4 : ¬ K m = 4 := by rw [ek]; decide
    have h9 : ¬ K m = 9 := by rw [ek]; decide
    rw [gc_ru_co h0 h1 h4 h9] at h
    exact ⟨hm', gx_fa fun r4 x4 e4 => ⟨hm', gx_fa fun r5 x5 e5 => ⟨hm', nm_r ek (br_f (by decide) (br_f (by decide) (br_f (by decide) (br_f (by decide) (br_f (by decide) (br_f (by decide) (br_f (by decide) (br_f (by decide) (br_f (by decide) (br_t rfl (gx_combined_byBoth hm hi he w0 h0 h1 h4 h9 h)))))))))))⟩⟩⟩
  · have h0 : ¬ K m = 0 := by rw [ek]; decide
    have h1 : ¬ K m = 1 := by rw [ek]; decide
    have h4 : ¬ K m = 4 := by rw [ek]; decide
    have h9 : ¬ K m = 9 := by rw [ek]; decide
    rw [gc_ru_co h0 h1 h4 h9] at h
    exact ⟨hm', gx_fa fun r4 x4 e4 => ⟨hm', gx_fa fun r5 x5 e5 => ⟨hm', nm_r ek (br_f (by decide) (br_f (by decide) (br_f (by decide) (br_f (by decide) (br_f (by decide) (br_f (by decide) (br_f (by decide) (br_f (by decide) (br_f (by decide) (br_f (by decide) (br_t rfl (gx_combined_byBoth hm hi he w0 h0 h1 h4 h9 h))))))))))))⟩⟩⟩
  · rw [ek, ex, gc_ru_9 (by omega)] at h
    have c1 : vp_in (nI ((e * 12 + p) * 4 + i)) 144 := vp_in_nI (by omega) (by omega)
    have d1 : (nI ((e * 12 + p) * 4 + i)).toNatClampNeg = (e * 12 + p) * 4 + i := nI_clamp (by omega)
    refine ⟨hm', gx_fc ex (nm_r (nI_add _ _) ⟨hm', gx_fa fun r5 x5 e5 => ⟨hm', nm_r ek (br_f (by decide) (br_f (by decide) (br_f (by decide) (br_f (by decide) (br_f (by decide) (br_f (by decide) (br_f (by decide) (br_f (by decide) (br_f (by decide) (br_f (by decide) (br_f (by decide) (br_t rfl ⟨c1, ?_⟩))))))))))))⟩⟩)⟩
    rw [d1]
    try dsimp only at h
    by_cases z : va ((e * 12 + p) * 4 + i) ≤ 0
    · rw [if_neg (Int32.not_lt.mpr z)] at h
      exact br_t z h
    · rw [if_pos (Int32.not_le.mp z)] at h
      exact br_f z ⟨c1, h⟩
  · have h0 : ¬ K m = 0 := by rw [ek]; decide
    have h1 : ¬ K m = 1 := by rw [ek]; decide
    have h4 : ¬ K m = 4 := by rw [ek]; decide
    have h9 : ¬ K m = 9 := by rw [ek]; decide
    rw [gc_ru_co h0 h1 h4 h9] at h
    exact ⟨hm', gx_fa fun r4 x4 e4 => ⟨hm', gx_fa fun r5 x5 e5 => ⟨hm', nm_r ek (br_f (by decide) (br_t (by decide) (gx_combined_byBoth hm hi he w0 h0 h1 h4 h9 h)))⟩⟩⟩
end
end GXA
