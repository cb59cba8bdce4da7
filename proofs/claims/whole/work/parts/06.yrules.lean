section GYA
/-! the reference: tests of arguments, one node's cells -/
theorem gy_br {N : Nat} {x M : Int32} {A B : Prop} (hM : M.toInt = (N : Int) - 1) (hN : N < 2 ^ 31) (h1 : gc_in N x → B) (h0 : ¬ gc_in N x → A) : (x < 0 → A) ∧ (¬ x < 0 → ((M < x → A) ∧ (¬ M < x → B))) := by
  have z : (0 : Int32).toInt = 0 := by decide
  refine br_c (fun a => h0 ?_) (fun a => br_c (fun b => h0 ?_) (fun b => h1 ?_))
  · rw [gc_in_iff hN]
    rw [Int32.lt_iff_toInt_lt, z] at a
    omega
  · rw [gc_in_iff hN]
    rw [Int32.lt_iff_toInt_lt, hM] at b
    omega
  · rw [gc_in_iff hN]
    rw [Int32.lt_iff_toInt_lt, z] at a
    rw [Int32.lt_iff_toInt_lt, hM] at b
    omega
theorem gy_pred {n : Nat} (hn : n ≤ 12) : (nI n - 1).toInt = (n : Int) - 1 := by
  cases n with
  | zero => decide
  | succ n =>
    rw [nI_pred, nI_toInt (by omega)]
    omega
theorem gy_2 : (2 : Int32).toInt = ((3 : Nat) : Int) - 1 := by decide
theorem gy_3 : (3 : Int32).toInt = ((4 : Nat) : Int) - 1 := by decide
theorem gy_0 : (0 : Int32).toInt = ((1 : Nat) : Int) - 1 := by decide
theorem gy_10 : (10 : Int32).toInt = ((11 : Nat) : Int) - 1 := by decide
theorem gy_11 : (11 : Int32).toInt = ((12 : Nat) : Int) - 1 := by decide
theorem gc_01b : narrow .boolean (.int (0 : Int32)) = .int (0 : Int32) := gc_nb (Or.inl rfl)
theorem gc_11b : narrow .boolean (.int (1 : Int32)) = .int (1 : Int32) := gc_nb (Or.inr rfl)
section
variable {n : Nat} {K X Y V IN DI on tw pl f1 f2 f3 sl : Nat → Int32} {post : Int32 → Prop} {x y z M : Int32}
theorem gy_in {N : Nat} (hM : M.toInt = (N : Int) - 1) (hN : N < 2 ^ 31) (h1 : gc_in N x → post 1) (h0 : ¬ gc_in N x → post 0) : wpY_in post (nI n, K, X, Y, V, IN, DI, on, tw, pl, f1, f2, f3, sl) x 0 M :=
  gy_br hM hN h1 h0
theorem gy_isNode (hn : n ≤ 12) (h1 : gc_in n x → post 1) (h0 : ¬ gc_in n x → post 0) : wpY_isNode post (nI n, K, X, Y, V, IN, DI, on, tw, pl, f1, f2, f3, sl) x := by
  unfold wpY_isNode
  exact gy_in (gy_pred hn) (by omega) (fun h => ⟨gc_11b, h1 h⟩) (fun h => ⟨gc_01b, h0 h⟩)
theorem gy_isPlace (h1 : gc_in 12 x → gc_in 3 y → post 1) (h0 : ¬ (gc_in 12 x ∧ gc_in 3 y) → post 0) : wpY_isPlace post (nI n, K, X, Y, V, IN, DI, on, tw, pl, f1, f2, f3, sl) x y := by
  unfold wpY_isPlace
  refine gy_in gy_11 (by omega) (fun h => br_f gc_10 ?_) (fun h => br_t rfl (h0 (fun g => h g.1)))
  exact gy_in gy_2 (by omega) (fun g => br_f gc_10 (h1 h g)) (fun g => br_t rfl (h0 (fun k => g k.2)))
theorem gy_isNumber (hn : n ≤ 12) (h1 : gc_num n V x → post 1) (h0 : ¬ gc_num n V x → post 0) : wpY_isNumber post (nI n, K, X, Y, V, IN, DI, on, tw, pl, f1, f2, f3, sl) x := by
  unfold wpY_isNumber
  refine gy_isNode hn (fun h => br_f gc_10 ?_) (fun h => br_t rfl (h0 ?_))
  · obtain ⟨m, hm, rfl⟩ := h
    refine ⟨vp_in_nI (by omega) (by omega), ?_⟩
    rw [nI_clamp (by omega)]
    refine br_c (fun z => h1 ⟨m, hm, rfl, z⟩) (fun z => h0 ?_)
    intro ⟨m', hm', e', z'⟩
    have := gc_im e' (by omega) (by omega)
    subst this
    exact z z'
  · intro ⟨m, hm, e, z⟩
    exact h ⟨m, hm, e⟩
theorem gy_isComponent (hn : n ≤ 12) (h1 : gc_cmp n V x y → gc_in 3 z → post 1) (h0 : ¬ (gc_cmp n V x y ∧ gc_in 3 z) → post 0) : wpY_isComponent post (nI n, K, X, Y, V, IN, DI, on, tw, pl, f1, f2, f3, sl) x y z := by
  unfold wpY_isComponent
  refine gy_isNode hn (fun h => br_f gc_10 ?_) (fun h => br_t rfl (h0 ?_))
  · obtain ⟨m, hm, rfl⟩ := h
    have hj : ∀ {m' : Nat}, m' < n → nI m = nI m' → m' = m := fun h e => (gc_im e (by omega) (by omega)).symm
    refine ⟨vp_in_nI (by omega) (by omega), ?_⟩
    rw [nI_clamp (by omega)]
    by_cases v : V m = 0
    · refine br_t v ?_
      unfold wY_isComponent_25
      refine gy_in gy_0 (by omega) (fun g => br_f gc_10 ?_) (fun g => br_t rfl (h0 ?_))
      · exact gy_in gy_2 (by omega) (fun k => br_f gc_10 (h1 ⟨m, hm, rfl, by rw [if_pos v]; exact g⟩ k)) (fun k => br_t rfl (h0 (fun l => k l.2)))
      · intro ⟨⟨m', hm', e', g'⟩, _⟩
        have := hj hm' e'
        subst this
        rw [if_pos v] at g'
        exact g g'
    · refine br_f v ?_
      unfold wY_isComponent_25
      refine gy_in gy_3 (by omega) (fun g => br_f gc_10 ?_) (fun g => br_t rfl (h0 ?_))
      · exact gy_in gy_2 (by omega) (fun k => br_f gc_10 (h1 ⟨m, hm, rfl, by rw [if_neg v]; exact g⟩ k)) (fun k => br_t rfl (h0 (fun l => k l.2)))
      · intro ⟨⟨m', hm', e', g'⟩, _⟩
        have := hj hm' e'
        subst this
        rw [if_neg v] at g'
        exact g g'
  · intro ⟨⟨m, hm, e, _⟩, _⟩
    exact h ⟨m, hm, e⟩
end
theorem gc_sm_ac {V pl : Nat → Int32} {p L : Nat} (hw : V p = 1) : gc_sm (gc_ac V pl p) L = gc_sm (fun t => pl (4 * p + t)) L := gc_sm_congr L (fun j _ => gc_ac_v hw)
theorem gc_e1 (x : Int32) : 0 + 1 * x = x := by grind
theorem gc_e2 (x y : Int32) : 0 + 1 * x + 1 * y = x + y := by grind
theorem gc_e3 (x y : Int32) : 0 + 1 * x + (-1) * y = x - y := by grind
theorem gc_e4 (x y : Int32) : x + 1 * y = x + y := by grind
theorem gc_ad {f : Nat → Int32} {c a : Nat} {x t : Int32} (h : a ≠ c) : upd (upd f c x) c (upd f c x c + t * upd f c x a) = upd f c (x + t * f a) := by
  rw [gc_uu, gc_us, gc_un h]
section
variable {n : Nat} {K X Y V IN DI on tw pl f1 f2 f3 sl : Nat → Int32} {post : SY → Prop} {x y z t : Int32} {a b c m i e : Nat} {q1 q2 q3 q4 : Int32}
theorem gy_put (hc : c < 48) (h : post (nI n, K, X, Y, V, IN, DI, on, tw, upd pl c q1, upd f1 c q2, upd f2 c q3, upd f3 c q4, sl)) : wpY_put post (nI n, K, X, Y, V, IN, DI, on, tw, pl, f1, f2, f3, sl) (nI c) q1 q2 q3 q4 := by
  have e : (nI c).toNatClampNeg = c := nI_clamp (by omega)
  have v : vp_in (nI c) 48 := vp_in_nI hc (by omega)
  unfold wpY_put
  dsimp only
  rw [e]
  exact ⟨v, nm_e ⟨v, nm_e ⟨v, nm_e ⟨v, nm_e h⟩⟩⟩⟩
theorem gy_add (hc : c < 48) (ha : a < 48) (h : post (nI n, K, X, Y, V, IN, DI, on, tw, upd pl c (pl c + t * pl a), upd f1 c (f1 c + t * f1 a), upd f2 c (f2 c + t * f2 a), upd f3 c (f3 c + t * f3 a), sl)) : wpY_add post (nI n, K, X, Y, V, IN, DI, on, tw, pl, f1, f2, f3, sl) (nI c) (nI a) t := by
  have e : (nI c).toNatClampNeg = c := nI_clamp (by omega)
  have d : (nI a).toNatClampNeg = a := nI_clamp (by omega)
  have v : vp_in (nI c) 48 := vp_in_nI hc (by omega)
  have u : vp_in (nI a) 48 := vp_in_nI ha (by omega)
  unfold wpY_add
  dsimp only
  rw [e, d]
  exact ⟨v, u, v, nm_e ⟨v, u, v, nm_e ⟨v, u, v, nm_e ⟨v, u, v, nm_e h⟩⟩⟩⟩
theorem gy_ad (hc : c < 48) (ha : a < 48) (hx : x = nI a) (n1 : a ≠ c) (h : post (nI n, K, X, Y, V, IN, DI, on, tw, upd pl c (q1 + t * pl a), upd f1 c (q2 + t * f1 a), upd f2 c (q3 + t * f2 a), upd f3 c (q4 + t * f3 a), sl)) : wpY_add post (nI n, K, X, Y, V, IN, DI, on, tw, upd pl c q1, upd f1 c q2, upd f2 c q3, upd f3 c q4, sl) (nI c) x t := by
  subst hx
  refine gy_add hc ha ?_
  rw [gc_ad n1, gc_ad n1, gc_ad n1, gc_ad n1]
  exact h
theorem gy_mul (hc : c < 48) (ha : a < 48) (hb : b < 48) (n1 : a ≠ c) (n2 : b ≠ c) (h : post (nI n, K, X, Y, V, IN, DI, on, tw, upd pl c (pl a * pl b), upd f1 c (f1 a * pl b + pl a * f1 b), upd f2 c (f2 a * pl b + pl a * f2 b), upd f3 c (f3 a * pl b + f1 a * f2 b + f2 a * f1 b + pl a * f3 b), sl)) : wpY_multiply post (nI n, K, X, Y, V, IN, DI, on, tw, upd pl c q1, upd f1 c q2, upd f2 c q3, upd f3 c q4, sl) (nI c) (nI a) (nI b) := by
  have d : (nI a).toNatClampNeg = a := nI_clamp (by omega)
  have d' : (nI b).toNatClampNeg = b := nI_clamp (by omega)
  have u : vp_in (nI a) 48 := vp_in_nI ha (by omega)
  have u' : vp_in (nI b) 48 := vp_in_nI hb (by omega)
  unfold wpY_multiply
  dsimp only
  rw [d, d']
  have r (f : Nat → Int32) (q : Int32) : upd f c q a = f a := gc_un n1
  have r' (f : Nat → Int32) (q : Int32) : upd f c q b = f b := gc_un n2
  rw [r, r, r, r, r', r', r', r']
  refine ⟨u, u', nm_e ⟨u, u', u, u', nm_e ⟨u, u', u, u', nm_e ⟨u, u', u, u', u, u', u, u', nm_e (gy_put hc ?_)⟩⟩⟩⟩
  rw [gc_uu, gc_uu, gc_uu, gc_uu]
  exact h
end
section
variable {n : Nat} {K X Y V IN DI on tw pl f1 f2 f3 sl : Nat → Int32} {x y z t : Int32} {p i : Nat}
theorem gy_place {post : Int32 → Prop} (hx : x = nI p) (hp : p < 12) (h : post (nI (4 * p + (if V p = 0 then 0 else i)))) : wpY_place post (nI n, K, X, Y, V, IN, DI, on, tw, pl, f1, f2, f3, sl) x (nI i) := by
  subst hx
  unfold wpY_place
  dsimp only
  rw [nI_clamp (by omega)]
  refine ⟨vp_in_nI (by omega) (by omega), ?_⟩
  by_cases z : V p = 0
  · rw [if_pos z] at h
    refine br_t z ?_
    rw [gc_4m, ← nI_0, nI_add]
    exact h
  · rw [if_neg z] at h
    refine br_f z ?_
    rw [gc_4m, nI_add]
    exact h
end
section
variable {n : Nat} {K X Y V IN DI on tw pl f1 f2 f3 sl : Nat → Int32} {post : SY → Prop} {x2 x3 x4 : Int32} {a c L i : Nat}
theorem gy_s19 (hc : c < 48) (ha : a + 4 ≤ c) (h : wY_single_42 post (nI c) x2 x3 x4 (nI a) (nI n) K X Y V IN DI on tw (upd pl c (gc_sm (fun t => pl (a + t)) 4)) (upd f1 c (gc_sm (fun t => f1 (a + t)) 4)) (upd f2 c (gc_sm (fun t => f2 (a + t)) 4)) (upd f3 c (gc_sm (fun t => f3 (a + t)) 4)) sl) : ∀ d j : Nat, j + d = 4 → wY_single_19 post (nI c) x2 x3 x4 (nI a) (d + 1) (nI j) (nI n) K X Y V IN DI on tw (upd pl c (gc_sm (fun t => pl (a + t)) j)) (upd f1 c (gc_sm (fun t => f1 (a + t)) j)) (upd f2 c (gc_sm (fun t => f2 (a + t)) j)) (upd f3 c (gc_sm (fun t => f3 (a + t)) j)) sl := by
  intro d
  induction d with
  | zero =>
    intro j hj
    have e : j = 4 := by omega
    subst e
    exact br_t (gc_4le (Nat.le_refl _) (by omega)) h
  | succ d ih =>
    intro j hj
    refine br_f (gc_n4le (by omega)) (gy_ad hc (by omega) (nI_add a j) (by omega) (nm_r (nI_1 j) ?_))
    rw [gc_e4, gc_e4, gc_e4, gc_e4]
    exact ih (j + 1) (by omega)
theorem gy_s141 (hc : c < 48) (ha : a + 4 ≤ c) (hi : i < 4) (h : post (nI n, K, X, Y, V, IN, DI, on, tw, upd pl c (gc_sm (fun t => pl (a + t)) (i + 1)), upd f1 c (gc_sm (fun t => f1 (a + t)) (i + 1)), upd f2 c (gc_sm (fun t => f2 (a + t)) (i + 1)), upd f3 c (gc_sm (fun t => f3 (a + t)) (i + 1)), sl)) : ∀ d j : Nat, j + d = i + 1 → wY_single_141 post (nI c) (nI i) (nI a) (d + 1) (nI j) (nI n) K X Y V IN DI on tw (upd pl c (gc_sm (fun t => pl (a + t)) j)) (upd f1 c (gc_sm (fun t => f1 (a + t)) j)) (upd f2 c (gc_sm (fun t => f2 (a + t)) j)) (upd f3 c (gc_sm (fun t => f3 (a + t)) j)) sl := by
  intro d
  induction d with
  | zero =>
    intro j hj
    have e : j = i + 1 := by omega
    subst e
    exact br_t (nI_lt (by omega) (by omega)) h
  | succ d ih =>
    intro j hj
    refine br_f (nI_nlt (by omega) (by omega)) (gy_ad hc (by omega) (nI_add a j) (by omega) (nm_r (nI_1 j) ?_))
    rw [gc_e4, gc_e4, gc_e4, gc_e4]
    exact ih (j + 1) (by omega)
end
section
variable {n : Nat} {K X Y V IN DI on tw pl f1 f2 f3 sl : Nat → Int32} {post : SY → Prop} {m i e : Nat}
theorem gy_workOut (hm : m < 12) (hi : i < 4) (he : e < 3) (w : gc_N V m (K m) (X m) (Y m) (V m)) (hz : V m = 0 → i = 0)
    (h : post (nI n, K, X, Y, V, IN, DI, on, tw, upd pl (4 * m + i) (gc_rv K X Y (fun c => IN (12 * e + c)) (gc_ac V pl) m i), upd f1 (4 * m + i) (gc_rd K X Y on (gc_ac V pl) (gc_ac V f1) m i), upd f2 (4 * m + i) (gc_rd K X Y tw (gc_ac V pl) (gc_ac V f2) m i), upd f3 (4 * m + i) (gc_rb K X Y (gc_ac V pl) (gc_ac V f1) (gc_ac V f2) (gc_ac V f3) m i), sl)) : wpY_workOut post (nI n, K, X, Y, V, IN, DI, on, tw, pl, f1, f2, f3, sl) (nI m) (nI i) (nI e) := by
  have hk : (nI m).toNatClampNeg = m := nI_clamp (by omega)
  have hm' : vp_in (nI m) 12 := vp_in_nI (by omega) (by omega)
  have hc : 4 * nI m + nI i = nI (4 * m + i) := by rw [gc_4m, nI_add]
  have hc' : 4 * m + i < 48 := by omega
  unfold gc_rv gc_rd gc_rb at h
  unfold wpY_workOut
  dsimp only
  rw [hk]
  rcases w with ⟨ek, hv, p, hp, ex⟩ | ⟨ek, hv⟩ | ⟨ek, p, q, hp, hq, ex, ey, hv⟩ | ⟨ek, p, q, hp, hq, ex, ey, hv⟩ | ⟨ek, p, q, hp, hq, ex, ey, hv⟩ | ⟨ek, hv, p, hp, ex, hw⟩ | ⟨ek, hv, p, hp, ex, hw⟩ | ⟨ek, hv, p, hp, ex, hw, q, hq, ey⟩ | ⟨ek, hv, p, hp, ex, hw⟩ | ⟨ek, p, hp, ex, hv⟩ | ⟨ek, hv, p, hp, ex, hw⟩
  · rw [ek, ex, gc_ru_0 (by omega), gc_ru_0 (by omega), gc_ru_0 (by omega), gc_ru_0 (by omega)] at h
    have ei : 4 * X m + nI i = nI (4 * p + i) := by rw [ex, gc_4m, nI_add]
    have ej : 12 * nI e + nI (4 * p + i) = nI (12 * e + (4 * p + i)) := by rw [gc_12m, nI_add]
    have v : vp_in (nI (4 * p + i)) 12 := vp_in_nI (by omega) (by omega)
    have d : (nI (4 * p + i)).toNatClampNeg = 4 * p + i := nI_clamp (by omega)
    refine nm_r hc ⟨hm', nm_r ek (gy_put hc' (br_t rfl ⟨hm', nm_r ei ⟨?_, v, v, ?_⟩⟩))⟩
    · rw [ej]; exact vp_in_nI (by omega) (by omega)
    · rw [ej, nI_clamp (by omega), d]
      refine gy_put hc' ?_
      rw [gc_uu, gc_uu, gc_uu, gc_uu]
      exact h
  · rw [ek, gc_ru_1, gc_ru_1, gc_ru_1, gc_ru_1] at h
    refine nm_r hc ⟨hm', nm_r ek (gy_put hc' (br_f (by decide) (br_t rfl ⟨hm', gy_put hc' ?_⟩)))⟩
    rw [gc_uu, gc_uu, gc_uu, gc_uu]
    exact h
  · rw [ek, ex, ey, gc_ru_2 (by omega) (by omega), gc_ru_2 (by omega) (by omega), gc_ru_2 (by omega) (by omega), gc_ru_2 (by omega) (by omega)] at h
    have ha : 4 * p + (if V p = 0 then 0 else i) < 4 * m := by split <;> omega
    have hb : 4 * q + (if V q = 0 then 0 else i) < 4 * m := by split <;> omega
    have ha1 : 4 * p + (if V p = 0 then 0 else i) < 48 := by omega
    have hb1 : 4 * q + (if V q = 0 then 0 else i) < 48 := by omega
    have ha2 : 4 * p + (if V p = 0 then 0 else i) ≠ 4 * m + i := by omega
    have hb2 : 4 * q + (if V q = 0 then 0 else i) ≠ 4 * m + i := by omega
    refine nm_r hc ⟨hm', nm_r ek (gy_put hc' (br_f (by decide) (br_f (by decide) (br_f (by decide) ⟨hm', gy_place ex (by omega) ⟨hm', gy_place ey (by omega) (br_f (by decide) (gy_ad hc' ha1 rfl ha2 (br_t rfl (gy_ad hc' hb1 rfl hb2 ?_))))⟩⟩))))⟩
    rw [gc_e2, gc_e2, gc_e2, gc_e2]
    exact h
  · rw [ek, ex, ey, gc_ru_3 (by omega) (by omega), gc_ru_3 (by omega) (by omega), gc_ru_3 (by omega) (by omega), gc_ru_3 (by omega) (by omega)] at h
    have ha : 4 * p + (if V p = 0 then 0 else i) < 4 * m := by split <;> omega
    have hb : 4 * q + (if V q = 0 then 0 else i) < 4 * m := by split <;> omega
    have ha1 : 4 * p + (if V p = 0 then 0 else i) < 48 := by omega
    have hb1 : 4 * q + (if V q = 0 then 0 else i) < 48 := by omega
    have ha2 : 4 * p + (if V p = 0 then 0 else i) ≠ 4 * m + i := by omega
    have hb2 : 4 * q + (if V q = 0 then 0 else i) ≠ 4 * m + i := by omega
    refine nm_r hc ⟨hm', nm_r ek (gy_put hc' (br_f (by decide) (br_f (by decide) (br_f (by decide) ⟨hm', gy_place ex (by omega) ⟨hm', gy_place ey (by omega) (br_f (by decide) (gy_ad hc' ha1 rfl ha2 (br_f (by decide) (gy_ad hc' hb1 rfl hb2 ?_))))⟩⟩))))⟩
    rw [gc_e3, gc_e3, gc_e3, gc_e3]
    exact h
  · rw [ek, ex, ey, gc_ru_4 (by omega) (by omega), gc_ru_4 (by omega) (by omega), gc_ru_4 (by omega) (by omega), gc_ru_4 (by omega) (by omega)] at h
    have ha : 4 * p + (if V p = 0 then 0 else i) < 4 * m := by split <;> omega
    have hb : 4 * q + (if V q = 0 then 0 else i) < 4 * m := by split <;> omega
    have ha1 : 4 * p + (if V p = 0 then 0 else i) < 48 := by omega
    have hb1 : 4 * q + (if V q = 0 then 0 else i) < 48 := by omega
    have ha2 : 4 * p + (if V p = 0 then 0 else i) ≠ 4 * m + i := by omega
    have hb2 : 4 * q + (if V q = 0 then 0 else i) ≠ 4 * m + i := by omega
    exact nm_r hc ⟨hm', nm_r ek (gy_put hc' (br_f (by decide) (br_f (by decide) (br_f (by decide) ⟨hm', gy_place ex (by omega) ⟨hm', gy_place ey (by omega) (br_t rfl (gy_mul hc' ha1 hb1 ha2 hb2 h))⟩⟩))))⟩
  · rw [ek, ex, gc_ru_5 (by omega), gc_ru_5 (by omega), gc_ru_5 (by omega), gc_ru_5 (by omega), gc_sm_ac hw, gc_sm_ac hw, gc_sm_ac hw, gc_sm_ac hw] at h
    have e4 : 4 * X (nI m).toNatClampNeg = nI (4 * p) := by rw [hk, ex, gc_4m]
    refine nm_r hc ⟨hm', nm_r ek (gy_put hc' (br_f (by decide) (br_f (by decide) (br_t (by decide) (And.intro hm' (nm_r e4 (br_t rfl ⟨5, gy_s19 hc' (by omega) ?_ 4 0 rfl⟩)))))))⟩
    exact br_f (by decide) (br_f (by decide) (br_f (by decide) (br_f (by decide) (br_f (by decide) h))))
  · rw [ek, ex, gc_ru_6 (by omega), gc_ru_6 (by omega), gc_ru_6 (by omega), gc_ru_6 (by omega), gc_ac_v hw, gc_ac_v hw, gc_ac_v hw, gc_ac_v hw] at h
    have e4 : 4 * X (nI m).toNatClampNeg = nI (4 * p) := by rw [hk, ex, gc_4m]
    have ei : nI (4 * p) + (nI i + 1 &&& 3) = nI (4 * p + (i + 1) % 4) := by rw [gc_and3 hi, nI_add]
    refine nm_r hc ⟨hm', nm_r ek (gy_put hc' (br_f (by decide) (br_f (by decide) (br_t (by decide) (And.intro hm' (nm_r e4 (br_f (by decide) (br_t rfl (gy_ad hc' (by omega) ei (by omega) (br_f (by decide) (br_f (by decide) (br_f (by decide) (br_f (by decide) ?_)))))))))))))⟩
    rw [gc_e1, gc_e1, gc_e1, gc_e1]
    exact h
  · rw [ek, ex, ey, gc_ru_7 (by omega) (by omega), gc_ru_7 (by omega) (by omega), gc_ru_7 (by omega) (by omega), gc_ru_7 (by omega) (by omega), gc_ac_v hw, gc_ac_v hw, gc_ac_v hw, gc_ac_v hw] at h
    have e4 : 4 * X (nI m).toNatClampNeg = nI (4 * p) := by rw [hk, ex, gc_4m]
    have ei : nI (4 * p) + (Y (nI m).toNatClampNeg &&& 3) = nI (4 * p + q) := by rw [hk, ey, gc_and3' hq, nI_add]
    refine nm_r hc ⟨hm', nm_r ek (gy_put hc' (br_f (by decide) (br_f (by decide) (br_t (by decide) (And.intro hm' (nm_r e4 (br_f (by decide) (br_f (by decide) (br_t rfl (And.intro hm' (gy_ad hc' (by omega) ei (by omega) (br_f (by decide) (br_f (by decide) (br_f (by decide) ?_))))))))))))))⟩
    rw [gc_e1, gc_e1, gc_e1, gc_e1]
    exact h
  · rw [ek, ex, gc_ru_8 (by omega), gc_ru_8 (by omega), gc_ru_8 (by omega), gc_ru_8 (by omega), gc_ac_0 hw, gc_ac_0 hw, gc_ac_0 hw, gc_ac_0 hw] at h
    have e4 : 4 * X (nI m).toNatClampNeg = nI (4 * p) := by rw [hk, ex, gc_4m]
    refine nm_r hc ⟨hm', nm_r ek (gy_put hc' (br_f (by decide) (br_f (by decide) (br_t (by decide) (And.intro hm' (nm_r e4 (br_f (by decide) (br_f (by decide) (br_f (by decide) (br_t rfl (gy_ad hc' (by omega) rfl (by omega) (br_f (by decide) (br_f (by decide) ?_)))))))))))))⟩
    rw [gc_e1, gc_e1, gc_e1, gc_e1]
    exact h
  · have hz' : V p = 0 → i = 0 := fun z => hz (hv.trans z)
    rw [ek, ex, gc_ru_9 (by omega), gc_ru_9 (by omega), gc_ru_9 (by omega), gc_ru_9 (by omega)] at h
    try dsimp only at h
    rw [gc_ac_c (pl := pl) hz', gc_ac_c (pl := f1) hz', gc_ac_c (pl := f2) hz', gc_ac_c (pl := f3) hz'] at h
    have e4 : 4 * X (nI m).toNatClampNeg = nI (4 * p) := by rw [hk, ex, gc_4m]
    have v : vp_in (nI (4 * p) + nI i) 48 := gc_vi (by omega) (by omega)
    have r : upd pl (4 * m + i) 0 (nI (4 * p) + nI i).toNatClampNeg = pl (4 * p + i) := by
      rw [gc_ix (by omega)]; exact gc_un (by omega)
    by_cases z : pl (4 * p + i) ≤ 0
    · rw [if_neg (Int32.not_lt.mpr z), if_neg (Int32.not_lt.mpr z), if_neg (Int32.not_lt.mpr z), if_neg (Int32.not_lt.mpr z)] at h
      have z2 : upd pl (4 * m + i) 0 (nI (4 * p) + nI i).toNatClampNeg ≤ 0 := by rw [r]; exact z
      exact nm_r hc ⟨hm', nm_r ek (gy_put hc' (br_f (by decide) (br_f (by decide) (br_t (by decide) (And.intro hm' (nm_r e4 (br_f (by decide) (br_f (by decide) (br_f (by decide) (br_f (by decide) (br_t rfl (And.intro v (br_t z2 (br_f (by decide) h))))))))))))))⟩
    · rw [if_pos (Int32.not_le.mp z), if_pos (Int32.not_le.mp z), if_pos (Int32.not_le.mp z), if_pos (Int32.not_le.mp z)] at h
      have z2 : ¬ upd pl (4 * m + i) 0 (nI (4 * p) + nI i).toNatClampNeg ≤ 0 := by rw [r]; exact z
      refine nm_r hc ⟨hm', nm_r ek (gy_put hc' (br_f (by decide) (br_f (by decide) (br_t (by decide) (And.intro hm' (nm_r e4 (br_f (by decide) (br_f (by decide) (br_f (by decide) (br_f (by decide) (br_t rfl (And.intro v (br_f z2 (gy_ad hc' (by omega) (nI_add _ _) (by omega) (br_f (by decide) ?_)))))))))))))))⟩
      rw [gc_e1, gc_e1, gc_e1, gc_e1]
      exact h
  · rw [ek, ex, gc_ru_10 (by omega), gc_ru_10 (by omega), gc_ru_10 (by omega), gc_ru_10 (by omega), gc_sm_ac hw, gc_sm_ac hw, gc_sm_ac hw, gc_sm_ac hw] at h
    have e4 : 4 * X (nI m).toNatClampNeg = nI (4 * p) := by rw [hk, ex, gc_4m]
    exact nm_r hc ⟨hm', nm_r ek (gy_put hc' (br_f (by decide) (br_f (by decide) (br_t (by decide) (And.intro hm' (nm_r e4 (br_f (by decide) (br_f (by decide) (br_f (by decide) (br_f (by decide) (br_f (by decide) (br_t rfl ⟨i + 2, gy_s141 hc' (by omega) hi h (i + 1) 0 (by omega)⟩))))))))))))⟩
end
end GYA
