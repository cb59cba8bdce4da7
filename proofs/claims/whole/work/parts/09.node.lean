section GN
/-! a new node -/
def gc_oe (n : Nat) (k x y : Int32) : Prop :=
  if k = 0 then gc_in 3 x
  else if k = 1 then True
  else if k = 2 then gc_in n x ∧ gc_in n y
  else if k = 3 then gc_in n x ∧ gc_in n y
  else if k = 4 then gc_in n x ∧ gc_in n y
  else if k = 5 then gc_in n x
  else if k = 6 then gc_in n x
  else if k = 7 then gc_in n x ∧ gc_in 4 y
  else if k = 8 then gc_in n x
  else if k = 9 then gc_in n x
  else if k = 10 then gc_in n x
  else False
theorem gc_oe_0 {n : Nat} {x y : Int32} : gc_oe n 0 x y = (gc_in 3 x) := by
  unfold gc_oe; rw [if_pos rfl]
theorem gc_oe_1 {n : Nat} {x y : Int32} : gc_oe n 1 x y = (True) := by
  unfold gc_oe; rw [if_neg (by decide), if_pos rfl]
theorem gc_oe_2 {n : Nat} {x y : Int32} : gc_oe n 2 x y = (gc_in n x ∧ gc_in n y) := by
  unfold gc_oe; rw [if_neg (by decide), if_neg (by decide), if_pos rfl]
theorem gc_oe_3 {n : Nat} {x y : Int32} : gc_oe n 3 x y = (gc_in n x ∧ gc_in n y) := by
  unfold gc_oe; rw [if_neg (by decide), if_neg (by decide), if_neg (by decide), if_pos rfl]
theorem gc_oe_4 {n : Nat} {x y : Int32} : gc_oe n 4 x y = (gc_in n x ∧ gc_in n y) := by
  unfold gc_oe; rw [if_neg (by decide), if_neg (by decide), if_neg (by decide), if_neg (by decide), if_pos rfl]
theorem gc_oe_5 {n : Nat} {x y : Int32} : gc_oe n 5 x y = (gc_in n x) := by
  unfold gc_oe; rw [if_neg (by decide), if_neg (by decide), if_neg (by decide), if_neg (by decide), if_neg (by decide), if_pos rfl]
theorem gc_oe_6 {n : Nat} {x y : Int32} : gc_oe n 6 x y = (gc_in n x) := by
  unfold gc_oe; rw [if_neg (by decide), if_neg (by decide), if_neg (by decide), if_neg (by decide), if_neg (by decide), if_neg (by decide), if_pos rfl]
theorem gc_oe_7 {n : Nat} {x y : Int32} : gc_oe n 7 x y = (gc_in n x ∧ gc_in 4 y) := by
  unfold gc_oe; rw [if_neg (by decide), if_neg (by decide), if_neg (by decide), if_neg (by decide), if_neg (by decide), if_neg (by decide), if_neg (by decide), if_pos rfl]
theorem gc_oe_8 {n : Nat} {x y : Int32} : gc_oe n 8 x y = (gc_in n x) := by
  unfold gc_oe; rw [if_neg (by decide), if_neg (by decide), if_neg (by decide), if_neg (by decide), if_neg (by decide), if_neg (by decide), if_neg (by decide), if_neg (by decide), if_pos rfl]
theorem gc_oe_9 {n : Nat} {x y : Int32} : gc_oe n 9 x y = (gc_in n x) := by
  unfold gc_oe; rw [if_neg (by decide), if_neg (by decide), if_neg (by decide), if_neg (by decide), if_neg (by decide), if_neg (by decide), if_neg (by decide), if_neg (by decide), if_neg (by decide), if_pos rfl]
theorem gc_oe_10 {n : Nat} {x y : Int32} : gc_oe n 10 x y = (gc_in n x) := by
  unfold gc_oe; rw [if_neg (by decide), if_neg (by decide), if_neg (by decide), if_neg (by decide), if_neg (by decide), if_neg (by decide), if_neg (by decide), if_neg (by decide), if_neg (by decide), if_neg (by decide), if_pos rfl]
theorem gc_oe_no {n : Nat} {k x y : Int32} (h : ¬ gc_in 11 k) : ¬ gc_oe n k x y := by
  have g : ∀ j, j < 11 → ¬ k = nI j := fun j hj e => h ⟨j, hj, e⟩
  unfold gc_oe
  rw [if_neg (show ¬ k = 0 from g 0 (by omega)), if_neg (show ¬ k = 1 from g 1 (by omega)), if_neg (show ¬ k = 2 from g 2 (by omega)), if_neg (show ¬ k = 3 from g 3 (by omega)), if_neg (show ¬ k = 4 from g 4 (by omega)), if_neg (show ¬ k = 5 from g 5 (by omega)), if_neg (show ¬ k = 6 from g 6 (by omega)), if_neg (show ¬ k = 7 from g 7 (by omega)), if_neg (show ¬ k = 8 from g 8 (by omega)), if_neg (show ¬ k = 9 from g 9 (by omega)), if_neg (show ¬ k = 10 from g 10 (by omega))]
  exact fun z => z
theorem gc_N0 {V : Nat → Int32} {n p : Nat} {y : Int32} (hp : p < 3) : gc_N V n 0 (nI p) y 1 := Or.inl ⟨rfl, rfl, p, hp, rfl⟩
theorem gc_N1 {V : Nat → Int32} {n  : Nat} {x y : Int32}  : gc_N V n 1 x y 0 := Or.inr (Or.inl ⟨rfl, rfl⟩)
theorem gc_N2 {V : Nat → Int32} {n p q : Nat} (hp : p < n) (hq : q < n) : gc_N V n 2 (nI p) (nI q) (gc_or (V p) (V q)) := Or.inr (Or.inr (Or.inl ⟨rfl, p, q, hp, hq, rfl, rfl, rfl⟩))
theorem gc_N3 {V : Nat → Int32} {n p q : Nat} (hp : p < n) (hq : q < n) : gc_N V n 3 (nI p) (nI q) (gc_or (V p) (V q)) := Or.inr (Or.inr (Or.inr (Or.inl ⟨rfl, p, q, hp, hq, rfl, rfl, rfl⟩)))
theorem gc_N4 {V : Nat → Int32} {n p q : Nat} (hp : p < n) (hq : q < n) : gc_N V n 4 (nI p) (nI q) (gc_or (V p) (V q)) := Or.inr (Or.inr (Or.inr (Or.inr (Or.inl ⟨rfl, p, q, hp, hq, rfl, rfl, rfl⟩))))
theorem gc_N5 {V : Nat → Int32} {n p : Nat} {y : Int32} (hp : p < n) (hw : V p = 1) : gc_N V n 5 (nI p) y 0 := Or.inr (Or.inr (Or.inr (Or.inr (Or.inr (Or.inl ⟨rfl, rfl, p, hp, rfl, hw⟩)))))
theorem gc_N6 {V : Nat → Int32} {n p : Nat} {y : Int32} (hp : p < n) (hw : V p = 1) : gc_N V n 6 (nI p) y 1 := Or.inr (Or.inr (Or.inr (Or.inr (Or.inr (Or.inr (Or.inl ⟨rfl, rfl, p, hp, rfl, hw⟩))))))
theorem gc_N7 {V : Nat → Int32} {n p q : Nat} (hp : p < n) (hw : V p = 1) (hq : q < 4) : gc_N V n 7 (nI p) (nI q) 0 := Or.inr (Or.inr (Or.inr (Or.inr (Or.inr (Or.inr (Or.inr (Or.inl ⟨rfl, rfl, p, hp, rfl, hw, q, hq, rfl⟩)))))))
theorem gc_N8 {V : Nat → Int32} {n p : Nat} {y : Int32} (hp : p < n) (hw : V p = 0) : gc_N V n 8 (nI p) y 1 := Or.inr (Or.inr (Or.inr (Or.inr (Or.inr (Or.inr (Or.inr (Or.inr (Or.inl ⟨rfl, rfl, p, hp, rfl, hw⟩))))))))
theorem gc_N9 {V : Nat → Int32} {n p : Nat} {y : Int32} (hp : p < n) : gc_N V n 9 (nI p) y (V p) := Or.inr (Or.inr (Or.inr (Or.inr (Or.inr (Or.inr (Or.inr (Or.inr (Or.inr (Or.inl ⟨rfl, p, hp, rfl, rfl⟩)))))))))
theorem gc_N10 {V : Nat → Int32} {n p : Nat} {y : Int32} (hp : p < n) (hw : V p = 1) : gc_N V n 10 (nI p) y 1 := Or.inr (Or.inr (Or.inr (Or.inr (Or.inr (Or.inr (Or.inr (Or.inr (Or.inr (Or.inr (⟨rfl, rfl, p, hp, rfl, hw⟩))))))))))
def gc_mv (V : Nat → Int32) (k x y : Int32) : Int32 :=
  if k = 2 ∨ k = 3 ∨ k = 4 then gc_or (V x.toNatClampNeg) (V y.toNatClampNeg) else if k = 9 then V x.toNatClampNeg else if k = 1 ∨ k = 5 ∨ k = 7 then 0 else 1
theorem gc_N_mv {V : Nat → Int32} {m : Nat} {k x y v : Int32} (hm : m ≤ 12) (w : gc_N V m k x y v) : v = gc_mv V k x y := by
  unfold gc_mv
  rcases w with ⟨rfl, hv, p, hp, rfl⟩ | ⟨rfl, hv⟩ | ⟨rfl, p, q, hp, hq, rfl, rfl, hv⟩ | ⟨rfl, p, q, hp, hq, rfl, rfl, hv⟩ | ⟨rfl, p, q, hp, hq, rfl, rfl, hv⟩ | ⟨rfl, hv, p, hp, rfl, hw⟩ | ⟨rfl, hv, p, hp, rfl, hw⟩ | ⟨rfl, hv, p, hp, rfl, hw, q, hq, rfl⟩ | ⟨rfl, hv, p, hp, rfl, hw⟩ | ⟨rfl, p, hp, rfl, hv⟩ | ⟨rfl, hv, p, hp, rfl, hw⟩
  · rw [if_neg (by decide), if_neg (by decide), if_neg (by decide)]; exact hv
  · rw [if_neg (by decide), if_neg (by decide), if_pos (by decide)]; exact hv
  · rw [if_pos (by decide), nI_clamp (by omega), nI_clamp (by omega)]; exact hv
  · rw [if_pos (by decide), nI_clamp (by omega), nI_clamp (by omega)]; exact hv
  · rw [if_pos (by decide), nI_clamp (by omega), nI_clamp (by omega)]; exact hv
  · rw [if_neg (by decide), if_neg (by decide), if_pos (by decide)]; exact hv
  · rw [if_neg (by decide), if_neg (by decide), if_neg (by decide)]; exact hv
  · rw [if_neg (by decide), if_neg (by decide), if_pos (by decide)]; exact hv
  · rw [if_neg (by decide), if_neg (by decide), if_neg (by decide)]; exact hv
  · rw [if_neg (by decide), if_pos rfl, nI_clamp (by omega)]; exact hv
  · rw [if_neg (by decide), if_neg (by decide), if_neg (by decide)]; exact hv
theorem gc_N_x1 {V : Nat → Int32} {m p : Nat} {k x y v : Int32} (hm : m ≤ 12) (hp' : p < 12) (hx : x = nI p) (hk : k = 5 ∨ k = 6 ∨ k = 7 ∨ k = 10) (w : gc_N V m k x y v) : V p = 1 := by
  rcases w with ⟨ek, hv, p', hp, ex⟩ | ⟨ek, hv⟩ | ⟨ek, p', q, hp, hq, ex, ey, hv⟩ | ⟨ek, p', q, hp, hq, ex, ey, hv⟩ | ⟨ek, p', q, hp, hq, ex, ey, hv⟩ | ⟨ek, hv, p', hp, ex, hw⟩ | ⟨ek, hv, p', hp, ex, hw⟩ | ⟨ek, hv, p', hp, ex, hw, q, hq, ey⟩ | ⟨ek, hv, p', hp, ex, hw⟩ | ⟨ek, p', hp, ex, hv⟩ | ⟨ek, hv, p', hp, ex, hw⟩
  · rw [ek] at hk; exact absurd hk (by decide)
  · rw [ek] at hk; exact absurd hk (by decide)
  · rw [ek] at hk; exact absurd hk (by decide)
  · rw [ek] at hk; exact absurd hk (by decide)
  · rw [ek] at hk; exact absurd hk (by decide)
  · rw [gc_im (hx.symm.trans ex) (by omega) (by omega)]; exact hw
  · rw [gc_im (hx.symm.trans ex) (by omega) (by omega)]; exact hw
  · rw [gc_im (hx.symm.trans ex) (by omega) (by omega)]; exact hw
  · rw [ek] at hk; exact absurd hk (by decide)
  · rw [ek] at hk; exact absurd hk (by decide)
  · rw [gc_im (hx.symm.trans ex) (by omega) (by omega)]; exact hw
theorem gc_N_x0 {V : Nat → Int32} {m p : Nat} {k x y v : Int32} (hm : m ≤ 12) (hp' : p < 12) (hx : x = nI p) (hk : k = 8) (w : gc_N V m k x y v) : V p = 0 := by
  rcases w with ⟨ek, hv, p', hp, ex⟩ | ⟨ek, hv⟩ | ⟨ek, p', q, hp, hq, ex, ey, hv⟩ | ⟨ek, p', q, hp, hq, ex, ey, hv⟩ | ⟨ek, p', q, hp, hq, ex, ey, hv⟩ | ⟨ek, hv, p', hp, ex, hw⟩ | ⟨ek, hv, p', hp, ex, hw⟩ | ⟨ek, hv, p', hp, ex, hw, q, hq, ey⟩ | ⟨ek, hv, p', hp, ex, hw⟩ | ⟨ek, p', hp, ex, hv⟩ | ⟨ek, hv, p', hp, ex, hw⟩
  · rw [ek] at hk; exact absurd hk (by decide)
  · rw [ek] at hk; exact absurd hk (by decide)
  · rw [ek] at hk; exact absurd hk (by decide)
  · rw [ek] at hk; exact absurd hk (by decide)
  · rw [ek] at hk; exact absurd hk (by decide)
  · rw [ek] at hk; exact absurd hk (by decide)
  · rw [ek] at hk; exact absurd hk (by decide)
  · rw [ek] at hk; exact absurd hk (by decide)
  · rw [gc_im (hx.symm.trans ex) (by omega) (by omega)]; exact hw
  · rw [ek] at hk; exact absurd hk (by decide)
  · rw [ek] at hk; exact absurd hk (by decide)
section
variable {n : Nat} {lv : Int32} {IN DI sp K X Y V va fi se bo st : Nat → Int32} {post : Int32 → Prop} {x y : Int32} {p q : Nat}
theorem gx_oe_0 (hn : n ≤ 12) (h1 : (gc_in 3 x) → post 1) (h0 : ¬ (gc_in 3 x) → post 0) : wpX_operandsExist post (nI n, lv, IN, DI, sp, K, X, Y, V, va, fi, se, bo, st) 0 x y :=
  br_f (by decide) (br_f (by decide) (br_t rfl (gc_br (N := 3) rfl (by omega) h1 h0)))
theorem gx_oe_1 (hn : n ≤ 12) (h1 : (True) → post 1) (h0 : ¬ (True) → post 0) : wpX_operandsExist post (nI n, lv, IN, DI, sp, K, X, Y, V, va, fi, se, bo, st) 1 x y :=
  br_f (by decide) (br_f (by decide) (br_f (by decide) (br_t rfl (h1 trivial))))
theorem gx_oe_2 (hn : n ≤ 12) (h1 : (gc_in n x ∧ gc_in n y) → post 1) (h0 : ¬ (gc_in n x ∧ gc_in n y) → post 0) : wpX_operandsExist post (nI n, lv, IN, DI, sp, K, X, Y, V, va, fi, se, bo, st) 2 x y :=
  br_f (by decide) (br_f (by decide) (br_f (by decide) (br_f (by decide) (br_t rfl (gx_isNode hn (fun a => br_f gc_10 (gx_isNode hn (fun b => br_f gc_10 (h1 ⟨a, b⟩)) (fun b => br_t rfl (h0 (fun g => b g.2))))) (fun a => br_t rfl (h0 (fun g => a g.1))))))))
theorem gx_oe_3 (hn : n ≤ 12) (h1 : (gc_in n x ∧ gc_in n y) → post 1) (h0 : ¬ (gc_in n x ∧ gc_in n y) → post 0) : wpX_operandsExist post (nI n, lv, IN, DI, sp, K, X, Y, V, va, fi, se, bo, st) 3 x y :=
  br_f (by decide) (br_f (by decide) (br_f (by decide) (br_f (by decide) (br_f (by decide) (br_t rfl (gx_isNode hn (fun a => br_f gc_10 (gx_isNode hn (fun b => br_f gc_10 (h1 ⟨a, b⟩)) (fun b => br_t rfl (h0 (fun g => b g.2))))) (fun a => br_t rfl (h0 (fun g => a g.1)))))))))
theorem gx_oe_4 (hn : n ≤ 12) (h1 : (gc_in n x ∧ gc_in n y) → post 1) (h0 : ¬ (gc_in n x ∧ gc_in n y) → post 0) : wpX_operandsExist post (nI n, lv, IN, DI, sp, K, X, Y, V, va, fi, se, bo, st) 4 x y :=
  br_f (by decide) (br_f (by decide) (br_f (by decide) (br_f (by decide) (br_f (by decide) (br_f (by decide) (br_t rfl (gx_isNode hn (fun a => br_f gc_10 (gx_isNode hn (fun b => br_f gc_10 (h1 ⟨a, b⟩)) (fun b => br_t rfl (h0 (fun g => b g.2))))) (fun a => br_t rfl (h0 (fun g => a g.1))))))))))
theorem gx_oe_5 (hn : n ≤ 12) (h1 : (gc_in n x) → post 1) (h0 : ¬ (gc_in n x) → post 0) : wpX_operandsExist post (nI n, lv, IN, DI, sp, K, X, Y, V, va, fi, se, bo, st) 5 x y :=
  br_f (by decide) (br_f (by decide) (br_f (by decide) (br_f (by decide) (br_f (by decide) (br_f (by decide) (br_f (by decide) (br_t rfl (gx_isNode hn (fun a => ⟨gc_11b, h1 a⟩) (fun a => ⟨gc_01b, h0 a⟩)))))))))
theorem gx_oe_6 (hn : n ≤ 12) (h1 : (gc_in n x) → post 1) (h0 : ¬ (gc_in n x) → post 0) : wpX_operandsExist post (nI n, lv, IN, DI, sp, K, X, Y, V, va, fi, se, bo, st) 6 x y :=
  br_f (by decide) (br_f (by decide) (br_f (by decide) (br_f (by decide) (br_f (by decide) (br_f (by decide) (br_f (by decide) (br_f (by decide) (br_t rfl (gx_isNode hn (fun a => ⟨gc_11b, h1 a⟩) (fun a => ⟨gc_01b, h0 a⟩))))))))))
theorem gx_oe_7 (hn : n ≤ 12) (h1 : (gc_in n x ∧ gc_in 4 y) → post 1) (h0 : ¬ (gc_in n x ∧ gc_in 4 y) → post 0) : wpX_operandsExist post (nI n, lv, IN, DI, sp, K, X, Y, V, va, fi, se, bo, st) 7 x y :=
  br_f (by decide) (br_f (by decide) (br_f (by decide) (br_f (by decide) (br_f (by decide) (br_f (by decide) (br_f (by decide) (br_f (by decide) (br_f (by decide) (br_t rfl (gx_isNode hn (fun a => br_f gc_10 (gc_br (N := 4) rfl (by omega) (fun b => h1 ⟨a, b⟩) (fun b => h0 (fun g => b g.2)))) (fun a => br_t rfl (h0 (fun g => a g.1)))))))))))))
theorem gx_oe_8 (hn : n ≤ 12) (h1 : (gc_in n x) → post 1) (h0 : ¬ (gc_in n x) → post 0) : wpX_operandsExist post (nI n, lv, IN, DI, sp, K, X, Y, V, va, fi, se, bo, st) 8 x y :=
  br_f (by decide) (br_f (by decide) (br_f (by decide) (br_f (by decide) (br_f (by decide) (br_f (by decide) (br_f (by decide) (br_f (by decide) (br_f (by decide) (br_f (by decide) (br_t rfl (gx_isNode hn (fun a => ⟨gc_11b, h1 a⟩) (fun a => ⟨gc_01b, h0 a⟩))))))))))))
theorem gx_oe_9 (hn : n ≤ 12) (h1 : (gc_in n x) → post 1) (h0 : ¬ (gc_in n x) → post 0) : wpX_operandsExist post (nI n, lv, IN, DI, sp, K, X, Y, V, va, fi, se, bo, st) 9 x y :=
  br_f (by decide) (br_f (by decide) (br_f (by decide) (br_f (by decide) (br_f (by decide) (br_f (by decide) (br_f (by decide) (br_f (by decide) (br_f (by decide) (br_f (by decide) (br_f (by decide) (br_t rfl (gx_isNode hn (fun a => ⟨gc_11b, h1 a⟩) (fun a => ⟨gc_01b, h0 a⟩)))))))))))))
theorem gx_oe_10 (hn : n ≤ 12) (h1 : (gc_in n x) → post 1) (h0 : ¬ (gc_in n x) → post 0) : wpX_operandsExist post (nI n, lv, IN, DI, sp, K, X, Y, V, va, fi, se, bo, st) 10 x y :=
  br_f (by decide) (br_f (by decide) (br_f (by decide) (br_f (by decide) (br_f (by decide) (br_f (by decide) (br_f (by decide) (br_f (by decide) (br_f (by decide) (br_f (by decide) (br_f (by decide) (br_f (by decide) (br_t rfl (gx_isNode hn (fun a => ⟨gc_11b, h1 a⟩) (fun a => ⟨gc_01b, h0 a⟩))))))))))))))
theorem gx_oe_no (h : ¬ gc_in 11 x) {z : Int32} (h0 : post 0) : wpX_operandsExist post (nI n, lv, IN, DI, sp, K, X, Y, V, va, fi, se, bo, st) x y z :=
  gy_br gy_10 (by omega) (fun g => absurd g h) (fun _ => h0)
theorem gx_fit_0 (h1 : post 1) : wpX_operandsFit post (nI n, lv, IN, DI, sp, K, X, Y, V, va, fi, se, bo, st) 0 x :=
  br_t (by decide) h1
theorem gx_fit_1 (h1 : post 1) : wpX_operandsFit post (nI n, lv, IN, DI, sp, K, X, Y, V, va, fi, se, bo, st) 1 x :=
  br_t (by decide) h1
theorem gx_fit_2 (h1 : post 1) : wpX_operandsFit post (nI n, lv, IN, DI, sp, K, X, Y, V, va, fi, se, bo, st) 2 x :=
  br_t (by decide) h1
theorem gx_fit_3 (h1 : post 1) : wpX_operandsFit post (nI n, lv, IN, DI, sp, K, X, Y, V, va, fi, se, bo, st) 3 x :=
  br_t (by decide) h1
theorem gx_fit_4 (h1 : post 1) : wpX_operandsFit post (nI n, lv, IN, DI, sp, K, X, Y, V, va, fi, se, bo, st) 4 x :=
  br_t (by decide) h1
theorem gx_fit_9 (h1 : post 1) : wpX_operandsFit post (nI n, lv, IN, DI, sp, K, X, Y, V, va, fi, se, bo, st) 9 x :=
  br_f (by decide) (br_f (by decide) (br_f (by decide) (br_f (by decide) (br_f (by decide) (br_f (by decide) (br_t rfl h1))))))
theorem gx_fit_5 (hp : p < 12) (h01 : V p = 0 ∨ V p = 1) (h1 : V p = 1 → post 1) (h0 : V p = 0 → post 0) : wpX_operandsFit post (nI n, lv, IN, DI, sp, K, X, Y, V, va, fi, se, bo, st) 5 (nI p) := by
  refine br_f (by decide) (br_f (by decide) (br_t rfl ⟨vp_in_nI hp (by omega), ?_⟩))
  have e : (nI p).toNatClampNeg = p := nI_clamp (by omega)
  try dsimp only
  rw [e]
  rcases h01 with z | z
  · rw [z]; exact ⟨gc_01b, h0 z⟩
  · rw [z]; exact ⟨gc_11b, h1 z⟩
theorem gx_fit_6 (hp : p < 12) (h01 : V p = 0 ∨ V p = 1) (h1 : V p = 1 → post 1) (h0 : V p = 0 → post 0) : wpX_operandsFit post (nI n, lv, IN, DI, sp, K, X, Y, V, va, fi, se, bo, st) 6 (nI p) := by
  refine br_f (by decide) (br_f (by decide) (br_f (by decide) (br_t rfl ⟨vp_in_nI hp (by omega), ?_⟩)))
  have e : (nI p).toNatClampNeg = p := nI_clamp (by omega)
  try dsimp only
  rw [e]
  rcases h01 with z | z
  · rw [z]; exact ⟨gc_01b, h0 z⟩
  · rw [z]; exact ⟨gc_11b, h1 z⟩
theorem gx_fit_7 (hp : p < 12) (h01 : V p = 0 ∨ V p = 1) (h1 : V p = 1 → post 1) (h0 : V p = 0 → post 0) : wpX_operandsFit post (nI n, lv, IN, DI, sp, K, X, Y, V, va, fi, se, bo, st) 7 (nI p) := by
  refine br_f (by decide) (br_f (by decide) (br_f (by decide) (br_f (by decide) (br_t rfl ⟨vp_in_nI hp (by omega), ?_⟩))))
  have e : (nI p).toNatClampNeg = p := nI_clamp (by omega)
  try dsimp only
  rw [e]
  rcases h01 with z | z
  · rw [z]; exact ⟨gc_01b, h0 z⟩
  · rw [z]; exact ⟨gc_11b, h1 z⟩
theorem gx_fit_10 (hp : p < 12) (h01 : V p = 0 ∨ V p = 1) (h1 : V p = 1 → post 1) (h0 : V p = 0 → post 0) : wpX_operandsFit post (nI n, lv, IN, DI, sp, K, X, Y, V, va, fi, se, bo, st) 10 (nI p) := by
  refine br_f (by decide) (br_f (by decide) (br_f (by decide) (br_f (by decide) (br_f (by decide) (br_f (by decide) (br_f (by decide) (br_t rfl ⟨vp_in_nI hp (by omega), ?_⟩)))))))
  have e : (nI p).toNatClampNeg = p := nI_clamp (by omega)
  try dsimp only
  rw [e]
  rcases h01 with z | z
  · rw [z]; exact ⟨gc_01b, h0 z⟩
  · rw [z]; exact ⟨gc_11b, h1 z⟩
theorem gx_fit_8 (hp : p < 12) (h1 : V p = 0 → post 1) (h0 : ¬ V p = 0 → post 0) : wpX_operandsFit post (nI n, lv, IN, DI, sp, K, X, Y, V, va, fi, se, bo, st) 8 (nI p) := by
  refine br_f (by decide) (br_f (by decide) (br_f (by decide) (br_f (by decide) (br_f (by decide) (br_t rfl ⟨vp_in_nI hp (by omega), ?_⟩)))))
  have e : (nI p).toNatClampNeg = p := nI_clamp (by omega)
  try dsimp only
  rw [e]
  exact br_c h1 h0
theorem gx_mk_0 (h : post 1) : wpX_makesVector post (nI n, lv, IN, DI, sp, K, X, Y, V, va, fi, se, bo, st) 0 x y :=
  br_t (by decide) h
theorem gx_mk_6 (h : post 1) : wpX_makesVector post (nI n, lv, IN, DI, sp, K, X, Y, V, va, fi, se, bo, st) 6 x y :=
  br_f (by decide) (br_f (by decide) (br_f (by decide) (br_f (by decide) (br_f (by decide) (br_f (by decide) (br_f (by decide) (br_t rfl h)))))))
theorem gx_mk_8 (h : post 1) : wpX_makesVector post (nI n, lv, IN, DI, sp, K, X, Y, V, va, fi, se, bo, st) 8 x y :=
  br_f (by decide) (br_f (by decide) (br_f (by decide) (br_f (by decide) (br_f (by decide) (br_f (by decide) (br_f (by decide) (br_f (by decide) (br_f (by decide) (br_t rfl h)))))))))
theorem gx_mk_10 (h : post 1) : wpX_makesVector post (nI n, lv, IN, DI, sp, K, X, Y, V, va, fi, se, bo, st) 10 x y :=
  br_f (by decide) (br_t (by decide) h)
theorem gx_mk_1 (h : post 0) : wpX_makesVector post (nI n, lv, IN, DI, sp, K, X, Y, V, va, fi, se, bo, st) 1 x y :=
  br_f (by decide) (br_f (by decide) (br_t rfl h))
theorem gx_mk_5 (h : post 0) : wpX_makesVector post (nI n, lv, IN, DI, sp, K, X, Y, V, va, fi, se, bo, st) 5 x y :=
  br_f (by decide) (br_f (by decide) (br_f (by decide) (br_f (by decide) (br_f (by decide) (br_f (by decide) (br_t rfl h))))))
theorem gx_mk_7 (h : post 0) : wpX_makesVector post (nI n, lv, IN, DI, sp, K, X, Y, V, va, fi, se, bo, st) 7 x y :=
  br_f (by decide) (br_f (by decide) (br_f (by decide) (br_f (by decide) (br_f (by decide) (br_f (by decide) (br_f (by decide) (br_f (by decide) (br_t rfl h))))))))
theorem gx_mk54 (hp : p < 12) (hq : q < 12) (h : post (gc_or (V p) (V q))) : wX_makesVector_54 post (nI p) (nI q) (nI n) lv IN DI sp K X Y V va fi se bo st := by
  have e : (nI p).toNatClampNeg = p := nI_clamp (by omega)
  have e' : (nI q).toNatClampNeg = q := nI_clamp (by omega)
  unfold wX_makesVector_54
  rw [e, e']
  unfold gc_or at h
  refine ⟨vp_in_nI hp (by omega), ?_⟩
  by_cases z : V p = 0
  · rw [if_pos z] at h
    by_cases z' : V q = 0
    · rw [if_pos z'] at h; exact br_t z ⟨vp_in_nI hq (by omega), br_t z' h⟩
    · rw [if_neg z'] at h; exact br_t z ⟨vp_in_nI hq (by omega), br_f z' h⟩
  · rw [if_neg z] at h; exact br_f z h
theorem gx_mk_2 (hp : p < 12) (hq : q < 12) (h : post (gc_or (V p) (V q))) : wpX_makesVector post (nI n, lv, IN, DI, sp, K, X, Y, V, va, fi, se, bo, st) 2 (nI p) (nI q) :=
  br_f (by decide) (br_f (by decide) (br_f (by decide) (br_t rfl (gx_mk54 hp hq h))))
theorem gx_mk_3 (hp : p < 12) (hq : q < 12) (h : post (gc_or (V p) (V q))) : wpX_makesVector post (nI n, lv, IN, DI, sp, K, X, Y, V, va, fi, se, bo, st) 3 (nI p) (nI q) :=
  br_f (by decide) (br_f (by decide) (br_f (by decide) (br_f (by decide) (br_t rfl (gx_mk54 hp hq h)))))
theorem gx_mk_4 (hp : p < 12) (hq : q < 12) (h : post (gc_or (V p) (V q))) : wpX_makesVector post (nI n, lv, IN, DI, sp, K, X, Y, V, va, fi, se, bo, st) 4 (nI p) (nI q) :=
  br_f (by decide) (br_f (by decide) (br_f (by decide) (br_f (by decide) (br_f (by decide) (br_t rfl (gx_mk54 hp hq h))))))
theorem gx_mk_9 (hp : p < 12) (h01 : V p = 0 ∨ V p = 1) (h : post (V p)) : wpX_makesVector post (nI n, lv, IN, DI, sp, K, X, Y, V, va, fi, se, bo, st) 9 (nI p) y := by
  refine br_f (by decide) (br_f (by decide) (br_f (by decide) (br_f (by decide) (br_f (by decide) (br_f (by decide) (br_f (by decide) (br_f (by decide) (br_f (by decide) (br_f (by decide) (br_t rfl ⟨vp_in_nI hp (by omega), ?_⟩))))))))))
  have e : (nI p).toNatClampNeg = p := nI_clamp (by omega)
  try dsimp only
  rw [e]
  exact ⟨gc_nb h01, h⟩
end
section
variable {n : Nat} {lv : Int32} {IN DI sp K X Y V va fi se bo st on tw pl f1 f2 f3 sl : Nat → Int32} {x y : Int32}
theorem gx_put {post : Int32 → SX → Prop} {v k : Int32} {K' X' Y' : Nat → Int32} (hn : n < 12) (hv : v = 0 ∨ v = 1) (h : post (nI n) (nI (n + 1), lv, IN, DI, sp, K', X', Y', upd V n v, va, fi, se, bo, st)) :
    vp_in (nI n) 12 ∧ ∀ z, z = upd V (nI n).toNatClampNeg (vp_nar .boolean v) → ∀ f, f = nI n + 1 → post (f - 1) (f, lv, IN, DI, sp, K', X', Y', z, va, fi, se, bo, st) := by
  refine ⟨vp_in_nI hn (by omega), nm_r (e' := upd V n v) (by rw [nI_clamp (by omega), gc_vb hv]) (nm_r (nI_1 n) ?_)⟩
  rw [nI_pred]
  exact h
theorem gx_node_0 {post : Int32 → SX → Prop} (hn : n < 12) (w : gc_W K X Y V n) (hb : ¬ gc_oe n 0 x y → post (-1) (nI n, lv, IN, DI, sp, K, X, Y, V, va, fi, se, bo, st)) (hw : gc_oe n 0 x y → (∀ v, ¬ gc_N V n 0 x y v) → post (-3) (nI n, lv, IN, DI, sp, K, X, Y, V, va, fi, se, bo, st)) (hg : ∀ v, gc_oe n 0 x y → (v = 0 ∨ v = 1) → gc_N V n 0 x y v → post (nI n) (nI (n + 1), lv, IN, DI, sp, upd K n 0, upd X n x, upd Y n y, upd V n v, va, fi, se, bo, st)) : wpX_node post (nI n, lv, IN, DI, sp, K, X, Y, V, va, fi, se, bo, st) 0 x y := by
  rw [gc_oe_0] at hb hw hg
  have hv : vp_in (nI n) 12 := vp_in_nI hn (by omega)
  have hc : (nI n).toNatClampNeg = n := nI_clamp (by omega)
  have n12 : ¬ nI n = 12 := fun e => absurd (gc_im (b := 12) e (by omega) (by omega)) (by omega)
  refine br_f n12 (gx_oe_0 (by omega) (fun o => br_f gc_10 ?_) (fun o => br_t rfl (hb o)))
  have o' := o
  obtain ⟨p, hp, rfl⟩ := o'
  exact gx_fit_0 (br_f gc_10 ⟨hv, nm_r (e' := upd K n 0) (by rw [hc]) ⟨hv, nm_r (e' := upd X n (nI p)) (by rw [hc]) ⟨hv, nm_r (e' := upd Y n y) (by rw [hc]) (gx_mk_0 (gx_put (k := 0) hn (Or.inr rfl) (hg _ o (Or.inr rfl) (gc_N0 hp))))⟩⟩⟩)
theorem gx_node_1 {post : Int32 → SX → Prop} (hn : n < 12) (w : gc_W K X Y V n) (hb : ¬ gc_oe n 1 x y → post (-1) (nI n, lv, IN, DI, sp, K, X, Y, V, va, fi, se, bo, st)) (hw : gc_oe n 1 x y → (∀ v, ¬ gc_N V n 1 x y v) → post (-3) (nI n, lv, IN, DI, sp, K, X, Y, V, va, fi, se, bo, st)) (hg : ∀ v, gc_oe n 1 x y → (v = 0 ∨ v = 1) → gc_N V n 1 x y v → post (nI n) (nI (n + 1), lv, IN, DI, sp, upd K n 1, upd X n x, upd Y n y, upd V n v, va, fi, se, bo, st)) : wpX_node post (nI n, lv, IN, DI, sp, K, X, Y, V, va, fi, se, bo, st) 1 x y := by
  rw [gc_oe_1] at hb hw hg
  have hv : vp_in (nI n) 12 := vp_in_nI hn (by omega)
  have hc : (nI n).toNatClampNeg = n := nI_clamp (by omega)
  have n12 : ¬ nI n = 12 := fun e => absurd (gc_im (b := 12) e (by omega) (by omega)) (by omega)
  refine br_f n12 (gx_oe_1 (by omega) (fun o => br_f gc_10 ?_) (fun o => br_t rfl (hb o)))
  exact gx_fit_1 (br_f gc_10 ⟨hv, nm_r (e' := upd K n 1) (by rw [hc]) ⟨hv, nm_r (e' := upd X n x) (by rw [hc]) ⟨hv, nm_r (e' := upd Y n y) (by rw [hc]) (gx_mk_1 (gx_put (k := 1) hn (Or.inl rfl) (hg _ o (Or.inl rfl) gc_N1)))⟩⟩⟩)
theorem gx_node_2 {post : Int32 → SX → Prop} (hn : n < 12) (w : gc_W K X Y V n) (hb : ¬ gc_oe n 2 x y → post (-1) (nI n, lv, IN, DI, sp, K, X, Y, V, va, fi, se, bo, st)) (hw : gc_oe n 2 x y → (∀ v, ¬ gc_N V n 2 x y v) → post (-3) (nI n, lv, IN, DI, sp, K, X, Y, V, va, fi, se, bo, st)) (hg : ∀ v, gc_oe n 2 x y → (v = 0 ∨ v = 1) → gc_N V n 2 x y v → post (nI n) (nI (n + 1), lv, IN, DI, sp, upd K n 2, upd X n x, upd Y n y, upd V n v, va, fi, se, bo, st)) : wpX_node post (nI n, lv, IN, DI, sp, K, X, Y, V, va, fi, se, bo, st) 2 x y := by
  rw [gc_oe_2] at hb hw hg
  have hv : vp_in (nI n) 12 := vp_in_nI hn (by omega)
  have hc : (nI n).toNatClampNeg = n := nI_clamp (by omega)
  have n12 : ¬ nI n = 12 := fun e => absurd (gc_im (b := 12) e (by omega) (by omega)) (by omega)
  refine br_f n12 (gx_oe_2 (by omega) (fun o => br_f gc_10 ?_) (fun o => br_t rfl (hb o)))
  have o' := o
  obtain ⟨⟨p, hp, rfl⟩, ⟨q, hq, rfl⟩⟩ := o'
  exact gx_fit_2 (br_f gc_10 ⟨hv, nm_r (e' := upd K n 2) (by rw [hc]) ⟨hv, nm_r (e' := upd X n (nI p)) (by rw [hc]) ⟨hv, nm_r (e' := upd Y n (nI q)) (by rw [hc]) (gx_mk_2 (by omega) (by omega) (gx_put (k := 2) hn (gc_or_01 _ _) (hg _ o (gc_or_01 _ _) (gc_N2 hp hq))))⟩⟩⟩)
theorem gx_node_3 {post : Int32 → SX → Prop} (hn : n < 12) (w : gc_W K X Y V n) (hb : ¬ gc_oe n 3 x y → post (-1) (nI n, lv, IN, DI, sp, K, X, Y, V, va, fi, se, bo, st)) (hw : gc_oe n 3 x y → (∀ v, ¬ gc_N V n 3 x y v) → post (-3) (nI n, lv, IN, DI, sp, K, X, Y, V, va, fi, se, bo, st)) (hg : ∀ v, gc_oe n 3 x y → (v = 0 ∨ v = 1) → gc_N V n 3 x y v → post (nI n) (nI (n + 1), lv, IN, DI, sp, upd K n 3, upd X n x, upd Y n y, upd V n v, va, fi, se, bo, st)) : wpX_node post (nI n, lv, IN, DI, sp, K, X, Y, V, va, fi, se, bo, st) 3 x y := by
  rw [gc_oe_3] at hb hw hg
  have hv : vp_in (nI n) 12 := vp_in_nI hn (by omega)
  have hc : (nI n).toNatClampNeg = n := nI_clamp (by omega)
  have n12 : ¬ nI n = 12 := fun e => absurd (gc_im (b := 12) e (by omega) (by omega)) (by omega)
  refine br_f n12 (gx_oe_3 (by omega) (fun o => br_f gc_10 ?_) (fun o => br_t rfl (hb o)))
  have o' := o
  obtain ⟨⟨p, hp, rfl⟩, ⟨q, hq, rfl⟩⟩ := o'
  exact gx_fit_3 (br_f gc_10 ⟨hv, nm_r (e' := upd K n 3) (by rw [hc]) ⟨hv, nm_r (e' := upd X n (nI p)) (by rw [hc]) ⟨hv, nm_r (e' := upd Y n (nI q)) (by rw [hc]) (gx_mk_3 (by omega) (by omega) (gx_put (k := 3) hn (gc_or_01 _ _) (hg _ o (gc_or_01 _ _) (gc_N3 hp hq))))⟩⟩⟩)
theorem gx_node_4 {post : Int32 → SX → Prop} (hn : n < 12) (w : gc_W K X Y V n) (hb : ¬ gc_oe n 4 x y → post (-1) (nI n, lv, IN, DI, sp, K, X, Y, V, va, fi, se, bo, st)) (hw : gc_oe n 4 x y → (∀ v, ¬ gc_N V n 4 x y v) → post (-3) (nI n, lv, IN, DI, sp, K, X, Y, V, va, fi, se, bo, st)) (hg : ∀ v, gc_oe n 4 x y → (v = 0 ∨ v = 1) → gc_N V n 4 x y v → post (nI n) (nI (n + 1), lv, IN, DI, sp, upd K n 4, upd X n x, upd Y n y, upd V n v, va, fi, se, bo, st)) : wpX_node post (nI n, lv, IN, DI, sp, K, X, Y, V, va, fi, se, bo, st) 4 x y := by
  rw [gc_oe_4] at hb hw hg
  have hv : vp_in (nI n) 12 := vp_in_nI hn (by omega)
  have hc : (nI n).toNatClampNeg = n := nI_clamp (by omega)
  have n12 : ¬ nI n = 12 := fun e => absurd (gc_im (b := 12) e (by omega) (by omega)) (by omega)
  refine br_f n12 (gx_oe_4 (by omega) (fun o => br_f gc_10 ?_) (fun o => br_t rfl (hb o)))
  have o' := o
  obtain ⟨⟨p, hp, rfl⟩, ⟨q, hq, rfl⟩⟩ := o'
  exact gx_fit_4 (br_f gc_10 ⟨hv, nm_r (e' := upd K n 4) (by rw [hc]) ⟨hv, nm_r (e' := upd X n (nI p)) (by rw [hc]) ⟨hv, nm_r (e' := upd Y n (nI q)) (by rw [hc]) (gx_mk_4 (by omega) (by omega) (gx_put (k := 4) hn (gc_or_01 _ _) (hg _ o (gc_or_01 _ _) (gc_N4 hp hq))))⟩⟩⟩)
theorem gx_node_5 {post : Int32 → SX → Prop} (hn : n < 12) (w : gc_W K X Y V n) (hb : ¬ gc_oe n 5 x y → post (-1) (nI n, lv, IN, DI, sp, K, X, Y, V, va, fi, se, bo, st)) (hw : gc_oe n 5 x y → (∀ v, ¬ gc_N V n 5 x y v) → post (-3) (nI n, lv, IN, DI, sp, K, X, Y, V, va, fi, se, bo, st)) (hg : ∀ v, gc_oe n 5 x y → (v = 0 ∨ v = 1) → gc_N V n 5 x y v → post (nI n) (nI (n + 1), lv, IN, DI, sp, upd K n 5, upd X n x, upd Y n y, upd V n v, va, fi, se, bo, st)) : wpX_node post (nI n, lv, IN, DI, sp, K, X, Y, V, va, fi, se, bo, st) 5 x y := by
  rw [gc_oe_5] at hb hw hg
  have hv : vp_in (nI n) 12 := vp_in_nI hn (by omega)
  have hc : (nI n).toNatClampNeg = n := nI_clamp (by omega)
  have n12 : ¬ nI n = 12 := fun e => absurd (gc_im (b := 12) e (by omega) (by omega)) (by omega)
  refine br_f n12 (gx_oe_5 (by omega) (fun o => br_f gc_10 ?_) (fun o => br_t rfl (hb o)))
  have o' := o
  obtain ⟨p, hp, rfl⟩ := o'
  have h01 : V p = 0 ∨ V p = 1 := (w p hp).2
  refine gx_fit_5 (by omega) h01 (fun z => br_f gc_10 ⟨hv, nm_r (e' := upd K n 5) (by rw [hc]) ⟨hv, nm_r (e' := upd X n (nI p)) (by rw [hc]) ⟨hv, nm_r (e' := upd Y n y) (by rw [hc]) (gx_mk_5 (gx_put (k := 5) hn (Or.inl rfl) (hg _ o (Or.inl rfl) (gc_N5 hp z))))⟩⟩⟩) (fun z => br_t rfl (hw o (fun v wv => ?_)))
  have := gc_N_x1 (by omega) (by omega) rfl (by decide) wv
  rw [z] at this
  exact absurd this (by decide)
theorem gx_node_6 {post : Int32 → SX → Prop} (hn : n < 12) (w : gc_W K X Y V n) (hb : ¬ gc_oe n 6 x y → post (-1) (nI n, lv, IN, DI, sp, K, X, Y, V, va, fi, se, bo, st)) (hw : gc_oe n 6 x y → (∀ v, ¬ gc_N V n 6 x y v) → post (-3) (nI n, lv, IN, DI, sp, K, X, Y, V, va, fi, se, bo, st)) (hg : ∀ v, gc_oe n 6 x y → (v = 0 ∨ v = 1) → gc_N V n 6 x y v → post (nI n) (nI (n + 1), lv, IN, DI, sp, upd K n 6, upd X n x, upd Y n y, upd V n v, va, fi, se, bo, st)) : wpX_node post (nI n, lv, IN, DI, sp, K, X, Y, V, va, fi, se, bo, st) 6 x y := by
  rw [gc_oe_6] at hb hw hg
  have hv : vp_in (nI n) 12 := vp_in_nI hn (by omega)
  have hc : (nI n).toNatClampNeg = n := nI_clamp (by omega)
  have n12 : ¬ nI n = 12 := fun e => absurd (gc_im (b := 12) e (by omega) (by omega)) (by omega)
  refine br_f n12 (gx_oe_6 (by omega) (fun o => br_f gc_10 ?_) (fun o => br_t rfl (hb o)))
  have o' := o
  obtain ⟨p, hp, rfl⟩ := o'
  have h01 : V p = 0 ∨ V p = 1 := (w p hp).2
  refine gx_fit_6 (by omega) h01 (fun z => br_f gc_10 ⟨hv, nm_r (e' := upd K n 6) (by rw [hc]) ⟨hv, nm_r (e' := upd X n (nI p)) (by rw [hc]) ⟨hv, nm_r (e' := upd Y n y) (by rw [hc]) (gx_mk_6 (gx_put (k := 6) hn (Or.inr rfl) (hg _ o (Or.inr rfl) (gc_N6 hp z))))⟩⟩⟩) (fun z => br_t rfl (hw o (fun v wv => ?_)))
  have := gc_N_x1 (by omega) (by omega) rfl (by decide) wv
  rw [z] at this
  exact absurd this (by decide)
theorem gx_node_7 {post : Int32 → SX → Prop} (hn : n < 12) (w : gc_W K X Y V n) (hb : ¬ gc_oe n 7 x y → post (-1) (nI n, lv, IN, DI, sp, K, X, Y, V, va, fi, se, bo, st)) (hw : gc_oe n 7 x y → (∀ v, ¬ gc_N V n 7 x y v) → post (-3) (nI n, lv, IN, DI, sp, K, X, Y, V, va, fi, se, bo, st)) (hg : ∀ v, gc_oe n 7 x y → (v = 0 ∨ v = 1) → gc_N V n 7 x y v → post (nI n) (nI (n + 1), lv, IN, DI, sp, upd K n 7, upd X n x, upd Y n y, upd V n v, va, fi, se, bo, st)) : wpX_node post (nI n, lv, IN, DI, sp, K, X, Y, V, va, fi, se, bo, st) 7 x y := by
  rw [gc_oe_7] at hb hw hg
  have hv : vp_in (nI n) 12 := vp_in_nI hn (by omega)
  have hc : (nI n).toNatClampNeg = n := nI_clamp (by omega)
  have n12 : ¬ nI n = 12 := fun e => absurd (gc_im (b := 12) e (by omega) (by omega)) (by omega)
  refine br_f n12 (gx_oe_7 (by omega) (fun o => br_f gc_10 ?_) (fun o => br_t rfl (hb o)))
  have o' := o
  obtain ⟨⟨p, hp, rfl⟩, ⟨q, hq, rfl⟩⟩ := o'
  have h01 : V p = 0 ∨ V p = 1 := (w p hp).2
  refine gx_fit_7 (by omega) h01 (fun z => br_f gc_10 ⟨hv, nm_r (e' := upd K n 7) (by rw [hc]) ⟨hv, nm_r (e' := upd X n (nI p)) (by rw [hc]) ⟨hv, nm_r (e' := upd Y n (nI q)) (by rw [hc]) (gx_mk_7 (gx_put (k := 7) hn (Or.inl rfl) (hg _ o (Or.inl rfl) (gc_N7 hp z hq))))⟩⟩⟩) (fun z => br_t rfl (hw o (fun v wv => ?_)))
  have := gc_N_x1 (by omega) (by omega) rfl (by decide) wv
  rw [z] at this
  exact absurd this (by decide)
theorem gx_node_8 {post : Int32 → SX → Prop} (hn : n < 12) (w : gc_W K X Y V n) (hb : ¬ gc_oe n 8 x y → post (-1) (nI n, lv, IN, DI, sp, K, X, Y, V, va, fi, se, bo, st)) (hw : gc_oe n 8 x y → (∀ v, ¬ gc_N V n 8 x y v) → post (-3) (nI n, lv, IN, DI, sp, K, X, Y, V, va, fi, se, bo, st)) (hg : ∀ v, gc_oe n 8 x y → (v = 0 ∨ v = 1) → gc_N V n 8 x y v → post (nI n) (nI (n + 1), lv, IN, DI, sp, upd K n 8, upd X n x, upd Y n y, upd V n v, va, fi, se, bo, st)) : wpX_node post (nI n, lv, IN, DI, sp, K, X, Y, V, va, fi, se, bo, st) 8 x y := by
  rw [gc_oe_8] at hb hw hg
  have hv : vp_in (nI n) 12 := vp_in_nI hn (by omega)
  have hc : (nI n).toNatClampNeg = n := nI_clamp (by omega)
  have n12 : ¬ nI n = 12 := fun e => absurd (gc_im (b := 12) e (by omega) (by omega)) (by omega)
  refine br_f n12 (gx_oe_8 (by omega) (fun o => br_f gc_10 ?_) (fun o => br_t rfl (hb o)))
  have o' := o
  obtain ⟨p, hp, rfl⟩ := o'
  refine gx_fit_8 (by omega) (fun z => br_f gc_10 ⟨hv, nm_r (e' := upd K n 8) (by rw [hc]) ⟨hv, nm_r (e' := upd X n (nI p)) (by rw [hc]) ⟨hv, nm_r (e' := upd Y n y) (by rw [hc]) (gx_mk_8 (gx_put (k := 8) hn (Or.inr rfl) (hg _ o (Or.inr rfl) (gc_N8 hp z))))⟩⟩⟩) (fun z => br_t rfl (hw o (fun v wv => ?_)))
  exact z (gc_N_x0 (by omega) (by omega) rfl rfl wv)
theorem gx_node_9 {post : Int32 → SX → Prop} (hn : n < 12) (w : gc_W K X Y V n) (hb : ¬ gc_oe n 9 x y → post (-1) (nI n, lv, IN, DI, sp, K, X, Y, V, va, fi, se, bo, st)) (hw : gc_oe n 9 x y → (∀ v, ¬ gc_N V n 9 x y v) → post (-3) (nI n, lv, IN, DI, sp, K, X, Y, V, va, fi, se, bo, st)) (hg : ∀ v, gc_oe n 9 x y → (v = 0 ∨ v = 1) → gc_N V n 9 x y v → post (nI n) (nI (n + 1), lv, IN, DI, sp, upd K n 9, upd X n x, upd Y n y, upd V n v, va, fi, se, bo, st)) : wpX_node post (nI n, lv, IN, DI, sp, K, X, Y, V, va, fi, se, bo, st) 9 x y := by
  rw [gc_oe_9] at hb hw hg
  have hv : vp_in (nI n) 12 := vp_in_nI hn (by omega)
  have hc : (nI n).toNatClampNeg = n := nI_clamp (by omega)
  have n12 : ¬ nI n = 12 := fun e => absurd (gc_im (b := 12) e (by omega) (by omega)) (by omega)
  refine br_f n12 (gx_oe_9 (by omega) (fun o => br_f gc_10 ?_) (fun o => br_t rfl (hb o)))
  have o' := o
  obtain ⟨p, hp, rfl⟩ := o'
  have h01 : V p = 0 ∨ V p = 1 := (w p hp).2
  exact gx_fit_9 (br_f gc_10 ⟨hv, nm_r (e' := upd K n 9) (by rw [hc]) ⟨hv, nm_r (e' := upd X n (nI p)) (by rw [hc]) ⟨hv, nm_r (e' := upd Y n y) (by rw [hc]) (gx_mk_9 (by omega) h01 (gx_put (k := 9) hn h01 (hg _ o h01 (gc_N9 hp))))⟩⟩⟩)
theorem gx_node_10 {post : Int32 → SX → Prop} (hn : n < 12) (w : gc_W K X Y V n) (hb : ¬ gc_oe n 10 x y → post (-1) (nI n, lv, IN, DI, sp, K, X, Y, V, va, fi, se, bo, st)) (hw : gc_oe n 10 x y → (∀ v, ¬ gc_N V n 10 x y v) → post (-3) (nI n, lv, IN, DI, sp, K, X, Y, V, va, fi, se, bo, st)) (hg : ∀ v, gc_oe n 10 x y → (v = 0 ∨ v = 1) → gc_N V n 10 x y v → post (nI n) (nI (n + 1), lv, IN, DI, sp, upd K n 10, upd X n x, upd Y n y, upd V n v, va, fi, se, bo, st)) : wpX_node post (nI n, lv, IN, DI, sp, K, X, Y, V, va, fi, se, bo, st) 10 x y := by
  rw [gc_oe_10] at hb hw hg
  have hv : vp_in (nI n) 12 := vp_in_nI hn (by omega)
  have hc : (nI n).toNatClampNeg = n := nI_clamp (by omega)
  have n12 : ¬ nI n = 12 := fun e => absurd (gc_im (b := 12) e (by omega) (by omega)) (by omega)
  refine br_f n12 (gx_oe_10 (by omega) (fun o => br_f gc_10 ?_) (fun o => br_t rfl (hb o)))
  have o' := o
  obtain ⟨p, hp, rfl⟩ := o'
  have h01 : V p = 0 ∨ V p = 1 := (w p hp).2
  refine gx_fit_10 (by omega) h01 (fun z => br_f gc_10 ⟨hv, nm_r (e' := upd K n 10) (by rw [hc]) ⟨hv, nm_r (e' := upd X n (nI p)) (by rw [hc]) ⟨hv, nm_r (e' := upd Y n y) (by rw [hc]) (gx_mk_10 (gx_put (k := 10) hn (Or.inr rfl) (hg _ o (Or.inr rfl) (gc_N10 hp z))))⟩⟩⟩) (fun z => br_t rfl (hw o (fun v wv => ?_)))
  have := gc_N_x1 (by omega) (by omega) rfl (by decide) wv
  rw [z] at this
  exact absurd this (by decide)
theorem gy_247 {post : Int32 → SY → Prop} {v : Int32} (hn : n < 12) (hv : v = 0 ∨ v = 1) (h : post (nI n) (nI (n + 1), K, X, Y, upd V n v, IN, DI, on, tw, pl, f1, f2, f3, sl)) : wY_node_247 post v (nI n) (nI n) K X Y V IN DI on tw pl f1 f2 f3 sl := by
  refine And.intro (vp_in_nI hn (by omega)) (nm_r (e' := upd V n v) (by rw [nI_clamp (by omega), gc_vb hv]) (nm_r (nI_1 n) ?_))
  rw [nI_pred]
  exact h
theorem gy_219 {post : Int32 → SY → Prop} {x2 x3 : Int32} (hn : n < 12) (h : post (nI n) (nI (n + 1), K, X, Y, upd V n 0, IN, DI, on, tw, pl, f1, f2, f3, sl)) : wY_node_219 post x2 x3 0 (nI n) (nI n) K X Y V IN DI on tw pl f1 f2 f3 sl :=
  br_t rfl (gy_247 hn (Or.inl rfl) h)
theorem gy_219b {post : Int32 → SY → Prop} {p q : Nat} (hn : n < 12) (hp : p < n) (hq : q < n) (h : post (nI n) (nI (n + 1), K, X, Y, upd V n (gc_or (V p) (V q)), IN, DI, on, tw, pl, f1, f2, f3, sl)) : wY_node_219 post (nI p) (nI q) 1 (nI n) (nI n) K X Y V IN DI on tw pl f1 f2 f3 sl := by
  have e : (nI p).toNatClampNeg = p := nI_clamp (by omega)
  have e' : (nI q).toNatClampNeg = q := nI_clamp (by omega)
  unfold wY_node_219
  rw [e, e']
  unfold gc_or at h
  refine br_f gc_10 ⟨vp_in_nI (by omega) (by omega), ?_⟩
  by_cases z : V p = 0
  · rw [if_pos z] at h
    by_cases z' : V q = 0
    · rw [if_pos z'] at h; exact br_t z ⟨vp_in_nI (by omega) (by omega), br_t z' (gy_247 hn (Or.inl rfl) h)⟩
    · rw [if_neg z'] at h; exact br_t z ⟨vp_in_nI (by omega) (by omega), br_f z' (gy_247 hn (Or.inr rfl) h)⟩
  · rw [if_neg z] at h; exact br_f z (gy_247 hn (Or.inr rfl) h)
theorem gy_node_0 {post : Int32 → SY → Prop} (hn : n < 12) (w : gc_W K X Y V n) (hb : ¬ gc_oe n 0 x y → post (-1) (nI n, K, X, Y, V, IN, DI, on, tw, pl, f1, f2, f3, sl)) (hw : gc_oe n 0 x y → (∀ v, ¬ gc_N V n 0 x y v) → post (-3) (nI n, K, X, Y, V, IN, DI, on, tw, pl, f1, f2, f3, sl)) (hg : ∀ v, gc_oe n 0 x y → (v = 0 ∨ v = 1) → gc_N V n 0 x y v → post (nI n) (nI (n + 1), upd K n 0, upd X n x, upd Y n y, upd V n v, IN, DI, on, tw, pl, f1, f2, f3, sl)) : wpY_node post (nI n, K, X, Y, V, IN, DI, on, tw, pl, f1, f2, f3, sl) 0 x y := by
  rw [gc_oe_0] at hb hw hg
  have hv : vp_in (nI n) 12 := vp_in_nI hn (by omega)
  have hc : (nI n).toNatClampNeg = n := nI_clamp (by omega)
  have n12 : ¬ nI n = 12 := fun e => absurd (gc_im (b := 12) e (by omega) (by omega)) (by omega)
  refine br_f n12 (gy_in gy_10 (by omega) (fun _ => br_f gc_10 ?_) (fun g => absurd ⟨0, by omega, rfl⟩ g))
  refine br_t rfl (gy_in gy_2 (by omega) (fun o => br_f gc_10 ?_) (fun o => br_t rfl (hb o)))
  have o' := o
  obtain ⟨p, hp, rfl⟩ := o'
  exact br_t (by decide) (br_t (by decide) (br_t rfl (br_f (by decide) (br_t (by decide) (br_f (by decide) (br_f (by decide) (And.intro hv (nm_r (e' := upd K n 0) (by rw [hc]) ⟨hv, nm_r (e' := upd X n (nI p)) (by rw [hc]) ⟨hv, nm_r (e' := upd Y n y) (by rw [hc]) (br_t rfl (gy_247 hn (Or.inr rfl) (hg _ o (Or.inr rfl) (gc_N0 hp))))⟩⟩))))))))
theorem gy_node_1 {post : Int32 → SY → Prop} (hn : n < 12) (w : gc_W K X Y V n) (hb : ¬ gc_oe n 1 x y → post (-1) (nI n, K, X, Y, V, IN, DI, on, tw, pl, f1, f2, f3, sl)) (hw : gc_oe n 1 x y → (∀ v, ¬ gc_N V n 1 x y v) → post (-3) (nI n, K, X, Y, V, IN, DI, on, tw, pl, f1, f2, f3, sl)) (hg : ∀ v, gc_oe n 1 x y → (v = 0 ∨ v = 1) → gc_N V n 1 x y v → post (nI n) (nI (n + 1), upd K n 1, upd X n x, upd Y n y, upd V n v, IN, DI, on, tw, pl, f1, f2, f3, sl)) : wpY_node post (nI n, K, X, Y, V, IN, DI, on, tw, pl, f1, f2, f3, sl) 1 x y := by
  rw [gc_oe_1] at hb hw hg
  have hv : vp_in (nI n) 12 := vp_in_nI hn (by omega)
  have hc : (nI n).toNatClampNeg = n := nI_clamp (by omega)
  have n12 : ¬ nI n = 12 := fun e => absurd (gc_im (b := 12) e (by omega) (by omega)) (by omega)
  refine br_f n12 (gy_in gy_10 (by omega) (fun _ => br_f gc_10 ?_) (fun g => absurd ⟨1, by omega, rfl⟩ g))
  exact br_f (by decide) (br_t (by decide) (br_t (by decide) (br_t rfl (br_f (by decide) (br_t (by decide) (br_f (by decide) (br_f (by decide) (And.intro hv (nm_r (e' := upd K n 1) (by rw [hc]) ⟨hv, nm_r (e' := upd X n x) (by rw [hc]) ⟨hv, nm_r (e' := upd Y n y) (by rw [hc]) (br_f (by decide) (br_f (by decide) (br_f (by decide) (br_f (by decide) (br_f (by decide) ((gy_219 hn (hg _ trivial (Or.inl rfl) gc_N1))))))))⟩⟩)))))))))
theorem gy_node_2 {post : Int32 → SY → Prop} (hn : n < 12) (w : gc_W K X Y V n) (hb : ¬ gc_oe n 2 x y → post (-1) (nI n, K, X, Y, V, IN, DI, on, tw, pl, f1, f2, f3, sl)) (hw : gc_oe n 2 x y → (∀ v, ¬ gc_N V n 2 x y v) → post (-3) (nI n, K, X, Y, V, IN, DI, on, tw, pl, f1, f2, f3, sl)) (hg : ∀ v, gc_oe n 2 x y → (v = 0 ∨ v = 1) → gc_N V n 2 x y v → post (nI n) (nI (n + 1), upd K n 2, upd X n x, upd Y n y, upd V n v, IN, DI, on, tw, pl, f1, f2, f3, sl)) : wpY_node post (nI n, K, X, Y, V, IN, DI, on, tw, pl, f1, f2, f3, sl) 2 x y := by
  rw [gc_oe_2] at hb hw hg
  have hv : vp_in (nI n) 12 := vp_in_nI hn (by omega)
  have hc : (nI n).toNatClampNeg = n := nI_clamp (by omega)
  have n12 : ¬ nI n = 12 := fun e => absurd (gc_im (b := 12) e (by omega) (by omega)) (by omega)
  refine br_f n12 (gy_in gy_10 (by omega) (fun _ => br_f gc_10 ?_) (fun g => absurd ⟨2, by omega, rfl⟩ g))
  refine br_f (by decide) (br_f (by decide) (br_f (by decide) (br_f (by decide) (gy_isNode (by omega) (fun a => br_f gc_10 (br_f gc_10 (gy_isNode (by omega) (fun b => br_f gc_10 ?_) (fun b => br_t rfl (hb (fun g => b g.2)))))) (fun a => br_t rfl (hb (fun g => a g.1)))))))
  have o : gc_in n x ∧ gc_in n y := ⟨a, b⟩
  obtain ⟨p, hp, rfl⟩ := a
  obtain ⟨q, hq, rfl⟩ := b
  exact br_f (by decide) (br_t (by decide) (br_f (by decide) (br_f (by decide) (And.intro hv (nm_r (e' := upd K n 2) (by rw [hc]) ⟨hv, nm_r (e' := upd X n (nI p)) (by rw [hc]) ⟨hv, nm_r (e' := upd Y n (nI q)) (by rw [hc]) (br_f (by decide) (br_f (by decide) (br_f (by decide) (br_f (by decide) (br_f (by decide) ((gy_219b hn hp hq (hg _ o (gc_or_01 _ _) (gc_N2 hp hq)))))))))⟩⟩)))))
theorem gy_node_3 {post : Int32 → SY → Prop} (hn : n < 12) (w : gc_W K X Y V n) (hb : ¬ gc_oe n 3 x y → post (-1) (nI n, K, X, Y, V, IN, DI, on, tw, pl, f1, f2, f3, sl)) (hw : gc_oe n 3 x y → (∀ v, ¬ gc_N V n 3 x y v) → post (-3) (nI n, K, X, Y, V, IN, DI, on, tw, pl, f1, f2, f3, sl)) (hg : ∀ v, gc_oe n 3 x y → (v = 0 ∨ v = 1) → gc_N V n 3 x y v → post (nI n) (nI (n + 1), upd K n 3, upd X n x, upd Y n y, upd V n v, IN, DI, on, tw, pl, f1, f2, f3, sl)) : wpY_node post (nI n, K, X, Y, V, IN, DI, on, tw, pl, f1, f2, f3, sl) 3 x y := by
  rw [gc_oe_3] at hb hw hg
  have hv : vp_in (nI n) 12 := vp_in_nI hn (by omega)
  have hc : (nI n).toNatClampNeg = n := nI_clamp (by omega)
  have n12 : ¬ nI n = 12 := fun e => absurd (gc_im (b := 12) e (by omega) (by omega)) (by omega)
  refine br_f n12 (gy_in gy_10 (by omega) (fun _ => br_f gc_10 ?_) (fun g => absurd ⟨3, by omega, rfl⟩ g))
  refine br_f (by decide) (br_f (by decide) (br_f (by decide) (br_f (by decide) (gy_isNode (by omega) (fun a => br_f gc_10 (br_f gc_10 (gy_isNode (by omega) (fun b => br_f gc_10 ?_) (fun b => br_t rfl (hb (fun g => b g.2)))))) (fun a => br_t rfl (hb (fun g => a g.1)))))))
  have o : gc_in n x ∧ gc_in n y := ⟨a, b⟩
  obtain ⟨p, hp, rfl⟩ := a
  obtain ⟨q, hq, rfl⟩ := b
  exact br_f (by decide) (br_t (by decide) (br_f (by decide) (br_f (by decide) (And.intro hv (nm_r (e' := upd K n 3) (by rw [hc]) ⟨hv, nm_r (e' := upd X n (nI p)) (by rw [hc]) ⟨hv, nm_r (e' := upd Y n (nI q)) (by rw [hc]) (br_f (by decide) (br_f (by decide) (br_f (by decide) (br_f (by decide) (br_f (by decide) ((gy_219b hn hp hq (hg _ o (gc_or_01 _ _) (gc_N3 hp hq)))))))))⟩⟩)))))
theorem gy_node_4 {post : Int32 → SY → Prop} (hn : n < 12) (w : gc_W K X Y V n) (hb : ¬ gc_oe n 4 x y → post (-1) (nI n, K, X, Y, V, IN, DI, on, tw, pl, f1, f2, f3, sl)) (hw : gc_oe n 4 x y → (∀ v, ¬ gc_N V n 4 x y v) → post (-3) (nI n, K, X, Y, V, IN, DI, on, tw, pl, f1, f2, f3, sl)) (hg : ∀ v, gc_oe n 4 x y → (v = 0 ∨ v = 1) → gc_N V n 4 x y v → post (nI n) (nI (n + 1), upd K n 4, upd X n x, upd Y n y, upd V n v, IN, DI, on, tw, pl, f1, f2, f3, sl)) : wpY_node post (nI n, K, X, Y, V, IN, DI, on, tw, pl, f1, f2, f3, sl) 4 x y := by
  rw [gc_oe_4] at hb hw hg
  have hv : vp_in (nI n) 12 := vp_in_nI hn (by omega)
  have hc : (nI n).toNatClampNeg = n := nI_clamp (by omega)
  have n12 : ¬ nI n = 12 := fun e => absurd (gc_im (b := 12) e (by omega) (by omega)) (by omega)
  refine br_f n12 (gy_in gy_10 (by omega) (fun _ => br_f gc_10 ?_) (fun g => absurd ⟨4, by omega, rfl⟩ g))
  refine br_f (by decide) (br_f (by decide) (br_f (by decide) (br_f (by decide) (gy_isNode (by omega) (fun a => br_f gc_10 (br_f gc_10 (gy_isNode (by omega) (fun b => br_f gc_10 ?_) (fun b => br_t rfl (hb (fun g => b g.2)))))) (fun a => br_t rfl (hb (fun g => a g.1)))))))
  have o : gc_in n x ∧ gc_in n y := ⟨a, b⟩
  obtain ⟨p, hp, rfl⟩ := a
  obtain ⟨q, hq, rfl⟩ := b
  exact br_f (by decide) (br_t (by decide) (br_f (by decide) (br_f (by decide) (And.intro hv (nm_r (e' := upd K n 4) (by rw [hc]) ⟨hv, nm_r (e' := upd X n (nI p)) (by rw [hc]) ⟨hv, nm_r (e' := upd Y n (nI q)) (by rw [hc]) (br_f (by decide) (br_f (by decide) (br_f (by decide) (br_f (by decide) (br_f (by decide) ((gy_219b hn hp hq (hg _ o (gc_or_01 _ _) (gc_N4 hp hq)))))))))⟩⟩)))))
theorem gy_node_5 {post : Int32 → SY → Prop} (hn : n < 12) (w : gc_W K X Y V n) (hb : ¬ gc_oe n 5 x y → post (-1) (nI n, K, X, Y, V, IN, DI, on, tw, pl, f1, f2, f3, sl)) (hw : gc_oe n 5 x y → (∀ v, ¬ gc_N V n 5 x y v) → post (-3) (nI n, K, X, Y, V, IN, DI, on, tw, pl, f1, f2, f3, sl)) (hg : ∀ v, gc_oe n 5 x y → (v = 0 ∨ v = 1) → gc_N V n 5 x y v → post (nI n) (nI (n + 1), upd K n 5, upd X n x, upd Y n y, upd V n v, IN, DI, on, tw, pl, f1, f2, f3, sl)) : wpY_node post (nI n, K, X, Y, V, IN, DI, on, tw, pl, f1, f2, f3, sl) 5 x y := by
  rw [gc_oe_5] at hb hw hg
  have hv : vp_in (nI n) 12 := vp_in_nI hn (by omega)
  have hc : (nI n).toNatClampNeg = n := nI_clamp (by omega)
  have n12 : ¬ nI n = 12 := fun e => absurd (gc_im (b := 12) e (by omega) (by omega)) (by omega)
  refine br_f n12 (gy_in gy_10 (by omega) (fun _ => br_f gc_10 ?_) (fun g => absurd ⟨5, by omega, rfl⟩ g))
  refine br_f (by decide) (br_f (by decide) (br_t (by decide) (br_f (by decide) (gy_isNode (by omega) (fun a => br_f gc_10 (br_t rfl ?_)) (fun a => br_t rfl (hb a))))))
  refine br_f (by decide) ?_
  have o := a
  obtain ⟨p, hp, rfl⟩ := a
  have vp : vp_in (nI p) 12 := vp_in_nI (by omega) (by omega)
  have e : (nI p).toNatClampNeg = p := nI_clamp (by omega)
  have h01 : V p = 0 ∨ V p = 1 := (w p hp).2
  refine br_f (by decide) (br_t (by decide) (And.intro vp ?_))
  try dsimp only
  rw [e]
  by_cases z : V p = 0
  · refine br_t z (hw o (fun v wv => ?_))
    have := gc_N_x1 (by omega) (by omega) rfl (by decide) wv
    rw [z] at this
    exact absurd this (by decide)
  · have z1 : V p = 1 := h01.resolve_left z
    exact br_f z (br_f (by decide) (And.intro hv (nm_r (e' := upd K n 5) (by rw [hc]) ⟨hv, nm_r (e' := upd X n (nI p)) (by rw [hc]) ⟨hv, nm_r (e' := upd Y n y) (by rw [hc]) (br_f (by decide) (br_f (by decide) (br_f (by decide) (br_f (by decide) (br_f (by decide) ((gy_219 hn (hg _ o (Or.inl rfl) (gc_N5 hp z1)))))))))⟩⟩)))
theorem gy_node_6 {post : Int32 → SY → Prop} (hn : n < 12) (w : gc_W K X Y V n) (hb : ¬ gc_oe n 6 x y → post (-1) (nI n, K, X, Y, V, IN, DI, on, tw, pl, f1, f2, f3, sl)) (hw : gc_oe n 6 x y → (∀ v, ¬ gc_N V n 6 x y v) → post (-3) (nI n, K, X, Y, V, IN, DI, on, tw, pl, f1, f2, f3, sl)) (hg : ∀ v, gc_oe n 6 x y → (v = 0 ∨ v = 1) → gc_N V n 6 x y v → post (nI n) (nI (n + 1), upd K n 6, upd X n x, upd Y n y, upd V n v, IN, DI, on, tw, pl, f1, f2, f3, sl)) : wpY_node post (nI n, K, X, Y, V, IN, DI, on, tw, pl, f1, f2, f3, sl) 6 x y := by
  rw [gc_oe_6] at hb hw hg
  have hv : vp_in (nI n) 12 := vp_in_nI hn (by omega)
  have hc : (nI n).toNatClampNeg = n := nI_clamp (by omega)
  have n12 : ¬ nI n = 12 := fun e => absurd (gc_im (b := 12) e (by omega) (by omega)) (by omega)
  refine br_f n12 (gy_in gy_10 (by omega) (fun _ => br_f gc_10 ?_) (fun g => absurd ⟨6, by omega, rfl⟩ g))
  refine br_f (by decide) (br_f (by decide) (br_t (by decide) (br_f (by decide) (gy_isNode (by omega) (fun a => br_f gc_10 (br_t rfl ?_)) (fun a => br_t rfl (hb a))))))
  refine br_f (by decide) ?_
  have o := a
  obtain ⟨p, hp, rfl⟩ := a
  have vp : vp_in (nI p) 12 := vp_in_nI (by omega) (by omega)
  have e : (nI p).toNatClampNeg = p := nI_clamp (by omega)
  have h01 : V p = 0 ∨ V p = 1 := (w p hp).2
  refine br_f (by decide) (br_t (by decide) (And.intro vp ?_))
  try dsimp only
  rw [e]
  by_cases z : V p = 0
  · refine br_t z (hw o (fun v wv => ?_))
    have := gc_N_x1 (by omega) (by omega) rfl (by decide) wv
    rw [z] at this
    exact absurd this (by decide)
  · have z1 : V p = 1 := h01.resolve_left z
    exact br_f z (br_f (by decide) (And.intro hv (nm_r (e' := upd K n 6) (by rw [hc]) ⟨hv, nm_r (e' := upd X n (nI p)) (by rw [hc]) ⟨hv, nm_r (e' := upd Y n y) (by rw [hc]) (br_f (by decide) (br_t rfl (gy_247 hn (Or.inr rfl) (hg _ o (Or.inr rfl) (gc_N6 hp z1)))))⟩⟩)))
theorem gy_node_7 {post : Int32 → SY → Prop} (hn : n < 12) (w : gc_W K X Y V n) (hb : ¬ gc_oe n 7 x y → post (-1) (nI n, K, X, Y, V, IN, DI, on, tw, pl, f1, f2, f3, sl)) (hw : gc_oe n 7 x y → (∀ v, ¬ gc_N V n 7 x y v) → post (-3) (nI n, K, X, Y, V, IN, DI, on, tw, pl, f1, f2, f3, sl)) (hg : ∀ v, gc_oe n 7 x y → (v = 0 ∨ v = 1) → gc_N V n 7 x y v → post (nI n) (nI (n + 1), upd K n 7, upd X n x, upd Y n y, upd V n v, IN, DI, on, tw, pl, f1, f2, f3, sl)) : wpY_node post (nI n, K, X, Y, V, IN, DI, on, tw, pl, f1, f2, f3, sl) 7 x y := by
  rw [gc_oe_7] at hb hw hg
  have hv : vp_in (nI n) 12 := vp_in_nI hn (by omega)
  have hc : (nI n).toNatClampNeg = n := nI_clamp (by omega)
  have n12 : ¬ nI n = 12 := fun e => absurd (gc_im (b := 12) e (by omega) (by omega)) (by omega)
  refine br_f n12 (gy_in gy_10 (by omega) (fun _ => br_f gc_10 ?_) (fun g => absurd ⟨7, by omega, rfl⟩ g))
  refine br_f (by decide) (br_f (by decide) (br_t (by decide) (br_f (by decide) (gy_isNode (by omega) (fun a => br_f gc_10 (br_t rfl ?_)) (fun a => br_t rfl (hb (fun g => a g.1)))))))
  refine br_t rfl (gy_in gy_3 (by omega) (fun b => br_f gc_10 ?_) (fun b => br_t rfl (hb (fun g => b g.2))))
  have o : gc_in n x ∧ gc_in 4 y := ⟨a, b⟩
  obtain ⟨p, hp, rfl⟩ := a
  obtain ⟨q, hq, rfl⟩ := b
  have vp : vp_in (nI p) 12 := vp_in_nI (by omega) (by omega)
  have e : (nI p).toNatClampNeg = p := nI_clamp (by omega)
  have h01 : V p = 0 ∨ V p = 1 := (w p hp).2
  refine br_f (by decide) (br_t (by decide) (And.intro vp ?_))
  try dsimp only
  rw [e]
  by_cases z : V p = 0
  · refine br_t z (hw o (fun v wv => ?_))
    have := gc_N_x1 (by omega) (by omega) rfl (by decide) wv
    rw [z] at this
    exact absurd this (by decide)
  · have z1 : V p = 1 := h01.resolve_left z
    exact br_f z (br_f (by decide) (And.intro hv (nm_r (e' := upd K n 7) (by rw [hc]) ⟨hv, nm_r (e' := upd X n (nI p)) (by rw [hc]) ⟨hv, nm_r (e' := upd Y n (nI q)) (by rw [hc]) (br_f (by decide) (br_f (by decide) (br_f (by decide) (br_f (by decide) (br_f (by decide) ((gy_219 hn (hg _ o (Or.inl rfl) (gc_N7 hp z1 hq)))))))))⟩⟩)))
theorem gy_node_8 {post : Int32 → SY → Prop} (hn : n < 12) (w : gc_W K X Y V n) (hb : ¬ gc_oe n 8 x y → post (-1) (nI n, K, X, Y, V, IN, DI, on, tw, pl, f1, f2, f3, sl)) (hw : gc_oe n 8 x y → (∀ v, ¬ gc_N V n 8 x y v) → post (-3) (nI n, K, X, Y, V, IN, DI, on, tw, pl, f1, f2, f3, sl)) (hg : ∀ v, gc_oe n 8 x y → (v = 0 ∨ v = 1) → gc_N V n 8 x y v → post (nI n) (nI (n + 1), upd K n 8, upd X n x, upd Y n y, upd V n v, IN, DI, on, tw, pl, f1, f2, f3, sl)) : wpY_node post (nI n, K, X, Y, V, IN, DI, on, tw, pl, f1, f2, f3, sl) 8 x y := by
  rw [gc_oe_8] at hb hw hg
  have hv : vp_in (nI n) 12 := vp_in_nI hn (by omega)
  have hc : (nI n).toNatClampNeg = n := nI_clamp (by omega)
  have n12 : ¬ nI n = 12 := fun e => absurd (gc_im (b := 12) e (by omega) (by omega)) (by omega)
  refine br_f n12 (gy_in gy_10 (by omega) (fun _ => br_f gc_10 ?_) (fun g => absurd ⟨8, by omega, rfl⟩ g))
  refine br_f (by decide) (br_f (by decide) (br_t (by decide) (br_f (by decide) (gy_isNode (by omega) (fun a => br_f gc_10 (br_t rfl ?_)) (fun a => br_t rfl (hb a))))))
  refine br_f (by decide) ?_
  have o := a
  obtain ⟨p, hp, rfl⟩ := a
  have vp : vp_in (nI p) 12 := vp_in_nI (by omega) (by omega)
  have e : (nI p).toNatClampNeg = p := nI_clamp (by omega)
  have h01 : V p = 0 ∨ V p = 1 := (w p hp).2
  refine br_f (by decide) (br_f (by decide) (br_f (by decide) (br_t rfl (And.intro vp ?_))))
  try dsimp only
  rw [e]
  by_cases z : V p = 0
  · exact br_t z (And.intro hv (nm_r (e' := upd K n 8) (by rw [hc]) ⟨hv, nm_r (e' := upd X n (nI p)) (by rw [hc]) ⟨hv, nm_r (e' := upd Y n y) (by rw [hc]) (br_f (by decide) (br_f (by decide) (br_t rfl (gy_247 hn (Or.inr rfl) (hg _ o (Or.inr rfl) (gc_N8 hp z))))))⟩⟩))
  · exact br_f z (hw o (fun v wv => z (gc_N_x0 (by omega) (by omega) rfl rfl wv)))
theorem gy_node_9 {post : Int32 → SY → Prop} (hn : n < 12) (w : gc_W K X Y V n) (hb : ¬ gc_oe n 9 x y → post (-1) (nI n, K, X, Y, V, IN, DI, on, tw, pl, f1, f2, f3, sl)) (hw : gc_oe n 9 x y → (∀ v, ¬ gc_N V n 9 x y v) → post (-3) (nI n, K, X, Y, V, IN, DI, on, tw, pl, f1, f2, f3, sl)) (hg : ∀ v, gc_oe n 9 x y → (v = 0 ∨ v = 1) → gc_N V n 9 x y v → post (nI n) (nI (n + 1), upd K n 9, upd X n x, upd Y n y, upd V n v, IN, DI, on, tw, pl, f1, f2, f3, sl)) : wpY_node post (nI n, K, X, Y, V, IN, DI, on, tw, pl, f1, f2, f3, sl) 9 x y := by
  rw [gc_oe_9] at hb hw hg
  have hv : vp_in (nI n) 12 := vp_in_nI hn (by omega)
  have hc : (nI n).toNatClampNeg = n := nI_clamp (by omega)
  have n12 : ¬ nI n = 12 := fun e => absurd (gc_im (b := 12) e (by omega) (by omega)) (by omega)
  refine br_f n12 (gy_in gy_10 (by omega) (fun _ => br_f gc_10 ?_) (fun g => absurd ⟨9, by omega, rfl⟩ g))
  refine br_f (by decide) (br_f (by decide) (br_t (by decide) (br_f (by decide) (gy_isNode (by omega) (fun a => br_f gc_10 (br_t rfl ?_)) (fun a => br_t rfl (hb a))))))
  refine br_f (by decide) ?_
  have o := a
  obtain ⟨p, hp, rfl⟩ := a
  have vp : vp_in (nI p) 12 := vp_in_nI (by omega) (by omega)
  have e : (nI p).toNatClampNeg = p := nI_clamp (by omega)
  have h01 : V p = 0 ∨ V p = 1 := (w p hp).2
  refine br_f (by decide) (br_f (by decide) (br_f (by decide) (br_f (by decide) (And.intro hv (nm_r (e' := upd K n 9) (by rw [hc]) ⟨hv, nm_r (e' := upd X n (nI p)) (by rw [hc]) ⟨hv, nm_r (e' := upd Y n y) (by rw [hc]) (br_f (by decide) (br_f (by decide) (br_f (by decide) (br_f (by decide) (br_t rfl (And.intro vp ?_))))))⟩⟩)))))
  try dsimp only
  rw [e]
  have N := gc_N9 (V := V) (y := y) hp
  by_cases z : V p = 0
  · rw [z] at N
    exact br_t z (gy_219 hn (hg _ o (Or.inl rfl) N))
  · have z1 : V p = 1 := h01.resolve_left z
    rw [z1] at N
    exact br_f z (gy_247 hn (Or.inr rfl) (hg _ o (Or.inr rfl) N))
theorem gy_node_10 {post : Int32 → SY → Prop} (hn : n < 12) (w : gc_W K X Y V n) (hb : ¬ gc_oe n 10 x y → post (-1) (nI n, K, X, Y, V, IN, DI, on, tw, pl, f1, f2, f3, sl)) (hw : gc_oe n 10 x y → (∀ v, ¬ gc_N V n 10 x y v) → post (-3) (nI n, K, X, Y, V, IN, DI, on, tw, pl, f1, f2, f3, sl)) (hg : ∀ v, gc_oe n 10 x y → (v = 0 ∨ v = 1) → gc_N V n 10 x y v → post (nI n) (nI (n + 1), upd K n 10, upd X n x, upd Y n y, upd V n v, IN, DI, on, tw, pl, f1, f2, f3, sl)) : wpY_node post (nI n, K, X, Y, V, IN, DI, on, tw, pl, f1, f2, f3, sl) 10 x y := by
  rw [gc_oe_10] at hb hw hg
  have hv : vp_in (nI n) 12 := vp_in_nI hn (by omega)
  have hc : (nI n).toNatClampNeg = n := nI_clamp (by omega)
  have n12 : ¬ nI n = 12 := fun e => absurd (gc_im (b := 12) e (by omega) (by omega)) (by omega)
  refine br_f n12 (gy_in gy_10 (by omega) (fun _ => br_f gc_10 ?_) (fun g => absurd ⟨10, by omega, rfl⟩ g))
  refine br_f (by decide) (br_f (by decide) (br_t (by decide) (br_f (by decide) (gy_isNode (by omega) (fun a => br_f gc_10 (br_t rfl ?_)) (fun a => br_t rfl (hb a))))))
  refine br_f (by decide) ?_
  have o := a
  obtain ⟨p, hp, rfl⟩ := a
  have vp : vp_in (nI p) 12 := vp_in_nI (by omega) (by omega)
  have e : (nI p).toNatClampNeg = p := nI_clamp (by omega)
  have h01 : V p = 0 ∨ V p = 1 := (w p hp).2
  refine br_f (by decide) (br_f (by decide) (br_t rfl (And.intro vp ?_)))
  try dsimp only
  rw [e]
  by_cases z : V p = 0
  · refine br_t z (hw o (fun v wv => ?_))
    have := gc_N_x1 (by omega) (by omega) rfl (by decide) wv
    rw [z] at this
    exact absurd this (by decide)
  · have z1 : V p = 1 := h01.resolve_left z
    exact br_f z (br_f (by decide) (And.intro hv (nm_r (e' := upd K n 10) (by rw [hc]) ⟨hv, nm_r (e' := upd X n (nI p)) (by rw [hc]) ⟨hv, nm_r (e' := upd Y n y) (by rw [hc]) (br_f (by decide) (br_f (by decide) (br_f (by decide) (br_t rfl (gy_247 hn (Or.inr rfl) (hg _ o (Or.inr rfl) (gc_N10 hp z1)))))))⟩⟩)))
theorem gx_node {post : Int32 → SX → Prop} {k : Int32} (hn : n < 12) (w : gc_W K X Y V n) (hb : ¬ gc_oe n k x y → post (-1) (nI n, lv, IN, DI, sp, K, X, Y, V, va, fi, se, bo, st)) (hw : gc_oe n k x y → (∀ v, ¬ gc_N V n k x y v) → post (-3) (nI n, lv, IN, DI, sp, K, X, Y, V, va, fi, se, bo, st)) (hg : ∀ v, gc_oe n k x y → (v = 0 ∨ v = 1) → gc_N V n k x y v → post (nI n) (nI (n + 1), lv, IN, DI, sp, upd K n k, upd X n x, upd Y n y, upd V n v, va, fi, se, bo, st)) : wpX_node post (nI n, lv, IN, DI, sp, K, X, Y, V, va, fi, se, bo, st) k x y := by
  by_cases h : gc_in 11 k
  · obtain ⟨j, hj, rfl⟩ := h
    have : j = 0 ∨ j = 1 ∨ j = 2 ∨ j = 3 ∨ j = 4 ∨ j = 5 ∨ j = 6 ∨ j = 7 ∨ j = 8 ∨ j = 9 ∨ j = 10 := by omega
    rcases this with rfl | rfl | rfl | rfl | rfl | rfl | rfl | rfl | rfl | rfl | rfl
    · exact gx_node_0 hn w hb hw hg
    · exact gx_node_1 hn w hb hw hg
    · exact gx_node_2 hn w hb hw hg
    · exact gx_node_3 hn w hb hw hg
    · exact gx_node_4 hn w hb hw hg
    · exact gx_node_5 hn w hb hw hg
    · exact gx_node_6 hn w hb hw hg
    · exact gx_node_7 hn w hb hw hg
    · exact gx_node_8 hn w hb hw hg
    · exact gx_node_9 hn w hb hw hg
    · exact gx_node_10 hn w hb hw hg
  · have n12 : ¬ nI n = 12 := fun e => absurd (gc_im (b := 12) e (by omega) (by omega)) (by omega)
    exact br_f n12 (gx_oe_no h (br_t rfl (hb (gc_oe_no h))))
theorem gy_node {post : Int32 → SY → Prop} {k : Int32} (hn : n < 12) (w : gc_W K X Y V n) (hb : ¬ gc_oe n k x y → post (-1) (nI n, K, X, Y, V, IN, DI, on, tw, pl, f1, f2, f3, sl)) (hw : gc_oe n k x y → (∀ v, ¬ gc_N V n k x y v) → post (-3) (nI n, K, X, Y, V, IN, DI, on, tw, pl, f1, f2, f3, sl)) (hg : ∀ v, gc_oe n k x y → (v = 0 ∨ v = 1) → gc_N V n k x y v → post (nI n) (nI (n + 1), upd K n k, upd X n x, upd Y n y, upd V n v, IN, DI, on, tw, pl, f1, f2, f3, sl)) : wpY_node post (nI n, K, X, Y, V, IN, DI, on, tw, pl, f1, f2, f3, sl) k x y := by
  by_cases h : gc_in 11 k
  · obtain ⟨j, hj, rfl⟩ := h
    have : j = 0 ∨ j = 1 ∨ j = 2 ∨ j = 3 ∨ j = 4 ∨ j = 5 ∨ j = 6 ∨ j = 7 ∨ j = 8 ∨ j = 9 ∨ j = 10 := by omega
    rcases this with rfl | rfl | rfl | rfl | rfl | rfl | rfl | rfl | rfl | rfl | rfl
    · exact gy_node_0 hn w hb hw hg
    · exact gy_node_1 hn w hb hw hg
    · exact gy_node_2 hn w hb hw hg
    · exact gy_node_3 hn w hb hw hg
    · exact gy_node_4 hn w hb hw hg
    · exact gy_node_5 hn w hb hw hg
    · exact gy_node_6 hn w hb hw hg
    · exact gy_node_7 hn w hb hw hg
    · exact gy_node_8 hn w hb hw hg
    · exact gy_node_9 hn w hb hw hg
    · exact gy_node_10 hn w hb hw hg
  · have n12 : ¬ nI n = 12 := fun e => absurd (gc_im (b := 12) e (by omega) (by omega)) (by omega)
    exact br_f n12 (gy_in gy_10 (by omega) (fun g => absurd g h) (fun _ => br_t rfl (hb (gc_oe_no h))))
end
theorem i_vc_node {k : Nat} {u : SX} {v : SY} (I : i_Rel k u v) (hk : k + 5 ≤ 2560) (v1 : Int32) (v2 : Int32) (v3 : Int32) : wpX_node (fun r u' => wpY_node (fun r' v' => r' = r ∧ i_Rel (k + 5) u' v') v v1 v2 v3) u v1 v2 v3 := by
  obtain ⟨n, lv, IN, DI, sp, K, X, Y, V, va, fi, se, bo, st, on, tw, pl, f1, f2, f3, sl, hn, w, c, rfl, rfl⟩ := I
  by_cases h12 : n = 12
  · subst h12
    exact br_t rfl (br_t rfl ⟨rfl, gr_mk hn w c⟩)
  · have hl : n < 12 := by omega
    refine gx_node hl w (fun g => ?_) (fun o nv => ?_) (fun v o v01 wv => ?_)
    · exact gy_node hl w (fun _ => ⟨rfl, gr_mk hn w c⟩) (fun o _ => absurd o g) (fun _ o _ _ => absurd o g)
    · exact gy_node hl w (fun g => absurd o g) (fun _ _ => ⟨rfl, gr_mk hn w c⟩) (fun v _ _ wv => absurd wv (nv v))
    · refine gy_node hl w (fun g => absurd o g) (fun _ nv => absurd wv (nv v)) (fun v' _ _ wv' => ⟨rfl, ?_⟩)
      have e : v' = v := (gc_N_mv hn wv').trans (gc_N_mv hn wv).symm
      subst e
      exact gr_mk (by omega) (gc_W_node w v01 wv) (gc_C_node hn w c)
end GN
