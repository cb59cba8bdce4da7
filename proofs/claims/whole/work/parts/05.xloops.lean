section GXB
/-! the component: passes over the nodes -/
theorem gc_P_le {F : Nat → Nat → Int32} {e : Nat} {va : Nat → Int32} {m k : Nat} (h : gc_P F e va m 0) (hk : k ≤ m) : gc_P F e va k 0 :=
  ⟨fun p hp => h.1 p (by omega), fun j hj => absurd hj (Nat.not_lt_zero j)⟩
theorem gc_4le {i : Nat} (h : 4 ≤ i) (hi : i < 2 ^ 31) : (4 : Int32) ≤ nI i := nI_le (a := 4) h hi
theorem gc_n4le {i : Nat} (h : i < 4) : ¬ (4 : Int32) ≤ nI i := nI_ge (b := 4) h (by decide)
section
variable {n : Nat} {lv : Int32} {IN DI sp K X Y V fi se bo st : Nat → Int32} {post : SX → Prop} {m k e : Nat} {x1 t : Int32}
theorem gx_wv39 {J : Int32 → (Nat → Int32) → (Nat → Int32) → (Nat → Int32) → (Nat → Int32) → (Nat → Int32) → (Nat → Int32) → (Nat → Int32) → (Nat → Int32) → (Nat → Int32) → (Nat → Int32) → (Nat → Int32) → (Nat → Int32) → Prop} (hn : n ≤ 12) (w : gc_W K X Y V n) (hm : m < n) (he : e < 3) : ∀ (d i : Nat) (va : Nat → Int32), i + d = 4 → gc_C K X Y IN va st n → gc_P (gc_V K X Y (fun c => IN (12 * e + c))) e va m i →
    (∀ va' : Nat → Int32, gc_C K X Y IN va' st n → gc_P (gc_V K X Y (fun c => IN (12 * e + c))) e va' (m + 1) 0 → J (nI (m + 1)) IN DI sp K X Y V va' fi se bo st) →
    wX_workOutValues_39 post J x1 (nI e) (nI m) (nI ((e * 12 + m) * 4)) (nI n) lv (d + 1) (nI i) IN DI sp K X Y V va fi se bo st := by
  intro d
  induction d with
  | zero =>
    intro i va hi c P hJ
    have e4 : i = 4 := by omega
    subst e4
    exact br_t (gc_4le (Nat.le_refl _) (by omega)) (nm_r (nI_1 m) (hJ va c (gc_P_s P)))
  | succ d ih =>
    intro i va hi c P hJ
    have hv : gc_rv K X Y (fun c => IN (12 * e + c)) (fun p j => va ((e * 12 + p) * 4 + j)) m i = (gc_V K X Y (fun c => IN (12 * e + c))) m i :=
      gc_V_st hn w hm (by omega) (fun _ _ => rfl) (fun p hp j hj => P.1 p hp j hj)
    refine br_f (gc_n4le (by omega)) (gx_valueOf (by omega) (by omega) he (w m hm).1 ?_)
    rw [hv]
    refine ⟨gc_vi (by omega) (by omega), nm_r (e' := upd va ((e * 12 + m) * 4 + i) ((gc_V K X Y (fun c => IN (12 * e + c))) m i)) ?_ (nm_r (nI_1 i) (ih (i + 1) _ (by omega) (gc_C_w hn he (by omega) (by omega) c) (gc_P_w (by omega) P) hJ))⟩
    rw [gc_ix (by omega)]
theorem gx_wvx {va : Nat → Int32} (hk : k < n) (hn : n ≤ 12) (he : e < 3) (c : gc_C K X Y IN va st n) (P : gc_P (gc_V K X Y (fun c => IN (12 * e + c))) e va (k + 1) 0)
    (hp : ∀ st' : Nat → Int32, gc_C K X Y IN va st' n → post (nI n, lv, IN, DI, sp, K, X, Y, V, va, fi, se, bo, st')) :
    vp_in (nI e) 3 ∧ (((nI k < st (nI e).toNatClampNeg → (post (nI n, lv, IN, DI, sp, K, X, Y, V, va, fi, se, bo, st))) ∧ (¬ nI k < st (nI e).toNatClampNeg → (vp_in (nI e) 3 ∧ ∀ z, z = upd st (nI e).toNatClampNeg (nI k + 1) → (post (nI n, lv, IN, DI, sp, K, X, Y, V, va, fi, se, bo, z)))))) := by
  have h3 : vp_in (nI e) 3 := vp_in_nI he (by omega)
  refine ⟨h3, br_c (fun _ => hp st c) (fun _ => ⟨h3, nm_r (e' := upd st e (nI (k + 1))) ?_ (hp _ (gc_C_st he (by omega) (fun p hq j hj => P.1 p hq j hj) c))⟩)⟩
  rw [nI_clamp (by omega), nI_1]
theorem gx_wv22 (hn : n ≤ 12) (w : gc_W K X Y V n) (hk : k < n) (he : e < 3)
    (hp : ∀ va' st' : Nat → Int32, gc_C K X Y IN va' st' n → gc_P (gc_V K X Y (fun c => IN (12 * e + c))) e va' (k + 1) 0 → post (nI n, lv, IN, DI, sp, K, X, Y, V, va', fi, se, bo, st')) : ∀ (d m : Nat) (va : Nat → Int32), m ≤ 12 → k + 1 ≤ m + d → gc_C K X Y IN va st n → gc_P (gc_V K X Y (fun c => IN (12 * e + c))) e va m 0 →
    wX_workOutValues_22 post (nI k) (nI e) (nI n) lv (d + 1) (nI m) IN DI sp K X Y V va fi se bo st := by
  intro d
  induction d with
  | zero =>
    intro m va hm hd c P
    have P' := gc_P_le (k := k + 1) P (by omega)
    exact br_t (nI_lt (by omega) (by omega)) (gx_wvx hk hn he c P' (fun st' c' => hp va st' c' P'))
  | succ d ih =>
    intro m va hm hd c P
    by_cases z : k < m
    · have P' := gc_P_le (k := k + 1) P (by omega)
      exact br_t (nI_lt z (by omega)) (gx_wvx hk hn he c P' (fun st' c' => hp va st' c' P'))
    · refine br_f (nI_nlt (by omega) (by omega)) (gx_fc rfl ?_)
      exact ⟨5, gx_wv39 hn w (by omega) he 4 0 va (by omega) c P (fun va' c' P' => ih (m + 1) va' (by omega) (by omega) c' P')⟩
theorem gx_workOutValues {va : Nat → Int32} (hn : n ≤ 12) (w : gc_W K X Y V n) (hk : k < n) (he : e < 3) (c : gc_C K X Y IN va st n)
    (hp : ∀ va' st' : Nat → Int32, gc_C K X Y IN va' st' n → gc_P (gc_V K X Y (fun c => IN (12 * e + c))) e va' (k + 1) 0 → post (nI n, lv, IN, DI, sp, K, X, Y, V, va', fi, se, bo, st')) : wpX_workOutValues post (nI n, lv, IN, DI, sp, K, X, Y, V, va, fi, se, bo, st) (nI k) (nI e) := by
  obtain ⟨q, hq, hs, hv⟩ := c e he
  refine br_c (fun _ => And.intro (vp_in_nI he (by omega)) (nm_r (e' := nI q) ?_ ⟨k + 2, gx_wv22 hn w hk he hp (k + 1) q va (by omega) (by omega) c ⟨hv, fun j hj => absurd hj (Nat.not_lt_zero j)⟩⟩)) (fun _ => ⟨k + 2, gx_wv22 hn w hk he hp (k + 1) 0 va (by omega) (by omega) c gc_P_0⟩)
  rw [nI_clamp (by omega)]
  exact hs
end
section
variable {n : Nat} {lv : Int32} {IN DI sp K X Y V va se bo st : Nat → Int32} {post : SX → Prop} {m k e : Nat} {x1 t : Int32}
theorem gx_wd21_byFirst {J : Int32 → (Nat → Int32) → (Nat → Int32) → (Nat → Int32) → (Nat → Int32) → (Nat → Int32) → (Nat → Int32) → (Nat → Int32) → (Nat → Int32) → (Nat → Int32) → (Nat → Int32) → (Nat → Int32) → (Nat → Int32) → Prop} (hn : n ≤ 12) (w : gc_W K X Y V n) (hm : m < n) (he : e < 3) (Pv : gc_P (gc_V K X Y (fun c => IN (12 * e + c))) e va m 0) : ∀ (d i : Nat) (fi : Nat → Int32), i + d = 4 → gc_P (gc_D K X Y (fun c => IN (12 * e + c)) (gc_sd DI e t)) e fi m i →
    (∀ fi' : Nat → Int32, gc_P (gc_D K X Y (fun c => IN (12 * e + c)) (gc_sd DI e t)) e fi' (m + 1) 0 → J (nI (m + 1)) IN DI sp K X Y V va fi' se bo st) →
    wX_workOutDerivatives__byFirst_21 post J x1 t (nI e) (nI m) (nI ((e * 12 + m) * 4)) (nI n) lv (d + 1) (nI i) IN DI sp K X Y V va fi se bo st := by
  intro d
  induction d with
  | zero =>
    intro i fi hi P hJ
    have e4 : i = 4 := by omega
    subst e4
    exact br_t (gc_4le (Nat.le_refl _) (by omega)) (nm_r (nI_1 m) (hJ fi (gc_P_s P)))
  | succ d ih =>
    intro i fi hi P hJ
    have hv : gc_rd K X Y (gc_sd DI e t) (fun p j => va ((e * 12 + p) * 4 + j)) (fun p j => fi ((e * 12 + p) * 4 + j)) m i = (gc_D K X Y (fun c => IN (12 * e + c)) (gc_sd DI e t)) m i :=
      gc_D_st hn w hm (by omega) (fun _ _ => rfl) (fun p hp j hj => Pv.1 p hp j hj) (fun p hp j hj => P.1 p hp j hj)
    refine br_f (gc_n4le (by omega)) (gx_derivativeOf_byFirst (by omega) (by omega) he (w m hm).1 ?_)
    rw [hv]
    refine ⟨gc_vi (by omega) (by omega), nm_r (e' := upd fi ((e * 12 + m) * 4 + i) ((gc_D K X Y (fun c => IN (12 * e + c)) (gc_sd DI e t)) m i)) ?_ (nm_r (nI_1 i) (ih (i + 1) _ (by omega) (gc_P_w (by omega) P) hJ))⟩
    rw [gc_ix (by omega)]
theorem gx_wd3_byFirst (hn : n ≤ 12) (w : gc_W K X Y V n) (hk : k < n) (he : e < 3) (Pv : gc_P (gc_V K X Y (fun c => IN (12 * e + c))) e va (k + 1) 0)
    (hp : ∀ fi' : Nat → Int32, gc_P (gc_D K X Y (fun c => IN (12 * e + c)) (gc_sd DI e t)) e fi' (k + 1) 0 → post (nI n, lv, IN, DI, sp, K, X, Y, V, va, fi', se, bo, st)) : ∀ (d m : Nat) (fi : Nat → Int32), m + d = k + 1 → gc_P (gc_D K X Y (fun c => IN (12 * e + c)) (gc_sd DI e t)) e fi m 0 →
    wX_workOutDerivatives__byFirst_3 post (nI k) t (nI e) (nI n) lv (d + 1) (nI m) IN DI sp K X Y V va fi se bo st := by
  intro d
  induction d with
  | zero =>
    intro m fi hd P
    have em : m = k + 1 := by omega
    subst em
    exact br_t (nI_lt (by omega) (by omega)) (hp fi P)
  | succ d ih =>
    intro m fi hd P
    refine br_f (nI_nlt (by omega) (by omega)) (gx_fc rfl ?_)
    exact ⟨5, gx_wd21_byFirst hn w (by omega) he (gc_P_le Pv (by omega)) 4 0 fi (by omega) P (fun fi' P' => ih (m + 1) fi' (by omega) P')⟩
theorem gx_workOutDerivatives_byFirst {fi : Nat → Int32} (hn : n ≤ 12) (w : gc_W K X Y V n) (hk : k < n) (he : e < 3) (Pv : gc_P (gc_V K X Y (fun c => IN (12 * e + c))) e va (k + 1) 0)
    (hp : ∀ fi' : Nat → Int32, gc_P (gc_D K X Y (fun c => IN (12 * e + c)) (gc_sd DI e t)) e fi' (k + 1) 0 → post (nI n, lv, IN, DI, sp, K, X, Y, V, va, fi', se, bo, st)) : wpX_workOutDerivatives__byFirst post (nI n, lv, IN, DI, sp, K, X, Y, V, va, fi, se, bo, st) (nI k) t (nI e) :=
  ⟨k + 2, gx_wd3_byFirst hn w hk he Pv hp (k + 1) 0 fi (by omega) gc_P_0⟩
end
section
variable {n : Nat} {lv : Int32} {IN DI sp K X Y V va fi bo st : Nat → Int32} {post : SX → Prop} {m k e : Nat} {x1 t : Int32}
theorem gx_wd21_bySecond {J : Int32 → (Nat → Int32) → (Nat → Int32) → (Nat → Int32) → (Nat → Int32) → (Nat → Int32) → (Nat → Int32) → (Nat → Int32) → (Nat → Int32) → (Nat → Int32) → (Nat → Int32) → (Nat → Int32) → (Nat → Int32) → Prop} (hn : n ≤ 12) (w : gc_W K X Y V n) (hm : m < n) (he : e < 3) (Pv : gc_P (gc_V K X Y (fun c => IN (12 * e + c))) e va m 0) : ∀ (d i : Nat) (se : Nat → Int32), i + d = 4 → gc_P (gc_D K X Y (fun c => IN (12 * e + c)) (gc_sd DI e t)) e se m i →
    (∀ se' : Nat → Int32, gc_P (gc_D K X Y (fun c => IN (12 * e + c)) (gc_sd DI e t)) e se' (m + 1) 0 → J (nI (m + 1)) IN DI sp K X Y V va fi se' bo st) →
    wX_workOutDerivatives__bySecond_21 post J x1 t (nI e) (nI m) (nI ((e * 12 + m) * 4)) (nI n) lv (d + 1) (nI i) IN DI sp K X Y V va fi se bo st := by
  intro d
  induction d with
  | zero =>
    intro i se hi P hJ
    have e4 : i = 4 := by omega
    subst e4
    exact br_t (gc_4le (Nat.le_refl _) (by omega)) (nm_r (nI_1 m) (hJ se (gc_P_s P)))
  | succ d ih =>
    intro i se hi P hJ
    have hv : gc_rd K X Y (gc_sd DI e t) (fun p j => va ((e * 12 + p) * 4 + j)) (fun p j => se ((e * 12 + p) * 4 + j)) m i = (gc_D K X Y (fun c => IN (12 * e + c)) (gc_sd DI e t)) m i :=
      gc_D_st hn w hm (by omega) (fun _ _ => rfl) (fun p hp j hj => Pv.1 p hp j hj) (fun p hp j hj => P.1 p hp j hj)
    refine br_f (gc_n4le (by omega)) (gx_derivativeOf_bySecond (by omega) (by omega) he (w m hm).1 ?_)
    rw [hv]
    refine ⟨gc_vi (by omega) (by omega), nm_r (e' := upd se ((e * 12 + m) * 4 + i) ((gc_D K X Y (fun c => IN (12 * e + c)) (gc_sd DI e t)) m i)) ?_ (nm_r (nI_1 i) (ih (i + 1) _ (by omega) (gc_P_w (by omega) P) hJ))⟩
    rw [gc_ix (by omega)]
theorem gx_wd3_bySecond (hn : n ≤ 12) (w : gc_W K X Y V n) (hk : k < n) (he : e < 3) (Pv : gc_P (gc_V K X Y (fun c => IN (12 * e + c))) e va (k + 1) 0)
    (hp : ∀ se' : Nat → Int32, gc_P (gc_D K X Y (fun c => IN (12 * e + c)) (gc_sd DI e t)) e se' (k + 1) 0 → post (nI n, lv, IN, DI, sp, K, X, Y, V, va, fi, se', bo, st)) : ∀ (d m : Nat) (se : Nat → Int32), m + d = k + 1 → gc_P (gc_D K X Y (fun c => IN (12 * e + c)) (gc_sd DI e t)) e se m 0 →
    wX_workOutDerivatives__bySecond_3 post (nI k) t (nI e) (nI n) lv (d + 1) (nI m) IN DI sp K X Y V va fi se bo st := by
  intro d
  induction d with
  | zero =>
    intro m se hd P
    have em : m = k + 1 := by omega
    subst em
    exact br_t (nI_lt (by omega) (by omega)) (hp se P)
  | succ d ih =>
    intro m se hd P
    refine br_f (nI_nlt (by omega) (by omega)) (gx_fc rfl ?_)
    exact ⟨5, gx_wd21_bySecond hn w (by omega) he (gc_P_le Pv (by omega)) 4 0 se (by omega) P (fun se' P' => ih (m + 1) se' (by omega) P')⟩
theorem gx_workOutDerivatives_bySecond {se : Nat → Int32} (hn : n ≤ 12) (w : gc_W K X Y V n) (hk : k < n) (he : e < 3) (Pv : gc_P (gc_V K X Y (fun c => IN (12 * e + c))) e va (k + 1) 0)
    (hp : ∀ se' : Nat → Int32, gc_P (gc_D K X Y (fun c => IN (12 * e + c)) (gc_sd DI e t)) e se' (k + 1) 0 → post (nI n, lv, IN, DI, sp, K, X, Y, V, va, fi, se', bo, st)) : wpX_workOutDerivatives__bySecond post (nI n, lv, IN, DI, sp, K, X, Y, V, va, fi, se, bo, st) (nI k) t (nI e) :=
  ⟨k + 2, gx_wd3_bySecond hn w hk he Pv hp (k + 1) 0 se (by omega) gc_P_0⟩
end
section
variable {n : Nat} {lv : Int32} {IN DI sp K X Y V va fi se st : Nat → Int32} {post : SX → Prop} {m k e : Nat} {x1 : Int32} {t1 t2 : Nat → Int32}
theorem gx_ws17 {J : Int32 → (Nat → Int32) → (Nat → Int32) → (Nat → Int32) → (Nat → Int32) → (Nat → Int32) → (Nat → Int32) → (Nat → Int32) → (Nat → Int32) → (Nat → Int32) → (Nat → Int32) → (Nat → Int32) → (Nat → Int32) → Prop} (hn : n ≤ 12) (w : gc_W K X Y V n) (hm : m < n) (he : e < 3) (Pv : gc_P (gc_V K X Y (fun c => IN (12 * e + c))) e va m 0) (P1 : gc_P (gc_D K X Y (fun c => IN (12 * e + c)) t1) e fi m 0) (P2 : gc_P (gc_D K X Y (fun c => IN (12 * e + c)) t2) e se m 0) : ∀ (d i : Nat) (bo : Nat → Int32), i + d = 4 → gc_P (gc_B K X Y (fun c => IN (12 * e + c)) t1 t2) e bo m i →
    (∀ bo' : Nat → Int32, gc_P (gc_B K X Y (fun c => IN (12 * e + c)) t1 t2) e bo' (m + 1) 0 → J (nI (m + 1)) IN DI sp K X Y V va fi se bo' st) →
    wX_workOutSecondDerivatives_17 post J x1 (nI e) (nI m) (nI ((e * 12 + m) * 4)) (nI n) lv (d + 1) (nI i) IN DI sp K X Y V va fi se bo st := by
  intro d
  induction d with
  | zero =>
    intro i bo hi P hJ
    have e4 : i = 4 := by omega
    subst e4
    exact br_t (gc_4le (Nat.le_refl _) (by omega)) (nm_r (nI_1 m) (hJ bo (gc_P_s P)))
  | succ d ih =>
    intro i bo hi P hJ
    have hv : gc_rb K X Y (fun p j => va ((e * 12 + p) * 4 + j)) (fun p j => fi ((e * 12 + p) * 4 + j)) (fun p j => se ((e * 12 + p) * 4 + j)) (fun p j => bo ((e * 12 + p) * 4 + j)) m i = (gc_B K X Y (fun c => IN (12 * e + c)) t1 t2) m i :=
      gc_B_st hn w hm (by omega) (fun p hp j hj => Pv.1 p hp j hj) (fun p hp j hj => P1.1 p hp j hj) (fun p hp j hj => P2.1 p hp j hj) (fun p hp j hj => P.1 p hp j hj)
    refine br_f (gc_n4le (by omega)) (gx_secondDerivativeOf (by omega) (by omega) he (w m hm).1 ?_)
    rw [hv]
    refine ⟨gc_vi (by omega) (by omega), nm_r (e' := upd bo ((e * 12 + m) * 4 + i) ((gc_B K X Y (fun c => IN (12 * e + c)) t1 t2) m i)) ?_ (nm_r (nI_1 i) (ih (i + 1) _ (by omega) (gc_P_w (by omega) P) hJ))⟩
    rw [gc_ix (by omega)]
theorem gx_ws2 (hn : n ≤ 12) (w : gc_W K X Y V n) (hk : k < n) (he : e < 3) (Pv : gc_P (gc_V K X Y (fun c => IN (12 * e + c))) e va (k + 1) 0) (P1 : gc_P (gc_D K X Y (fun c => IN (12 * e + c)) t1) e fi (k + 1) 0) (P2 : gc_P (gc_D K X Y (fun c => IN (12 * e + c)) t2) e se (k + 1) 0)
    (hp : ∀ bo' : Nat → Int32, gc_P (gc_B K X Y (fun c => IN (12 * e + c)) t1 t2) e bo' (k + 1) 0 → post (nI n, lv, IN, DI, sp, K, X, Y, V, va, fi, se, bo', st)) : ∀ (d m : Nat) (bo : Nat → Int32), m + d = k + 1 → gc_P (gc_B K X Y (fun c => IN (12 * e + c)) t1 t2) e bo m 0 →
    wX_workOutSecondDerivatives_2 post (nI k) (nI e) (nI n) lv (d + 1) (nI m) IN DI sp K X Y V va fi se bo st := by
  intro d
  induction d with
  | zero =>
    intro m bo hd P
    have em : m = k + 1 := by omega
    subst em
    exact br_t (nI_lt (by omega) (by omega)) (hp bo P)
  | succ d ih =>
    intro m bo hd P
    refine br_f (nI_nlt (by omega) (by omega)) (gx_fc rfl ?_)
    exact ⟨5, gx_ws17 hn w (by omega) he (gc_P_le Pv (by omega)) (gc_P_le P1 (by omega)) (gc_P_le P2 (by omega)) 4 0 bo (by omega) P (fun bo' P' => ih (m + 1) bo' (by omega) P')⟩
theorem gx_workOutSecondDerivatives {bo : Nat → Int32} (hn : n ≤ 12) (w : gc_W K X Y V n) (hk : k < n) (he : e < 3) (Pv : gc_P (gc_V K X Y (fun c => IN (12 * e + c))) e va (k + 1) 0) (P1 : gc_P (gc_D K X Y (fun c => IN (12 * e + c)) t1) e fi (k + 1) 0) (P2 : gc_P (gc_D K X Y (fun c => IN (12 * e + c)) t2) e se (k + 1) 0)
    (hp : ∀ bo' : Nat → Int32, gc_P (gc_B K X Y (fun c => IN (12 * e + c)) t1 t2) e bo' (k + 1) 0 → post (nI n, lv, IN, DI, sp, K, X, Y, V, va, fi, se, bo', st)) : wpX_workOutSecondDerivatives post (nI n, lv, IN, DI, sp, K, X, Y, V, va, fi, se, bo, st) (nI k) (nI e) :=
  ⟨k + 2, gx_ws2 hn w hk he Pv P1 P2 hp (k + 1) 0 bo (by omega) gc_P_0⟩
end
section
variable {n : Nat} {lv : Int32} {IN DI sp K X Y V va fi se bo st : Nat → Int32} {post : Int32 → SX → Prop} {m i e : Nat} {t : Int32}
theorem gx_derivative (hn : n ≤ 12) (w : gc_W K X Y V n) (hm : m < n) (hi : i < 4) (he : e < 3) (c : gc_C K X Y IN va st n)
    (hp : ∀ va' fi' st' : Nat → Int32, gc_C K X Y IN va' st' n → post ((gc_D K X Y (fun c => IN (12 * e + c)) (gc_sd DI e t)) m i) (nI n, lv, IN, DI, sp, K, X, Y, V, va', fi', se, bo, st')) : wpX_derivative post (nI n, lv, IN, DI, sp, K, X, Y, V, va, fi, se, bo, st) (nI m) (nI i) t (nI e) := by
  unfold wpX_derivative
  refine gx_workOutValues hn w hm he c (fun va' st' c' Pv => ?_)
  refine gx_workOutDerivatives_byFirst hn w hm he Pv (fun fi' P => ?_)
  refine gx_fc rfl (And.intro (gc_vi (by omega) (by omega)) ?_)
  rw [gc_ix (by omega), gc_P_at P hi]
  exact hp va' fi' st' c'
end
end GXB
