section GYB
/-! the reference: all nodes at once -/
def gc_Q4 (K X Y V IN on tw : Nat → Int32) (e : Nat) (pl f1 f2 f3 : Nat → Int32) (m i : Nat) : Prop :=
  gc_Q V (gc_V K X Y (fun c => IN (12 * e + c))) pl m i ∧ gc_Q V (gc_D K X Y (fun c => IN (12 * e + c)) on) f1 m i ∧ gc_Q V (gc_D K X Y (fun c => IN (12 * e + c)) tw) f2 m i ∧ gc_Q V (gc_B K X Y (fun c => IN (12 * e + c)) on tw) f3 m i
section
variable {n : Nat} {K X Y V IN DI on tw sl : Nat → Int32} {post : SY → Prop} {m e : Nat}
theorem gc_Q4_s {pl f1 f2 f3 : Nat → Int32} (hn : n ≤ 12) (w : gc_W K X Y V n) (hm : m < n) (h : gc_Q4 K X Y V IN on tw e pl f1 f2 f3 m 4) : gc_Q4 K X Y V IN on tw e pl f1 f2 f3 (m + 1) 0 :=
  ⟨gc_Q_s (fun z j hj => gc_V_uni hn w m hm z j hj) h.1, gc_Q_s (fun z j hj => gc_D_uni hn w m hm z j hj) h.2.1, gc_Q_s (fun z j hj => gc_D_uni hn w m hm z j hj) h.2.2.1, gc_Q_s (fun z j hj => gc_B_uni hn w m hm z j hj) h.2.2.2⟩
theorem gy_wa30 {J2 J : Int32 → Int32 → (Nat → Int32) → (Nat → Int32) → (Nat → Int32) → (Nat → Int32) → (Nat → Int32) → (Nat → Int32) → (Nat → Int32) → (Nat → Int32) → (Nat → Int32) → (Nat → Int32) → (Nat → Int32) → (Nat → Int32) → (Nat → Int32) → Prop} {pl f1 f2 f3 : Nat → Int32} {i : Nat} (hn : n ≤ 12) (w : gc_W K X Y V n) (hm : m < n) (he : e < 3) (hi : i < 4) (hz : V m = 0 → i = 0) (q : gc_Q4 K X Y V IN on tw e pl f1 f2 f3 m i)
    (hJ : ∀ pl' f1' f2' f3' : Nat → Int32, gc_Q4 K X Y V IN on tw e pl' f1' f2' f3' m (i + 1) → J (nI (i + 1)) (nI n) K X Y V IN DI on tw pl' f1' f2' f3' sl) : wY_workAll_30 post J2 J (nI e) (nI m) (nI i) (nI n) K X Y V IN DI on tw pl f1 f2 f3 sl := by
  refine gy_workOut (by omega) hi he (w m hm).1 hz (nm_r (nI_1 i) (hJ _ _ _ _ ?_))
  have h1 : gc_rv K X Y (fun c => IN (12 * e + c)) (gc_ac V pl) m i = (gc_V K X Y (fun c => IN (12 * e + c))) m i := gc_V_st hn w hm hi (fun _ _ => rfl) q.1.1
  have h2 : gc_rd K X Y on (gc_ac V pl) (gc_ac V f1) m i = (gc_D K X Y (fun c => IN (12 * e + c)) on) m i := gc_D_st hn w hm hi (fun _ _ => rfl) q.1.1 q.2.1.1
  have h3 : gc_rd K X Y tw (gc_ac V pl) (gc_ac V f2) m i = (gc_D K X Y (fun c => IN (12 * e + c)) tw) m i := gc_D_st hn w hm hi (fun _ _ => rfl) q.1.1 q.2.2.1.1
  have h4 : gc_rb K X Y (gc_ac V pl) (gc_ac V f1) (gc_ac V f2) (gc_ac V f3) m i = (gc_B K X Y (fun c => IN (12 * e + c)) on tw) m i := gc_B_st hn w hm hi q.1.1 q.2.1.1 q.2.2.1.1 q.2.2.2.1
  rw [h1, h2, h3, h4]
  exact ⟨gc_Q_w hi q.1, gc_Q_w hi q.2.1, gc_Q_w hi q.2.2.1, gc_Q_w hi q.2.2.2⟩
theorem gy_wa12 {J2 : Int32 → Int32 → (Nat → Int32) → (Nat → Int32) → (Nat → Int32) → (Nat → Int32) → (Nat → Int32) → (Nat → Int32) → (Nat → Int32) → (Nat → Int32) → (Nat → Int32) → (Nat → Int32) → (Nat → Int32) → (Nat → Int32) → (Nat → Int32) → Prop} (hn : n ≤ 12) (w : gc_W K X Y V n) (hm : m < n) (he : e < 3)
    (hJ : ∀ pl' f1' f2' f3' : Nat → Int32, gc_Q4 K X Y V IN on tw e pl' f1' f2' f3' (m + 1) 0 → J2 (nI (m + 1)) (nI n) K X Y V IN DI on tw pl' f1' f2' f3' sl) : ∀ (d i : Nat) (pl f1 f2 f3 : Nat → Int32), i + d = 4 → gc_Q4 K X Y V IN on tw e pl f1 f2 f3 m i →
    wY_workAll_12 post J2 (nI e) (nI m) (d + 1) (nI i) (nI n) K X Y V IN DI on tw pl f1 f2 f3 sl := by
  intro d
  induction d with
  | zero =>
    intro i pl f1 f2 f3 hi q
    have e4 : i = 4 := by omega
    subst e4
    exact br_t (gc_4le (Nat.le_refl _) (by omega)) (nm_r (nI_1 m) (hJ _ _ _ _ (gc_Q4_s hn w hm q)))
  | succ d ih =>
    intro i pl f1 f2 f3 hi q
    refine br_f (gc_n4le (by omega)) ⟨vp_in_nI (by omega) (by omega), ?_⟩
    rw [nI_clamp (by omega)]
    by_cases z : V m = 0
    · refine br_t z ?_
      by_cases i0 : i = 0
      · refine br_t (by rw [i0]; rfl) (gy_wa30 hn w hm he (by omega) (fun _ => i0) q ?_)
        exact fun pl' f1' f2' f3' q' => ih (i + 1) pl' f1' f2' f3' (by omega) q'
      · refine br_f (nI_ne0 (by omega) (by omega)) (nm_r (nI_1 i) (ih (i + 1) pl f1 f2 f3 (by omega) ?_))
        exact ⟨gc_Q_skip z i0 q.1, gc_Q_skip z i0 q.2.1, gc_Q_skip z i0 q.2.2.1, gc_Q_skip z i0 q.2.2.2⟩
    · refine br_f z (gy_wa30 hn w hm he (by omega) (fun z' => absurd z' z) q ?_)
      exact fun pl' f1' f2' f3' q' => ih (i + 1) pl' f1' f2' f3' (by omega) q'
theorem gy_wa2 (hn : n ≤ 12) (w : gc_W K X Y V n) (he : e < 3)
    (hp : ∀ pl' f1' f2' f3' : Nat → Int32, gc_Q4 K X Y V IN on tw e pl' f1' f2' f3' n 0 → post (nI n, K, X, Y, V, IN, DI, on, tw, pl', f1', f2', f3', sl)) : ∀ (d m : Nat) (pl f1 f2 f3 : Nat → Int32), m + d = n → gc_Q4 K X Y V IN on tw e pl f1 f2 f3 m 0 →
    wY_workAll_2 post (nI e) (d + 1) (nI m) (nI n) K X Y V IN DI on tw pl f1 f2 f3 sl := by
  intro d
  induction d with
  | zero =>
    intro m pl f1 f2 f3 hd q
    have em : m = n := by omega
    subst em
    exact br_t (nI_le (Nat.le_refl _) (by omega)) (hp _ _ _ _ q)
  | succ d ih =>
    intro m pl f1 f2 f3 hd q
    exact br_f (nI_ge (by omega) (by omega)) ⟨5, gy_wa12 hn w (by omega) he (fun pl' f1' f2' f3' q' => ih (m + 1) pl' f1' f2' f3' (by omega) q') 4 0 pl f1 f2 f3 (by omega) q⟩
theorem gy_workAll {pl f1 f2 f3 : Nat → Int32} (hn : n ≤ 12) (w : gc_W K X Y V n) (he : e < 3)
    (hp : ∀ pl' f1' f2' f3' : Nat → Int32, gc_Q4 K X Y V IN on tw e pl' f1' f2' f3' n 0 → post (nI n, K, X, Y, V, IN, DI, on, tw, pl', f1', f2', f3', sl)) : wpY_workAll post (nI n, K, X, Y, V, IN, DI, on, tw, pl, f1, f2, f3, sl) (nI e) :=
  ⟨n + 1, gy_wa2 hn w he hp n 0 pl f1 f2 f3 (by omega) ⟨gc_Q_0, gc_Q_0, gc_Q_0, gc_Q_0⟩⟩
end
/-! the starts -/
section
variable {n : Nat} {K X Y V IN DI pl f1 f2 f3 sl : Nat → Int32} {post : SY → Prop} {x y : Int32}
theorem gy_sd2 (hp : ∀ on' tw' : Nat → Int32, (∀ q, q < 12 → on' q = if nI q = x then 1 else 0) → (∀ q, q < 12 → tw' q = if nI q = y then 1 else 0) → post (nI n, K, X, Y, V, IN, DI, on', tw', pl, f1, f2, f3, sl)) : ∀ (d j : Nat) (on tw : Nat → Int32), j + d = 12 → (∀ q, q < j → on q = if nI q = x then 1 else 0) → (∀ q, q < j → tw q = if nI q = y then 1 else 0) →
    wY_seed_2 post x y (nI n) (d + 1) (nI j) K X Y V IN DI on tw pl f1 f2 f3 sl := by
  intro d
  induction d with
  | zero =>
    intro j on tw hj h1 h2
    have e : j = 12 := by omega
    subst e
    exact br_t (nI_le (a := 12) (Nat.le_refl _) (by omega)) (hp on tw h1 h2)
  | succ d ih =>
    intro j on tw hj h1 h2
    have v : vp_in (nI j) 12 := vp_in_nI (by omega) (by omega)
    have k : (nI j).toNatClampNeg = j := nI_clamp (by omega)
    have st (f : Nat → Int32) (x r : Int32) (hr : r = if nI j = x then 1 else 0) (h : ∀ q, q < j → f q = if nI q = x then 1 else 0) : ∀ q, q < j + 1 → upd f j r q = if nI q = x then 1 else 0 := by
      intro q hq
      by_cases E : q = j
      · subst E; rw [gc_us]; exact hr
      · rw [gc_un E]; exact h q (by omega)
    have H : ∀ r : Int32, (r = if nI j = x then 1 else 0) → wY_seed_23 post (wY_seed_2 post x y (nI n) (d + 1)) x y (nI j) r (nI j) (nI n) K X Y V IN DI on tw pl f1 f2 f3 sl := by
      intro r hr
      unfold wY_seed_23
      rw [k]
      refine ⟨v, nm_e ?_⟩
      by_cases z : nI j = y
      · exact br_t z ⟨v, nm_e (nm_r (nI_1 j) (ih (j + 1) _ _ (by omega) (st on x r hr h1) (st tw y 1 (by rw [if_pos z]) h2)))⟩
      · exact br_f z ⟨v, nm_e (nm_r (nI_1 j) (ih (j + 1) _ _ (by omega) (st on x r hr h1) (st tw y 0 (by rw [if_neg z]) h2)))⟩
    refine br_f (nI_ge (b := 12) (by omega) (by omega)) ?_
    by_cases z : nI j = x
    · exact br_t z (H 1 (by rw [if_pos z]))
    · exact br_f z (H 0 (by rw [if_neg z]))
theorem gy_seed {on tw : Nat → Int32} (hp : ∀ on' tw' : Nat → Int32, (∀ q, q < 12 → on' q = if nI q = x then 1 else 0) → (∀ q, q < 12 → tw' q = if nI q = y then 1 else 0) → post (nI n, K, X, Y, V, IN, DI, on', tw', pl, f1, f2, f3, sl)) : wpY_seed post (nI n, K, X, Y, V, IN, DI, on, tw, pl, f1, f2, f3, sl) x y :=
  ⟨13, gy_sd2 hp 12 0 on tw rfl (fun q hq => absurd hq (Nat.not_lt_zero q)) (fun q hq => absurd hq (Nat.not_lt_zero q))⟩
end
def gc_un1 (x : Int32) (q : Nat) : Int32 := if nI q = x then 1 else 0
section
variable {n : Nat} {K X Y V IN DI on tw pl f1 f2 f3 sl : Nat → Int32} {post : Int32 → SY → Prop} {x y z : Int32}
theorem gy_slope (hn : n ≤ 12) (w : gc_W K X Y V n)
    (h1 : ∀ m e : Nat, m < n → V m = 0 → x = nI m → gc_in 12 y → e < 3 → z = nI e → ∀ on' tw' pl' f1' f2' f3' : Nat → Int32, post (gc_D K X Y (fun c => IN (12 * e + c)) (gc_un1 y) m 0) (nI n, K, X, Y, V, IN, DI, on', tw', pl', f1', f2', f3', sl))
    (h0 : ¬ (gc_num n V x ∧ gc_in 12 y ∧ gc_in 3 z) → post 0 (nI n, K, X, Y, V, IN, DI, on, tw, pl, f1, f2, f3, sl)) : wpY_slope post (nI n, K, X, Y, V, IN, DI, on, tw, pl, f1, f2, f3, sl) x y z := by
  unfold wpY_slope
  refine gy_isNumber hn (fun a => br_f gc_10 ?_) (fun a => br_t rfl (h0 (fun g => a g.1)))
  refine gy_isPlace (fun b c => br_f gc_10 ?_) (fun b => br_t rfl (h0 (fun g => b g.2)))
  obtain ⟨m, hm, rfl, hv⟩ := a
  obtain ⟨e, he, rfl⟩ := c
  refine gy_seed (fun on' tw' s1 s2 => ?_)
  refine gy_workAll hn w he (fun pl' f1' f2' f3' q => ?_)
  have e4 : 4 * nI m = nI (4 * m) := gc_4m m
  rw [e4, nI_clamp (by omega)]
  refine ⟨vp_in_nI (by omega) (by omega), ?_⟩
  have := gc_Q_at (i := 0) q.2.1 hm (by omega) (fun _ => rfl)
  have t : f1' (4 * m) = gc_D K X Y (fun c => IN (12 * e + c)) (gc_un1 y) m 0 := this.trans (gc_D_seed hn w (fun p hp => s1 p hp) hm (by omega))
  rw [t]
  exact h1 m e hm hv rfl b he rfl on' tw' pl' f1' f2' f3'
end
end GYB
