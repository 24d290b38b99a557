section DA
variable {T : Nat → Nat → Nat} {q : Nat} {N : Nat → Nat} {I : HI} {L : HL} {s S O B : Nat} {K : Bool}
theorem evF_nodate (hF : FOk T) (hd : datd T = false) (h r t t' : Int32) : evF T h r t = evF T h r t' := by
  unfold evF
  rw [evT_nodate hF hd (tNS T) (Nat.le_refl _) 0 (t' := t')]
theorem shd_nodate (hF : FOk T) (hd : datd T = false) {hr dt dt' : Nat} : shdA T hr dt O B K = shdA T hr dt' O B K := by
  funext d c
  unfold shdA shV
  rw [evF_nodate hF hd (nI (T 3 d)) (nI hr) (nI dt) (nI dt')]
theorem mv_nodate (hF : FOk T) (hd : datd T = false) {hr dt dt' : Nat} : mvA T hr dt S O B K = mvA T hr dt' S O B K := by
  funext c e
  unfold mvA crsA
  rw [shd_nodate hF hd (dt' := dt')]
theorem stp_nodate (hF : FOk T) (hd : datd T = false) {h0 e e' k : Nat} {x : Int64} : stpI T (24 * e + h0) S O B K k x = stpI T (24 * e' + h0) S O B K k x := by
  unfold stpI stA
  rw [show (24 * e + h0 + k) % 24 = (24 * e' + h0 + k) % 24 by omega, mv_nodate hF hd (dt' := (24 * e' + h0 + k) / 24)]
theorem it_nodate (hF : FOk T) (hd : datd T = false) {h0 e e' : Nat} : ∀ (m k : Nat) (x : Int64), itS T (24 * e + h0) S O B K m k x = itS T (24 * e' + h0) S O B K m k x := by
  intro m
  induction m with
  | zero => intro k x; rfl
  | succ m ih => intro k x; rw [itS, itS, stp_nodate hF hd (e' := e'), ih]
theorem cb_nodate (hF : FOk T) (hd : datd T = false) {h0 e e' n c d : Nat} : cbI T (24 * e + h0) S O B K n c d = cbI T (24 * e' + h0) S O B K n c d := by
  unfold cbI
  rw [it_nodate hF hd (e' := e')]
/-- how many, the first, the last -/
def dtF (P : Nat → Bool) : Nat → Nat → Nat → Int32 → Int32 → Int32 × Int32 × Int32
  | 0, _, a, f, l => (nI a, f, l)
  | m + 1, e, a, f, l => if P e = true then dtF P m (e + 1) (a + 1) (if f = -1 then nI e else f) (nI e) else dtF P m (e + 1) a f l
theorem x_dtL (hO : TOk T) (hq : isQ2 q) {n c d h0 : Nat} {w : Int32} (hn : n ≤ 48) (hc : grd T c) (hd : d < 64) (hh : h0 < 24) : ∀ (m e fu ct : Nat) (f l : Int32) (p : Bool) (I : HI) (L : HL), e + m = 100 → m < fu → (∃ s, s < 10000 ∧ s % 24 = h0 ∧ XA T q s S O B K I L) → (0 < e → p = cbI T (24 * (e - 1) + h0) S O B K n c d) → ∃ I' L', fX10_countDates_15 q fu (nI c) (nI d) (nI n) w (nI ct) f l (b2i p) (nI e) I L = some ((dtF (fun e => cbI T (24 * e + h0) S O B K n c d) m e ct f l).1, (dtF (fun e => cbI T (24 * e + h0) S O B K n c d) m e ct f l).2.1, (dtF (fun e => cbI T (24 * e + h0) S O B K n c d) m e ct f l).2.2, I', L') ∧ (∃ s, s < 10000 ∧ s % 24 = h0 ∧ XA T q s S O B K I' L') ∧ FX q I I' L L' := by
  have hF := hO.2.2.2.2.2.2.2.2.2.1
  intro m
  induction m with
  | zero =>
    intro e fu ct f l p I L he hf h hp
    obtain ⟨g, rfl⟩ : ∃ g, fu = g + 1 := ⟨fu - 1, by omega⟩
    rw [fX10_countDates_15, if_pos (show (100 : Int32) ≤ nI e from nI_le (a := 100) (by omega) (by omega))]
    exact ⟨I, L, rfl, h, FX.refl q I L⟩
  | succ m ih =>
    intro e fu ct f l p I L he hf h hp
    obtain ⟨g, rfl⟩ : ∃ g, fu = g + 1 := ⟨fu - 1, by omega⟩
    obtain ⟨s, s1, s2, hx⟩ := h
    have hdat : I (q + 19) 4 = b2i (datd T) := hx.1.2.2.2.2.2.2.2.2.2.2.2.2.2
    -- what the class knows of this date
    have hq4 : ∃ I1 L1, ((Option.bind (if nI e = 0 then some true else if I (q + 19) 4 = 0 then some false else some true) fun b5 => if b5 = true then obn (fX7_startOn (nI e) I L) fun q6 => Option.bind (fX10_canBe q (nI c) (nI d) (nI n) (0 : Int32) q6.1 q6.2) fun q7 => some ((b2i q7.1), q7.2.1, q7.2.2) else some (b2i p, I, L)) : Option (Int32 × HI × HL)) = some (b2i (cbI T (24 * e + h0) S O B K n c d), I1, L1) ∧ (∃ s, s < 10000 ∧ s % 24 = h0 ∧ XA T q s S O B K I1 L1) ∧ FX q I I1 L L1 := by
      have fresh : ∃ I1 L1, (obn (fX7_startOn (nI e) I L) fun q6 => Option.bind (fX10_canBe q (nI c) (nI d) (nI n) (0 : Int32) q6.1 q6.2) fun q7 => some ((b2i q7.1), q7.2.1, q7.2.2)) = some (b2i (cbI T (24 * e + h0) S O B K n c d), I1, L1) ∧ (∃ s, s < 10000 ∧ s % 24 = h0 ∧ XA T q s S O B K I1 L1) ∧ FX q I I1 L L1 := by
        rw [obn_eq]
        have hst : fX7_startOn (nI e) I L = (up2 I 57 1 (nI (24 * e + h0)), up2 L 57 6 0) := by
          unfold fX7_startOn
          rw [hx.2.1]
          simp only [show (24 : Int32) = nI 24 from rfl]
          rw [pk_rem (by omega) (by decide) (by decide), pk_mul, nI_add, s2, Nat.mul_comm]
        rw [hst]
        have x0 : XA T q (24 * e + h0) S O B K (up2 I 57 1 (nI (24 * e + h0))) (up2 L 57 6 0) := hx.found0 hq (fun r hr => upRow _ _ hr) (by simp [up2_at]) (by simp [up2_at]) (by simp [up2_at]) (by simp [up2_at]; exact hx.2.2.2.2.1) (by simp [up2_at])
        have f0 : FX q I (up2 I 57 1 (nI (24 * e + h0))) L (up2 L 57 6 0) := FX.f57 (fun r hr => upRow _ _ hr) (fun r hr => upRow _ _ hr)
        obtain ⟨I1, L1, e1, x1, f1⟩ := x_canBe (S2 := 0) hO hq (by omega) hn hc hd x0
        rw [Nat.or_zero] at e1
        rw [show fX10_canBe q (nI c) (nI d) (nI n) 0 (up2 I 57 1 (nI (24 * e + h0))) (up2 L 57 6 0) = _ from e1]
        exact ⟨I1, L1, rfl, ⟨24 * e + h0, by omega, by omega, x1⟩, f0.trans f1⟩
      by_cases he0 : e = 0
      · rw [if_pos (show nI e = 0 by rw [he0]; rfl)]
        simp only [Option.bind_some, if_true]
        exact fresh
      · rw [if_neg (nI_ne0 (by omega) (by omega)), hdat]
        simp only [b2i_eq0]
        cases hdt : datd T with
        | true =>
          simp only [Bool.true_eq_false, if_false, Option.bind_some, if_true]
          exact fresh
        | false =>
          simp only [if_true, Option.bind_some, Bool.false_eq_true, if_false]
          refine ⟨I, L, ?_, ⟨s, s1, s2, hx⟩, FX.refl q I L⟩
          rw [hp (by omega), cb_nodate hF hdt (e' := e)]
    obtain ⟨I1, L1, e1, x1, f1⟩ := hq4
    rw [fX10_countDates_15, if_neg (show ¬ (100 : Int32) ≤ nI e from nI_ge (b := 100) (by omega) (by decide)), e1]
    simp only [Option.bind_some, b2i_eq0, nI_1, dtF]
    rcases Bool.eq_false_or_eq_true (cbI T (24 * e + h0) S O B K n c d) with hcb | hcb
    rotate_left
    · simp only [hcb, if_true, Bool.false_eq_true, if_false]
      obtain ⟨I2, L2, e2, x2, f2⟩ := ih (e + 1) g ct f l false I1 L1 (by omega) (by omega) x1 (fun _ => by rw [Nat.add_sub_cancel]; exact hcb.symm)
      exact ⟨I2, L2, e2, x2, f1.trans f2⟩
    · simp only [hcb, Bool.true_eq_false, if_false, if_true]
      by_cases hf1 : f = -1
      · rw [if_pos hf1]
        obtain ⟨I2, L2, e2, x2, f2⟩ := ih (e + 1) g (ct + 1) (nI e) (nI e) true I1 L1 (by omega) (by omega) x1 (fun _ => by rw [Nat.add_sub_cancel]; exact hcb.symm)
        simp only [if_pos hf1]
        exact ⟨I2, L2, e2, x2, f1.trans f2⟩
      · rw [if_neg hf1]
        obtain ⟨I2, L2, e2, x2, f2⟩ := ih (e + 1) g (ct + 1) f (nI e) true I1 L1 (by omega) (by omega) x1 (fun _ => by rw [Nat.add_sub_cancel]; exact hcb.symm)
        simp only [if_neg hf1]
        exact ⟨I2, L2, e2, x2, f1.trans f2⟩
theorem m_dtL (hO : TOk T) (hN : NRng N) {n c d : Nat} {w : Int32} (hn : n ≤ 48) (hd : d < 64) : ∀ (m e fu ct : Nat) (f l : Int32) (I : HI) (L : HL), e + m = 100 → m < fu → (f = -1 ∨ 0 ≤ f) → MTown T I L → MNow I N → ∃ I' L', fX12_dates_34 fu (nI c) (nI d) (nI n) w (nI ct) f l (nI e) I L = some ((dtF (fun e => cbI T (24 * e + N 8 % 24) (N 5) (N 6) 0 (decide (N 7 = 1)) n c d) m e ct f l).1, (dtF (fun e => cbI T (24 * e + N 8 % 24) (N 5) (N 6) 0 (decide (N 7 = 1)) n c d) m e ct f l).2.1, (dtF (fun e => cbI T (24 * e + N 8 % 24) (N 5) (N 6) 0 (decide (N 7 = 1)) n c d) m e ct f l).2.2, I', L') ∧ FM I I' L L' := by
  obtain ⟨b1, b2, b3⟩ := ShS hN
  intro m
  induction m with
  | zero =>
    intro e fu ct f l I L he hf hfl hM hm
    obtain ⟨g, rfl⟩ : ∃ g, fu = g + 1 := ⟨fu - 1, by omega⟩
    rw [fX12_dates_34, if_pos (show (100 : Int32) ≤ nI e from nI_le (a := 100) (by omega) (by omega))]
    exact ⟨I, L, rfl, FM.refl I L⟩
  | succ m ih =>
    intro e fu ct f l I L he hf hfl hM hm
    obtain ⟨g, rfl⟩ : ∃ g, fu = g + 1 := ⟨fu - 1, by omega⟩
    obtain ⟨I1, e1, a1, f1⟩ := m_load (n := 0) hN (by decide) hm
    have e8 : I1 99 8 = nI (N 8) := by
      rw [(f1 L).1 99 (by decide) (by decide) (by decide)]; exact hm 8 (by decide)
    have hmod : N 8 % 24 < 24 := Nat.mod_lt _ (by decide)
    obtain ⟨I2, L2, e2, f2⟩ := m_comes (c := c) (w := 24 * e + N 8 % 24) hO hn hd (hM.fm (f1 L)) a1 b2 b3 (by decide) (by omega)
    have fm := (f1 L).trans f2
    rw [fX12_dates_34, if_neg (show ¬ (100 : Int32) ≤ nI e from nI_ge (b := 100) (by omega) (by decide)), show fX12_load 0 I = some I1 from e1]
    simp only [Option.bind_some, show (8 : Int32) = nI 8 from rfl, if_pos (inb_nI (show 8 < 10 by decide) (show 10 < 2 ^ 31 by decide)), clamp_nI (show 8 < 2 ^ 31 by decide), e8, show (24 : Int32) = nI 24 from rfl]
    rw [pk_rem (by omega) (by decide) (by decide), pk_mul, nI_add, e2]
    simp only [Option.bind_some, b2i_eq0, nI_1, dtF]
    rcases Bool.eq_false_or_eq_true (cbI T (24 * e + N 8 % 24) (N 5) (N 6) 0 (decide (N 7 = 1)) n c d) with hcb | hcb
    rotate_left
    · simp only [hcb, if_true, Bool.false_eq_true, if_false]
      obtain ⟨I3, L3, e3, f3⟩ := ih (e + 1) g ct f l I2 L2 (by omega) (by omega) hfl (hM.fm fm) (hm.fm fm)
      exact ⟨I3, L3, e3, fm.trans f3⟩
    · simp only [hcb, Bool.true_eq_false, if_false, if_true]
      by_cases hf1 : f = -1
      · have hn0 : ¬ (0 : Int32) ≤ f := by rw [hf1]; decide
        rw [if_neg hn0]
        simp only [if_pos hf1]
        obtain ⟨I3, L3, e3, f3⟩ := ih (e + 1) g (ct + 1) (nI e) (nI e) I2 L2 (by omega) (by omega) (Or.inr (nI_pos' (by omega))) (hM.fm fm) (hm.fm fm)
        exact ⟨I3, L3, e3, fm.trans f3⟩
      · rw [if_pos (hfl.resolve_left hf1)]
        simp only [if_neg hf1]
        obtain ⟨I3, L3, e3, f3⟩ := ih (e + 1) g (ct + 1) f (nI e) I2 L2 (by omega) (by omega) hfl (hM.fm fm) (hm.fm fm)
        exact ⟨I3, L3, e3, fm.trans f3⟩
end DA
section DA2
variable {T : Nat → Nat → Nat} {q : Nat} {st : Nat → Nat → Nat} {a u : Nat} {I : HI} {L : HL}
theorem c_free (h : Inv T q st a u I L) (v w x y : Int32) : ∃ r I1 L1 I2 L2, fX11_free q q v w x y I L = some (r, I1, L1) ∧ fX12_free v w x y I1 L1 = some (r, I2, L2) ∧ Inv T q st a u I2 L2 := by
  obtain ⟨mf, hmf⟩ := fuel_at 1000 (by decide)
  have hO := h.1
  have hq := h.2.1
  have hR := h.rng
  obtain ⟨b1, b2, b3⟩ := ShS hR
  have h4 := hO.2.2.1
  have h16 : 2 ^ tnL T ≤ 16 := Nat.pow_le_pow_right (n := 2) (by decide) h4
  unfold fX11_free fX12_free
  rcases g_jour (m := 24) (by decide) hO.1 h.2.2.1.1 h.2.2.1.2.1.2 h.2.2.2.1.1 v w x with ⟨c, d, n, c1, d1, n1, n2, e1, e2, e3, j1, j2, j3, j4⟩ | ⟨j1, j2⟩
  · rcases g_choice y with ⟨w1, w2, w3⟩ | ⟨w1, w2⟩
    · subst e1
      subst e2
      subst e3
      have d64 := grd_64 hO d1
      obtain ⟨I1, L1, a1, s1, f1, i1⟩ := h.aim
      obtain ⟨I2, L2, a2, ⟨B2, hB2, x2⟩, f2⟩ := x_frO (c := c) (d := d) (n := n) hO hq b1 (by omega) c1 d64 (tnL T + 1) 0 FUEL I1 L1 (by omega) (by omega) ⟨0, by decide, i1.2.2.1, s1⟩
      have i2 := i1.fx f2 (x2.sky (by omega) b3 (by omega))
      obtain ⟨I3, L3, a3, f3⟩ := m_frO (c := c) (d := d) (n := n) (w := y) hO hR (by omega) d64 (tnL T + 1) 0 FUEL I2 L2 (by omega) (by omega) i2.2.2.2.1 i2.mnow
      have i3 := i2.fm f3
      have ask : fX12_isAsked (nI c) (nI d) (nI n) I2 L2 = true := asked_yes (by rw [isFree_same h.2.2.2.1.1 i2.2.2.2.1.1]; exact j2) (by rw [isFree_same h.2.2.2.1.1 i2.2.2.2.1.1]; exact j3) j4
      refine ⟨ansW y (srch2 (fun b => cbI T (st a 8) (st a 5) (st a 6) b (decide (st a 7 = 1)) n c d) (2 ^ tnL T) (tnL T + 1) 0), I2, L2, I3, L3, ?_, ?_, i3⟩
      · rw [show fX11_isJourney q (nI c) (nI d) (nI n) 24 I L = true from j1, w2, a1]
        simp only [b2i_eq0, Bool.true_eq_false, if_false, Option.bind_some, Bool.false_eq_true]
        unfold fX10_fewestLit
        rw [i1.2.2.1.2.2.2.2.2.2.1]
        simp only [show fX10_fewestLit_18 q FUEL (nI c) (nI d) (nI n) (nI (tnL T)) 0 I1 L1 = _ from a2, Option.bind_some]
        rw [told_as (x := srch2 (fun b => cbI T (st a 8) (st a 5) (st a 6) b (decide (st a 7 = 1)) n c d) (2 ^ tnL T) (tnL T + 1) 0) (fun b hb => Nat.lt_of_lt_of_le (srch2_ok _ _ _ hb) (by omega))]
      · rw [ask, w3]
        simp only [b2i_eq0, Bool.true_eq_false, if_false, Option.bind_some, Bool.false_eq_true]
        simp only [show fX12_free_25 FUEL (nI c) (nI d) (nI n) y 0 I2 L2 = _ from a3, Option.bind_some]
    · rw [show fX11_isJourney q v w x 24 I L = true from j1, w1]
      exact ⟨_, I, L, I, L, rfl, by rw [asked_yes j2 j3 j4, w2]; rfl, h⟩
  · rw [show fX11_isJourney q v w x 24 I L = false from j1]
    exact ⟨_, I, L, I, L, rfl, by rw [asked_no j2]; rfl, h⟩
theorem c_dates (h : Inv T q st a u I L) (v w x y : Int32) : ∃ r I1 L1 I2 L2, fX11_dates q q v w x y I L = some (r, I1, L1) ∧ fX12_dates v w x y I1 L1 = some (r, I2, L2) ∧ Inv T q st a u I2 L2 := by
  obtain ⟨mf, hmf⟩ := fuel_at 1000 (by decide)
  have hO := h.1
  have hq := h.2.1
  have hR := h.rng
  obtain ⟨b1, b2, b3⟩ := ShS hR
  unfold fX11_dates fX12_dates
  rcases g_jour (m := 24) (by decide) hO.1 h.2.2.1.1 h.2.2.1.2.1.2 h.2.2.2.1.1 v w x with ⟨c, d, n, c1, d1, n1, n2, e1, e2, e3, j1, j2, j3, j4⟩ | ⟨j1, j2⟩
  · have e2' : fX12_isIn y 0 2 = fX12_isIn y 0 (nI 3 - 1) := rfl
    rw [e2', show fX11_isJourney q v w x 24 I L = true from j1]
    rcases isIn_0 (n := 3) (by decide) y with ⟨k, k1, k3, k4⟩ | ⟨k1, k3⟩
    · subst e1
      subst e2
      subst e3
      have d64 := grd_64 hO d1
      have hmod : st a 8 % 24 < 24 := Nat.mod_lt _ (by decide)
      obtain ⟨I1, L1, a1, s1, f1, i1⟩ := h.aim
      obtain ⟨I2, L2, a2, ⟨s2, t2, r2, x2⟩, f2⟩ := x_dtL (c := c) (d := d) (n := n) (w := y) hO hq (by omega) c1 d64 hmod 100 0 FUEL 0 (-1) (-1) false I1 L1 (by omega) (by omega) ⟨st a 8, b1, rfl, i1.2.2.1, s1⟩ (fun g => absurd g (by decide))
      have i2 := i1.fx f2 (x2.sky (by omega) b3 (by decide))
      obtain ⟨I3, L3, a3, f3⟩ := m_dtL (c := c) (d := d) (n := n) (w := y) hO hR (by omega) d64 100 0 FUEL 0 (-1) (-1) I2 L2 (by omega) (by omega) (Or.inl rfl) i2.2.2.2.1 i2.mnow
      have i3 := i2.fm f3
      have ask : fX12_isAsked (nI c) (nI d) (nI n) I2 L2 = true := asked_yes (by rw [isFree_same h.2.2.2.1.1 i2.2.2.2.1.1]; exact j2) (by rw [isFree_same h.2.2.2.1.1 i2.2.2.2.1.1]; exact j3) j4
      generalize hdt : dtF (fun e => cbI T (24 * e + st a 8 % 24) (st a 5) (st a 6) 0 (decide (st a 7 = 1)) n c d) 100 0 0 (-1) (-1) = dt at *
      refine ⟨if y = 0 then dt.1 else if y = 1 then dt.2.1 else dt.2.2, I2, L2, I3, L3, ?_, ?_, i3⟩
      · have hy0 : ¬ y < 0 := by rw [k3]; exact nI_pos (by omega)
        have hy2 : y ≤ (2 : Int32) := by rw [k3]; exact nI_le (b := 2) (by omega) (by decide)
        rw [if_neg hy0, if_pos hy2, a1]
        simp only [b2i_eq0, Bool.true_eq_false, if_false, Option.bind_some, Bool.false_eq_true]
        unfold fX10_countDates
        rw [show fX10_countDates_15 q FUEL (nI c) (nI d) (nI n) y 0 (-1) (-1) 0 0 I1 L1 = _ from a2]
        simp only [Option.bind_some]
        by_cases y0 : y = 0
        · simp only [if_pos y0, Option.bind_some]
        · by_cases y1 : y = 1
          · simp only [if_neg y0, if_pos y1, Option.bind_some]
          · simp only [if_neg y0, if_neg y1, Option.bind_some]
      · rw [ask, k4]
        simp only [b2i_eq0, Bool.true_eq_false, if_false, Option.bind_some, Bool.false_eq_true]
        rw [show fX12_dates_34 FUEL (nI c) (nI d) (nI n) y 0 (-1) (-1) 0 I2 L2 = _ from a3]
        simp only [Option.bind_some]
        by_cases y0 : y = 0
        · simp only [if_pos y0]
        · by_cases y1 : y = 1
          · simp only [if_neg y0, if_pos y1]
          · simp only [if_neg y0, if_neg y1]
    · refine ⟨-1, I, L, I, L, ?_, by rw [asked_yes j2 j3 j4, k3]; rfl, h⟩
      rw [if_neg (by decide)]
      by_cases h0 : y < 0
      · rw [if_pos h0]; rfl
      · have h2 : ¬ y ≤ (2 : Int32) := by
          have := k1.resolve_left h0
          rw [fa_le, show (nI 3).toInt = 3 from rfl] at this
          rw [fa_le, show (2 : Int32).toInt = 2 from rfl]
          omega
        rw [if_neg h0, if_neg h2]; rfl
  · rw [show fX11_isJourney q v w x 24 I L = false from j1]
    exact ⟨_, I, L, I, L, rfl, by rw [asked_no j2]; rfl, h⟩
end DA2
