theorem x_undo {st : Nat → Nat → Nat} {a u : Nat} {I : HI} {L : HL} (h : XKeep st (a + 1) u I L) : fX11_undo I L = some (true, nowPut (st a) (up2 I 54 1 (nI a))) := by
  obtain ⟨k0, k1, k2, k3⟩ := h
  have e : fX0_stepBack I = (true, up2 I 54 1 (nI a)) := by
    unfold fX0_stepBack
    rw [k1, if_pos (by rw [show (0 : Int32) = nI 0 from rfl]; exact nI_lt (by omega) (by omega)), nI_pred]
  unfold fX11_undo
  rw [obn_eq, e]
  simp only [show ¬ (b2i true = 0) by decide, if_false]
  have e2 : fX0_current (up2 I 54 1 (nI a)) L = some (lN (pk (st a))) := by
    unfold fX0_current
    simp only [up2_at, and_self, if_true]
    rw [if_pos (inb_nI (by omega) (by decide)), clamp_nI (by omega), (k3 a (by omega)).1]
  rw [e2]
  simp only [Option.bind_some]
  rw [x_unpack (k3 a (by omega)).2]
  rfl
theorem x_undo0 {st : Nat → Nat → Nat} {u : Nat} {I : HI} {L : HL} (h : XKeep st 0 u I L) : fX11_undo I L = some (false, I) := by
  obtain ⟨k0, k1, k2, k3⟩ := h
  have e : fX0_stepBack I = (false, I) := by
    unfold fX0_stepBack
    rw [k1, if_neg (by decide)]
  unfold fX11_undo
  rw [obn_eq, e]
  rfl
theorem x_redo {st : Nat → Nat → Nat} {a u : Nat} {I : HI} {L : HL} (h : XKeep st a (u + 1) I L) : fX11_redo I L = some (true, nowPut (st (a + 1)) (up2 I 54 1 (nI (a + 1)))) := by
  obtain ⟨k0, k1, k2, k3⟩ := h
  have e : fX0_stepOn I = (true, up2 I 54 1 (nI (a + 1))) := by
    unfold fX0_stepOn
    rw [k1, k2, if_pos (nI_lt (by omega) (by omega)), nI_1]
  unfold fX11_redo
  rw [obn_eq, e]
  simp only [show ¬ (b2i true = 0) by decide, if_false]
  have e2 : fX0_current (up2 I 54 1 (nI (a + 1))) L = some (lN (pk (st (a + 1)))) := by
    unfold fX0_current
    simp only [up2_at, and_self, if_true]
    rw [if_pos (inb_nI (by omega) (by decide)), clamp_nI (by omega), (k3 (a + 1) (by omega)).1]
  rw [e2]
  simp only [Option.bind_some]
  rw [x_unpack (k3 (a + 1) (by omega)).2]
  rfl
theorem x_redo0 {st : Nat → Nat → Nat} {a : Nat} {I : HI} {L : HL} (h : XKeep st a 0 I L) : fX11_redo I L = some (false, I) := by
  obtain ⟨k0, k1, k2, k3⟩ := h
  have e : fX0_stepOn I = (false, I) := by
    unfold fX0_stepOn
    rw [k1, k2, if_neg (nI_nlt (by omega) (by omega))]
  unfold fX11_redo
  rw [obn_eq, e]
  rfl
theorem p_undo {st : Nat → Nat → Nat} {a u : Nat} {I : HI} {L : HL} (h : ActsAt st a u I L) : ∃ (r : Bool) (I1 : HI) (I2 : HI) (a' u' : Nat), fX11_undo I L = some (r, I1) ∧ fX12_undo I1 = some (r, I2) ∧ ActsAt st a' u' I2 L ∧ FrA I I2 L L := by
  have hA := h
  obtain ⟨hK, ⟨m1, m2, m3, m4⟩, hX, hMn⟩ := h
  cases a with
  | zero =>
    refine ⟨false, I, I, 0, u, x_undo0 hK, ?_, hA, ⟨fun _ _ _ _ _ _ _ => rfl, fun _ _ _ => rfl, fun _ _ => rfl⟩⟩
    unfold fX12_undo
    rw [m1, if_pos nI_0]
  | succ a =>
    have hb : a + 1 + u ≤ 40 := hK.1
    have J : ∀ k, k ≠ 52 → k ≠ 53 → k ≠ 54 → nowPut (st a) (up2 I 54 1 (nI a)) k = I k := fun k c1 c2 c3 => by rw [nowPut_off c1 c2, up2_off _ _ _ c3]
    have e73 := J 73 (by decide) (by decide) (by decide)
    have e102 := J 102 (by decide) (by decide) (by decide)
    have e99 := J 99 (by decide) (by decide) (by decide)
    refine ⟨true, _, exch a 0 (up2 (up2 (nowPut (st a) (up2 I 54 1 (nI a))) 73 73 (nI a)) 73 74 (nI (u + 1))), a, u + 1, x_undo hK, ?_, ⟨?_, ?_, ?_, ?_⟩, ?_, ?_, fun _ _ => rfl⟩
    · unfold fX12_undo
      rw [e73, m1, if_neg (nI_ne0 (by omega) (by omega)), nI_pred]
      dsimp only
      simp only [up2_at, and_self, if_true, show ¬ (74 = 73) by decide, and_false, if_false, true_and, show ¬ (73 = 74) by decide]
      rw [e73, m2, nI_1, fa_lit 10, pk_mul, m_exchange (by omega)]
      rfl
    · obtain ⟨q0, q1, q2, q3⟩ := hK
      refine ⟨by omega, ?_, ?_, fun i hi => q3 i (by omega)⟩
      · simp [exch, up2_at, nowPut]
      · have : a + (u + 1) = a + 1 + u := by omega
        rw [this]
        simp [exch, up2_at, nowPut]
        exact q2
    · refine ⟨?_, ?_, fun i hi k hk => ?_, fun j hj k hk => ?_⟩
      · simp [exch, up2_at]
      · simp [exch, up2_at]
      · have e : exch a 0 (up2 (up2 (nowPut (st a) (up2 I 54 1 (nI a))) 73 73 (nI a)) 73 74 (nI (u + 1))) 102 (10 * i + k) = I 102 (10 * i + k) := by
          simp only [exch, if_true, up2_at, show ¬ (102 = 73) by decide, false_and, if_false]
          rw [if_neg (by omega), e102]
        rw [e]
        exact m3 i (by omega) k hk
      · by_cases hj0 : j = 0
        · subst hj0
          have e : exch a 0 (up2 (up2 (nowPut (st a) (up2 I 54 1 (nI a))) 73 73 (nI a)) 73 74 (nI (u + 1))) 102 (10 * (a + 0) + k) = I 99 k := by
            simp only [exch, if_true, up2_at, show ¬ (99 = 73) by decide, false_and, if_false]
            rw [if_pos (by omega), e99]
            congr 1
            omega
          rw [e]
          exact hMn k hk
        · have e : exch a 0 (up2 (up2 (nowPut (st a) (up2 I 54 1 (nI a))) 73 73 (nI a)) 73 74 (nI (u + 1))) 102 (10 * (a + j) + k) = I 102 (10 * (a + 1 + (j - 1)) + k) := by
            simp only [exch, if_true, up2_at, show ¬ (102 = 73) by decide, false_and, if_false]
            rw [if_neg (by omega), e102]
            congr 1
            omega
          rw [e, m4 (j - 1) (by omega) k hk]
          congr 2
          omega
    · refine (nowPut_now (st a) (up2 I 54 1 (nI a))).of ?_ ?_
      · funext j; simp [exch, up2_at]
      · funext j; simp [exch, up2_at]
    · intro k hk
      have e : exch a 0 (up2 (up2 (nowPut (st a) (up2 I 54 1 (nI a))) 73 73 (nI a)) 73 74 (nI (u + 1))) 99 k = I 102 (10 * a + k) := by
        simp only [exch, show ¬ (99 = 102) by decide, if_false, if_true, up2_at, show ¬ (102 = 73) by decide, false_and]
        rw [if_pos (by omega), e102]
      rw [e]
      exact m3 a (by omega) k hk
    · intro k c1 c2 c3 c4 c5 c6
      funext j
      simp [exch, up2_at, c4, c5, c6]
      rw [J k c1 c2 c3]
    · intro j c1 c2
      simp [exch, up2_at, c1, c2]
      rw [e73]
theorem p_redo {st : Nat → Nat → Nat} {a u : Nat} {I : HI} {L : HL} (h : ActsAt st a u I L) : ∃ (r : Bool) (I1 : HI) (I2 : HI) (a' u' : Nat), fX11_redo I L = some (r, I1) ∧ fX12_redo I1 = some (r, I2) ∧ ActsAt st a' u' I2 L ∧ FrA I I2 L L := by
  have hA := h
  obtain ⟨hK, ⟨m1, m2, m3, m4⟩, hX, hMn⟩ := h
  cases u with
  | zero =>
    refine ⟨false, I, I, a, 0, x_redo0 hK, ?_, hA, ⟨fun _ _ _ _ _ _ _ => rfl, fun _ _ _ => rfl, fun _ _ => rfl⟩⟩
    unfold fX12_redo
    rw [m2, if_pos nI_0]
  | succ u =>
    have hb : a + (u + 1) ≤ 40 := hK.1
    have J : ∀ k, k ≠ 52 → k ≠ 53 → k ≠ 54 → nowPut (st (a + 1)) (up2 I 54 1 (nI (a + 1))) k = I k := fun k c1 c2 c3 => by rw [nowPut_off c1 c2, up2_off _ _ _ c3]
    have e73 := J 73 (by decide) (by decide) (by decide)
    have e102 := J 102 (by decide) (by decide) (by decide)
    have e99 := J 99 (by decide) (by decide) (by decide)
    refine ⟨true, _, up2 (up2 (exch a 0 (nowPut (st (a + 1)) (up2 I 54 1 (nI (a + 1))))) 73 73 (nI (a + 1))) 73 74 (nI u), a + 1, u, x_redo hK, ?_, ⟨?_, ?_, ?_, ?_⟩, ?_, ?_, fun _ _ => rfl⟩
    · unfold fX12_redo
      rw [e73, m1, m2, if_neg (nI_ne0 (by omega) (by omega)), fa_lit 10, pk_mul, m_exchange (by omega)]
      simp only [Option.bind_some]
      have e1 : exch a 0 (nowPut (st (a + 1)) (up2 I 54 1 (nI (a + 1)))) 73 = I 73 := by
        funext j
        simp [exch]
        rw [e73]
      simp only [up2_at, and_self, if_true, show ¬ (74 = 73) by decide, and_false, if_false, true_and, show ¬ (73 = 74) by decide]
      rw [e1, m1, m2, nI_1, nI_pred]
    · obtain ⟨q0, q1, q2, q3⟩ := hK
      refine ⟨by omega, ?_, ?_, fun i hi => q3 i (by omega)⟩
      · simp [exch, up2_at, nowPut]
      · have : a + 1 + u = a + (u + 1) := by omega
        rw [this]
        simp [exch, up2_at, nowPut]
        exact q2
    · refine ⟨?_, ?_, fun i hi k hk => ?_, fun j hj k hk => ?_⟩
      · simp [up2_at]
      · simp [up2_at]
      · by_cases hia : i = a
        · subst hia
          have e : (up2 (up2 (exch i 0 (nowPut (st (i + 1)) (up2 I 54 1 (nI (i + 1))))) 73 73 (nI (i + 1))) 73 74 (nI u)) 102 (10 * i + k) = I 99 k := by
            simp only [exch, if_true, up2_at, show ¬ (102 = 73) by decide, false_and, if_false]
            rw [if_pos (by omega), e99]
            congr 1
            omega
          rw [e]
          exact hMn k hk
        · have e : (up2 (up2 (exch a 0 (nowPut (st (a + 1)) (up2 I 54 1 (nI (a + 1))))) 73 73 (nI (a + 1))) 73 74 (nI u)) 102 (10 * i + k) = I 102 (10 * i + k) := by
            simp only [exch, if_true, up2_at, show ¬ (102 = 73) by decide, false_and, if_false]
            rw [if_neg (by omega), e102]
          rw [e]
          exact m3 i (by omega) k hk
      · have e : (up2 (up2 (exch a 0 (nowPut (st (a + 1)) (up2 I 54 1 (nI (a + 1))))) 73 73 (nI (a + 1))) 73 74 (nI u)) 102 (10 * (a + 1 + j) + k) = I 102 (10 * (a + (j + 1)) + k) := by
          simp only [exch, if_true, up2_at, show ¬ (102 = 73) by decide, false_and, if_false]
          rw [if_neg (by omega), e102]
          congr 1
          omega
        rw [e, m4 (j + 1) (by omega) k hk]
        congr 2
        omega
    · refine (nowPut_now (st (a + 1)) (up2 I 54 1 (nI (a + 1)))).of ?_ ?_
      · funext j; simp [exch, up2_at]
      · funext j; simp [exch, up2_at]
    · intro k hk
      have e : (up2 (up2 (exch a 0 (nowPut (st (a + 1)) (up2 I 54 1 (nI (a + 1))))) 73 73 (nI (a + 1))) 73 74 (nI u)) 99 k = I 102 (10 * (a + 0) + k) := by
        simp only [exch, show ¬ (99 = 102) by decide, if_false, if_true, up2_at, show ¬ (99 = 73) by decide, false_and]
        rw [if_pos (by omega), e102]
        rfl
      rw [e, m4 0 (by omega) k hk]
    · intro k c1 c2 c3 c4 c5 c6
      funext j
      simp [exch, up2_at, c4, c5, c6]
      rw [J k c1 c2 c3]
    · intro j c1 c2
      simp [exch, up2_at, c1, c2]
      rw [e73]
