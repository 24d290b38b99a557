/-! acts, told with what they leave of the people -/
def KeepQ (st st' : Nat → Nat → Nat) (n n' : Nat) : Prop := ∀ Q : (Nat → Nat) → Prop, (∀ N k v, 4 ≤ k → Q N → Q (upN N k v)) → (∀ i, i ≤ n → Q (st i)) → ∀ i, i ≤ n' → Q (st' i)
theorem nxt_Q {Q : (Nat → Nat) → Prop} {st : Nat → Nat → Nat} {a u : Nat} {N : Nat → Nat} (ha : a + u ≤ 40) (h : ∀ i, i ≤ a + u → Q (st i)) (hN : Q N) : ∀ i, i ≤ anx a → Q (nxt st a N i) := by
  intro i hi
  unfold anx at hi
  unfold nxt
  by_cases h40 : a = 40
  · rw [if_pos h40] at hi ⊢
    by_cases c : i < 40
    · simp only [if_pos c]; exact h (i + 1) (by omega)
    · simp only [if_neg c]; exact hN
  · rw [if_neg h40] at hi ⊢
    by_cases c : i ≤ a
    · simp only [if_pos c]; exact h i (by omega)
    · simp only [if_neg c]; exact hN
theorem q_hour {st : Nat → Nat → Nat} {a u : Nat} {I : HI} {L : HL} (h : ActsAt st a u I L) : ∃ (r : Int32) (I1 : HI) (L1 : HL) (I2 : HI) (st' : Nat → Nat → Nat) (a' u' : Nat), fX11_hour I L = some (r, I1, L1) ∧ fX12_hour I1 = some (r, I2) ∧ ActsAt st' a' u' I2 L1 ∧ FrA I I2 L L1 ∧ KeepQ st st' (a + u) (a' + u') := by
  have hA := h
  obtain ⟨⟨k0, k1, k2, k3⟩, hM, hX, hMn⟩ := h
  have hR : NRng (st a) := (k3 a (by omega)).2
  obtain ⟨n0, n1, n2, n3, n4, n5, n6, n7, n8⟩ := hR
  have h5 : I 52 5 = nI (st a 8) := hX.2.2.2.2.2
  by_cases hq : st a 8 = 2000
  · refine ⟨-1, I, L, I, st, a, u, ?_, ?_, hA, ⟨fun _ _ _ _ _ _ _ => rfl, fun _ _ _ => rfl, fun _ _ => rfl⟩, fun _ _ h => h⟩
    · unfold fX11_hour
      rw [h5, hq, if_neg (by decide)]
    · unfold fX12_hour
      rw [if_pos (by decide), if_pos (by rw [show (8 : Int32).toNatClampNeg = 8 from rfl, hMn 8 (by decide), hq]; rfl)]
  · have hN : NRng (upN (upN (st a) 8 (st a 8 + 1)) 4 0) := by
      refine ⟨?_, ?_, ?_, ?_, ?_, ?_, ?_, ?_, ?_⟩ <;> simp [upN] <;> omega
    have hxa : XNow (up2 (up2 I 52 5 (nI (st a 8 + 1))) 52 1 0) (upN (upN (st a) 8 (st a 8 + 1)) 4 0) := by
      obtain ⟨x0, x1, x2, x3, x4, x5⟩ := hX
      refine ⟨fun i hi => ?_, ?_, ?_, ?_, ?_, ?_⟩
      · simp [up2_at, upN, show i ≠ 4 by omega, show i ≠ 8 by omega]; exact x0 i hi
      · simp [up2_at, upN]; rfl
      · simp [up2_at, upN]; exact x2
      · simp [up2_at, upN]; exact x3
      · simp [up2_at, upN]; exact x4
      · simp [up2_at, upN]
    obtain ⟨I1, L1, Im, p1, p2, p3, p4, p5, p6, p7, p8, p9⟩ := act_pair hA hN hxa (fun k c1 c2 => by rw [up2_off _ _ _ c1, up2_off _ _ _ c1])
    have hr : I1 52 5 = nI (st a 8 + 1) := by rw [p3]; simp [up2_at]
    obtain ⟨q1, q2⟩ := p9 (up2 (up2 Im 99 8 (nI (st a 8 + 1))) 99 4 0) (fun k hk => by rw [up2_off _ _ _ hk, up2_off _ _ _ hk]) (fun k hk => by
      by_cases c4 : k = 4
      · subst c4; simp [up2_at, upN]; rfl
      · by_cases c8 : k = 8
        · subst c8; simp [up2_at, upN]
        · simp [up2_at, upN, c4, c8]; rw [p7]; exact hMn k hk)
    refine ⟨nI (st a 8 + 1), I1, L1, up2 (up2 Im 99 8 (nI (st a 8 + 1))) 99 4 0, _, _, _, ?_, ?_, q1, q2, fun Q hQ h => nxt_Q k0 h (hQ _ _ _ (by decide) (hQ _ _ _ (by decide) (h a (by omega))))⟩
    · unfold fX11_hour
      rw [h5, if_pos (by rw [fa_lit 2000]; exact nI_lt (by omega) (by omega)), nI_1]
      dsimp only
      rw [p1]
      simp only [Option.bind_some]
      rw [p2]
      simp only [Option.bind_some]
      rw [hr]
    · have e8 : I1 99 8 = nI (st a 8) := by rw [p4]; exact hMn 8 (by decide)
      unfold fX12_hour
      rw [if_pos (by decide), show (8 : Int32).toNatClampNeg = 8 from rfl, e8, if_neg (by rw [fa_lit 2000]; exact fun z => hq ((nI_eq (by omega) (by omega)).mp z)), p6]
      simp only [Option.bind_some]
      rw [if_pos (by decide), if_pos (by decide), show (4 : Int32).toNatClampNeg = 4 from rfl]
      have e9 : Im 99 8 = nI (st a 8) := by rw [p7]; exact hMn 8 (by decide)
      rw [e9, nI_1, if_pos (by decide), if_pos (by decide)]
      simp [up2_at]
theorem q_ecl {st : Nat → Nat → Nat} {a u : Nat} {I : HI} {L : HL} (h : ActsAt st a u I L) : ∃ (r : Bool) (I1 : HI) (L1 : HL) (I2 : HI) (st' : Nat → Nat → Nat) (a' u' : Nat), fX11_eclipse I L = some (r, I1, L1) ∧ fX12_eclipse I1 = some (r, I2) ∧ ActsAt st' a' u' I2 L1 ∧ FrA I I2 L L1 ∧ KeepQ st st' (a + u) (a' + u') := by
  have hA := h
  obtain ⟨⟨k0, k1, k2, k3⟩, hM, hX, hMn⟩ := h
  have hR : NRng (st a) := (k3 a (by omega)).2
  obtain ⟨n0, n1, n2, n3, n4, n5, n6, n7, n8⟩ := hR
  have h4 : I 52 4 = nI (st a 7) := hX.2.2.2.2.1
  have hN : NRng (upN (st a) 7 (1 - st a 7)) := by
    refine ⟨?_, ?_, ?_, ?_, ?_, ?_, ?_, ?_, ?_⟩ <;> simp [upN] <;> omega
  have hxa : XNow (up2 I 52 4 (nI (1 - st a 7))) (upN (st a) 7 (1 - st a 7)) := by
    obtain ⟨x0, x1, x2, x3, x4, x5⟩ := hX
    refine ⟨fun i hi => ?_, ?_, ?_, ?_, ?_, ?_⟩
    · simp [up2_at, upN, show i ≠ 7 by omega]; exact x0 i hi
    · simp [up2_at, upN]; exact x1
    · simp [up2_at, upN]; exact x2
    · simp [up2_at, upN]; exact x3
    · simp [up2_at, upN]
    · simp [up2_at, upN]; exact x5
  obtain ⟨I1, L1, Im, p1, p2, p3, p4, p5, p6, p7, p8, p9⟩ := act_pair hA hN hxa (fun k c1 c2 => by rw [up2_off _ _ _ c1])
  have hr : I1 52 4 = nI (1 - st a 7) := by rw [p3]; simp [up2_at]
  obtain ⟨q1, q2⟩ := p9 (up2 Im 99 7 (nI (1 - st a 7))) (fun k hk => by rw [up2_off _ _ _ hk]) (fun k hk => by
    by_cases c7 : k = 7
    · subst c7; simp [up2_at, upN]
    · simp [up2_at, upN, c7]; rw [p7]; exact hMn k hk)
  refine ⟨decide (1 - st a 7 = 1), I1, L1, _, _, _, _, ?_, ?_, q1, q2, fun Q hQ h => nxt_Q k0 h (hQ _ _ _ (by decide) (h a (by omega)))⟩
  · unfold fX11_eclipse
    have e : (if I 52 4 = 0 then some true else some false) = some (decide (1 - st a 7 = 1)) := by
      rw [h4]
      rcases (show st a 7 = 0 ∨ st a 7 = 1 by omega) with z | z <;> rw [z] <;> rfl
    have eb : b2i (decide (1 - st a 7 = 1)) = nI (1 - st a 7) := by
      rcases (show st a 7 = 0 ∨ st a 7 = 1 by omega) with z | z <;> rw [z] <;> rfl
    rw [e]
    simp only [Option.bind_some]
    rw [eb, p1]
    simp only [Option.bind_some]
    rw [p2]
    simp only [Option.bind_some]
    rw [hr, i2b_nI (by omega)]
    rfl
  · have e9 : Im 99 7 = nI (st a 7) := by rw [p7]; exact hMn 7 (by decide)
    have e1 : (1 : Int32) - nI (st a 7) = nI (1 - st a 7) := by
      rcases (show st a 7 = 0 ∨ st a 7 = 1 by omega) with z | z <;> rw [z] <;> rfl
    unfold fX12_eclipse
    rw [p6]
    simp only [Option.bind_some]
    rw [if_pos (by decide), if_pos (by decide), show (7 : Int32).toNatClampNeg = 7 from rfl, e9, e1, if_pos (by decide)]
    simp only [up2_at, and_self, if_true]
    rcases (show st a 7 = 0 ∨ st a 7 = 1 by omega) with z | z
    · rw [z, if_pos (by decide)]; rfl
    · rw [z, if_neg (by decide)]; rfl
theorem q_undo {st : Nat → Nat → Nat} {a u : Nat} {I : HI} {L : HL} (h : ActsAt st a u I L) : ∃ (r : Bool) (I1 : HI) (I2 : HI) (a' u' : Nat), fX11_undo I L = some (r, I1) ∧ fX12_undo I1 = some (r, I2) ∧ ActsAt st a' u' I2 L ∧ FrA I I2 L L ∧ a' + u' = a + u := by
  have hA := h
  obtain ⟨hK, ⟨m1, m2, m3, m4⟩, hX, hMn⟩ := h
  cases a with
  | zero =>
    refine ⟨false, I, I, 0, u, x_undo0 hK, ?_, hA, ⟨fun _ _ _ _ _ _ _ => rfl, fun _ _ _ => rfl, fun _ _ => rfl⟩, rfl⟩
    unfold fX12_undo
    rw [m1, if_pos nI_0]
  | succ a =>
    have hb : a + 1 + u ≤ 40 := hK.1
    have J : ∀ k, k ≠ 52 → k ≠ 53 → k ≠ 54 → nowPut (st a) (up2 I 54 1 (nI a)) k = I k := fun k c1 c2 c3 => by rw [nowPut_off c1 c2, up2_off _ _ _ c3]
    have e73 := J 73 (by decide) (by decide) (by decide)
    have e102 := J 102 (by decide) (by decide) (by decide)
    have e99 := J 99 (by decide) (by decide) (by decide)
    refine ⟨true, _, exch a 0 (up2 (up2 (nowPut (st a) (up2 I 54 1 (nI a))) 73 73 (nI a)) 73 74 (nI (u + 1))), a, u + 1, x_undo hK, ?_, ⟨?_, ?_, ?_, ?_⟩, ⟨?_, ?_, fun _ _ => rfl⟩, by omega⟩
    · unfold fX12_undo
      rw [e73, m1, if_neg (nI_ne0 (by omega) (by omega)), nI_pred]
      dsimp only
      simp only [up2_at, and_self, if_true, show ¬ (74 = 73) by decide, and_false, if_false, true_and, show ¬ (73 = 74) by decide]
      rw [e73, m2, nI_1, fa_lit 10, pk_mul, m_exchange (by omega)]
      rfl
    · obtain ⟨q0, q1, q2, q3⟩ := hK
      refine ⟨by omega, ?_, ?_, fun i hi => q3 i (by omega)⟩
      · simp [exch, up2_at, nowPut]
      · have : a + (u + 1) = a + 1 + u := by omega
        rw [this]
        simp [exch, up2_at, nowPut]
        exact q2
    · refine ⟨?_, ?_, fun i hi k hk => ?_, fun j hj k hk => ?_⟩
      · simp [exch, up2_at]
      · simp [exch, up2_at]
      · have e : exch a 0 (up2 (up2 (nowPut (st a) (up2 I 54 1 (nI a))) 73 73 (nI a)) 73 74 (nI (u + 1))) 102 (10 * i + k) = I 102 (10 * i + k) := by
          simp only [exch, if_true, up2_at, show ¬ (102 = 73) by decide, false_and, if_false]
          rw [if_neg (by omega), e102]
        rw [e]
        exact m3 i (by omega) k hk
      · by_cases hj0 : j = 0
        · subst hj0
          have e : exch a 0 (up2 (up2 (nowPut (st a) (up2 I 54 1 (nI a))) 73 73 (nI a)) 73 74 (nI (u + 1))) 102 (10 * (a + 0) + k) = I 99 k := by
            simp only [exch, if_true, up2_at, show ¬ (99 = 73) by decide, false_and, if_false]
            rw [if_pos (by omega), e99]
            congr 1
            omega
          rw [e]
          exact hMn k hk
        · have e : exch a 0 (up2 (up2 (nowPut (st a) (up2 I 54 1 (nI a))) 73 73 (nI a)) 73 74 (nI (u + 1))) 102 (10 * (a + j) + k) = I 102 (10 * (a + 1 + (j - 1)) + k) := by
            simp only [exch, if_true, up2_at, show ¬ (102 = 73) by decide, false_and, if_false]
            rw [if_neg (by omega), e102]
            congr 1
            omega
          rw [e, m4 (j - 1) (by omega) k hk]
          congr 2
          omega
    · refine (nowPut_now (st a) (up2 I 54 1 (nI a))).of ?_ ?_
      · funext j; simp [exch, up2_at]
      · funext j; simp [exch, up2_at]
    · intro k hk
      have e : exch a 0 (up2 (up2 (nowPut (st a) (up2 I 54 1 (nI a))) 73 73 (nI a)) 73 74 (nI (u + 1))) 99 k = I 102 (10 * a + k) := by
        simp only [exch, show ¬ (99 = 102) by decide, if_false, if_true, up2_at, show ¬ (102 = 73) by decide, false_and]
        rw [if_pos (by omega), e102]
      rw [e]
      exact m3 a (by omega) k hk
    · intro k c1 c2 c3 c4 c5 c6
      funext j
      simp [exch, up2_at, c4, c5, c6]
      rw [J k c1 c2 c3]
    · intro j c1 c2
      simp [exch, up2_at, c1, c2]
      rw [e73]
theorem q_redo {st : Nat → Nat → Nat} {a u : Nat} {I : HI} {L : HL} (h : ActsAt st a u I L) : ∃ (r : Bool) (I1 : HI) (I2 : HI) (a' u' : Nat), fX11_redo I L = some (r, I1) ∧ fX12_redo I1 = some (r, I2) ∧ ActsAt st a' u' I2 L ∧ FrA I I2 L L ∧ a' + u' = a + u := by
  have hA := h
  obtain ⟨hK, ⟨m1, m2, m3, m4⟩, hX, hMn⟩ := h
  cases u with
  | zero =>
    refine ⟨false, I, I, a, 0, x_redo0 hK, ?_, hA, ⟨fun _ _ _ _ _ _ _ => rfl, fun _ _ _ => rfl, fun _ _ => rfl⟩, rfl⟩
    unfold fX12_redo
    rw [m2, if_pos nI_0]
  | succ u =>
    have hb : a + (u + 1) ≤ 40 := hK.1
    have J : ∀ k, k ≠ 52 → k ≠ 53 → k ≠ 54 → nowPut (st (a + 1)) (up2 I 54 1 (nI (a + 1))) k = I k := fun k c1 c2 c3 => by rw [nowPut_off c1 c2, up2_off _ _ _ c3]
    have e73 := J 73 (by decide) (by decide) (by decide)
    have e102 := J 102 (by decide) (by decide) (by decide)
    have e99 := J 99 (by decide) (by decide) (by decide)
    refine ⟨true, _, up2 (up2 (exch a 0 (nowPut (st (a + 1)) (up2 I 54 1 (nI (a + 1))))) 73 73 (nI (a + 1))) 73 74 (nI u), a + 1, u, x_redo hK, ?_, ⟨?_, ?_, ?_, ?_⟩, ⟨?_, ?_, fun _ _ => rfl⟩, by omega⟩
    · unfold fX12_redo
      rw [e73, m1, m2, if_neg (nI_ne0 (by omega) (by omega)), fa_lit 10, pk_mul, m_exchange (by omega)]
      simp only [Option.bind_some]
      have e1 : exch a 0 (nowPut (st (a + 1)) (up2 I 54 1 (nI (a + 1)))) 73 = I 73 := by
        funext j
        simp [exch]
        rw [e73]
      simp only [up2_at, and_self, if_true, show ¬ (74 = 73) by decide, and_false, if_false, true_and, show ¬ (73 = 74) by decide]
      rw [e1, m1, m2, nI_1, nI_pred]
    · obtain ⟨q0, q1, q2, q3⟩ := hK
      refine ⟨by omega, ?_, ?_, fun i hi => q3 i (by omega)⟩
      · simp [exch, up2_at, nowPut]
      · have : a + 1 + u = a + (u + 1) := by omega
        rw [this]
        simp [exch, up2_at, nowPut]
        exact q2
    · refine ⟨?_, ?_, fun i hi k hk => ?_, fun j hj k hk => ?_⟩
      · simp [up2_at]
      · simp [up2_at]
      · by_cases hia : i = a
        · subst hia
          have e : (up2 (up2 (exch i 0 (nowPut (st (i + 1)) (up2 I 54 1 (nI (i + 1))))) 73 73 (nI (i + 1))) 73 74 (nI u)) 102 (10 * i + k) = I 99 k := by
            simp only [exch, if_true, up2_at, show ¬ (102 = 73) by decide, false_and, if_false]
            rw [if_pos (by omega), e99]
            congr 1
            omega
          rw [e]
          exact hMn k hk
        · have e : (up2 (up2 (exch a 0 (nowPut (st (a + 1)) (up2 I 54 1 (nI (a + 1))))) 73 73 (nI (a + 1))) 73 74 (nI u)) 102 (10 * i + k) = I 102 (10 * i + k) := by
            simp only [exch, if_true, up2_at, show ¬ (102 = 73) by decide, false_and, if_false]
            rw [if_neg (by omega), e102]
          rw [e]
          exact m3 i (by omega) k hk
      · have e : (up2 (up2 (exch a 0 (nowPut (st (a + 1)) (up2 I 54 1 (nI (a + 1))))) 73 73 (nI (a + 1))) 73 74 (nI u)) 102 (10 * (a + 1 + j) + k) = I 102 (10 * (a + (j + 1)) + k) := by
          simp only [exch, if_true, up2_at, show ¬ (102 = 73) by decide, false_and, if_false]
          rw [if_neg (by omega), e102]
          congr 1
          omega
        rw [e, m4 (j + 1) (by omega) k hk]
        congr 2
        omega
    · refine (nowPut_now (st (a + 1)) (up2 I 54 1 (nI (a + 1)))).of ?_ ?_
      · funext j; simp [exch, up2_at]
      · funext j; simp [exch, up2_at]
    · intro k hk
      have e : (up2 (up2 (exch a 0 (nowPut (st (a + 1)) (up2 I 54 1 (nI (a + 1))))) 73 73 (nI (a + 1))) 73 74 (nI u)) 99 k = I 102 (10 * (a + 0) + k) := by
        simp only [exch, show ¬ (99 = 102) by decide, if_false, if_true, up2_at, show ¬ (99 = 73) by decide, false_and]
        rw [if_pos (by omega), e102]
        rfl
      rw [e, m4 0 (by omega) k hk]
    · intro k c1 c2 c3 c4 c5 c6
      funext j
      simp [exch, up2_at, c4, c5, c6]
      rw [J k c1 c2 c3]
    · intro j c1 c2
      simp [exch, up2_at, c1, c2]
      rw [e73]
/-- a bit turned about -/
theorem xorN {n k : Nat} (hk : k < 31) : nI n ^^^ ((1 : Int32) <<< (nI k &&& 31)) = nI (n ^^^ 2 ^ k) := by
  apply b_ext
  intro i hi
  rw [b_xor, b_shl1 (by omega) hi, bt_nI i hi, bt_nI i hi, Nat.testBit_xor, Nat.testBit_two_pow]
  congr 1
  rw [decide_eq_decide]
  exact ⟨fun h => h.symm, fun h => h.symm⟩
theorem orN {n k : Nat} (hk : k < 31) : nI n ||| ((1 : Int32) <<< (nI k &&& 31)) = nI (n ||| 2 ^ k) := by
  apply b_ext
  intro i hi
  rw [b_or, b_shl1 (by omega) hi, bt_nI i hi, bt_nI i hi, Nat.testBit_or, Nat.testBit_two_pow]
  congr 1
  rw [decide_eq_decide]
  exact ⟨fun h => h.symm, fun h => h.symm⟩
theorem ubit {n k : Nat} (hk : k < 31) : (((nI n).toUInt32 >>> ((nI k).toUInt32 &&& Int32.toUInt32 31)).toInt32 &&& (1 : Int32)) = if n.testBit k then 1 else 0 := by
  rw [and1_32, b_ushr k (by omega), Nat.add_zero, bt_nI k (by omega)]
section C4
variable {T : Nat → Nat → Nat} {q : Nat} {st : Nat → Nat → Nat} {a u : Nat} {I : HI} {L : HL}
theorem Inv.act {st' : Nat → Nat → Nat} {a' u' : Nat} {I2 : HI} {L2 : HL} (h : Inv T q st a u I L) (hA : ActsAt st' a' u' I2 L2) (f : FrA I I2 L L2) (hk : ∀ i, i ≤ a' + u' → NOk T (st' i)) : Inv T q st' a' u' I2 L2 := by
  obtain ⟨h1, h2, h3, h4, h5, h6, h7, h8, h9, h10, h11, h12, h13⟩ := h
  have r : ∀ b, b ≠ 52 → b ≠ 53 → b ≠ 54 → b ≠ 99 → b ≠ 102 → b ≠ 73 → I2 b = I b := f.1
  have r3 := f.2.1
  have r2 := f.2.2
  refine ⟨h1, h2, h3.fr (fun b b1 b2 => r b (by rcases h2 with h | h <;> omega) (by rcases h2 with h | h <;> omega) (by rcases h2 with h | h <;> omega) (by rcases h2 with h | h <;> omega) (by rcases h2 with h | h <;> omega) (by rcases h2 with h | h <;> omega)) ⟨r2 q (by rcases h2 with h | h <;> omega), r2 (q + 22) (by rcases h2 with h | h <;> omega)⟩, h4.fr (fun b hb => r b (by omega) (by omega) (by omega) (by omega) (by omega) (by omega)) (fun j hj => r3 j (by omega) (by omega)) (r2 73 (by decide)), hA, hk, h7.fr (r 57 (by decide) (by decide) (by decide) (by decide) (by decide) (by decide)) (r 59 (by decide) (by decide) (by decide) (by decide) (by decide) (by decide)) (r2 57 (by decide)) (r2 58 (by decide)), h8.fr (by rw [r 0 (by decide) (by decide) (by decide) (by decide) (by decide) (by decide)]) (r 1 (by decide) (by decide) (by decide) (by decide) (by decide) (by decide)) (r3 1 (by decide) (by decide)) (r 74 (by decide) (by decide) (by decide) (by decide) (by decide) (by decide)), ?_, h10.fr (by rw [r 0 (by decide) (by decide) (by decide) (by decide) (by decide) (by decide)]) (r 114 (by decide) (by decide) (by decide) (by decide) (by decide) (by decide)) (r 115 (by decide) (by decide) (by decide) (by decide) (by decide) (by decide)) (r2 56 (by decide)), h11.fr (by rw [r 61 (by decide) (by decide) (by decide) (by decide) (by decide) (by decide)]) (r 62 (by decide) (by decide) (by decide) (by decide) (by decide) (by decide)) (r 103 (by decide) (by decide) (by decide) (by decide) (by decide) (by decide)) (r3 76 (by decide) (by decide)), h12.fr (fun j _ => by rw [r 66 (by decide) (by decide) (by decide) (by decide) (by decide) (by decide)]) (fun b b1 b2 => r b (by omega) (by omega) (by omega) (by omega) (by omega) (by omega)) (fun b b1 b2 => r b (by omega) (by omega) (by omega) (by omega) (by omega) (by omega)) (r3 86 (by decide) (by decide)) (r3 87 (by decide) (by decide)), ?_⟩
  · unfold FaultOk at *
    rw [r 48 (by decide) (by decide) (by decide) (by decide) (by decide) (by decide), r3 2 (by decide) (by decide), r3 3 (by decide) (by decide)]; exact h9
  · unfold LexOk at *
    rw [r2 50 (by decide)]; exact h13
theorem NOk_up {N : Nat → Nat} {k v : Nat} (hO : TOk T) (hk : 4 ≤ k) (h : NOk T N) : NOk T (upN N k v) := by
  intro p hp
  have := hO.2.2.2.1
  unfold upN
  rw [if_neg (by omega)]
  exact h p hp
theorem c_hour (h : Inv T q st a u I L) : ∃ r I1 L1 I2 st' a' u', fX11_hour I L = some (r, I1, L1) ∧ fX12_hour I1 = some (r, I2) ∧ Inv T q st' a' u' I2 L1 := by
  obtain ⟨r, I1, L1, I2, st', a', u', e1, e2, hA, f, k⟩ := q_hour h.2.2.2.2.1
  exact ⟨r, I1, L1, I2, st', a', u', e1, e2, h.act hA f (k (NOk T) (fun N k v hk hN => NOk_up h.1 hk hN) h.2.2.2.2.2.1)⟩
theorem c_ecl (h : Inv T q st a u I L) : ∃ r I1 L1 I2 st' a' u', fX11_eclipse I L = some (r, I1, L1) ∧ fX12_eclipse I1 = some (r, I2) ∧ Inv T q st' a' u' I2 L1 := by
  obtain ⟨r, I1, L1, I2, st', a', u', e1, e2, hA, f, k⟩ := q_ecl h.2.2.2.2.1
  exact ⟨r, I1, L1, I2, st', a', u', e1, e2, h.act hA f (k (NOk T) (fun N k v hk hN => NOk_up h.1 hk hN) h.2.2.2.2.2.1)⟩
theorem c_undo (h : Inv T q st a u I L) : ∃ r I1 I2 a' u', fX11_undo I L = some (r, I1) ∧ fX12_undo I1 = some (r, I2) ∧ Inv T q st a' u' I2 L := by
  obtain ⟨r, I1, I2, a', u', e1, e2, hA, f, k⟩ := q_undo h.2.2.2.2.1
  exact ⟨r, I1, I2, a', u', e1, e2, h.act hA f (by rw [k]; exact h.2.2.2.2.2.1)⟩
theorem c_redo (h : Inv T q st a u I L) : ∃ r I1 I2 a' u', fX11_redo I L = some (r, I1) ∧ fX12_redo I1 = some (r, I2) ∧ Inv T q st a' u' I2 L := by
  obtain ⟨r, I1, I2, a', u', e1, e2, hA, f, k⟩ := q_redo h.2.2.2.2.1
  exact ⟨r, I1, I2, a', u', e1, e2, h.act hA f (by rw [k]; exact h.2.2.2.2.2.1)⟩
end C4
