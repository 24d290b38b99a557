/-! shut, out, go -/
section C5
variable {T : Nat → Nat → Nat} {q : Nat} {st : Nat → Nat → Nat} {a u : Nat} {I : HI} {L : HL}
def FrB (I I2 : HI) (L L2 : HL) : Prop := (∀ k, k ≠ 52 → k ≠ 53 → k ≠ 54 → k ≠ 99 → k ≠ 102 → k ≠ 73 → k ≠ 81 → k ≠ 82 → I2 k = I k) ∧ (∀ j, j ≠ 73 → j ≠ 74 → ¬ (64 ≤ j ∧ j ≤ 69) → I2 73 j = I 73 j) ∧ ∀ k, k ≠ 55 → k ≠ 100 → k ≠ 101 → L2 k = L k
theorem Inv.actB {st' : Nat → Nat → Nat} {a' u' : Nat} {I2 : HI} {L2 : HL} (h : Inv T q st a u I L) (hA : ActsAt st' a' u' I2 L2) (f : FrB I I2 L L2) (hk : ∀ i, i ≤ a' + u' → NOk T (st' i)) : Inv T q st' a' u' I2 L2 := by
  obtain ⟨h1, h2, h3, h4, h5, h6, h7, h8, h9, h10, h11, h12, h13⟩ := h
  have r : ∀ b, b ≠ 52 → b ≠ 53 → b ≠ 54 → b ≠ 99 → b ≠ 102 → b ≠ 73 → b ≠ 81 → b ≠ 82 → I2 b = I b := f.1
  have r3 := f.2.1
  have r2 := f.2.2
  refine ⟨h1, h2, h3.fr (fun b b1 b2 => r b (by rcases h2 with h | h <;> omega) (by rcases h2 with h | h <;> omega) (by rcases h2 with h | h <;> omega) (by rcases h2 with h | h <;> omega) (by rcases h2 with h | h <;> omega) (by rcases h2 with h | h <;> omega) (by rcases h2 with h | h <;> omega) (by rcases h2 with h | h <;> omega)) ⟨r2 q (by rcases h2 with h | h <;> omega) (by rcases h2 with h | h <;> omega) (by rcases h2 with h | h <;> omega), r2 (q + 22) (by rcases h2 with h | h <;> omega) (by rcases h2 with h | h <;> omega) (by rcases h2 with h | h <;> omega)⟩, h4.fr (fun b hb => r b (by omega) (by omega) (by omega) (by omega) (by omega) (by omega) (by omega) (by omega)) (fun j hj => r3 j (by omega) (by omega) (by omega)) (r2 73 (by decide) (by decide) (by decide)), hA, hk, h7.fr (r 57 (by decide) (by decide) (by decide) (by decide) (by decide) (by decide) (by decide) (by decide)) (r 59 (by decide) (by decide) (by decide) (by decide) (by decide) (by decide) (by decide) (by decide)) (r2 57 (by decide) (by decide) (by decide)) (r2 58 (by decide) (by decide) (by decide)), h8.fr (by rw [r 0 (by decide) (by decide) (by decide) (by decide) (by decide) (by decide) (by decide) (by decide)]) (r 1 (by decide) (by decide) (by decide) (by decide) (by decide) (by decide) (by decide) (by decide)) (r3 1 (by decide) (by decide) (by decide)) (r 74 (by decide) (by decide) (by decide) (by decide) (by decide) (by decide) (by decide) (by decide)), ?_, h10.fr (by rw [r 0 (by decide) (by decide) (by decide) (by decide) (by decide) (by decide) (by decide) (by decide)]) (r 114 (by decide) (by decide) (by decide) (by decide) (by decide) (by decide) (by decide) (by decide)) (r 115 (by decide) (by decide) (by decide) (by decide) (by decide) (by decide) (by decide) (by decide)) (r2 56 (by decide) (by decide) (by decide)), h11.fr (by rw [r 61 (by decide) (by decide) (by decide) (by decide) (by decide) (by decide) (by decide) (by decide)]) (r 62 (by decide) (by decide) (by decide) (by decide) (by decide) (by decide) (by decide) (by decide)) (r 103 (by decide) (by decide) (by decide) (by decide) (by decide) (by decide) (by decide) (by decide)) (r3 76 (by decide) (by decide) (by decide)), h12.fr (fun j _ => by rw [r 66 (by decide) (by decide) (by decide) (by decide) (by decide) (by decide) (by decide) (by decide)]) (fun b b1 b2 => r b (by omega) (by omega) (by omega) (by omega) (by omega) (by omega) (by omega) (by omega)) (fun b b1 b2 => r b (by omega) (by omega) (by omega) (by omega) (by omega) (by omega) (by omega) (by omega)) (r3 86 (by decide) (by decide) (by decide)) (r3 87 (by decide) (by decide) (by decide)), ?_⟩
  · unfold FaultOk at *
    rw [r 48 (by decide) (by decide) (by decide) (by decide) (by decide) (by decide) (by decide) (by decide), r3 2 (by decide) (by decide) (by decide), r3 3 (by decide) (by decide) (by decide)]; exact h9
  · unfold LexOk at *
    rw [r2 50 (by decide) (by decide) (by decide)]; exact h13
/-- one act; the reference may have asked for something in between -/
theorem act_pair2 {Ia : HI} {N : Nat → Nat} (hA : ActsAt st a u I L) (hN : NRng N) (hx : XNow Ia N) (hf : ∀ k, k ≠ 52 → k ≠ 53 → Ia k = I k) : ∃ (I1 : HI) (L1 : HL), fX4_packed Ia = some (lN (pk N)) ∧ fX0_add (lN (pk N)) Ia L = some (I1, L1) ∧ (∀ k, k ≠ 54 → I1 k = Ia k) ∧ (∀ k, k ≠ 55 → L1 k = L k) ∧ ∀ (J : HI) (M : HL), FM I1 J L1 M → ∃ Jm, fX12_act J = some Jm ∧ (∀ k, k ≠ 102 → k ≠ 73 → Jm k = J k) ∧ (∀ j, j ≠ 73 → j ≠ 74 → Jm 73 j = J 73 j) ∧ ∀ J2 : HI, (∀ k, k ≠ 99 → J2 k = Jm k) → MNow J2 N → ActsAt (nxt st a N) (anx a) 0 J2 M ∧ FrB I J2 L M := by
  obtain ⟨⟨k0, k1, k2, k3⟩, hM, hX, hMn⟩ := hA
  have hK : XKeep st a u Ia L := ⟨k0, by rw [hf 54 (by decide) (by decide)]; exact k1, by rw [hf 54 (by decide) (by decide)]; exact k2, k3⟩
  obtain ⟨I1, L1, e1, e2, e3, e4⟩ := x_act hK hN
  refine ⟨I1, L1, x_packed hx hN, e1, e3, e4, fun J M fm => ?_⟩
  have r73 : I1 73 = I 73 := by rw [e3 73 (by decide), hf 73 (by decide) (by decide)]
  have r99 : J 99 = I 99 := by rw [fm.1 99 (by decide) (by decide) (by decide), e3 99 (by decide), hf 99 (by decide) (by decide)]
  have r102 : J 102 = I 102 := by rw [fm.1 102 (by decide) (by decide) (by decide), e3 102 (by decide), hf 102 (by decide) (by decide)]
  have hM1 : MKeep st a u J := by
    unfold MKeep at hM ⊢
    rw [fm.2.1 73 (by decide), fm.2.1 74 (by decide), r73, r102]
    exact hM
  have hMn1 : MNow J (st a) := by
    unfold MNow at hMn ⊢
    rw [r99]
    exact hMn
  obtain ⟨Jm, f1, f2, f3, f4, f5⟩ := m_act2 N k0 hM1 hMn1
  refine ⟨Jm, f1, f4, f5, fun J2 g1 g2 => ⟨⟨?_, ?_, ?_, ?_⟩, ?_, ?_, ?_⟩⟩
  · obtain ⟨q0, q1, q2, q3⟩ := e2
    have e54 : J2 54 = I1 54 := by rw [g1 54 (by decide), f4 54 (by decide) (by decide), fm.1 54 (by decide) (by decide) (by decide)]
    refine ⟨q0, ?_, ?_, ?_⟩
    · rw [e54]; exact q1
    · rw [e54]; exact q2
    · rw [fm.2.2 55 (by decide) (by decide)]; exact q3
  · unfold MKeep at f2 ⊢
    rw [g1 73 (by decide), g1 102 (by decide)]
    exact f2
  · rw [nxt_last (by omega)]
    refine hx.of ?_ ?_
    · rw [g1 52 (by decide), f4 52 (by decide) (by decide), fm.1 52 (by decide) (by decide) (by decide), e3 52 (by decide)]
    · rw [g1 53 (by decide), f4 53 (by decide) (by decide), fm.1 53 (by decide) (by decide) (by decide), e3 53 (by decide)]
  · rw [nxt_last (by omega)]; exact g2
  · intro k c1 c2 c3 c4 c5 c6 c7 c8
    rw [g1 k c4, f4 k c5 c6, fm.1 k c6 c7 c8, e3 k c3, hf k c1 c2]
  · intro j c1 c2 c3
    rw [g1 73 (by decide), f5 j c1 c2, fm.2.1 j c3, r73]
  · intro k c1 c2 c3
    rw [fm.2.2 k c2 c3, e4 k c1]
theorem xor_lt {n k b : Nat} (hn : n < 2 ^ b) (hk : k < b) : n ^^^ 2 ^ k < 2 ^ b := Nat.xor_lt_two_pow hn (Nat.pow_lt_pow_right (by decide) hk)
theorem or_lt {n k b : Nat} (hn : n < 2 ^ b) (hk : k < b) : n ||| 2 ^ k < 2 ^ b := Nat.or_lt_two_pow hn (Nat.pow_lt_pow_right (by decide) hk)
theorem c_shut (h : Inv T q st a u I L) (v : Int32) : ∃ r I1 L1 I2 st' a' u', fX11_shut q v I L = some (r, I1, L1) ∧ fX12_shut v I1 = some (r, I2) ∧ Inv T q st' a' u' I2 L1 := by
  have h8 := h.1.2.1
  have hR := h.rng
  have hX := h.xnow
  unfold fX11_shut fX12_shut fX12_isDoor
  rcases g_thing (t := q + 1) (j := 55) (J := I) h.2.2.1.2.2.2.2.1 h.2.2.2.1.2.2.1 (by omega) v with ⟨k, k1, k2, k3, k4⟩ | ⟨k1, k2⟩
  · have hx : st a 5 ^^^ 2 ^ k < 256 := xor_lt (b := 8) hR.2.2.2.2.2.1 (by omega)
    have hN : NRng (upN (st a) 5 (st a 5 ^^^ 2 ^ k)) := by
      obtain ⟨n0, n1, n2, n3, n4, n5, n6, n7, n8⟩ := hR
      refine ⟨?_, ?_, ?_, ?_, ?_, ?_, ?_, ?_, ?_⟩ <;> simp [upN] <;> omega
    have hxa : XNow (up2 I 52 2 (nI (st a 5 ^^^ 2 ^ k))) (upN (st a) 5 (st a 5 ^^^ 2 ^ k)) := by
      obtain ⟨x0, x1, x2, x3, x4, x5⟩ := hX
      refine ⟨fun i hi => ?_, ?_, ?_, ?_, ?_, ?_⟩
      · simp [up2_at, upN, show i ≠ 5 by omega]; exact x0 i hi
      · simp [up2_at, upN]; exact x1
      · simp [up2_at, upN]
      · simp [up2_at, upN]; exact x3
      · simp [up2_at, upN]; exact x4
      · simp [up2_at, upN]; exact x5
    obtain ⟨I1, L1, p1, p2, p3, p4, p5⟩ := act_pair2 h.2.2.2.2.1 hN hxa (fun k c1 c2 => upRow I _ c1)
    obtain ⟨Jm, j1, j2, j3, j4⟩ := p5 I1 L1 (FM.refl I1 L1)
    have e5 : Jm 99 5 = nI (st a 5) := by rw [j2 99 (by decide) (by decide), p3 99 (by decide), upRow I _ (by decide)]; exact h.mnow 5 (by decide)
    obtain ⟨q1, q2⟩ := j4 (up2 Jm 99 5 (nI (st a 5 ^^^ 2 ^ k))) (fun b hb => upRow Jm _ hb) (fun b hb => by
      by_cases c5 : b = 5
      · subst c5; simp [up2_at, upN]
      · rw [up2_at, if_neg (fun g => c5 g.2)]
        unfold upN
        rw [if_neg c5, j2 99 (by decide) (by decide), p3 99 (by decide), upRow I _ (by decide)]
        exact h.mnow b hb)
    refine ⟨if (st a 5 ^^^ 2 ^ k).testBit k then 1 else 0, I1, L1, up2 Jm 99 5 (nI (st a 5 ^^^ 2 ^ k)), _, _, _, ?_, ?_, h.actB q1 q2 (nxt_Q h.2.2.2.2.1.1.1 h.2.2.2.2.2.1 (NOk_up h.1 (by decide) h.nok))⟩
    · rw [k3, k2, hX.2.2.1, xorN (by omega)]
      simp only [b2i_eq0, Bool.true_eq_false, if_false, Option.bind_some, p1]
      rw [p2]
      simp only [Option.bind_some]
      rw [p3 52 (by decide), up2_at, if_pos ⟨rfl, rfl⟩, ubit (by omega)]
    · have e73 : I1 73 55 = I 73 55 := by rw [p3 73 (by decide), upRow I _ (by decide)]
      rw [e73, k4, k2, j1]
      simp only [b2i_eq0, Bool.true_eq_false, if_false, Option.bind_some, show (5 : Int32) = nI 5 from rfl, if_pos (inb_nI (show 5 < 10 by decide) (show 10 < 2 ^ 31 by decide)), clamp_nI (show 5 < 2 ^ 31 by decide), e5, xorN (show k < 31 by omega), up2_at, and_self, if_true]
      rw [sbit (by omega) (by omega)]
  · rw [k1]
    exact ⟨_, I, L, I, st, a, u, rfl, by rw [k2]; rfl, h⟩
theorem c_out (h : Inv T q st a u I L) (v : Int32) : ∃ r I1 L1 I2 st' a' u', fX11_out q v I L = some (r, I1, L1) ∧ fX12_out v I1 = some (r, I2) ∧ Inv T q st' a' u' I2 L1 := by
  have h8 := h.1.2.2.1
  have hR := h.rng
  have hX := h.xnow
  unfold fX11_out fX12_out fX12_isLamp
  rcases g_thing (t := q + 7) (j := 56) (J := I) h.2.2.1.2.2.2.2.2.2.1 h.2.2.2.1.2.2.2.1 (by omega) v with ⟨k, k1, k2, k3, k4⟩ | ⟨k1, k2⟩
  · have hx : st a 6 ^^^ 2 ^ k < 16 := xor_lt (b := 4) hR.2.2.2.2.2.2.1 (by omega)
    have hN : NRng (upN (st a) 6 (st a 6 ^^^ 2 ^ k)) := by
      obtain ⟨n0, n1, n2, n3, n4, n5, n6, n7, n8⟩ := hR
      refine ⟨?_, ?_, ?_, ?_, ?_, ?_, ?_, ?_, ?_⟩ <;> simp [upN] <;> omega
    have hxa : XNow (up2 I 52 3 (nI (st a 6 ^^^ 2 ^ k))) (upN (st a) 6 (st a 6 ^^^ 2 ^ k)) := by
      obtain ⟨x0, x1, x2, x3, x4, x5⟩ := hX
      refine ⟨fun i hi => ?_, ?_, ?_, ?_, ?_, ?_⟩
      · simp [up2_at, upN, show i ≠ 6 by omega]; exact x0 i hi
      · simp [up2_at, upN]; exact x1
      · simp [up2_at, upN]; exact x2
      · simp [up2_at, upN]
      · simp [up2_at, upN]; exact x4
      · simp [up2_at, upN]; exact x5
    obtain ⟨I1, L1, p1, p2, p3, p4, p5⟩ := act_pair2 h.2.2.2.2.1 hN hxa (fun k c1 c2 => upRow I _ c1)
    obtain ⟨Jm, j1, j2, j3, j4⟩ := p5 I1 L1 (FM.refl I1 L1)
    have e5 : Jm 99 6 = nI (st a 6) := by rw [j2 99 (by decide) (by decide), p3 99 (by decide), upRow I _ (by decide)]; exact h.mnow 6 (by decide)
    obtain ⟨q1, q2⟩ := j4 (up2 Jm 99 6 (nI (st a 6 ^^^ 2 ^ k))) (fun b hb => upRow Jm _ hb) (fun b hb => by
      by_cases c5 : b = 6
      · subst c5; simp [up2_at, upN]
      · rw [up2_at, if_neg (fun g => c5 g.2)]
        unfold upN
        rw [if_neg c5, j2 99 (by decide) (by decide), p3 99 (by decide), upRow I _ (by decide)]
        exact h.mnow b hb)
    refine ⟨if (st a 6 ^^^ 2 ^ k).testBit k then 1 else 0, I1, L1, up2 Jm 99 6 (nI (st a 6 ^^^ 2 ^ k)), _, _, _, ?_, ?_, h.actB q1 q2 (nxt_Q h.2.2.2.2.1.1.1 h.2.2.2.2.2.1 (NOk_up h.1 (by decide) h.nok))⟩
    · rw [k3, k2, hX.2.2.2.1, xorN (by omega)]
      simp only [b2i_eq0, Bool.true_eq_false, if_false, Option.bind_some, p1]
      rw [p2]
      simp only [Option.bind_some]
      rw [p3 52 (by decide), up2_at, if_pos ⟨rfl, rfl⟩, ubit (by omega)]
    · have e73 : I1 73 56 = I 73 56 := by rw [p3 73 (by decide), upRow I _ (by decide)]
      rw [e73, k4, k2, j1]
      simp only [b2i_eq0, Bool.true_eq_false, if_false, Option.bind_some, show (6 : Int32) = nI 6 from rfl, if_pos (inb_nI (show 6 < 10 by decide) (show 10 < 2 ^ 31 by decide)), clamp_nI (show 6 < 2 ^ 31 by decide), e5, xorN (show k < 31 by omega), up2_at, and_self, if_true]
      rw [sbit (by omega) (by omega)]
  · rw [k1]
    exact ⟨_, I, L, I, st, a, u, rfl, by rw [k2]; rfl, h⟩
end C5
