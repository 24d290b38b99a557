def ActsAt (st : Nat → Nat → Nat) (a u : Nat) (I : HI) (L : HL) : Prop := XKeep st a u I L ∧ MKeep st a u I ∧ XNow I (st a) ∧ MNow I (st a)
/-- what an act leaves as it was -/
def FrA (I I2 : HI) (L L2 : HL) : Prop := (∀ k, k ≠ 52 → k ≠ 53 → k ≠ 54 → k ≠ 99 → k ≠ 102 → k ≠ 73 → I2 k = I k) ∧ (∀ j, j ≠ 73 → j ≠ 74 → I2 73 j = I 73 j) ∧ ∀ k, k ≠ 55 → L2 k = L k
theorem XNow.of {I J : HI} {N : Nat → Nat} (h : XNow I N) (e1 : J 52 = I 52) (e2 : J 53 = I 53) : XNow J N := by
  unfold XNow at h ⊢
  rw [e1, e2]
  exact h
theorem nxt_last {st : Nat → Nat → Nat} {a : Nat} {N : Nat → Nat} (h : a ≤ 40) : nxt st a N (anx a) = N := by
  unfold nxt anx
  by_cases h40 : a = 40
  · simp [h40]
  · simp [h40]
    intro z; omega
/-- one act, told to both: the class's now is N already; the reference keeps its now, then puts N -/
theorem act_pair {st : Nat → Nat → Nat} {a u : Nat} {I Ia : HI} {L : HL} {N : Nat → Nat} (hA : ActsAt st a u I L) (hN : NRng N) (hx : XNow Ia N) (hf : ∀ k, k ≠ 52 → k ≠ 53 → Ia k = I k) : ∃ (I1 : HI) (L1 : HL) (Im : HI), fX4_packed Ia = some (lN (pk N)) ∧ fX0_add (lN (pk N)) Ia L = some (I1, L1) ∧ (I1 52 = Ia 52) ∧ (I1 99 = I 99) ∧ (I1 73 = I 73) ∧ fX12_act I1 = some Im ∧ Im 99 = I 99 ∧ Im 52 = Ia 52 ∧ (∀ I2 : HI, (∀ k, k ≠ 99 → I2 k = Im k) → MNow I2 N → ActsAt (nxt st a N) (anx a) 0 I2 L1 ∧ FrA I I2 L L1) := by
  obtain ⟨⟨k0, k1, k2, k3⟩, hM, hX, hMn⟩ := hA
  have hK : XKeep st a u Ia L := ⟨k0, by rw [hf 54 (by decide) (by decide)]; exact k1, by rw [hf 54 (by decide) (by decide)]; exact k2, k3⟩
  obtain ⟨I1, L1, e1, e2, e3, e4⟩ := x_act hK hN
  have r73 : I1 73 = I 73 := by rw [e3 73 (by decide), hf 73 (by decide) (by decide)]
  have r99 : I1 99 = I 99 := by rw [e3 99 (by decide), hf 99 (by decide) (by decide)]
  have r102 : I1 102 = I 102 := by rw [e3 102 (by decide), hf 102 (by decide) (by decide)]
  have hM1 : MKeep st a u I1 := by
    unfold MKeep at hM ⊢
    rw [r73, r102]
    exact hM
  have hMn1 : MNow I1 (st a) := by
    unfold MNow at hMn ⊢
    rw [r99]
    exact hMn
  obtain ⟨Im, f1, f2, f3, f4, f5⟩ := m_act2 N k0 hM1 hMn1
  refine ⟨I1, L1, Im, x_packed hx hN, e1, e3 52 (by decide), r99, r73, f1, by rw [f4 99 (by decide) (by decide), r99], by rw [f4 52 (by decide) (by decide), e3 52 (by decide)], fun I2 g1 g2 => ⟨⟨?_, ?_, ?_, ?_⟩, ?_, ?_, e4⟩⟩
  · obtain ⟨q0, q1, q2, q3⟩ := e2
    refine ⟨q0, ?_, ?_, q3⟩
    · rw [g1 54 (by decide), f4 54 (by decide) (by decide)]; exact q1
    · rw [g1 54 (by decide), f4 54 (by decide) (by decide)]; exact q2
  · unfold MKeep at f2 ⊢
    rw [g1 73 (by decide), g1 102 (by decide)]
    exact f2
  · rw [nxt_last (by omega)]
    refine hx.of ?_ ?_
    · rw [g1 52 (by decide), f4 52 (by decide) (by decide), e3 52 (by decide)]
    · rw [g1 53 (by decide), f4 53 (by decide) (by decide), e3 53 (by decide)]
  · rw [nxt_last (by omega)]; exact g2
  · intro k c1 c2 c3 c4 c5 c6
    rw [g1 k c4, f4 k c5 c6, e3 k c3, hf k c1 c2]
  · intro j c1 c2
    rw [g1 73 (by decide), f5 j c1 c2, r73]
def upN (N : Nat → Nat) (k v : Nat) : Nat → Nat := fun j => if j = k then v else N j
theorem p_hour {st : Nat → Nat → Nat} {a u : Nat} {I : HI} {L : HL} (h : ActsAt st a u I L) : ∃ (r : Int32) (I1 : HI) (L1 : HL) (I2 : HI) (st' : Nat → Nat → Nat) (a' u' : Nat), fX11_hour I L = some (r, I1, L1) ∧ fX12_hour I1 = some (r, I2) ∧ ActsAt st' a' u' I2 L1 ∧ FrA I I2 L L1 := by
  have hA := h
  obtain ⟨⟨k0, k1, k2, k3⟩, hM, hX, hMn⟩ := h
  have hR : NRng (st a) := (k3 a (by omega)).2
  obtain ⟨n0, n1, n2, n3, n4, n5, n6, n7, n8⟩ := hR
  have h5 : I 52 5 = nI (st a 8) := hX.2.2.2.2.2
  by_cases hq : st a 8 = 2000
  · refine ⟨-1, I, L, I, st, a, u, ?_, ?_, hA, ⟨fun _ _ _ _ _ _ _ => rfl, fun _ _ _ => rfl, fun _ _ => rfl⟩⟩
    · unfold fX11_hour
      rw [h5, hq, if_neg (by decide)]
    · unfold fX12_hour
      rw [if_pos (by decide), if_pos (by rw [show (8 : Int32).toNatClampNeg = 8 from rfl, hMn 8 (by decide), hq]; rfl)]
  · have hN : NRng (upN (upN (st a) 8 (st a 8 + 1)) 4 0) := by
      refine ⟨?_, ?_, ?_, ?_, ?_, ?_, ?_, ?_, ?_⟩ <;> simp [upN] <;> omega
    have hxa : XNow (up2 (up2 I 52 5 (nI (st a 8 + 1))) 52 1 0) (upN (upN (st a) 8 (st a 8 + 1)) 4 0) := by
      obtain ⟨x0, x1, x2, x3, x4, x5⟩ := hX
      refine ⟨fun i hi => ?_, ?_, ?_, ?_, ?_, ?_⟩
      · simp [up2_at, upN, show i ≠ 4 by omega, show i ≠ 8 by omega]; exact x0 i hi
      · simp [up2_at, upN]; rfl
      · simp [up2_at, upN]; exact x2
      · simp [up2_at, upN]; exact x3
      · simp [up2_at, upN]; exact x4
      · simp [up2_at, upN]
    obtain ⟨I1, L1, Im, p1, p2, p3, p4, p5, p6, p7, p8, p9⟩ := act_pair hA hN hxa (fun k c1 c2 => by rw [up2_off _ _ _ c1, up2_off _ _ _ c1])
    have hr : I1 52 5 = nI (st a 8 + 1) := by rw [p3]; simp [up2_at]
    obtain ⟨q1, q2⟩ := p9 (up2 (up2 Im 99 8 (nI (st a 8 + 1))) 99 4 0) (fun k hk => by rw [up2_off _ _ _ hk, up2_off _ _ _ hk]) (fun k hk => by
      by_cases c4 : k = 4
      · subst c4; simp [up2_at, upN]; rfl
      · by_cases c8 : k = 8
        · subst c8; simp [up2_at, upN]
        · simp [up2_at, upN, c4, c8]; rw [p7]; exact hMn k hk)
    refine ⟨nI (st a 8 + 1), I1, L1, up2 (up2 Im 99 8 (nI (st a 8 + 1))) 99 4 0, _, _, _, ?_, ?_, q1, q2⟩
    · unfold fX11_hour
      rw [h5, if_pos (by rw [fa_lit 2000]; exact nI_lt (by omega) (by omega)), nI_1]
      dsimp only
      rw [p1]
      simp only [Option.bind_some]
      rw [p2]
      simp only [Option.bind_some]
      rw [hr]
    · have e8 : I1 99 8 = nI (st a 8) := by rw [p4]; exact hMn 8 (by decide)
      unfold fX12_hour
      rw [if_pos (by decide), show (8 : Int32).toNatClampNeg = 8 from rfl, e8, if_neg (by rw [fa_lit 2000]; exact fun z => hq ((nI_eq (by omega) (by omega)).mp z)), p6]
      simp only [Option.bind_some]
      rw [if_pos (by decide), if_pos (by decide), show (4 : Int32).toNatClampNeg = 4 from rfl]
      have e9 : Im 99 8 = nI (st a 8) := by rw [p7]; exact hMn 8 (by decide)
      rw [e9, nI_1, if_pos (by decide), if_pos (by decide)]
      simp [up2_at]
theorem i2b_nI {n : Nat} (h : n < 2) : i2b (nI n) = some (decide (n = 1)) := by
  rcases (show n = 0 ∨ n = 1 by omega) with rfl | rfl <;> rfl
theorem p_ecl {st : Nat → Nat → Nat} {a u : Nat} {I : HI} {L : HL} (h : ActsAt st a u I L) : ∃ (r : Bool) (I1 : HI) (L1 : HL) (I2 : HI) (st' : Nat → Nat → Nat) (a' u' : Nat), fX11_eclipse I L = some (r, I1, L1) ∧ fX12_eclipse I1 = some (r, I2) ∧ ActsAt st' a' u' I2 L1 ∧ FrA I I2 L L1 := by
  have hA := h
  obtain ⟨⟨k0, k1, k2, k3⟩, hM, hX, hMn⟩ := h
  have hR : NRng (st a) := (k3 a (by omega)).2
  obtain ⟨n0, n1, n2, n3, n4, n5, n6, n7, n8⟩ := hR
  have h4 : I 52 4 = nI (st a 7) := hX.2.2.2.2.1
  have hN : NRng (upN (st a) 7 (1 - st a 7)) := by
    refine ⟨?_, ?_, ?_, ?_, ?_, ?_, ?_, ?_, ?_⟩ <;> simp [upN] <;> omega
  have hxa : XNow (up2 I 52 4 (nI (1 - st a 7))) (upN (st a) 7 (1 - st a 7)) := by
    obtain ⟨x0, x1, x2, x3, x4, x5⟩ := hX
    refine ⟨fun i hi => ?_, ?_, ?_, ?_, ?_, ?_⟩
    · simp [up2_at, upN, show i ≠ 7 by omega]; exact x0 i hi
    · simp [up2_at, upN]; exact x1
    · simp [up2_at, upN]; exact x2
    · simp [up2_at, upN]; exact x3
    · simp [up2_at, upN]
    · simp [up2_at, upN]; exact x5
  obtain ⟨I1, L1, Im, p1, p2, p3, p4, p5, p6, p7, p8, p9⟩ := act_pair hA hN hxa (fun k c1 c2 => by rw [up2_off _ _ _ c1])
  have hr : I1 52 4 = nI (1 - st a 7) := by rw [p3]; simp [up2_at]
  obtain ⟨q1, q2⟩ := p9 (up2 Im 99 7 (nI (1 - st a 7))) (fun k hk => by rw [up2_off _ _ _ hk]) (fun k hk => by
    by_cases c7 : k = 7
    · subst c7; simp [up2_at, upN]
    · simp [up2_at, upN, c7]; rw [p7]; exact hMn k hk)
  refine ⟨decide (1 - st a 7 = 1), I1, L1, _, _, _, _, ?_, ?_, q1, q2⟩
  · unfold fX11_eclipse
    have e : (if I 52 4 = 0 then some true else some false) = some (decide (1 - st a 7 = 1)) := by
      rw [h4]
      rcases (show st a 7 = 0 ∨ st a 7 = 1 by omega) with z | z <;> rw [z] <;> rfl
    have eb : b2i (decide (1 - st a 7 = 1)) = nI (1 - st a 7) := by
      rcases (show st a 7 = 0 ∨ st a 7 = 1 by omega) with z | z <;> rw [z] <;> rfl
    rw [e]
    simp only [Option.bind_some]
    rw [eb, p1]
    simp only [Option.bind_some]
    rw [p2]
    simp only [Option.bind_some]
    rw [hr, i2b_nI (by omega)]
    rfl
  · have e9 : Im 99 7 = nI (st a 7) := by rw [p7]; exact hMn 7 (by decide)
    have e1 : (1 : Int32) - nI (st a 7) = nI (1 - st a 7) := by
      rcases (show st a 7 = 0 ∨ st a 7 = 1 by omega) with z | z <;> rw [z] <;> rfl
    unfold fX12_eclipse
    rw [p6]
    simp only [Option.bind_some]
    rw [if_pos (by decide), if_pos (by decide), show (7 : Int32).toNatClampNeg = 7 from rfl, e9, e1, if_pos (by decide)]
    simp only [up2_at, and_self, if_true]
    rcases (show st a 7 = 0 ∨ st a 7 = 1 by omega) with z | z
    · rw [z, if_pos (by decide)]; rfl
    · rw [z, if_neg (by decide)]; rfl
