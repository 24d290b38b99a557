/-! hours; a lamp's line -/
section LN3
variable {B : Nat → Nat} {n p tl : Nat} {T T' : Nat → Nat → Nat} {N : Nat → Nat → List Nat} {sh cl : Bool} {I I' I2 : HI} {L L' L2 : HL} {J J' J2 J0 : HI} {M M' M2 M0 : HL}
theorem RT2.rowJ {x i : Nat} {v : Int32} (h : RT2 B n p I L J M) (h1 : x ≠ 73) (h2 : x ≠ 74) : RT2 B n p I L (up2 J x i v) M := by
  obtain ⟨a1, a2, a3, a4, a5, a6, a7, a8, a9⟩ := h
  refine ⟨a1, a2, a3, a4, a5, a6.fr (by rw [upRow _ _ (fun e => h1 e.symm)]) (upRow _ _ (fun e => h2 e.symm)), ?_, ?_, ?_⟩
  · unfold MT at *
    rw [upRow _ _ (fun e => h1 e.symm)]
    exact a7
  · rw [upRow _ _ (fun e => h1 e.symm)]; exact a8
  · rw [upRow _ _ (fun e => h1 e.symm)]; exact a9
theorem RT2.fldI {j : Nat} {v : Int32} (h : RT2 B n p I L J M) (h1 : j ≠ 8) (h2 : j ≠ 9) : RT2 B n p (up2 I 48 j v) L J M := by
  obtain ⟨a1, a2, a3, a4, a5, a6⟩ := h
  refine ⟨a1, a2.fr (upRow _ _ (by decide)) (by rw [upRow _ _ (by decide)]) rfl, ?_, ?_, ?_, a6⟩
  · unfold XT at *
    rw [upRow _ _ (show (49 : Nat) ≠ 48 by decide)]
    exact a3
  · rw [up2_at, if_neg (by omega)]; exact a4
  · rw [up2_at, if_neg (by omega)]; exact a5
theorem x_take_48 {I1 : HI} {L1 : HL} (hb : fX6_take (7 : Int32) I L = some (true, I1, L1)) (h : RT2 B n p I L J M) (_ : True) : ∀ j, I1 48 j = I 48 j := by
  obtain ⟨h1, h2, h3, _⟩ := h
  by_cases c : kd B n p = 7
  · obtain ⟨I', L', a1, a2, a3⟩ := x_take h2 h1 h3 c (by omega)
    rw [show nI 7 = (7 : Int32) from rfl, hb] at a1
    cases a1
    intro j
    rw [a3.1 48 (by decide)]
  · have := x_take_no h2 h1 h3 c (by omega)
    rw [show nI 7 = (7 : Int32) from rfl, hb] at this
    cases this
set_option maxHeartbeats 4000000 in
theorem s_hours (h : RT2 B n p I L J M) {w r d : Nat} {v : Int64} (hw : w < 19) (hv : v = lN (wd8 (wL w))) (hr : 83 ≤ r ∧ r ≤ 90) : (∃ a b q Ja Ma Jb Mb I' L', a < 24 ∧ b ≤ 24 ∧ p < q ∧ fX6_takeHours (nI w) I L = some (true, I', L') ∧ fX12_told v (0 : Int32) (23 : Int32) J M = some (nI a, Ja, Ma) ∧ fX12_told (29807 : Int64) (nI a + 1) (24 : Int32) (up2 Ja r d (nI a)) Ma = some (nI b, Jb, Mb) ∧ RT2 B n q I' L' Jb Mb ∧ I' 48 5 = nI a ∧ I' 48 3 = nI b ∧ I' 48 4 = I 48 4 ∧ XA2 I I' L L' ∧ (∀ x, x ≠ 73 → x ≠ r → Jb x = J x) ∧ (∀ i, Jb r i = if i = d then nI a else J r i) ∧ (∀ j, j ≤ 1 ∨ j = 5 ∨ 9 ≤ j → Jb 73 j = J 73 j) ∧ (∀ x, x ≠ 73 → Mb x = M x) ∧ (∀ j, j ≠ 9 → Mb 73 j = M 73 j)) ∨ (∃ x1 x2 Ja Ma Jb Mb I' L', fX6_takeHours (nI w) I L = some (false, I', L') ∧ fX12_told v (0 : Int32) (23 : Int32) J M = some (x1, Ja, Ma) ∧ fX12_told (29807 : Int64) (x1 + 1) (24 : Int32) (up2 Ja r d x1) Ma = some (x2, Jb, Mb) ∧ XA2 I I' L L' ∧ FMr J Jb M Mb ∧ Bd2 I' Jb) := by
  have s1 := s_told h (a := 0) (b := 23) hw hv (by decide) (by decide)
  rw [show nI 0 = (0 : Int32) from rfl, show nI 23 = (23 : Int32) from rfl] at s1
  unfold fX6_takeHours
  rcases s1 with ⟨k1, n1, I1, L1, I3, L3, J3, M3, a1, a2, a3, r3, a5, a6, a7, a8, a9⟩ | ⟨u, J3, M3, a3, a7, hh⟩
  · rw [a1]
    simp only [Option.bind_some]
    rw [if_neg (show ¬ b2i true = 0 by decide), a2]
    simp only [Option.bind_some]
    rw [if_neg (show ¬ b2i true = 0 by decide), a5]
    have v24 : vl B n (nx B n p) ≤ 23 := n1.2.2
    generalize hva : vl B n (nx B n p) = va at *
    have r4 : RT2 B n (nx B n (nx B n p)) (up2 I3 48 5 (nI va)) L3 (up2 J3 r d (nI va)) M3 := (r3.fldI (by decide) (by decide)).rowJ (by omega) (by omega)
    have s2 := s_told r4 (w := 7) (v := 29807) (a := va + 1) (b := 24) (by decide) (by decide) (by omega) (by decide)
    rw [show nI 7 = (7 : Int32) from rfl, show nI 24 = (24 : Int32) from rfl, ← nI_1] at s2
    have fxa : XA2 I3 (up2 I3 48 5 (nI va)) L3 L3 := ⟨fun x h1 _ => upRow _ _ h1, fun j hj => by rw [up2_at, if_neg (by omega)], by rw [upRow _ _ (by decide)], fun _ _ => rfl⟩
    have p1 := nx_lt (B := B) h.1 (by omega)
    have p2 := (nx_le (B := B) (nx_le (B := B) h.1).2).1
    rcases s2 with ⟨k2, n2, I4, L4, I5, L5, J5, M5, b1, b2, b3, r5, b5, b6, b7, b8, b9⟩ | ⟨u, J5, M5, b3, b7, hh⟩
    · left
      rw [b1]
      simp only [Option.bind_some]
      rw [if_neg (show ¬ b2i true = 0 by decide), b8 5, up2_eq, b2]
      simp only [Option.bind_some]
      rw [if_neg (show ¬ b2i true = 0 by decide)]
      have p3 := (nx_le (B := B) r3.1).1
      have p4 := (nx_le (B := B) (nx_le (B := B) r3.1).2).1
      refine ⟨va, _, _, J3, M3, J5, M5, I5, L5, by omega, n2.2.2, ?_, rfl, a3, b3, r5, ?_, b5, ?_, (XA2.ofN a6).trans (fxa.trans (XA2.ofN b6)), ?_, ?_, ?_, ?_, ?_⟩
      · omega
      · rw [b6.1 5 (by decide), up2_eq]
      · rw [b6.1 4 (by decide), up2_at, if_neg (by decide), a6.1 4 (by decide)]
      · intro x h1 h2
        rw [b7.1 x h1, upRow _ _ h2, a7.1 x h1]
      · intro i
        rw [b7.1 r (by omega), up2_at, a7.1 r (by omega)]
        by_cases e : i = d
        · rw [if_pos ⟨rfl, e⟩, if_pos e]
        · rw [if_neg (fun g => e g.2), if_neg e]
      · intro j hj
        rw [b7.2.1 j hj, upRow _ _ (by omega), a7.2.1 j hj]
      · intro x hx; rw [b7.2.2.1 x hx, a7.2.2.1 x hx]
      · intro j hj; rw [b7.2.2.2 j hj, a7.2.2.2 j hj]
    · right
      have fm : FMr J J5 M M5 := (FMr.of a7).trans ((FMr.row (a := r) (by unfold wkM; omega) (by omega)).trans (FMr.of b7))
      rcases hh with ⟨I4, b1, b2, b4⟩ | ⟨I4, L4, I5, b1, b2, b4, b5⟩
      · rw [b1]
        simp only [Option.bind_some]
        rw [if_pos (show b2i false = 0 by decide)]
        exact ⟨_, _, _, _, _, _, _, _, rfl, a3, b3, (XA2.ofN a6).trans (fxa.trans b2), fm, b4⟩
      · have e5 : I4 48 5 = nI va := by
          have := x_take_48 b1 r4 trivial
          rw [this 5, up2_eq]
        rw [b1]
        simp only [Option.bind_some]
        rw [if_neg (show ¬ b2i true = 0 by decide), e5, b2]
        simp only [Option.bind_some]
        rw [if_pos (show b2i false = 0 by decide)]
        exact ⟨_, _, _, _, _, _, _, _, rfl, a3, b3, (XA2.ofN a6).trans (fxa.trans b4), fm, b5⟩
  · right
    have hbm : ∀ I4, Bd2 I4 J3 → fX12_told (29807 : Int64) (u + 1) (24 : Int32) (up2 J3 r d u) M3 = some (0, up2 J3 r d u, M3) := fun I4 g => m_told_bad (g.m.up (by omega)) _ _ _
    rcases hh with ⟨I4, b1, b2, b4⟩ | ⟨I4, L4, I5, b1, b2, b4, b5⟩
    · rw [b1]
      simp only [Option.bind_some]
      rw [if_pos (show b2i false = 0 by decide)]
      exact ⟨_, _, _, _, _, _, _, _, rfl, a3, hbm _ b4, b2, (FMr.of a7).trans (FMr.row (by unfold wkM; omega) (by omega)), b4.up (by omega)⟩
    · rw [b1]
      simp only [Option.bind_some]
      rw [if_neg (show ¬ b2i true = 0 by decide), b2]
      simp only [Option.bind_some]
      rw [if_pos (show b2i false = 0 by decide)]
      exact ⟨_, _, _, _, _, _, _, _, rfl, a3, hbm _ b5, b4, (FMr.of a7).trans (FMr.row (by unfold wkM; omega) (by omega)), b5.up (by omega)⟩
end LN3
