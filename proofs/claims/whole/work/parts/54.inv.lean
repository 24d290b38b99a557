/-! what holds between the calls -/
def wds : List Nat := [632645, 89, 755084, 146930, 52, 271592, 508078, 655, 394672, 12596, 542723566, 20186245, 3554980, 498, 1476, 14836, 273980692, 278194, 132741]
def NOk (T : Nat → Nat → Nat) (N : Nat → Nat) : Prop := ∀ p, p < tnP T → grd T (N p)
def SkyOk (T : Nat → Nat → Nat) (I : HI) (L : HL) : Prop := ∃ s S O B K, SkyAt T s S O B K I L ∧ s < 2 ^ 31 ∧ O < 2 ^ 31 ∧ B < 2 ^ 31
def BoxOk (T : Nat → Nat → Nat) (I : HI) (L : HL) : Prop := ∃ (bx : Nat → Nat → Nat) (m : Nat), m < 8 ∧ I 0 8 = nI m ∧ ∀ b, b < 3 → I 114 b = b2i (m.testBit b) ∧ (m.testBit b = true → L 56 b = lN (pk (bx b)) ∧ NRng (bx b) ∧ NOk T (bx b) ∧ ∀ k, k < 9 → I 115 (10 * b + k) = nI (bx b k))
def WayOk (I : HI) : Prop := ∃ n, n ≤ 48 ∧ I 61 2 = nI n ∧ I 73 76 = nI n ∧ ∀ i, i < n → I 62 i = I 103 i
def LookAt (T : Nat → Nat → Nat) (lk : Nat → Nat → Nat) (n t : Nat) (I : HI) : Prop := n ≤ 30 ∧ t ≤ 100000 ∧ I 66 0 = nI n ∧ I 73 86 = nI n ∧ I 66 1 = nI t ∧ I 73 87 = nI t ∧ (∀ i, i < n → lk 0 i < 24 ∧ grd T (lk 1 i) ∧ lk 2 i ≤ 100000 ∧ lk 3 i ≤ 100000 ∧ I 67 i = nI (lk 0 i) ∧ I 108 i = nI (lk 0 i) ∧ I 68 i = nI (lk 1 i) ∧ I 109 i = nI (lk 1 i) ∧ I 69 i = nI (lk 2 i) ∧ I 110 i = nI (lk 2 i) ∧ I 112 i = b2i (bt (I 66 8) i) ∧ (bt (I 66 9) i = false → I 111 i = -1) ∧ (bt (I 66 9) i = true → I 70 i = nI (lk 3 i) ∧ I 111 i = nI (lk 3 i))) ∧ ∀ i, n ≤ i → i < 32 → bt (I 66 8) i = false ∧ bt (I 66 9) i = false
def LookOk (T : Nat → Nat → Nat) (I : HI) : Prop := ∃ lk n t, LookAt T lk n t I
def FaultOk (I : HI) : Prop := I 48 8 = I 73 2 ∧ I 48 9 = I 73 3
def LexOk (L : HL) : Prop := ∀ i, i < 19 → L 50 i = lN (wds.getD i 0)
def Inv (T : Nat → Nat → Nat) (q : Nat) (st : Nat → Nat → Nat) (a u : Nat) (I : HI) (L : HL) : Prop := TOk T ∧ isQ2 q ∧ XTown T q I L ∧ MTown T I L ∧ ActsAt st a u I L ∧ (∀ i, i ≤ a + u → NOk T (st i)) ∧ SkyOk T I L ∧ TapeOk I ∧ FaultOk I ∧ BoxOk T I L ∧ WayOk I ∧ LookOk T I ∧ LexOk L
theorem ActsAt.fr {st : Nat → Nat → Nat} {a u : Nat} {I J : HI} {L M : HL} (h : ActsAt st a u I L) (e52 : J 52 = I 52) (e53 : J 53 = I 53) (e54 : J 54 = I 54) (e99 : J 99 = I 99) (e102 : J 102 = I 102) (e73 : J 73 73 = I 73 73) (e74 : J 73 74 = I 73 74) (eL : M 55 = L 55) : ActsAt st a u J M := by
  unfold ActsAt XKeep MKeep XNow MNow at *
  rw [e52, e53, e54, e99, e102, e73, e74, eL]
  exact h
theorem SkyOk.fr {T : Nat → Nat → Nat} {I J : HI} {L M : HL} (h : SkyOk T I L) (e57 : J 57 = I 57) (e59 : J 59 = I 59) (m57 : M 57 = L 57) (m58 : M 58 = L 58) : SkyOk T J M := by
  unfold SkyOk SkyAt SkyN at *
  rw [e57, e59, m57, m58]
  exact h
theorem TapeOk.fr {I J : HI} (h : TapeOk I) (e0 : J 0 1 = I 0 1) (e1 : J 1 = I 1) (e73 : J 73 1 = I 73 1) (e74 : J 74 = I 74) : TapeOk J := by
  unfold TapeOk at *
  rw [e0, e1, e73, e74]
  exact h
theorem BoxOk.fr {T : Nat → Nat → Nat} {I J : HI} {L M : HL} (h : BoxOk T I L) (e0 : J 0 8 = I 0 8) (e1 : J 114 = I 114) (e2 : J 115 = I 115) (eL : M 56 = L 56) : BoxOk T J M := by
  unfold BoxOk at *
  rw [e0, e1, e2, eL]
  exact h
theorem WayOk.fr {I J : HI} (h : WayOk I) (e0 : J 61 2 = I 61 2) (e1 : J 62 = I 62) (e2 : J 103 = I 103) (e3 : J 73 76 = I 73 76) : WayOk J := by
  unfold WayOk at *
  rw [e0, e1, e2, e3]
  exact h
theorem LookAt.fr {T : Nat → Nat → Nat} {lk : Nat → Nat → Nat} {n t : Nat} {I J : HI} (h : LookAt T lk n t I) (e66 : ∀ j, j = 0 ∨ j = 1 ∨ j = 8 ∨ j = 9 → J 66 j = I 66 j) (e1 : ∀ a, 67 ≤ a → a ≤ 70 → J a = I a) (e2 : ∀ a, 108 ≤ a → a ≤ 112 → J a = I a) (e3 : J 73 86 = I 73 86) (e4 : J 73 87 = I 73 87) : LookAt T lk n t J := by
  unfold LookAt at *
  rw [e66 0 (by decide), e66 1 (by decide), e66 8 (by decide), e66 9 (by decide), e1 67 (by decide) (by decide), e1 68 (by decide) (by decide), e1 69 (by decide) (by decide), e1 70 (by decide) (by decide), e2 108 (by decide) (by decide), e2 109 (by decide) (by decide), e2 110 (by decide) (by decide), e2 111 (by decide) (by decide), e2 112 (by decide) (by decide), e3, e4]
  exact h
theorem LookOk.fr {T : Nat → Nat → Nat} {I J : HI} (h : LookOk T I) (e66 : ∀ j, j = 0 ∨ j = 1 ∨ j = 8 ∨ j = 9 → J 66 j = I 66 j) (e1 : ∀ a, 67 ≤ a → a ≤ 70 → J a = I a) (e2 : ∀ a, 108 ≤ a → a ≤ 112 → J a = I a) (e3 : J 73 86 = I 73 86) (e4 : J 73 87 = I 73 87) : LookOk T J := by
  obtain ⟨lk, n, t, h⟩ := h
  exact ⟨lk, n, t, h.fr e66 e1 e2 e3 e4⟩
/-- queries of the class, and of the reference, leave it -/
theorem Inv.fx {T : Nat → Nat → Nat} {q : Nat} {st : Nat → Nat → Nat} {a u : Nat} {I J : HI} {L M : HL} (h : Inv T q st a u I L) (f : FX q I J L M) (hS : SkyOk T J M) : Inv T q st a u J M := by
  obtain ⟨h1, h2, h3, h4, h5, h6, h7, h8, h9, h10, h11, h12, h13⟩ := h
  have r : ∀ b, b ≠ 57 → b ≠ 59 → b ≠ 60 → (b < 23 ∨ 47 ≤ b) → J b = I b := fun b b1 b2 b3 b4 => f.1 b (by rcases h2 with h | h <;> omega) b1 b2 b3
  have r2 := f.2
  have e73 := r 73 (by decide) (by decide) (by decide) (by decide)
  refine ⟨h1, h2, h3.fx h2 f, h4.fx h2 f, h5.fr (r 52 (by decide) (by decide) (by decide) (by decide)) (r 53 (by decide) (by decide) (by decide) (by decide)) (r 54 (by decide) (by decide) (by decide) (by decide)) (r 99 (by decide) (by decide) (by decide) (by decide)) (r 102 (by decide) (by decide) (by decide) (by decide)) (by rw [e73]) (by rw [e73]) (r2 55 (by decide) (by decide)), h6, hS, h8.fr (by rw [r 0 (by decide) (by decide) (by decide) (by decide)]) (r 1 (by decide) (by decide) (by decide) (by decide)) (by rw [e73]) (r 74 (by decide) (by decide) (by decide) (by decide)), ?_, h10.fr (by rw [r 0 (by decide) (by decide) (by decide) (by decide)]) (r 114 (by decide) (by decide) (by decide) (by decide)) (r 115 (by decide) (by decide) (by decide) (by decide)) (r2 56 (by decide) (by decide)), h11.fr (by rw [r 61 (by decide) (by decide) (by decide) (by decide)]) (r 62 (by decide) (by decide) (by decide) (by decide)) (r 103 (by decide) (by decide) (by decide) (by decide)) (by rw [e73]), h12.fr (fun j _ => by rw [r 66 (by decide) (by decide) (by decide) (by decide)]) (fun b b1 b2 => r b (by omega) (by omega) (by omega) (by omega)) (fun b b1 b2 => r b (by omega) (by omega) (by omega) (by omega)) (by rw [e73]) (by rw [e73]), ?_⟩
  · unfold FaultOk at *
    rw [r 48 (by decide) (by decide) (by decide) (by decide), e73]; exact h9
  · unfold LexOk at *
    rw [r2 50 (by decide) (by decide)]; exact h13
theorem Inv.fm {T : Nat → Nat → Nat} {q : Nat} {st : Nat → Nat → Nat} {a u : Nat} {I J : HI} {L M : HL} (h : Inv T q st a u I L) (f : FM I J L M) : Inv T q st a u J M := by
  obtain ⟨h1, h2, h3, h4, h5, h6, h7, h8, h9, h10, h11, h12, h13⟩ := h
  have r : ∀ b, b ≠ 73 → b ≠ 81 → b ≠ 82 → J b = I b := f.1
  have r3 := f.2.1
  have r2 := f.2.2
  refine ⟨h1, h2, h3.fm h2 f, h4.fm f, h5.fr (r 52 (by decide) (by decide) (by decide)) (r 53 (by decide) (by decide) (by decide)) (r 54 (by decide) (by decide) (by decide)) (r 99 (by decide) (by decide) (by decide)) (r 102 (by decide) (by decide) (by decide)) (r3 73 (by decide)) (r3 74 (by decide)) (r2 55 (by decide) (by decide)), h6, h7.fr (r 57 (by decide) (by decide) (by decide)) (r 59 (by decide) (by decide) (by decide)) (r2 57 (by decide) (by decide)) (r2 58 (by decide) (by decide)), h8.fr (by rw [r 0 (by decide) (by decide) (by decide)]) (r 1 (by decide) (by decide) (by decide)) (r3 1 (by decide)) (r 74 (by decide) (by decide) (by decide)), ?_, h10.fr (by rw [r 0 (by decide) (by decide) (by decide)]) (r 114 (by decide) (by decide) (by decide)) (r 115 (by decide) (by decide) (by decide)) (r2 56 (by decide) (by decide)), h11.fr (by rw [r 61 (by decide) (by decide) (by decide)]) (r 62 (by decide) (by decide) (by decide)) (r 103 (by decide) (by decide) (by decide)) (r3 76 (by decide)), h12.fr (fun j _ => by rw [r 66 (by decide) (by decide) (by decide)]) (fun b b1 b2 => r b (by omega) (by omega) (by omega)) (fun b b1 b2 => r b (by omega) (by omega) (by omega)) (r3 86 (by decide)) (r3 87 (by decide)), ?_⟩
  · unfold FaultOk at *
    rw [r 48 (by decide) (by decide) (by decide), r3 2 (by decide), r3 3 (by decide)]; exact h9
  · unfold LexOk at *
    rw [r2 50 (by decide) (by decide)]; exact h13
/-- the sky is aimed at the present -/
theorem x_aim {T : Nat → Nat → Nat} {I : HI} {L : HL} {N : Nat → Nat} (hS : SkyOk T I L) (hN : NRng N) (hx : XNow I N) : ∃ I' L', fX7_aimAt I L = some (I', L') ∧ SkyAt T (N 8) (N 5) (N 6) 0 (decide (N 7 = 1)) I' L' ∧ (∀ a, a ≠ 57 → I' a = I a) ∧ ∀ a, a ≠ 57 → L' a = L a := by
  obtain ⟨s, S, O, B, K, ⟨e1, e2, e3, e4, e5, hF⟩, b1, b2, b3⟩ := hS
  obtain ⟨_, x1, x2, x3, x4, x5⟩ := hx
  have r5 := hN.2.2.2.2.2.2.2.2
  have r6 := hN.2.2.2.2.2.2.1
  have r7 := hN.2.2.2.2.2.2.2.1
  have b7 : nI (N 7) = b2i (decide (N 7 = 1)) := by
    have : N 7 = 0 ∨ N 7 = 1 := by omega
    rcases this with h | h <;> rw [h] <;> rfl
  unfold fX7_aimAt
  simp only [up2_at, x2, x3, x4, x5, e1, e3, e4, e5]
  simp only [show ¬ ((52 : Nat) = 57) by decide, show ¬ ((1 : Nat) = 2) by decide, show ¬ ((3 : Nat) = 2) by decide, show ¬ ((5 : Nat) = 2) by decide, show ¬ ((4 : Nat) = 2) by decide, false_and, and_false, if_false, x2, x3, x4, x5, e1, e3, e4, e5, i2b_nI r7, Option.bind_some]
  have fI : ∀ (v1 v2 v3 v4 v5 : Int32) (a : Nat), a ≠ 57 → up2 (up2 (up2 (up2 (up2 I 57 2 v1) 57 1 v2) 57 3 v3) 57 5 v4) 57 4 v5 a = I a := by
    intro v1 v2 v3 v4 v5 a ha
    rw [upRow _ _ ha, upRow _ _ ha, upRow _ _ ha, upRow _ _ ha, upRow _ _ ha]
  have fin : ∀ L' : HL, (∀ a, a ≠ 57 → L' a = L a) → (∀ n, n ≤ 48 → hb (L' 57 6) n = true → SkyN T ((N 8 + n) % 24) ((N 8 + n) / 24) (N 6) 0 (decide (N 7 = 1)) n (tnD T) I L) → SkyAt T (N 8) (N 5) (N 6) 0 (decide (N 7 = 1)) (up2 (up2 (up2 (up2 (up2 I 57 2 (nI (N 5))) 57 1 (nI (N 8))) 57 3 (nI (N 6))) 57 5 (b2i (decide (N 7 = 1)))) 57 4 0) L' := by
    intro L' hL hF'
    refine ⟨by simp [up2_at], by simp [up2_at], by simp [up2_at], by simp [up2_at, nI_0], by simp [up2_at], fun n hn hb' => ?_⟩
    have := hF' n hn hb'
    unfold SkyN at *
    rw [fI _ _ _ _ _ 59 (by decide), hL 58 (by decide)]
    exact this
  by_cases hsame : s = N 8 ∧ O = N 6 ∧ K = decide (N 7 = 1) ∧ B = 0
  · obtain ⟨h1, h2, h3, h4⟩ := hsame
    have c : (if nI s = nI (N 8) then if nI O = nI (N 6) then if b2i K = nI (N 7) then if nI B = 0 then some false else some true else some true else some true else some true) = some false := by
      rw [if_pos (by rw [h1]), if_pos (by rw [h2]), if_pos (by rw [h3, b7]), if_pos (by rw [h4]; rfl)]
    rw [c]
    simp only [Option.bind_some, Bool.false_eq_true, if_false]
    refine ⟨_, _, rfl, fin L (fun _ _ => rfl) ?_, fI _ _ _ _ _, fun _ _ => rfl⟩
    intro n hn hb'
    have := hF n hn hb'
    rw [h1, h2, h3, h4] at this
    exact this
  · have c : (if nI s = nI (N 8) then if nI O = nI (N 6) then if b2i K = nI (N 7) then if nI B = 0 then some false else some true else some true else some true else some true) = some true := by
      by_cases h1 : s = N 8
      · rw [if_pos (by rw [h1])]
        by_cases h2 : O = N 6
        · rw [if_pos (by rw [h2])]
          by_cases h3 : K = decide (N 7 = 1)
          · rw [if_pos (by rw [h3, b7]), if_neg]
            intro h4
            exact hsame ⟨h1, h2, h3, (nI_eq (b := 0) b3 (by decide)).mp h4⟩
          · rw [if_neg]
            intro h4
            rw [b7] at h4
            exact h3 (b2i_inj.mp h4)
        · rw [if_neg]
          intro h4
          exact h2 ((nI_eq b2 (by omega)).mp h4)
      · rw [if_neg]
        intro h4
        exact h1 ((nI_eq b1 (by omega)).mp h4)
    rw [c]
    simp only [Option.bind_some, if_true]
    refine ⟨_, _, rfl, fin (up2 L 57 6 0) (fun a ha => upRow L _ ha) ?_, fI _ _ _ _ _, fun a ha => upRow L _ ha⟩
    intro n hn hb'
    rw [up2_at, if_pos ⟨rfl, rfl⟩, hb_0] at hb'
    cases hb'
