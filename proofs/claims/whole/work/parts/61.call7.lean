/-! image, back, later, look, untell -/
section C7
variable {T : Nat → Nat → Nat} {q : Nat} {st : Nat → Nat → Nat} {a u : Nat} {I : HI} {L : HL}
def base (q b : Nat) : Prop := b = 1 ∨ b = 48 ∨ (q ≤ b ∧ b ≤ q + 20) ∨ (52 ≤ b ∧ b ≤ 54) ∨ b = 74 ∨ b = 78 ∨ b = 79 ∨ (91 ≤ b ∧ b ≤ 99) ∨ b = 102
def base73 (j : Nat) : Prop := j = 1 ∨ j = 2 ∨ j = 3 ∨ j = 18 ∨ j = 21 ∨ (52 ≤ j ∧ j ≤ 58) ∨ j = 73 ∨ j = 74
theorem Inv.gen {J : HI} {M : HL} (h : Inv T q st a u I L) (hr : ∀ b, base q b → J b = I b) (h0 : J 0 1 = I 0 1) (h73 : ∀ j, base73 j → J 73 j = I 73 j) (hL : ∀ b, b = q ∨ b = q + 22 ∨ b = 50 ∨ b = 55 ∨ b = 73 → M b = L b) (hS : SkyOk T J M) (hB : BoxOk T J M) (hW : WayOk J) (hK : LookOk T J) : Inv T q st a u J M := by
  obtain ⟨h1, h2, h3, h4, h5, h6, h7, h8, h9, h10, h11, h12, h13⟩ := h
  unfold base at hr
  unfold base73 at h73
  refine ⟨h1, h2, h3.fr (fun b b1 b2 => hr b (by omega)) ⟨hL q (by omega), hL (q + 22) (by omega)⟩, h4.fr (fun b hb => hr b (by omega)) (fun j hj => h73 j (by omega)) (hL 73 (by omega)), h5.fr (hr 52 (by omega)) (hr 53 (by omega)) (hr 54 (by omega)) (hr 99 (by omega)) (hr 102 (by omega)) (h73 73 (by omega)) (h73 74 (by omega)) (hL 55 (by omega)), h6, hS, h8.fr h0 (hr 1 (by omega)) (h73 1 (by omega)) (hr 74 (by omega)), ?_, hB, hW, hK, ?_⟩
  · unfold FaultOk at *
    rw [hr 48 (by omega), h73 2 (by omega), h73 3 (by omega)]; exact h9
  · unfold LexOk at *
    rw [hL 50 (by omega)]; exact h13
theorem Inv.sky (h : Inv T q st a u I L) : SkyOk T I L := h.2.2.2.2.2.2.1
theorem Inv.box (h : Inv T q st a u I L) : BoxOk T I L := h.2.2.2.2.2.2.2.2.2.1
theorem Inv.way (h : Inv T q st a u I L) : WayOk I := h.2.2.2.2.2.2.2.2.2.2.1
theorem Inv.look (h : Inv T q st a u I L) : LookOk T I := h.2.2.2.2.2.2.2.2.2.2.2.1
theorem c_later (h : Inv T q st a u I L) (v : Int32) : Inv T q st a u (fX12_later v (fX11_later v I).2).2 L ∧ (fX12_later v (fX11_later v I).2).1 = (fX11_later v I).1 := by
  obtain ⟨lk, n, t, l1, l2, l3, l4, l5, l6, l7, l8⟩ := h.look
  unfold fX11_later fX12_later tbn
  rw [l5]
  rcases pk_ix v (n := 1001) (by decide) with hv | hv | ⟨k, hk, rfl⟩
  · simp only [if_pos hv, if_true]
    exact ⟨h, by first | rfl | trivial⟩
  · have hv0 : ¬ v < 0 := by
      intro g
      rw [fa_lt] at g
      rw [fa_le] at hv
      have e1 : (nI 1001).toInt = 1001 := rfl
      have e2 : (0 : Int32).toInt = 0 := rfl
      omega
    have hv1 : (1000 : Int32) < v := by
      rw [fa_lt]
      rw [fa_le] at hv
      have e1 : (nI 1001).toInt = 1001 := rfl
      have e2 : (1000 : Int32).toInt = 1000 := rfl
      omega
    simp only [if_neg hv0, if_pos hv1, if_true]
    exact ⟨h, by first | rfl | trivial⟩
  · have c1 : ¬ (1000 : Int32) < nI k := nI_nlt (a := 1000) (by omega) (by omega)
    simp only [if_neg (nI_pos (show k < 2 ^ 31 by omega)), if_neg c1, nI_add]
    by_cases hc : t + k ≤ 100000
    · have c2 : nI (t + k) ≤ (100000 : Int32) := nI_le (b := 100000) hc (by decide)
      simp only [if_pos c2, Bool.false_eq_true, if_false, up2_at, show ¬ ((73 : Nat) = 66) by decide, false_and, l6, nI_add, and_self, if_true]
      refine ⟨h.gen (fun b hb => ?_) ?_ (fun j hj => ?_) (fun _ _ => rfl) (h.sky.fr ?_ ?_ rfl rfl) (h.box.fr ?_ ?_ ?_ rfl) (h.way.fr ?_ ?_ ?_ ?_) ⟨lk, n, t + k, l1, hc, ?_, ?_, ?_, ?_, ?_, ?_⟩, trivial⟩
      · unfold base at hb
        rw [upRow _ _ (by rcases h.2.1 with h | h <;> omega), upRow _ _ (by rcases h.2.1 with h | h <;> omega)]
      · simp [up2_at]
      · unfold base73 at hj
        rw [up2_at, if_neg (by omega), up2_at, if_neg (by omega)]
      · rw [upRow _ _ (by decide), upRow _ _ (by decide)]
      · rw [upRow _ _ (by decide), upRow _ _ (by decide)]
      · simp [up2_at]
      · rw [upRow _ _ (by decide), upRow _ _ (by decide)]
      · rw [upRow _ _ (by decide), upRow _ _ (by decide)]
      · simp [up2_at]
      · rw [upRow _ _ (by decide), upRow _ _ (by decide)]
      · rw [upRow _ _ (by decide), upRow _ _ (by decide)]
      · simp [up2_at]
      · simp [up2_at]; exact l3
      · simp [up2_at]; exact l4
      · simp [up2_at]
      · simp [up2_at]
      · intro i hi
        simp only [up2_at, Nat.reduceEqDiff, false_and, and_false, if_false]
        exact l7 i hi
      · intro i h1 h2
        simp only [up2_at, Nat.reduceEqDiff, false_and, and_false, if_false]
        exact l8 i h1 h2
    · have c2 : ¬ nI (t + k) ≤ (100000 : Int32) := nI_ge (a := 100000) (by omega) (by omega)
      simp only [if_neg c2, if_true]
      rw [l6]
      simp only [nI_add, if_neg c2]
      exact ⟨h, by first | rfl | trivial⟩
end C7
