/-! the guards of the calls -/
theorem isIn_0 {n : Nat} (hn : n < 2 ^ 31) (v : Int32) : (∃ j, j < n ∧ v = nI j ∧ fX12_isIn v 0 (nI n - 1) = true) ∨ ((v < 0 ∨ nI n ≤ v) ∧ fX12_isIn v 0 (nI n - 1) = false) := by
  unfold fX12_isIn tbn
  rcases pk_ix v hn with h | h | ⟨j, hj, rfl⟩
  · right
    rw [if_pos h]
    exact ⟨Or.inl h, rfl⟩
  · right
    refine ⟨Or.inr h, ?_⟩
    by_cases h0 : v < 0
    · rw [if_pos h0]; rfl
    · have h1 : nI n - 1 < v := by
        rw [fa_le] at h
        rw [fa_lt]
        have e : (nI n - 1).toInt = (n : Int) - 1 := by
          cases n with
          | zero => decide
          | succ n => rw [nI_pred, nI_toInt (by omega)]; omega
        rw [nI_toInt hn] at h
        omega
      rw [if_neg h0, if_pos h1]; rfl
  · left
    refine ⟨j, hj, rfl, ?_⟩
    have h1 : ¬ nI n - 1 < nI j := by
      obtain ⟨m, rfl⟩ : ∃ m, n = m + 1 := ⟨n - 1, by omega⟩
      rw [nI_pred]
      exact nI_nlt (by omega) (by omega)
    rw [if_neg (nI_pos (by omega)), if_neg h1]; rfl
theorem has_in {t n j : Nat} {I : HI} (h : I t 0 = nI n) (hn : n < 2 ^ 31) (hj : j < n) : fX8_has t (nI j) I = true := by
  unfold fX8_has tbn
  rw [if_neg (nI_pos (by omega)), h, if_neg (nI_ge hj hn)]; rfl
theorem has_out {t n : Nat} {I : HI} {v : Int32} (h : I t 0 = nI n) (hv : v < 0 ∨ nI n ≤ v) : fX8_has t v I = false := by
  unfold fX8_has tbn
  by_cases h0 : v < 0
  · rw [if_pos h0]; rfl
  · rw [if_neg h0, h, if_pos (hv.resolve_left h0)]; rfl
/-- both sides ask whether there is such a thing -/
theorem g_thing {t n j : Nat} {I J : HI} (h : I t 0 = nI n) (h2 : J 73 j = nI n) (hn : n < 1000) (v : Int32) : (∃ k, k < n ∧ v = nI k ∧ fX8_has t v I = true ∧ fX12_isIn v 0 (J 73 j - 1) = true) ∨ (fX8_has t v I = false ∧ fX12_isIn v 0 (J 73 j - 1) = false) := by
  rw [h2]
  rcases isIn_0 (n := n) (by omega) v with ⟨k, h1, h3, h4⟩ | ⟨h1, h3⟩
  · left
    exact ⟨k, h1, h3, by rw [h3]; exact has_in h (by omega) h1, h4⟩
  · right
    exact ⟨has_out h h1, h3⟩
theorem g_far (v : Int32) : (∃ n, n ≤ 48 ∧ v = nI n ∧ fX11_isAhead v = true ∧ fX12_isFar v = true) ∨ (fX11_isAhead v = false ∧ fX12_isFar v = false) := by
  have e : fX12_isFar v = fX12_isIn v 0 (nI 49 - 1) := rfl
  rw [e]
  rcases isIn_0 (n := 49) (by decide) v with ⟨k, h1, h3, h4⟩ | ⟨h1, h3⟩
  · left
    refine ⟨k, by omega, h3, ?_, h4⟩
    unfold fX11_isAhead tbn
    rw [h3, if_neg (nI_pos (by omega)), if_neg (show ¬ (48 : Int32) < nI k from nI_nlt (a := 48) (by omega) (by omega))]; rfl
  · right
    refine ⟨?_, h3⟩
    unfold fX11_isAhead tbn
    by_cases h0 : v < 0
    · rw [if_pos h0]; rfl
    · have h2 : (48 : Int32) < v := by
        have := h1.resolve_left h0
        rw [fa_le, show (nI 49).toInt = 49 from rfl] at this
        rw [fa_lt, show (48 : Int32).toInt = 48 from rfl]
        omega
      rw [if_neg h0, if_pos h2]; rfl
theorem g_free {T : Nat → Nat → Nat} {q : Nat} {I J : HI} {L M : HL} (hT : TSize T) (hx : XSize T q I) (hg : ∀ c, c < 64 → hb (L q 4) c = (decide (c < tC T) && !isW T c)) (hm : MSize T J M) (v : Int32) : (∃ c, grd T c ∧ v = nI c ∧ fX5_canStand q v I L = true ∧ fX12_isFree v J M = true) ∨ (fX5_canStand q v I L = false ∧ fX12_isFree v J M = false) := by
  have hC := tC_le hT
  unfold fX5_canStand fX12_isFree tbn
  rw [m_size hm, hx.2.2]
  rcases isIn_0 (n := tC T) (by omega) v with ⟨c, h1, h3, h4⟩ | ⟨h1, h3⟩
  · have g1 := hg c (by omega)
    rw [h4, h3, has_hb _ (by omega), hm.2.2 c (by omega), if_neg (nI_pos (by omega)), if_neg (nI_ge h1 (by omega))]
    simp only [ushr1_0 _ (show c < 64 by omega), g1, b2i_eq0, decide_eq_true h1, Bool.true_and]
    cases hw : isW T c with
    | false => exact Or.inl ⟨c, ⟨h1, hw⟩, rfl, by simp, by simp⟩
    | true => exact Or.inr ⟨by simp, by simp⟩
  · right
    rw [h3]
    refine ⟨?_, by simp [b2i]⟩
    by_cases h0 : v < 0
    · rw [if_pos h0]; rfl
    · rw [if_neg h0, if_pos (h1.resolve_left h0)]; rfl
theorem g_choice (v : Int32) : ((v = nI 0 ∨ v = nI 1) ∧ fX11_isChoice v = true ∧ fX12_isIn v 0 1 = true) ∨ (fX11_isChoice v = false ∧ fX12_isIn v 0 1 = false) := by
  have e : fX12_isIn v 0 1 = fX12_isIn v 0 (nI 2 - 1) := rfl
  rw [e]
  unfold fX11_isChoice tbn
  rcases isIn_0 (n := 2) (by decide) v with ⟨k, h1, h3, h4⟩ | ⟨h1, h3⟩
  · left
    have : k = 0 ∨ k = 1 := by omega
    rcases this with h | h <;> subst h <;> subst h3
    · exact ⟨Or.inl rfl, by decide, h4⟩
    · exact ⟨Or.inr rfl, by decide, h4⟩
  · right
    refine ⟨?_, h3⟩
    have n0 : ¬ v = 0 := by
      intro h; subst h; revert h1; decide
    have n1 : ¬ v = 1 := by
      intro h; subst h; revert h1; decide
    simp [n0, n1]
