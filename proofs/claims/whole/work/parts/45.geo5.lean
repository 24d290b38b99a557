/-! the cells beside a cell -/
def nbr (T : Nat → Nat → Nat) (c e : Nat) : Bool := ray T 0 c 1 e || ray T 1 c 1 e || ray T 2 c 1 e || ray T 3 c 1 e
theorem m_nextTo {T : Nat → Nat → Nat} {I : HI} {L : HL} {cell : Nat} (hT : TSize T) (hm : MSize T I L) (hc : cell < tC T) : ∃ r, fX12_nextTo (nI cell) I L = some r ∧ ∀ c, c < 64 → hb r c = (nbr T cell c && !isW T c) := by
  obtain ⟨r0, e0, h0⟩ := m_row (n := 1) (dir := 0) hT hm hc (by decide) (by decide)
  obtain ⟨r1, e1, h1⟩ := m_row (n := 1) (dir := 1) hT hm hc (by decide) (by decide)
  obtain ⟨r2, e2, h2⟩ := m_row (n := 1) (dir := 2) hT hm hc (by decide) (by decide)
  obtain ⟨r3, e3, h3⟩ := m_row (n := 1) (dir := 3) hT hm hc (by decide) (by decide)
  unfold fX12_nextTo
  rw [show fX12_row (nI cell) 1 0 1 I L = some r0 from e0, show fX12_row (nI cell) (-1) 0 1 I L = some r1 from e1, show fX12_row (nI cell) 0 1 1 I L = some r2 from e2, show fX12_row (nI cell) 0 (-1) 1 I L = some r3 from e3]
  refine ⟨_, rfl, fun c h64 => ?_⟩
  rw [hb_or, hb_or, hb_or, h0 c h64, h1 c h64, h2 c h64, h3 c h64]
  unfold nbr
  cases ray T 0 cell 1 c <;> cases ray T 1 cell 1 c <;> cases ray T 2 cell 1 c <;> cases ray T 3 cell 1 c <;> cases isW T c <;> rfl
def fstCol (T : Nat → Nat → Nat) (c : Nat) : Bool := decide (c < tC T ∧ c % tW T = 0)
theorem nbr_iff {T : Nat → Nat → Nat} {c e : Nat} (hT : TSize T) (hc : c < tC T) (he : e < tC T) : nbr T c e = true ↔ ((c = e + 1 ∧ c % tW T ≠ 0) ∨ (e = c + 1 ∧ e % tW T ≠ 0) ∨ c = e + tW T ∨ e = c + tW T) := by
  have hw8 := tW8 hT
  unfold nbr ray
  simp only [Bool.or_eq_true, Bool.and_eq_true, decide_eq_true_eq, if_true, if_neg (show ¬ (1 : Nat) = 0 by decide), if_neg (show ¬ (2 : Nat) = 0 by decide), if_neg (show ¬ (2 : Nat) = 1 by decide), if_neg (show ¬ (3 : Nat) = 0 by decide), if_neg (show ¬ (3 : Nat) = 1 by decide), if_neg (show ¬ (3 : Nat) = 2 by decide)]
  generalize tC T = C at *
  generalize tW T = W at *
  rcases hw8 with h | h | h | h | h | h | h | h <;> subst h <;> omega
theorem x_spread {T : Nat → Nat → Nat} {q : Nat} {I : HI} {L : HL} {s : Int64} (hT : TSize T) (hx : XSize T q I) (hg : ∀ c, c < 64 → hb (L q 4) c = (decide (c < tC T) && !isW T c)) (hf : ∀ c, c < 64 → hb (L q 5) c = fstCol T c) (hs : ∀ c, hb s c = true → c < tC T) (e : Nat) (he : e < 64) : hb (fX5_spread q s I L) e = true ↔ ((∃ c, hb s c = true ∧ (c = e ∨ nbr T c e = true)) ∧ e < tC T ∧ isW T e = false) := by
  have hW := hT.1
  have hW2 := hT.2.1
  have hw8 := tW8 hT
  have hC := tC_le hT
  have h1 : hb (s &&& (L q 5 ^^^ -1)) (1 + e) = (hb s (1 + e) && !fstCol T (1 + e)) := by
    by_cases h : 1 + e < 64
    · rw [hb_and, hb_not _ h, hf _ h]
    · rw [hb_hi _ (by omega), hb_hi s (by omega)]; rfl
  have h2 : (decide (1 ≤ e) && hb (s &&& (L q 5 <<< ((nI (tW T - 1)).toInt64 &&& 63) ^^^ -1)) (e - 1)) = (decide (1 ≤ e) && (hb s (e - 1) && !(decide (tW T - 1 ≤ e - 1) && fstCol T (e - 1 - (tW T - 1))))) := by
    by_cases h : 1 ≤ e
    · rw [hb_and, hb_not _ (by omega), hb_shl _ (by omega) _ (by omega), hf _ (by omega)]
    · rw [decide_eq_false h]; rfl
  have key : hb (fX5_spread q s I L) e = ((((hb s e || ((hb s (1 + e) && !fstCol T (1 + e)) || (decide (1 ≤ e) && (hb s (e - 1) && !(decide (tW T - 1 ≤ e - 1) && fstCol T (e - 1 - (tW T - 1))))))) || hb s (tW T + e)) || (decide (tW T ≤ e) && hb s (e - tW T))) && (decide (e < tC T) && !isW T e)) := by
    unfold fX5_spread
    rw [hx.1, show nI (tW T) - (1 : Int32) = nI (tW T - 1) from pk_sub (b := 1) hW, show (1 : Int32) = nI 1 from rfl]
    rw [hb_and, hb_or, hb_or, hb_or, hb_or, hb_ushr _ (show 1 < 64 by decide), hb_shl _ (show 1 < 64 by decide) e he, hb_ushr _ (show tW T < 64 by omega), hb_shl _ (show tW T < 64 by omega) e he, hg e he, h1, h2]
  rw [key]
  clear key h1 h2
  simp only [Bool.and_eq_true, Bool.or_eq_true, Bool.not_eq_true', decide_eq_true_eq, Bool.and_eq_false_iff, decide_eq_false_iff_not, fstCol]
  constructor
  · rintro ⟨((h | h | h) | h) | h, hge⟩
    · exact ⟨⟨e, h, Or.inl rfl⟩, hge⟩
    · have hc := hs _ h.1
      exact ⟨⟨1 + e, h.1, Or.inr ((nbr_iff hT hc hge.1).mpr (Or.inl ⟨by omega, fun hh => h.2 ⟨hc, hh⟩⟩))⟩, hge⟩
    · obtain ⟨ha, hb', hc'⟩ := h
      have hc := hs _ hb'
      refine ⟨⟨e - 1, hb', Or.inr ((nbr_iff hT hc hge.1).mpr (Or.inr (Or.inl ⟨by omega, ?_⟩)))⟩, hge⟩
      generalize tC T = C at *
      generalize tW T = W at *
      rcases hw8 with h | h | h | h | h | h | h | h <;> subst h <;> omega
    · have hc := hs _ h
      exact ⟨⟨tW T + e, h, Or.inr ((nbr_iff hT hc hge.1).mpr (Or.inr (Or.inr (Or.inl (by omega)))))⟩, hge⟩
    · have hc := hs _ h.2
      exact ⟨⟨e - tW T, h.2, Or.inr ((nbr_iff hT hc hge.1).mpr (Or.inr (Or.inr (Or.inr (by omega)))))⟩, hge⟩
  · rintro ⟨⟨c, hc, h | h⟩, hge⟩
    · subst h; exact ⟨Or.inl (Or.inl (Or.inl hc)), hge⟩
    · have hcc := hs _ hc
      refine ⟨?_, hge⟩
      rcases (nbr_iff hT hcc hge.1).mp h with ⟨h3, h4⟩ | ⟨h3, h4⟩ | h3 | h3
      · refine Or.inl (Or.inl (Or.inr (Or.inl ?_)))
        rw [show 1 + e = c by omega]
        exact ⟨hc, fun hh => h4 hh.2⟩
      · refine Or.inl (Or.inl (Or.inr (Or.inr ⟨by omega, ?_⟩)))
        rw [show e - 1 = c by omega]
        refine ⟨hc, ?_⟩
        generalize tC T = C at *
        generalize tW T = W at *
        rcases hw8 with h | h | h | h | h | h | h | h <;> subst h <;> omega
      · refine Or.inl (Or.inr ?_)
        rw [show tW T + e = c by omega]; exact hc
      · refine Or.inr ⟨by omega, ?_⟩
        rw [show e - tW T = c by omega]; exact hc
