/-! columns of the class -/
theorem x_colD {T : Nat → Nat → Nat} {q cell n : Nat} {I : HI} (hT : TSize T) (hx : XSize T q I) (hc : cell < tC T) (hn : n ≤ 100) : ∀ (d j fu : Nat) (s : Int64), j + d = n → d < fu → ∃ r, fX5_columnBits_34 q fu (nI (tW T)) (nI n) s (nI (cell + (j + 1) * tW T)) (nI j) I = some r ∧ ∀ c, c < 64 → hb r c = (hb s c || decide (c < tC T ∧ c % tW T = cell % tW T ∧ cell + j * tW T < c ∧ c ≤ cell + n * tW T)) := by
  have hw8 := tW8 hT
  have hC := tC_le hT
  have hW2 := hT.2.1
  intro d
  induction d with
  | zero =>
    intro j fu s hj hf
    obtain ⟨f, rfl⟩ : ∃ f, fu = f + 1 := ⟨fu - 1, by omega⟩
    rw [fX5_columnBits_34, if_pos (by rw [show j = n by omega]; exact nI_le (Nat.le_refl _) (by omega))]
    refine ⟨s, rfl, fun c _ => ?_⟩
    rw [show j = n by omega]
    have : ¬ (c < tC T ∧ c % tW T = cell % tW T ∧ cell + n * tW T < c ∧ c ≤ cell + n * tW T) := by omega
    rw [decide_eq_false this, Bool.or_false]
  | succ d ih =>
    intro j fu s hj hf
    obtain ⟨f, rfl⟩ : ∃ f, fu = f + 1 := ⟨fu - 1, by omega⟩
    have hb1 : (j + 1) * tW T ≤ 101 * 8 := Nat.mul_le_mul (by omega) hW2
    have hb2 : cell + (j + 1) * tW T < 2 ^ 31 := by omega
    rw [fX5_columnBits_34, if_neg (nI_ge (by omega) (by omega)), if_neg (nI_pos hb2), hx.2.2]
    by_cases h : tC T ≤ cell + (j + 1) * tW T
    · rw [if_pos (nI_le h hb2)]
      refine ⟨s, rfl, fun c _ => ?_⟩
      have : ¬ (c < tC T ∧ c % tW T = cell % tW T ∧ cell + j * tW T < c ∧ c ≤ cell + n * tW T) := by
        generalize tC T = C at *
        generalize tW T = W at *
        rcases hw8 with h | h | h | h | h | h | h | h <;> subst h <;> omega
      rw [decide_eq_false this, Bool.or_false]
    · rw [if_neg (nI_ge (by omega) (by omega))]
      simp only [Option.bind_some]
      rw [if_neg (by decide), nI_add, nI_1, show cell + (j + 1) * tW T + tW T = cell + (j + 1 + 1) * tW T by rw [Nat.add_mul (j + 1) 1]; omega]
      obtain ⟨r, e, hr⟩ := ih (j + 1) f (s ||| (1 : Int64) <<< ((nI (cell + (j + 1) * tW T)).toInt64 &&& 63)) (by omega) (by omega)
      refine ⟨r, e, fun c h64 => ?_⟩
      rw [hr c h64, hb_or, hb_one (by omega) c h64, Bool.or_assoc]
      congr 1
      rw [← Bool.decide_or, decide_eq_decide]
      generalize tC T = C at *
      generalize tW T = W at *
      rcases hw8 with h | h | h | h | h | h | h | h <;> subst h <;> omega
theorem x_colU {T : Nat → Nat → Nat} {q cell n : Nat} {I : HI} (hT : TSize T) (hx : XSize T q I) (hc : cell < tC T) (hn : n ≤ 100) : ∀ (d j fu : Nat) (s : Int64), j + d = n → d < fu → ∃ r, fX5_columnBits_34 q fu (-(nI (tW T))) (nI n) s (iI ((cell : Int) - ((j + 1) * tW T : Nat))) (nI j) I = some r ∧ ∀ c, c < 64 → hb r c = (hb s c || decide (c % tW T = cell % tW T ∧ c + j * tW T < cell ∧ cell ≤ c + n * tW T)) := by
  have hw8 := tW8 hT
  have hC := tC_le hT
  have hW2 := hT.2.1
  intro d
  induction d with
  | zero =>
    intro j fu s hj hf
    obtain ⟨f, rfl⟩ : ∃ f, fu = f + 1 := ⟨fu - 1, by omega⟩
    rw [fX5_columnBits_34, if_pos (by rw [show j = n by omega]; exact nI_le (Nat.le_refl _) (by omega))]
    refine ⟨s, rfl, fun c _ => ?_⟩
    rw [show j = n by omega]
    have : ¬ (c % tW T = cell % tW T ∧ c + n * tW T < cell ∧ cell ≤ c + n * tW T) := by omega
    rw [decide_eq_false this, Bool.or_false]
  | succ d ih =>
    intro j fu s hj hf
    obtain ⟨f, rfl⟩ : ∃ f, fu = f + 1 := ⟨fu - 1, by omega⟩
    have hb1 : (j + 1) * tW T ≤ 101 * 8 := Nat.mul_le_mul (by omega) hW2
    rw [fX5_columnBits_34, if_neg (nI_ge (by omega) (by omega)), hx.2.2]
    by_cases h : cell < (j + 1) * tW T
    · rw [if_pos (by rw [show (0 : Int32) = iI 0 from rfl, iI_lt (by unfold sml; omega) (by unfold sml; omega)]; omega)]
      refine ⟨s, rfl, fun c _ => ?_⟩
      have : ¬ (c % tW T = cell % tW T ∧ c + j * tW T < cell ∧ cell ≤ c + n * tW T) := by
        generalize tC T = C at *
        generalize tW T = W at *
        rcases hw8 with h | h | h | h | h | h | h | h <;> subst h <;> omega
      rw [decide_eq_false this, Bool.or_false]
    · have e0 : iI ((cell : Int) - ((j + 1) * tW T : Nat)) = nI (cell - (j + 1) * tW T) := by
        rw [← iI_n]; congr 1; omega
      rw [if_neg (by rw [show (0 : Int32) = iI 0 from rfl, iI_lt (by unfold sml; omega) (by unfold sml; omega)]; omega), e0, if_neg (nI_ge (by omega) (by omega))]
      simp only [Option.bind_some]
      rw [if_neg (by decide), nI_1]
      have e1 : nI (cell - (j + 1) * tW T) + -(nI (tW T)) = iI ((cell : Int) - ((j + 1 + 1) * tW T : Nat)) := by
        rw [← e0, ← iI_n, iI_neg, iI_add]
        congr 1
        rw [Nat.add_mul (j + 1) 1]; omega
      rw [e1]
      obtain ⟨r, e, hr⟩ := ih (j + 1) f (s ||| (1 : Int64) <<< ((nI (cell - (j + 1) * tW T)).toInt64 &&& 63)) (by omega) (by omega)
      refine ⟨r, e, fun c h64 => ?_⟩
      rw [hr c h64, hb_or, hb_one (by omega) c h64, Bool.or_assoc]
      congr 1
      rw [← Bool.decide_or, decide_eq_decide]
      generalize tC T = C at *
      generalize tW T = W at *
      rcases hw8 with h | h | h | h | h | h | h | h <;> subst h <;> omega
theorem x_columnBits {T : Nat → Nat → Nat} {q cell : Nat} {I : HI} (v : Int) (hv : -100 ≤ v ∧ v ≤ 100) (hT : TSize T) (hx : XSize T q I) (hc : cell < tC T) : ∃ r, fX5_columnBits q (nI cell) (iI v) I = some r ∧ ∀ c, c < 64 → hb r c = rayC T cell v c := by
  obtain ⟨m, hm⟩ := fuel_at 1000 (by decide)
  have hC := tC_le hT
  unfold fX5_columnBits rayC
  rw [hx.1]
  by_cases h : 0 ≤ v
  · have h0 : (0 : Int32) ≤ iI v := by rw [show (0 : Int32) = iI 0 from rfl, iI_le (by unfold sml; omega) (by unfold sml; omega)]; exact h
    rw [if_pos h0, if_pos h0]
    simp only [Option.bind_some]
    obtain ⟨r, e, hr⟩ := x_colD hT hx hc (n := v.toNat) (by omega) v.toNat 0 FUEL 0 (by omega) (by omega)
    rw [show (0 + 1) * tW T = tW T by omega] at e
    rw [nI_add, show iI v = nI v.toNat by rw [← iI_n]; congr 1; omega, show (0 : Int32) = nI 0 from rfl, e]
    refine ⟨r, rfl, fun c h64 => ?_⟩
    rw [hr c h64, hb_0, Bool.false_or, if_pos h]
    unfold ray
    rw [if_neg (by decide), if_neg (by decide), if_pos rfl, ← Bool.decide_and, decide_eq_decide, Nat.zero_mul, Nat.add_zero]
  · have h0 : ¬ (0 : Int32) ≤ iI v := by rw [show (0 : Int32) = iI 0 from rfl, iI_le (by unfold sml; omega) (by unfold sml; omega)]; exact h
    rw [if_neg h0, if_neg h0]
    simp only [Option.bind_some]
    obtain ⟨r, e, hr⟩ := x_colU hT hx hc (n := (-v).toNat) (by omega) (-v).toNat 0 FUEL 0 (by omega) (by omega)
    rw [show (0 + 1) * tW T = tW T by omega] at e
    rw [show nI cell + -(nI (tW T)) = iI ((cell : Int) - (tW T : Nat)) by rw [← iI_n, ← iI_n, iI_neg, iI_add]; congr 1, show (0 : Int32) - iI v = nI (-v).toNat by rw [← iI_n, show (0 : Int32) = iI 0 from rfl, iI_sub]; congr 1; omega, show (0 : Int32) = nI 0 from rfl, e]
    refine ⟨r, rfl, fun c h64 => ?_⟩
    rw [hr c h64, hb_0, Bool.false_or, if_neg h]
    unfold ray
    rw [if_neg (by decide), if_neg (by decide), if_neg (by decide), ← Bool.decide_and, decide_eq_decide, Nat.zero_mul, Nat.add_zero]
    constructor
    · intro hh; exact ⟨by omega, hh⟩
    · exact fun hh => hh.2
/-! rows of the reference -/
def MSize (T : Nat → Nat → Nat) (I : HI) (L : HL) : Prop := I 73 52 = nI (tW T) ∧ I 73 53 = nI (tD T) ∧ ∀ c, c < 64 → hb (L 73 44) c = isW T c
def rowAt (T : Nat → Nat → Nat) (x0 y0 dx dy : Int) (k m c : Nat) : Prop := ∃ j : Nat, k < j ∧ j ≤ m ∧ 0 ≤ x0 + j * dx ∧ x0 + j * dx < tW T ∧ 0 ≤ y0 + j * dy ∧ y0 + j * dy < tD T ∧ (c : Int) = (y0 + j * dy) * tW T + (x0 + j * dx)
theorem m_rowL {T : Nat → Nat → Nat} {I : HI} {L : HL} {n : Nat} {x0 y0 dx dy : Int} (hT : TSize T) (hm : MSize T I L) (hn : n < 1000) (hx : 0 ≤ x0 ∧ x0 < 8) (hy : 0 ≤ y0 ∧ y0 < 8) (hdx : -1 ≤ dx ∧ dx ≤ 1) (hdy : -1 ≤ dy ∧ dy ≤ 1) : ∀ (d k fu : Nat) (s : Int64), k + d = min n 8 → d < fu → ∃ r, fX12_row_22 fu (iI dx) (iI dy) (nI n) s (iI (x0 + k * dx)) (iI (y0 + k * dy)) (nI k) I L = some r ∧ ∀ c, c < 64 → (hb r c = true ↔ ((hb s c = true ∨ rowAt T x0 y0 dx dy k (min n 8) c) ∧ isW T c = false)) := by
  have hW := hT.2.1
  have hD := hT.2.2.2
  intro d
  induction d with
  | zero =>
    intro k fu s hk hf
    obtain ⟨f, rfl⟩ : ∃ f, fu = f + 1 := ⟨fu - 1, by omega⟩
    have e : (if nI n ≤ nI k then some true else if (8 : Int32) ≤ nI k then some true else some false) = some true := by
      by_cases h : n ≤ k
      · rw [if_pos (nI_le h (by omega))]
      · rw [if_neg (nI_ge (by omega) (by omega)), show (8 : Int32) = nI 8 from rfl, if_pos (nI_le (by omega) (by omega))]
    rw [fX12_row_22, e]
    simp only [Option.bind_some]
    rw [if_pos trivial]
    refine ⟨_, rfl, fun c hc => ?_⟩
    rw [hb_and, hb_not _ hc, hm.2.2 c hc]
    have : ¬ rowAt T x0 y0 dx dy k (min n 8) c := by
      rintro ⟨j, h1, h2, _⟩
      omega
    simp [this]
  | succ d ih =>
    intro k fu s hk hf
    obtain ⟨f, rfl⟩ : ∃ f, fu = f + 1 := ⟨fu - 1, by omega⟩
    have e : (if nI n ≤ nI k then some true else if (8 : Int32) ≤ nI k then some true else some false) = some false := by
      rw [if_neg (nI_ge (by omega) (by omega)), show (8 : Int32) = nI 8 from rfl, if_neg (nI_ge (by omega) (by omega))]
    have k8 : k < 8 := by omega
    have mx : -8 ≤ (k : Int) * dx ∧ (k : Int) * dx ≤ 8 := by
      obtain ⟨a, b⟩ := hdx
      have : dx = -1 ∨ dx = 0 ∨ dx = 1 := by omega
      rcases this with h | h | h <;> subst h <;> omega
    have my : -8 ≤ (k : Int) * dy ∧ (k : Int) * dy ≤ 8 := by
      obtain ⟨a, b⟩ := hdy
      have : dy = -1 ∨ dy = 0 ∨ dy = 1 := by omega
      rcases this with h | h | h <;> subst h <;> omega
    have ex : x0 + (k : Int) * dx + dx = x0 + ((k + 1 : Nat) : Int) * dx := by
      rw [Int.natCast_add, Int.add_mul]; omega
    have ey : y0 + (k : Int) * dy + dy = y0 + ((k + 1 : Nat) : Int) * dy := by
      rw [Int.natCast_add, Int.add_mul]; omega
    rw [fX12_row_22, e]
    simp only [Option.bind_some]
    rw [if_neg (by decide), hm.1, hm.2.1, iI_add, iI_add, ex, ey, nI_1]
    have bx : -9 ≤ x0 + ((k + 1 : Nat) : Int) * dx ∧ x0 + ((k + 1 : Nat) : Int) * dx ≤ 18 := by rw [← ex]; omega
    have by' : -9 ≤ y0 + ((k + 1 : Nat) : Int) * dy ∧ y0 + ((k + 1 : Nat) : Int) * dy ≤ 18 := by rw [← ey]; omega
    have step : ∀ c, rowAt T x0 y0 dx dy k (min n 8) c ↔ ((0 ≤ x0 + ((k + 1 : Nat) : Int) * dx ∧ x0 + ((k + 1 : Nat) : Int) * dx < tW T ∧ 0 ≤ y0 + ((k + 1 : Nat) : Int) * dy ∧ y0 + ((k + 1 : Nat) : Int) * dy < tD T ∧ (c : Int) = (y0 + ((k + 1 : Nat) : Int) * dy) * tW T + (x0 + ((k + 1 : Nat) : Int) * dx)) ∨ rowAt T x0 y0 dx dy (k + 1) (min n 8) c) := by
      intro c
      constructor
      · rintro ⟨j, h1, h2, h3⟩
        by_cases hj : j = k + 1
        · subst hj; exact Or.inl h3
        · exact Or.inr ⟨j, by omega, h2, h3⟩
      · rintro (h | ⟨j, h1, h2, h3⟩)
        · exact ⟨k + 1, by omega, by omega, h⟩
        · exact ⟨j, by omega, h2, h3⟩
    generalize hX : x0 + ((k + 1 : Nat) : Int) * dx = X at *
    generalize hY : y0 + ((k + 1 : Nat) : Int) * dy = Y at *
    have c0 : (iI X < 0) ↔ X < 0 := by rw [show (0 : Int32) = iI 0 from rfl, iI_lt (by unfold sml; omega) (by unfold sml; omega)]
    have c1 : (nI (tW T) ≤ iI X) ↔ (tW T : Int) ≤ X := by rw [← iI_n, iI_le (by unfold sml; omega) (by unfold sml; omega)]
    have c2 : (iI Y < 0) ↔ Y < 0 := by rw [show (0 : Int32) = iI 0 from rfl, iI_lt (by unfold sml; omega) (by unfold sml; omega)]
    have c3 : (nI (tD T) ≤ iI Y) ↔ (tD T : Int) ≤ Y := by rw [← iI_n, iI_le (by unfold sml; omega) (by unfold sml; omega)]
    by_cases hin : 0 ≤ X ∧ X < tW T ∧ 0 ≤ Y ∧ Y < tD T
    · rw [if_neg (by rw [c0]; omega), if_neg (by rw [c1]; omega), if_neg (by rw [c2]; omega), if_neg (by rw [c3]; omega)]
      simp only [Option.bind_some]
      rw [if_neg (by decide)]
      obtain ⟨xn, rfl⟩ : ∃ xn : Nat, X = xn := ⟨X.toNat, by omega⟩
      obtain ⟨yn, rfl⟩ : ∃ yn : Nat, Y = yn := ⟨Y.toNat, by omega⟩
      have hyw : yn * tW T ≤ 7 * 8 := Nat.mul_le_mul (by omega) hW
      rw [show iI (yn : Int) * nI (tW T) + iI (xn : Int) = nI (yn * tW T + xn) by rw [iI_n, iI_n, pk_mul, nI_add]]
      obtain ⟨r, e2, hr⟩ := ih (k + 1) f (s ||| (1 : Int64) <<< ((nI (yn * tW T + xn)).toInt64 &&& 63)) (by omega) (by omega)
      rw [hX, hY] at e2
      refine ⟨r, e2, fun c hc => ?_⟩
      rw [hr c hc, hb_or, hb_one (by omega) c hc, step c]
      have ec : ((c : Int) = (yn : Int) * tW T + xn) ↔ c = yn * tW T + xn := by
        rw [← Int.natCast_mul]; omega
      simp only [Bool.or_eq_true, decide_eq_true_eq]
      constructor
      · rintro ⟨(h | h) | h, hw⟩
        · exact ⟨Or.inl h, hw⟩
        · exact ⟨Or.inr (Or.inl ⟨hin.1, hin.2.1, hin.2.2.1, hin.2.2.2, ec.mpr h⟩), hw⟩
        · exact ⟨Or.inr (Or.inr h), hw⟩
      · rintro ⟨h | h | h, hw⟩
        · exact ⟨Or.inl (Or.inl h), hw⟩
        · exact ⟨Or.inl (Or.inr (ec.mp h.2.2.2.2)), hw⟩
        · exact ⟨Or.inr h, hw⟩
    · have e3 : (if iI X < 0 then some true else if nI (tW T) ≤ iI X then some true else if iI Y < 0 then some true else if nI (tD T) ≤ iI Y then some true else some false) = some true := by
        by_cases h1 : X < 0
        · rw [if_pos (c0.mpr h1)]
        · rw [if_neg (fun h => h1 (c0.mp h))]
          by_cases h2 : (tW T : Int) ≤ X
          · rw [if_pos (c1.mpr h2)]
          · rw [if_neg (fun h => h2 (c1.mp h))]
            by_cases h3 : Y < 0
            · rw [if_pos (c2.mpr h3)]
            · rw [if_neg (fun h => h3 (c2.mp h)), if_pos (c3.mpr (by omega))]
      rw [e3]
      simp only [Option.bind_some]
      rw [if_pos trivial]
      obtain ⟨r, e2, hr⟩ := ih (k + 1) f s (by omega) (by omega)
      rw [hX, hY] at e2
      refine ⟨r, e2, fun c hc => ?_⟩
      rw [hr c hc, step c]
      constructor
      · rintro ⟨h | h, hw⟩
        · exact ⟨Or.inl h, hw⟩
        · exact ⟨Or.inr (Or.inr h), hw⟩
      · rintro ⟨h | h | h, hw⟩
        · exact ⟨Or.inl h, hw⟩
        · exact absurd ⟨h.1, h.2.1, h.2.2.1, h.2.2.2.1⟩ hin
        · exact ⟨Or.inr h, hw⟩
