def dX (dir : Nat) : Int := if dir = 0 then 1 else if dir = 1 then -1 else 0
def dY (dir : Nat) : Int := if dir = 2 then 1 else if dir = 3 then -1 else 0
theorem rowAt_ray {T : Nat → Nat → Nat} {cell n dir c : Nat} (hT : TSize T) (hc : cell < tC T) (hd : dir < 4) : rowAt T ((cell % tW T : Nat) : Int) ((cell / tW T : Nat) : Int) (dX dir) (dY dir) 0 (min n 8) c ↔ ray T dir cell n c = true := by
  have hw8 := tW8 hT
  have hD := hT.2.2
  unfold rowAt ray dX dY tC at *
  have h4 : dir = 0 ∨ dir = 1 ∨ dir = 2 ∨ dir = 3 := by omega
  generalize tW T = W at *
  generalize tD T = D at *
  rcases h4 with h | h | h | h
  · subst h
    simp only [if_true, Bool.and_eq_true, decide_eq_true_eq, Int.mul_one, Int.mul_zero, Int.add_zero, if_neg (show ¬ (0 : Nat) = 2 by decide), if_neg (show ¬ (0 : Nat) = 3 by decide)]
    constructor
    · rintro ⟨j, h1, h2, h3, h4, h5, h6, h7⟩
      rcases hw8 with h | h | h | h | h | h | h | h <;> subst h <;> omega
    · rintro ⟨h1, h2, h3, h4⟩
      refine ⟨c - cell, ?_⟩
      rcases hw8 with h | h | h | h | h | h | h | h <;> subst h <;> omega
  · subst h
    simp only [if_true, Bool.and_eq_true, decide_eq_true_eq, Int.mul_neg, Int.mul_one, Int.mul_zero, Int.add_zero, if_neg (show ¬ (1 : Nat) = 0 by decide), if_neg (show ¬ (1 : Nat) = 2 by decide), if_neg (show ¬ (1 : Nat) = 3 by decide)]
    constructor
    · rintro ⟨j, h1, h2, h3, h4, h5, h6, h7⟩
      rcases hw8 with h | h | h | h | h | h | h | h <;> subst h <;> omega
    · rintro ⟨h1, h2, h3, h4⟩
      refine ⟨cell - c, ?_⟩
      rcases hw8 with h | h | h | h | h | h | h | h <;> subst h <;> omega
  · subst h
    simp only [if_true, Bool.and_eq_true, decide_eq_true_eq, Int.mul_one, Int.mul_zero, Int.add_zero, if_neg (show ¬ (2 : Nat) = 0 by decide), if_neg (show ¬ (2 : Nat) = 1 by decide)]
    constructor
    · rintro ⟨j, h1, h2, h3, h4, h5, h6, h7⟩
      rcases hw8 with h | h | h | h | h | h | h | h <;> subst h <;> omega
    · rintro ⟨h1, h2, h3, h4⟩
      refine ⟨(c - cell) / W, ?_⟩
      rcases hw8 with h | h | h | h | h | h | h | h <;> subst h <;> omega
  · subst h
    simp only [if_true, Bool.and_eq_true, decide_eq_true_eq, Int.mul_neg, Int.mul_one, Int.mul_zero, Int.add_zero, if_neg (show ¬ (3 : Nat) = 0 by decide), if_neg (show ¬ (3 : Nat) = 1 by decide), if_neg (show ¬ (3 : Nat) = 2 by decide)]
    constructor
    · rintro ⟨j, h1, h2, h3, h4, h5, h6, h7⟩
      rcases hw8 with h | h | h | h | h | h | h | h <;> subst h <;> omega
    · rintro ⟨h1, h2, h3, h4⟩
      refine ⟨(cell - c) / W, ?_⟩
      rcases hw8 with h | h | h | h | h | h | h | h <;> subst h <;> omega
theorem dX_le (dir : Nat) : -1 ≤ dX dir ∧ dX dir ≤ 1 := by
  unfold dX
  split
  · omega
  · split <;> omega
theorem dY_le (dir : Nat) : -1 ≤ dY dir ∧ dY dir ≤ 1 := by
  unfold dY
  split
  · omega
  · split <;> omega
theorem m_row {T : Nat → Nat → Nat} {I : HI} {L : HL} {cell n dir : Nat} (hT : TSize T) (hm : MSize T I L) (hc : cell < tC T) (hn : n < 1000) (hd : dir < 4) : ∃ r, fX12_row (nI cell) (iI (dX dir)) (iI (dY dir)) (nI n) I L = some r ∧ ∀ c, c < 64 → hb r c = (ray T dir cell n c && !isW T c) := by
  obtain ⟨m, hf⟩ := fuel_at 1000 (by decide)
  have hW := hT.1
  obtain ⟨h64, h1, h2⟩ := mod_row hT hc
  have hT2 := hT.2.1
  have hT3 := hT.2.2.2
  have nn : (0 : Int) ≤ ((cell / tW T : Nat) : Int) := Int.natCast_nonneg _
  obtain ⟨r, e, hr⟩ := m_rowL (n := n) (x0 := ((cell % tW T : Nat) : Int)) (y0 := ((cell / tW T : Nat) : Int)) (dx := dX dir) (dy := dY dir) hT hm hn ⟨by omega, by omega⟩ ⟨by omega, by omega⟩ (dX_le dir) (dY_le dir) (min n 8) 0 FUEL 0 (by omega) (by omega)
  unfold fX12_row
  rw [hm.1, if_neg (nI_ne0 hW (by omega)), if_neg (nI_ne0 hW (by omega)), pk_rem (by omega) hW (by omega), pk_div (by omega) hW (by omega)]
  simp only [Int.natCast_zero, Int.zero_mul, Int.add_zero] at e
  rw [iI_n, iI_n] at e
  rw [show (0 : Int32) = nI 0 from rfl, e]
  refine ⟨r, rfl, fun c h64 => ?_⟩
  have h := hr c h64
  rw [hb_0, rowAt_ray hT hc hd] at h
  cases hh : hb r c <;> cases hray : ray T dir cell n c <;> cases hw : isW T c <;> simp_all
/-! the shadow that a lamp throws -/
def btw (T : Nat → Nat → Nat) (lamp door c : Nat) : Prop := (lamp / tW T = door / tW T ∨ c % tW T = door % tW T) ∧ ((lamp < c ∧ c < door) ∨ (door < c ∧ c < lamp))
def clearL (T : Nat → Nat → Nat) (lamp door : Nat) : Prop := ∀ c, c < 64 → btw T lamp door c → isW T c = false
def dirOf (T : Nat → Nat → Nat) (lamp door : Nat) : Nat := if lamp / tW T = door / tW T then (if lamp < door then 0 else 1) else (if lamp < door then 2 else 3)
def thr (T : Nat → Nat → Nat) (lamp door high c : Nat) : Prop := lamp ≠ door ∧ (lamp / tW T = door / tW T ∨ lamp % tW T = door % tW T) ∧ clearL T lamp door ∧ ray T (dirOf T lamp door) door high c = true ∧ isW T c = false
theorem btw_row {T : Nat → Nat → Nat} {lamp door : Nat} (hT : TSize T) (hl : lamp < tC T) (hd : door < tC T) (hr : lamp / tW T = door / tW T) (hne : lamp ≠ door) (c : Nat) : rayS T door (((lamp % tW T : Nat) : Int) - ((door % tW T : Nat) : Int)) c = true ↔ (btw T lamp door c ∨ c = lamp) := by
  have hw8 := tW8 hT
  have hC := tC_le hT
  unfold rayS btw ray
  by_cases h : lamp < door
  · have h0 : ¬ (0 : Int) < ((lamp % tW T : Nat) : Int) - ((door % tW T : Nat) : Int) := by
      generalize tC T = C at *
      generalize tW T = W at *
      rcases hw8 with h | h | h | h | h | h | h | h <;> subst h <;> omega
    rw [if_neg h0]
    simp only [if_true, Bool.and_eq_true, decide_eq_true_eq, if_neg (show ¬ (1 : Nat) = 0 by decide)]
    generalize tC T = C at *
    generalize tW T = W at *
    rcases hw8 with h | h | h | h | h | h | h | h <;> subst h <;> omega
  · have h0 : (0 : Int) < ((lamp % tW T : Nat) : Int) - ((door % tW T : Nat) : Int) := by
      generalize tC T = C at *
      generalize tW T = W at *
      rcases hw8 with h | h | h | h | h | h | h | h <;> subst h <;> omega
    rw [if_pos h0]
    simp only [if_true, Bool.and_eq_true, decide_eq_true_eq]
    generalize tC T = C at *
    generalize tW T = W at *
    rcases hw8 with h | h | h | h | h | h | h | h <;> subst h <;> omega
theorem btw_col {T : Nat → Nat → Nat} {lamp door : Nat} (hT : TSize T) (hl : lamp < tC T) (hd : door < tC T) (hr : lamp % tW T = door % tW T) (hne : lamp / tW T ≠ door / tW T) (c : Nat) : rayC T door (((lamp / tW T : Nat) : Int) - ((door / tW T : Nat) : Int)) c = true ↔ (btw T lamp door c ∨ c = lamp) := by
  have hw8 := tW8 hT
  have hC := tC_le hT
  unfold rayC btw ray
  by_cases h : lamp < door
  · have h0 : ¬ (0 : Int) ≤ ((lamp / tW T : Nat) : Int) - ((door / tW T : Nat) : Int) := by
      generalize tC T = C at *
      generalize tW T = W at *
      rcases hw8 with h | h | h | h | h | h | h | h <;> subst h <;> omega
    rw [if_neg h0]
    simp only [Bool.and_eq_true, decide_eq_true_eq, if_neg (show ¬ (3 : Nat) = 0 by decide), if_neg (show ¬ (3 : Nat) = 1 by decide), if_neg (show ¬ (3 : Nat) = 2 by decide)]
    generalize tC T = C at *
    generalize tW T = W at *
    rcases hw8 with h | h | h | h | h | h | h | h <;> subst h <;> omega
  · have h0 : (0 : Int) ≤ ((lamp / tW T : Nat) : Int) - ((door / tW T : Nat) : Int) := by
      generalize tC T = C at *
      generalize tW T = W at *
      rcases hw8 with h | h | h | h | h | h | h | h <;> subst h <;> omega
    rw [if_pos h0]
    simp only [if_true, Bool.and_eq_true, decide_eq_true_eq, if_neg (show ¬ (2 : Nat) = 0 by decide), if_neg (show ¬ (2 : Nat) = 1 by decide)]
    generalize tC T = C at *
    generalize tW T = W at *
    rcases hw8 with h | h | h | h | h | h | h | h <;> subst h <;> omega
def XWalls (T : Nat → Nat → Nat) (q : Nat) (L : HL) : Prop := (∀ c, c < 64 → hb (L q 3) c = isW T c) ∧ ∀ c, c < 64 → hb (L q 4) c = (decide (c < tC T) && !isW T c)
theorem and_walls {T : Nat → Nat → Nat} {s w : Int64} {lamp door : Nat} (hw : ∀ c, c < 64 → hb w c = isW T c) (h64 : lamp < 64) (hl : isW T lamp = false) (hs : ∀ c, c < 64 → (hb s c = true ↔ (btw T lamp door c ∨ c = lamp))) : (s &&& w = 0) ↔ clearL T lamp door := by
  rw [hb_eq0]
  constructor
  · intro h c hc hb'
    have := h c hc
    rw [hb_and, hw c hc, (hs c hc).mpr (Or.inl hb')] at this
    simpa using this
  · intro h c hc
    rw [hb_and, hw c hc]
    cases hh : hb s c with
    | false => rfl
    | true =>
      rcases (hs c hc).mp hh with h1 | h1
      · rw [h c hc h1]; rfl
      · rw [h1, hl]; rfl
theorem row_eq {T : Nat → Nat → Nat} {lamp door : Nat} (hT : TSize T) (hl : lamp < tC T) (hd : door < tC T) : (((lamp % tW T : Nat) : Int) - ((door % tW T : Nat) : Int) = 0 ↔ lamp % tW T = door % tW T) ∧ (((lamp / tW T : Nat) : Int) - ((door / tW T : Nat) : Int) = 0 ↔ lamp / tW T = door / tW T) := by omega
theorem x_castBy {T : Nat → Nat → Nat} {q lamp door high : Nat} {I : HI} {L : HL} (hT : TSize T) (hx : XSize T q I) (hw : XWalls T q L) (hl : lamp < tC T) (hd : door < tC T) (hlw : isW T lamp = false) (hh : 1 ≤ high ∧ high ≤ 9) : ∃ r, fX5_castBy q (nI lamp) (nI door) (nI high) I L = some r ∧ ∀ c, c < 64 → (hb r c = true ↔ thr T lamp door high c) := by
  have hW := hT.1
  have hW2 := hT.2.1
  have hw8 := tW8 hT
  obtain ⟨l64, l1, l2⟩ := mod_row hT hl
  obtain ⟨d64, d1, d2⟩ := mod_row hT hd
  have hT3 := hT.2.2.2
  have nn1 : (0 : Int) ≤ ((lamp / tW T : Nat) : Int) := Int.natCast_nonneg _
  have nn2 : (0 : Int) ≤ ((door / tW T : Nat) : Int) := Int.natCast_nonneg _
  have hC := tC_le hT
  unfold fX5_castBy
  rw [hx.1, if_pos (show (0 : Int32) < nI (tW T) by show nI 0 < nI (tW T); exact nI_lt hW (by omega)), if_neg (nI_ne0 hW (by omega)), if_neg (nI_ne0 hW (by omega)), if_neg (nI_ne0 hW (by omega)), if_neg (nI_ne0 hW (by omega)), pk_rem (by omega) hW (by omega), pk_rem (by omega) hW (by omega), pk_div (by omega) hW (by omega), pk_div (by omega) hW (by omega)]
  simp only [← iI_n, iI_sub]
  obtain ⟨re1, re2⟩ := row_eq hT hl hd
  have z1 : (iI (((lamp % tW T : Nat) : Int) - ((door % tW T : Nat) : Int)) = 0) ↔ lamp % tW T = door % tW T := by
    rw [show (0 : Int32) = iI 0 from rfl, iI_eq (by unfold sml; omega) (by unfold sml; omega)]; exact re1
  have z2 : (iI (((lamp / tW T : Nat) : Int) - ((door / tW T : Nat) : Int)) = 0) ↔ lamp / tW T = door / tW T := by
    rw [show (0 : Int32) = iI 0 from rfl, iI_eq (by unfold sml; omega) (by unfold sml; omega)]; exact re2
  have z3 : (iI (lamp : Int) = iI (door : Int)) ↔ lamp = door := by
    rw [iI_eq (by unfold sml; omega) (by unfold sml; omega)]; omega
  by_cases hon : lamp / tW T = door / tW T ∨ lamp % tW T = door % tW T
  · have e7 : (if iI (((lamp % tW T : Nat) : Int) - ((door % tW T : Nat) : Int)) = 0 then some true else if iI (((lamp / tW T : Nat) : Int) - ((door / tW T : Nat) : Int)) = 0 then some true else some false) = some true := by
      by_cases h1 : lamp % tW T = door % tW T
      · rw [if_pos (z1.mpr h1)]
      · rw [if_neg (fun h => h1 (z1.mp h)), if_pos (z2.mpr (by omega))]
    rw [e7]
    simp only [Option.bind_some]
    rw [if_pos trivial]
    by_cases hsame : lamp = door
    · rw [if_pos (z3.mpr hsame)]
      refine ⟨0, rfl, fun c _ => ?_⟩
      rw [hb_0]
      constructor
      · intro h; cases h
      · intro h; exact absurd hsame h.1
    · rw [if_neg (fun h => hsame (z3.mp h))]
      by_cases hrow : lamp / tW T = door / tW T
      · obtain ⟨r1, e1, hr1⟩ := x_rowBits (((lamp % tW T : Nat) : Int) - ((door % tW T : Nat) : Int)) (by unfold sml; omega) hT hx hd
        have hcl := and_walls hw.1 l64 hlw (s := r1) (door := door) (fun c hc => by rw [hr1 c hc]; exact btw_row hT hl hd hrow hsame c)
        rw [if_pos (z2.mpr hrow), if_pos (z2.mpr hrow), iI_n, e1]
        simp only [Option.bind_some]
        by_cases hclear : clearL T lamp door
        · rw [if_pos (hcl.mpr hclear)]
          by_cases hlt : lamp < door
          · have hneg : ¬ (0 : Int32) ≤ iI (((lamp % tW T : Nat) : Int) - ((door % tW T : Nat) : Int)) := by
              rw [show (0 : Int32) = iI 0 from rfl, iI_le (by unfold sml; omega) (by unfold sml; omega)]
              generalize tC T = C at *
              generalize tW T = W at *
              rcases hw8 with h | h | h | h | h | h | h | h <;> subst h <;> omega
            rw [if_neg hneg]
            simp only [Option.bind_some]
            obtain ⟨r2, e2, hr2⟩ := x_rowBits (high : Int) (by unfold sml; omega) hT hx hd
            rw [e2]
            refine ⟨_, rfl, fun c hc => ?_⟩
            rw [hb_and, hr2 c hc, hw.2 c hc]
            unfold rayS thr dirOf
            rw [if_pos (by omega), if_pos hrow, if_pos hlt, Int.toNat_natCast]
            simp only [Bool.and_eq_true, decide_eq_true_eq, Bool.not_eq_true']
            constructor
            · rintro ⟨h1, h2, h3⟩; exact ⟨hsame, Or.inl hrow, hclear, h1, h3⟩
            · rintro ⟨_, _, _, h1, h3⟩
              refine ⟨h1, ?_, h3⟩
              unfold ray at h1
              simp only [Bool.and_eq_true, decide_eq_true_eq] at h1
              exact h1.1
          · have hneg : (0 : Int32) ≤ iI (((lamp % tW T : Nat) : Int) - ((door % tW T : Nat) : Int)) := by
              rw [show (0 : Int32) = iI 0 from rfl, iI_le (by unfold sml; omega) (by unfold sml; omega)]
              generalize tC T = C at *
              generalize tW T = W at *
              rcases hw8 with h | h | h | h | h | h | h | h <;> subst h <;> omega
            rw [if_pos hneg]
            simp only [Option.bind_some]
            rw [iI_neg]
            obtain ⟨r2, e2, hr2⟩ := x_rowBits (-(high : Int)) (by unfold sml; omega) hT hx hd
            rw [e2]
            refine ⟨_, rfl, fun c hc => ?_⟩
            rw [hb_and, hr2 c hc, hw.2 c hc]
            unfold rayS thr dirOf
            rw [if_neg (by omega), if_pos hrow, if_neg hlt, show (- -(high : Int)).toNat = high by omega]
            simp only [Bool.and_eq_true, decide_eq_true_eq, Bool.not_eq_true']
            constructor
            · rintro ⟨h1, h2, h3⟩; exact ⟨hsame, Or.inl hrow, hclear, h1, h3⟩
            · rintro ⟨_, _, _, h1, h3⟩
              refine ⟨h1, ?_, h3⟩
              unfold ray at h1
              simp only [Bool.and_eq_true, decide_eq_true_eq] at h1
              exact h1.1
        · rw [if_neg (fun h => hclear (hcl.mp h))]
          refine ⟨0, rfl, fun c _ => ?_⟩
          rw [hb_0]
          constructor
          · intro h; cases h
          · intro h; exact absurd h.2.2.1 hclear
      · have hcol : lamp % tW T = door % tW T := by omega
        obtain ⟨r1, e1, hr1⟩ := x_columnBits (((lamp / tW T : Nat) : Int) - ((door / tW T : Nat) : Int)) (by omega) hT hx hd
        have hcl := and_walls hw.1 l64 hlw (s := r1) (door := door) (fun c hc => by rw [hr1 c hc]; exact btw_col hT hl hd hcol hrow c)
        rw [if_neg (fun h => hrow (z2.mp h)), if_neg (fun h => hrow (z2.mp h)), iI_n, e1]
        simp only [Option.bind_some]
        by_cases hclear : clearL T lamp door
        · rw [if_pos (hcl.mpr hclear)]
          by_cases hlt : lamp < door
          · have hneg : ¬ (0 : Int32) ≤ iI (((lamp / tW T : Nat) : Int) - ((door / tW T : Nat) : Int)) := by
              rw [show (0 : Int32) = iI 0 from rfl, iI_le (by unfold sml; omega) (by unfold sml; omega)]
              generalize tC T = C at *
              generalize tW T = W at *
              rcases hw8 with h | h | h | h | h | h | h | h <;> subst h <;> omega
            rw [if_neg hneg]
            simp only [Option.bind_some]
            obtain ⟨r2, e2, hr2⟩ := x_columnBits (high : Int) (by omega) hT hx hd
            rw [e2]
            refine ⟨_, rfl, fun c hc => ?_⟩
            rw [hb_and, hr2 c hc, hw.2 c hc]
            unfold rayC thr dirOf
            rw [if_pos (by omega), if_neg hrow, if_pos hlt, Int.toNat_natCast]
            simp only [Bool.and_eq_true, decide_eq_true_eq, Bool.not_eq_true']
            constructor
            · rintro ⟨h1, h2, h3⟩; exact ⟨hsame, Or.inr hcol, hclear, h1, h3⟩
            · rintro ⟨_, _, _, h1, h3⟩
              refine ⟨h1, ?_, h3⟩
              unfold ray at h1
              simp only [Bool.and_eq_true, decide_eq_true_eq] at h1
              exact h1.1
          · have hneg : (0 : Int32) ≤ iI (((lamp / tW T : Nat) : Int) - ((door / tW T : Nat) : Int)) := by
              rw [show (0 : Int32) = iI 0 from rfl, iI_le (by unfold sml; omega) (by unfold sml; omega)]
              generalize tC T = C at *
              generalize tW T = W at *
              rcases hw8 with h | h | h | h | h | h | h | h <;> subst h <;> omega
            rw [if_pos hneg]
            simp only [Option.bind_some]
            rw [iI_neg]
            obtain ⟨r2, e2, hr2⟩ := x_columnBits (-(high : Int)) (by omega) hT hx hd
            rw [e2]
            refine ⟨_, rfl, fun c hc => ?_⟩
            rw [hb_and, hr2 c hc, hw.2 c hc]
            unfold rayC thr dirOf
            rw [if_neg (by omega), if_neg hrow, if_neg hlt, show (- -(high : Int)).toNat = high by omega]
            simp only [Bool.and_eq_true, decide_eq_true_eq, Bool.not_eq_true']
            constructor
            · rintro ⟨h1, h2, h3⟩; exact ⟨hsame, Or.inr hcol, hclear, h1, h3⟩
            · rintro ⟨_, _, _, h1, h3⟩
              refine ⟨h1, ?_, h3⟩
              unfold ray at h1
              simp only [Bool.and_eq_true, decide_eq_true_eq] at h1
              exact h1.1
        · rw [if_neg (fun h => hclear (hcl.mp h))]
          refine ⟨0, rfl, fun c _ => ?_⟩
          rw [hb_0]
          constructor
          · intro h; cases h
          · intro h; exact absurd h.2.2.1 hclear
  · have e7 : (if iI (((lamp % tW T : Nat) : Int) - ((door % tW T : Nat) : Int)) = 0 then some true else if iI (((lamp / tW T : Nat) : Int) - ((door / tW T : Nat) : Int)) = 0 then some true else some false) = some false := by
      rw [if_neg (fun h => hon (Or.inr (z1.mp h))), if_neg (fun h => hon (Or.inl (z2.mp h)))]
    rw [e7]
    simp only [Option.bind_some]
    rw [if_neg (by decide)]
    refine ⟨0, rfl, fun c _ => ?_⟩
    rw [hb_0]
    constructor
    · intro h; cases h
    · intro h; exact absurd h.2.1 hon
