/-! small whole numbers, also below 0 -/
def iI (z : Int) : Int32 := Int32.ofInt z
theorem iI_n (n : Nat) : iI (n : Int) = nI n := rfl
theorem iI_add (a b : Int) : iI a + iI b = iI (a + b) := (Int32.ofInt_add a b).symm
theorem iI_sub (a b : Int) : iI a - iI b = iI (a - b) := (Int32.ofInt_sub a b).symm
theorem iI_mul (a b : Int) : iI a * iI b = iI (a * b) := (Int32.ofInt_mul a b).symm
theorem iI_neg (a : Int) : -iI a = iI (-a) := (Int32.ofInt_neg a).symm
def sml (z : Int) : Prop := -1000000000 ≤ z ∧ z ≤ 1000000000
theorem iI_t {z : Int} (h : sml z) : (iI z).toInt = z := fb_ofI (by unfold sml at h; omega) (by unfold sml at h; omega)
theorem iI_lt {a b : Int} (ha : sml a) (hb : sml b) : iI a < iI b ↔ a < b := by rw [fa_lt, iI_t ha, iI_t hb]
theorem iI_le {a b : Int} (ha : sml a) (hb : sml b) : iI a ≤ iI b ↔ a ≤ b := by rw [fa_le, iI_t ha, iI_t hb]
theorem iI_eq {a b : Int} (ha : sml a) (hb : sml b) : iI a = iI b ↔ a = b := by rw [fa_eq, iI_t ha, iI_t hb]
theorem iI_of (x : Int32) : x = iI x.toInt := (fb_asI x).symm
/-! the town, told once for both sides -/
def tW (T : Nat → Nat → Nat) : Nat := T 0 0
def tD (T : Nat → Nat → Nat) : Nat := T 0 1
def tC (T : Nat → Nat → Nat) : Nat := tW T * tD T
def isW (T : Nat → Nat → Nat) (c : Nat) : Bool := T 1 c != 0
/-- cells lie in a ray: right, left, down, up -/
def ray (T : Nat → Nat → Nat) (dir cell n c : Nat) : Bool :=
  decide (c < tC T) &&
  (if dir = 0 then decide (c / tW T = cell / tW T ∧ cell < c ∧ c ≤ cell + n)
  else if dir = 1 then decide (c / tW T = cell / tW T ∧ c < cell ∧ cell ≤ c + n)
  else if dir = 2 then decide (c % tW T = cell % tW T ∧ cell < c ∧ c ≤ cell + n * tW T)
  else decide (c % tW T = cell % tW T ∧ c < cell ∧ cell ≤ c + n * tW T))
/-- so many to the right, or, below 0, to the left -/
def rayS (T : Nat → Nat → Nat) (cell : Nat) (v : Int) (c : Nat) : Bool := if 0 < v then ray T 0 cell v.toNat c else ray T 1 cell (-v).toNat c
def rayC (T : Nat → Nat → Nat) (cell : Nat) (v : Int) (c : Nat) : Bool := if 0 ≤ v then ray T 2 cell v.toNat c else ray T 3 cell (-v).toNat c
def TSize (T : Nat → Nat → Nat) : Prop := 1 ≤ tW T ∧ tW T ≤ 8 ∧ 1 ≤ tD T ∧ tD T ≤ 8
theorem tC_le {T : Nat → Nat → Nat} (h : TSize T) : tC T ≤ 64 := by
  obtain ⟨h1, h2, h3, h4⟩ := h
  unfold tC
  exact Nat.mul_le_mul h2 h4
theorem tW8 {T : Nat → Nat → Nat} (h : TSize T) : tW T = 1 ∨ tW T = 2 ∨ tW T = 3 ∨ tW T = 4 ∨ tW T = 5 ∨ tW T = 6 ∨ tW T = 7 ∨ tW T = 8 := by
  obtain ⟨h1, h2, _, _⟩ := h
  omega
/-- ones from a on, n of them -/
theorem ones {a n : Nat} (hn : n < 64) (c : Nat) (hc : c < 64) : hb (((1 : Int64) <<< ((nI n).toInt64 &&& 63)) - 1) c = decide (c < n) := by
  have e : (1 : Int64) <<< ((nI n).toInt64 &&& 63) = lN (2 ^ n) := by
    rw [show (1 : Int64) = lN 1 from rfl, wb_shl 1 hn, Nat.one_mul]
  rw [e, show (1 : Int64) = lN 1 from rfl, lN_subn (Nat.one_le_two_pow), hb_lN c hc, Nat.testBit_two_pow_sub_one]
theorem onesAt {a n : Nat} (hn : n < 64) (ha : a < 64) (c : Nat) (hc : c < 64) : hb ((((1 : Int64) <<< ((nI n).toInt64 &&& 63)) - 1) <<< ((nI a).toInt64 &&& 63)) c = decide (a ≤ c ∧ c < a + n) := by
  rw [hb_shl _ ha c hc, ones (a := 0) hn (c - a) (by omega)]
  by_cases h : a ≤ c
  · simp [h]; omega
  · simp [h]
def XSize (T : Nat → Nat → Nat) (q : Nat) (I : HI) : Prop := I q 0 = nI (tW T) ∧ I q 1 = nI (tD T) ∧ I q 2 = nI (tC T)
theorem mod_row {T : Nat → Nat → Nat} {cell : Nat} (hT : TSize T) (hc : cell < tC T) : cell < 64 ∧ cell % tW T < tW T ∧ cell / tW T < tD T := by
  have h1 : 0 < tW T := hT.1
  refine ⟨Nat.lt_of_lt_of_le hc (tC_le hT), Nat.mod_lt _ h1, ?_⟩
  exact Nat.div_lt_of_lt_mul hc
theorem col_end {T : Nat → Nat → Nat} {cell : Nat} (hT : TSize T) (hc : cell < tC T) : cell + (tW T - 1 - cell % tW T) < tC T := by
  have h0 := hT.1
  obtain ⟨_, h1, h2⟩ := mod_row hT hc
  have h3 : tW T * (cell / tW T) + cell % tW T = cell := Nat.div_add_mod cell (tW T)
  have h4 : tW T * (cell / tW T + 1) ≤ tW T * tD T := Nat.mul_le_mul_left _ h2
  rw [Nat.mul_add, Nat.mul_one] at h4
  unfold tC
  omega
theorem x_rowBits {T : Nat → Nat → Nat} {q cell : Nat} {I : HI} (v : Int) (hv : sml v) (hT : TSize T) (hx : XSize T q I) (hc : cell < tC T) : ∃ r, fX5_rowBits q (nI cell) (iI v) I = some r ∧ ∀ c, c < 64 → hb r c = rayS T cell v c := by
  have hW := hT.1
  have hW2 := hT.2.1
  obtain ⟨h64, hm, _⟩ := mod_row hT hc
  have hend := col_end hT hc
  have hC := tC_le hT
  unfold fX5_rowBits
  rw [hx.1, if_neg (nI_nle hW (by omega)), if_neg (nI_ne0 hW (by omega)), pk_rem (by omega) hW (by omega)]
  simp only [Option.bind_some]
  have hw8 := tW8 hT
  have hcol : cell % tW T ≤ 7 := by omega
  by_cases h : v ≤ 0
  · rw [if_pos (by rw [show (0 : Int32) = iI 0 from rfl, iI_le hv (by unfold sml; omega)]; exact h)]
    -- how many
    have e1 : (-(if iI v < (-8 : Int32) then (-8 : Int32) else iI v)) = nI (if v < -8 then 8 else (-v).toNat) := by
      by_cases h8 : v < -8
      · rw [if_pos (by rw [show (-8 : Int32) = iI (-8) from rfl, iI_lt hv (by unfold sml; omega)]; exact h8), if_pos h8]
        rfl
      · rw [if_neg (by rw [show (-8 : Int32) = iI (-8) from rfl, iI_lt hv (by unfold sml; omega)]; exact h8), if_neg h8, iI_neg, ← iI_n]
        congr 1
        omega
    rw [e1]
    generalize hn : (if v < -8 then 8 else (-v).toNat) = n
    have hn8 : n ≤ 8 := by split at hn <;> omega
    have e2 : (if nI (cell % tW T) < nI n then nI (cell % tW T) else nI n) = nI (min (cell % tW T) n) := by
      by_cases hh : cell % tW T < n
      · rw [if_pos (nI_lt hh (by omega)), Nat.min_eq_left (by omega)]
      · rw [if_neg (nI_nlt (by omega) (by omega)), Nat.min_eq_right (by omega)]
    rw [e2]
    refine ⟨_, rfl, fun c hc64 => ?_⟩
    have hmc : cell % tW T ≤ cell := Nat.mod_le _ _
    rw [pk_sub (by omega), onesAt (by omega) (by omega) c hc64]
    unfold rayS
    rw [if_neg (by omega)]
    unfold ray
    rw [if_neg (by decide), if_pos rfl, ← Bool.decide_and, decide_eq_decide]
    generalize tC T = C at *
    generalize tW T = W at *
    split at hn
    · rcases hw8 with h | h | h | h | h | h | h | h <;> subst h <;> omega
    · rcases hw8 with h | h | h | h | h | h | h | h <;> subst h <;> omega
  · rw [if_neg (by rw [show (0 : Int32) = iI 0 from rfl, iI_le hv (by unfold sml; omega)]; exact h)]
    have e2 : (if nI (tW T) - 1 - nI (cell % tW T) < iI v then nI (tW T) - 1 - nI (cell % tW T) else iI v) = nI (min (tW T - 1 - cell % tW T) v.toNat) := by
      rw [show (1 : Int32) = nI 1 from rfl, pk_sub (by omega), pk_sub (by omega), ← iI_n, ← iI_n]
      unfold sml at hv
      by_cases hh : ((tW T - 1 - cell % tW T : Nat) : Int) < v
      · rw [if_pos (by rw [iI_lt (by unfold sml; omega) (by unfold sml; omega)]; exact hh), Nat.min_eq_left (by omega)]
      · rw [if_neg (by rw [iI_lt (by unfold sml; omega) (by unfold sml; omega)]; exact hh), Nat.min_eq_right (by omega)]
        congr 1
        omega
    rw [e2]
    refine ⟨_, rfl, fun c hc64 => ?_⟩
    rw [nI_1]
    unfold rayS
    rw [if_pos (by omega)]
    unfold ray
    rw [if_pos rfl, ← Bool.decide_and]
    by_cases h63 : cell + 1 < 64
    · rw [onesAt (by omega) h63 c hc64, decide_eq_decide]
      generalize tC T = C at *
      generalize tW T = W at *
      rcases hw8 with h | h | h | h | h | h | h | h <;> subst h <;> omega
    · have h0 : tW T - 1 - cell % tW T = 0 := by omega
      rw [h0, Nat.zero_min]
      have e : (((1 : Int64) <<< ((nI 0).toInt64 &&& 63)) - 1) = 0 := by decide
      rw [e, show cell + 1 = 64 by omega]
      have e3 : (0 : Int64) <<< ((nI 64).toInt64 &&& 63) = 0 := by decide
      rw [e3, hb_0]
      symm
      rw [decide_eq_false_iff_not]
      omega
