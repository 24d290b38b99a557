/-! the least member of a set of bits -/
theorem sub1_nat {n k : Nat} (hz : ∀ i, i < k → n.testBit i = false) (hk : n.testBit k = true) (i : Nat) : (n - 1).testBit i = if i < k then true else if i = k then false else n.testBit i := by
  have h0 : n % 2 ^ k = 0 := by
    apply Nat.eq_of_testBit_eq
    intro i
    rw [Nat.testBit_mod_two_pow, Nat.zero_testBit]
    by_cases h : i < k
    · simp [h, hz i h]
    · simp [h]
  have h1 : n / 2 ^ k % 2 = 1 := by
    have := hk
    rw [Nat.testBit_eq_decide_div_mod_eq] at this
    simpa using this
  have hp : 0 < 2 ^ k := Nat.two_pow_pos k
  have hd := Nat.div_add_mod n (2 ^ k)
  rw [h0, Nat.add_zero] at hd
  obtain ⟨m, hm⟩ : ∃ m, n / 2 ^ k = 2 * m + 1 := ⟨n / 2 ^ k / 2, by omega⟩
  rw [hm] at hd
  have e : n - 1 = 2 ^ k * (2 * m) + (2 ^ k - 1) := by
    rw [← hd, Nat.mul_add, Nat.mul_one]
    omega
  rw [e, Nat.testBit_two_pow_mul_add _ (by omega)]
  by_cases c1 : i < k
  · rw [if_pos c1, if_pos c1, Nat.testBit_two_pow_sub_one]
    simp [c1]
  · rw [if_neg c1, if_neg c1]
    by_cases c2 : i = k
    · subst c2
      rw [if_pos rfl, Nat.sub_self]
      simp
    · rw [if_neg c2, ← hd, show i = k + (i - k) by omega, Nat.testBit_two_pow_mul]
      simp
      rw [show i - k = (i - k - 1) + 1 by omega, Nat.testBit_succ, Nat.testBit_succ]
      congr 1
      omega
theorem hb_sub1 {s : Int64} {k : Nat} (hk : k < 64) (hz : ∀ i, i < k → hb s i = false) (h1 : hb s k = true) (i : Nat) (hi : i < 64) : hb (s - 1) i = if i < k then true else if i = k then false else hb s i := by
  obtain ⟨n, hn, rfl⟩ := wb_of s
  have hz' : ∀ i, i < k → n.testBit i = false := fun i h => by rw [← hb_lN i (by omega)]; exact hz i h
  have h1' : n.testBit k = true := by rw [← hb_lN k hk]; exact h1
  have hpos : 1 ≤ n := by
    rcases Nat.eq_zero_or_pos n with z | z
    · subst z; simp at h1'
    · exact z
  rw [show (1 : Int64) = lN 1 from rfl, lN_subn hpos, hb_lN i hi, sub1_nat hz' h1', hb_lN i hi]
theorem hb_eq0 {s : Int64} : s = 0 ↔ ∀ i, i < 64 → hb s i = false := by
  constructor
  · intro h i _; rw [h, hb_0]
  · intro h; exact hb_ext (fun c hc => by rw [h c hc, hb_0])
def lowB (s : Int64) : Nat := fa_first (hb s) 64
theorem lowB_lt {s : Int64} (h : s ≠ 0) : lowB s < 64 := by
  rcases Nat.lt_or_ge (lowB s) 64 with z | z
  · exact z
  · exact absurd (hb_eq0.mpr (fun i hi => fa_first_no (hb s) 64 i (Nat.lt_of_lt_of_le hi z))) h
theorem lowB_yes {s : Int64} (h : s ≠ 0) : hb s (lowB s) = true := fa_first_yes _ _ (lowB_lt h)
theorem lowB_no {s : Int64} {i : Nat} (h : i < lowB s) : hb s i = false := fa_first_no _ _ i h
theorem lowB_of {s : Int64} {k : Nat} (hz : ∀ i, i < k → hb s i = false) (h1 : hb s k = true) : lowB s = k := by
  have hs : s ≠ 0 := by
    intro z
    rw [z, hb_0] at h1
    cases h1
  rcases Nat.lt_trichotomy (lowB s) k with z | z | z
  · have := lowB_yes hs
    rw [hz _ z] at this
    cases this
  · exact z
  · have := lowB_no z
    rw [h1] at this
    cases this
theorem x_clear {s : Int64} (h : s ≠ 0) (i : Nat) (hi : i < 64) : hb (s &&& (s - 1)) i = (hb s i && decide (i ≠ lowB s)) := by
  rw [hb_and, hb_sub1 (lowB_lt h) (fun i h => lowB_no h) (lowB_yes h) i hi]
  by_cases c1 : i < lowB s
  · rw [if_pos c1, lowB_no c1]; rfl
  · rw [if_neg c1]
    by_cases c2 : i = lowB s
    · simp [c2]
    · simp [c2]
theorem neg_eq (s : Int64) : -s = (s - 1) ^^^ (-1) := by
  apply Int64.toBitVec_inj.mp
  rw [Int64.toBitVec_neg, Int64.toBitVec_xor, Int64.toBitVec_sub]
  have e : (-1 : Int64).toBitVec = BitVec.allOnes 64 := by decide
  rw [e, BitVec.xor_allOnes, BitVec.not_eq_neg_add]
  have e1 : (1 : Int64).toBitVec = 1#64 := by decide
  rw [e1, BitVec.neg_sub]
  rw [BitVec.sub_eq_add_neg, BitVec.add_assoc, ← BitVec.sub_eq_add_neg 1#64, BitVec.sub_self, BitVec.add_zero]
theorem x_lowest {s : Int64} (h : s ≠ 0) : fJ13_lowestOneBit_067f4 s = (1 : Int64) <<< ((nI (lowB s)).toInt64 &&& 63) := by
  unfold fJ13_lowestOneBit_067f4
  apply hb_ext
  intro i hi
  rw [neg_eq, hb_and, hb_not _ hi, hb_sub1 (lowB_lt h) (fun i h => lowB_no h) (lowB_yes h) i hi, hb_one (lowB_lt h) i hi]
  by_cases c1 : i < lowB s
  · rw [if_pos c1, lowB_no c1]
    simp
    omega
  · rw [if_neg c1]
    by_cases c2 : i = lowB s
    · rw [if_pos c2, c2, lowB_yes h]
      simp
    · rw [if_neg c2]
      simp [c2]
def ntzb (x1 : Int32) : Int32 :=
  if 0 < x1 then
    tbn (
      if x1 ≤ (65536 : Int32) then
        (x1, (1 : Int32))
      else
        let x5 : Int32 := ((1 : Int32) + (16 : Int32))
        let x6 : Int32 := (x1.toUInt32 >>> ((16 : Int32).toUInt32 &&& Int32.toUInt32 31)).toInt32
        (x6, x5)
    ) fun q4 =>
    tbn (
      if q4.1 ≤ (256 : Int32) then
        (q4.1, q4.2)
      else
        let x9 : Int32 := (q4.1.toUInt32 >>> ((8 : Int32).toUInt32 &&& Int32.toUInt32 31)).toInt32
        (x9, (q4.2 + (8 : Int32)))
    ) fun q8 =>
    tbn (
      if q8.1 ≤ (16 : Int32) then
        (q8.1, q8.2)
      else
        let x12 : Int32 := (q8.1.toUInt32 >>> ((4 : Int32).toUInt32 &&& Int32.toUInt32 31)).toInt32
        (x12, (q8.2 + (4 : Int32)))
    ) fun q11 =>
    tbn (
      if q11.1 ≤ (4 : Int32) then
        (q11.1, q11.2)
      else
        let x15 : Int32 := (q11.1.toUInt32 >>> ((2 : Int32).toUInt32 &&& Int32.toUInt32 31)).toInt32
        (x15, (q11.2 + (2 : Int32)))
    ) fun q14 =>
    (q14.2 + (q14.1.toUInt32 >>> ((1 : Int32).toUInt32 &&& Int32.toUInt32 31)).toInt32)
  else
    (x1 &&& (32 : Int32))
theorem ntzb_ok : ∀ k : Fin 32, ntzb (nI (2 ^ k.1 - 1)) = nI k.1 := by decide +kernel
theorem nI_subn {a b : Nat} (h : b ≤ a) : nI a - nI b = nI (a - b) := by
  have : nI (a - b) + nI b = nI a := by rw [nI_add]; congr 1; omega
  rw [← this, Int32.add_sub_cancel]
theorem bt_nI {n : Nat} (c : Nat) (hc : c < 32) : bt (nI n) c = n.testBit c := by
  unfold bt
  show (BitVec.ofNat 32 n).getLsbD c = _
  rw [BitVec.getLsbD_ofNat]
  simp [hc]
theorem x_ntz32 {n k : Nat} (hk : k < 32) (hz : ∀ i, i < k → n.testBit i = false) (h1 : n.testBit k = true) : fJ6_numberOfTrailingZeros_0f7a4 (nI n) = nI k := by
  have hpos : 1 ≤ n := by
    rcases Nat.eq_zero_or_pos n with z | z
    · subst z; simp at h1
    · exact z
  have e : (nI n ^^^ (-1 : Int32)) &&& (nI n - (1 : Int32)) = nI (2 ^ k - 1) := by
    apply b_ext
    intro i hi
    rw [b_and, b_xor, b_m1 i hi, show (1 : Int32) = nI 1 from rfl, nI_subn hpos, bt_nI i hi, bt_nI i hi, bt_nI i hi, sub1_nat hz h1, Nat.testBit_two_pow_sub_one]
    by_cases c1 : i < k
    · simp [c1, hz i c1]
    · by_cases c2 : i = k
      · subst c2; simp
      · simp [c1, c2]
  have e2 : fJ6_numberOfTrailingZeros_0f7a4 (nI n) = ntzb ((nI n ^^^ (-1 : Int32)) &&& (nI n - (1 : Int32))) := rfl
  rw [e2, e, ntzb_ok ⟨k, hk⟩]
theorem x_ntz {s : Int64} (h : s ≠ 0) : fJ13_numberOfTrailingZeros_95d88 s = nI (lowB s) := by
  have hl := lowB_lt h
  have hy := lowB_yes h
  have hn : ∀ i, i < lowB s → hb s i = false := fun i h => lowB_no h
  generalize lowB s = k at hl hy hn
  obtain ⟨n, hn2, rfl⟩ := wb_of s
  have hn' : ∀ i, i < k → n.testBit i = false := fun i h => by rw [← hb_lN i (by omega)]; exact hn i h
  have hy' : n.testBit k = true := by rw [← hb_lN k hl]; exact hy
  unfold fJ13_numberOfTrailingZeros_95d88 tbn
  by_cases c : k < 32
  · rw [if_neg, lN_i, x_ntz32 c hn' hy']
    rw [lN_i]
    intro z
    have := bt_nI (n := n) k c
    rw [z, hy', b_0] at this
    cases this
  · have e0 : (lN n).toInt32 = 0 := by
      rw [lN_i]
      apply b_ext
      intro i hi
      rw [bt_nI i hi, hn' i (by omega), b_0]
    rw [if_pos e0, wb_shrc (y := 32) (k := 32) (m := n / 2 ^ 32) hn2 (by decide) rfl rfl, lN_i, x_ntz32 (k := k - 32) (by omega) ?_ ?_]
    · simp only
      rw [fa_lit 32, nI_add]
      congr 1
      omega
    · intro i hi
      rw [Nat.testBit_div_two_pow]
      exact hn' _ (by omega)
    · rw [Nat.testBit_div_two_pow, show k - 32 + 32 = k by omega]
      exact hy'
theorem least2 {s : Int64} (h : s ≠ 0) : ∀ (d k fu : Nat), k + d = lowB s → d < fu → fX12_leastOf_2 fu s (nI k) = some (nI (lowB s)) := by
  have hl := lowB_lt h
  intro d
  induction d with
  | zero =>
    intro k fu hk hf
    obtain ⟨f, rfl⟩ : ∃ f, fu = f + 1 := ⟨fu - 1, by omega⟩
    have e : k = lowB s := by omega
    rw [e, fX12_leastOf_2, has_hb s hl, lowB_yes h, if_neg (by rw [fa_lit 64]; exact nI_ge (by omega) (by omega))]
    simp [b2i]
  | succ d ih =>
    intro k fu hk hf
    obtain ⟨f, rfl⟩ : ∃ f, fu = f + 1 := ⟨fu - 1, by omega⟩
    rw [fX12_leastOf_2, has_hb s (by omega), lowB_no (by omega), if_neg (by rw [fa_lit 64]; exact nI_ge (by omega) (by omega)), nI_1, ih (k + 1) f (by omega) (by omega)]
    simp [b2i]
theorem m_least {s : Int64} (h : s ≠ 0) : fX12_leastOf s = some (nI (lowB s)) := by
  obtain ⟨m, hm⟩ := fuel_at 100 (by decide)
  have hl := lowB_lt h
  unfold fX12_leastOf
  rw [hm, show (0 : Int32) = nI 0 from rfl, least2 h (lowB s) 0 _ (by omega) (by omega)]
  simp only [Option.bind_some]
  rw [if_neg (by rw [fa_lit 64]; exact nI_ge (by omega) (by omega))]
