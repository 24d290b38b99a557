/-! sets of cells as bits of a long -/
def hb (s : Int64) (c : Nat) : Bool := s.toBitVec.getLsbD c
def hc (s : Int32) (c : Nat) : Bool := s.toBitVec.getLsbD c
theorem hb_ext {a b : Int64} (h : ∀ c, c < 64 → hb a c = hb b c) : a = b := by
  apply Int64.toBitVec_inj.mp
  apply BitVec.eq_of_getLsbD_eq
  intro i hi
  exact h i hi
theorem hc_ext {a b : Int32} (h : ∀ c, c < 32 → hc a c = hc b c) : a = b := by
  apply Int32.toBitVec_inj.mp
  apply BitVec.eq_of_getLsbD_eq
  intro i hi
  exact h i hi
theorem hb_hi (s : Int64) {c : Nat} (h : 64 ≤ c) : hb s c = false := BitVec.getLsbD_of_ge _ _ h
theorem hb_or (a b : Int64) (c : Nat) : hb (a ||| b) c = (hb a c || hb b c) := by simp [hb]
theorem hb_and (a b : Int64) (c : Nat) : hb (a &&& b) c = (hb a c && hb b c) := by simp [hb]
theorem hb_xor (a b : Int64) (c : Nat) : hb (a ^^^ b) c = (hb a c ^^ hb b c) := by simp [hb]
theorem hb_0 (c : Nat) : hb 0 c = false := by simp [hb]
theorem hb_m1 {c : Nat} (h : c < 64) : hb (-1) c = true := by
  have : (-1 : Int64).toBitVec = BitVec.allOnes 64 := by decide
  unfold hb
  rw [this, BitVec.getLsbD_allOnes, decide_eq_true h]
theorem hb_not (a : Int64) {c : Nat} (h : c < 64) : hb (a ^^^ (-1)) c = !hb a c := by rw [hb_xor, hb_m1 h]; simp
theorem sm64 : ∀ k : Fin 64, ((lN k.1).toBitVec.smod 64).toNat = k.1 := by decide
theorem sm64u : ∀ k : Fin 64, (lN k.1).toUInt64.toBitVec.toNat = k.1 := by decide
theorem am63 {k : Nat} (h : k < 64) : (nI k).toInt64 &&& 63 = lN k := by
  rw [nI_l (by omega), show (63 : Int64) = lN (2 ^ 6 - 1) from rfl, fb_maskL, Nat.mod_eq_of_lt (by omega)]
theorem shl_bv (s : Int64) {k : Nat} (h : k < 64) : (s <<< lN k).toBitVec = s.toBitVec <<< k := by
  rw [Int64.toBitVec_shiftLeft, BitVec.shiftLeft_eq', sm64 ⟨k, h⟩]
theorem hb_shl (s : Int64) {k : Nat} (h : k < 64) (c : Nat) (hc : c < 64) : hb (s <<< ((nI k).toInt64 &&& 63)) c = (decide (k ≤ c) && hb s (c - k)) := by
  rw [am63 h]
  unfold hb
  rw [shl_bv s h, BitVec.getLsbD_shiftLeft]
  simp [hc]
  by_cases z : k ≤ c
  · simp [z, Nat.not_lt.mpr z]
  · simp [z, Nat.lt_of_not_le z]
theorem hb_ushr (s : Int64) {k : Nat} (h : k < 64) (c : Nat) : hb ((s.toUInt64 >>> ((nI k).toInt64.toUInt64 &&& Int64.toUInt64 63)).toInt64) c = hb s (k + c) := by
  have e : (nI k).toInt64.toUInt64 &&& Int64.toUInt64 63 = (lN k).toUInt64 := by
    rw [← am63 h]; rfl
  rw [e]
  unfold hb
  simp
  have := sm64u ⟨k, h⟩
  simp at this
  rw [show (lN k).toBitVec.toNat = k from by simpa using this]
  rw [Nat.mod_eq_of_lt (by omega)]
theorem hb_1 (c : Nat) : hb 1 c = decide (c = 0) := by
  unfold hb
  simp [BitVec.getLsbD_one]
theorem hb_one {k : Nat} (h : k < 64) (c : Nat) (hc : c < 64) : hb ((1 : Int64) <<< ((nI k).toInt64 &&& 63)) c = decide (c = k) := by
  rw [hb_shl _ h c hc, hb_1]
  by_cases z : k ≤ c
  · simp [z]; omega
  · simp [z]; omega
theorem and1 (s : Int64) : s &&& 1 = if hb s 0 then 1 else 0 := by
  apply hb_ext
  intro c _
  rw [hb_and, hb_1]
  cases z : hb s 0 with
  | false =>
    simp [hb_0]
    intro a b; subst b; rw [z] at a; cases a
  | true =>
    simp [hb_1]
    intro a; subst a; exact z
theorem has_hb (s : Int64) {c : Nat} (h : c < 64) : fX12_has s (nI c) = hb s c := by
  unfold fX12_has
  have e : hb (s >>> ((nI c).toInt64 &&& 63)) 0 = hb s c := by
    rw [am63 h]
    unfold hb
    rw [Int64.toBitVec_shiftRight, BitVec.sshiftRight_eq', BitVec.getLsbD_sshiftRight, sm64 ⟨c, h⟩]
    simp [h]
  rw [and1, e]
  cases hb s c <;> simp
theorem ushr1 (s : Int64) {c : Nat} (h : c < 64) : ((s.toUInt64 >>> ((nI c).toInt64.toUInt64 &&& Int64.toUInt64 63)).toInt64 &&& (1 : Int64)) = if hb s c then 1 else 0 := by
  rw [and1, hb_ushr s h]
  rfl
theorem ushr1_0 (s : Int64) {c : Nat} (h : c < 64) : (((s.toUInt64 >>> ((nI c).toInt64.toUInt64 &&& Int64.toUInt64 63)).toInt64 &&& (1 : Int64)) = 0) ↔ hb s c = false := by
  rw [ushr1 s h]
  cases hb s c <;> simp
