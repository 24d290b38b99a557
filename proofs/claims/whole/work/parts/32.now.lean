/-! what acts change: packed in one long by the class, a row of nine by the reference -/
def pk (N : Nat → Nat) : Nat := ((((((((N 8) * 2 + N 7) * 16 + N 6) * 256 + N 5) * 16 + N 4) * 64 + N 0) * 64 + N 1) * 64 + N 2) * 64 + N 3
def NRng (N : Nat → Nat) : Prop := N 0 < 64 ∧ N 1 < 64 ∧ N 2 < 64 ∧ N 3 < 64 ∧ N 4 < 16 ∧ N 5 < 256 ∧ N 6 < 16 ∧ N 7 < 2 ∧ N 8 ≤ 2000
theorem shl_1 (a : Nat) : lN a <<< ((1 : Int32).toInt64 &&& 63) = lN (a * 2) := by
  apply Int64.toBitVec_inj.mp
  apply BitVec.eq_of_toNat_eq
  unfold lN
  simp [Nat.shiftLeft_eq]
theorem shr_1 (a : Nat) (h : a < 2 ^ 63) : ((lN a).toUInt64 >>> ((1 : Int32).toInt64.toUInt64 &&& Int64.toUInt64 63)).toInt64 = lN (a / 2) := by
  apply Int64.toBitVec_inj.mp
  apply BitVec.eq_of_toNat_eq
  unfold lN
  simp [Nat.shiftRight_eq_div_pow]
  omega
theorem shl_4 (a : Nat) : lN a <<< ((4 : Int32).toInt64 &&& 63) = lN (a * 16) := by
  apply Int64.toBitVec_inj.mp
  apply BitVec.eq_of_toNat_eq
  unfold lN
  simp [Nat.shiftLeft_eq]
theorem shr_4 (a : Nat) (h : a < 2 ^ 63) : ((lN a).toUInt64 >>> ((4 : Int32).toInt64.toUInt64 &&& Int64.toUInt64 63)).toInt64 = lN (a / 16) := by
  apply Int64.toBitVec_inj.mp
  apply BitVec.eq_of_toNat_eq
  unfold lN
  simp [Nat.shiftRight_eq_div_pow]
  omega
theorem shl_6 (a : Nat) : lN a <<< ((6 : Int32).toInt64 &&& 63) = lN (a * 64) := by
  apply Int64.toBitVec_inj.mp
  apply BitVec.eq_of_toNat_eq
  unfold lN
  simp [Nat.shiftLeft_eq]
theorem shr_6 (a : Nat) (h : a < 2 ^ 63) : ((lN a).toUInt64 >>> ((6 : Int32).toInt64.toUInt64 &&& Int64.toUInt64 63)).toInt64 = lN (a / 64) := by
  apply Int64.toBitVec_inj.mp
  apply BitVec.eq_of_toNat_eq
  unfold lN
  simp [Nat.shiftRight_eq_div_pow]
  omega
theorem shl_8 (a : Nat) : lN a <<< ((8 : Int32).toInt64 &&& 63) = lN (a * 256) := by
  apply Int64.toBitVec_inj.mp
  apply BitVec.eq_of_toNat_eq
  unfold lN
  simp [Nat.shiftLeft_eq]
theorem shr_8 (a : Nat) (h : a < 2 ^ 63) : ((lN a).toUInt64 >>> ((8 : Int32).toInt64.toUInt64 &&& Int64.toUInt64 63)).toInt64 = lN (a / 256) := by
  apply Int64.toBitVec_inj.mp
  apply BitVec.eq_of_toNat_eq
  unfold lN
  simp [Nat.shiftRight_eq_div_pow]
  omega
theorem orL {a b : Nat} (k : Nat) (h : b < 2 ^ k) : lN (a * 2 ^ k) ||| lN b = lN (a * 2 ^ k + b) := by
  rw [Nat.mul_comm a]
  exact fb_or_sumL a h
def XNow (I : HI) (N : Nat → Nat) : Prop := (∀ i, i < 4 → I 53 i = nI (N i)) ∧ I 52 1 = nI (N 4) ∧ I 52 2 = nI (N 5) ∧ I 52 3 = nI (N 6) ∧ I 52 4 = nI (N 7) ∧ I 52 5 = nI (N 8)
theorem pack_step {I : HI} {N : Nat → Nat} {fu i a : Nat} (hi : i < 4) (h : I 53 i = nI (N i)) (hN : N i < 64) : fX4_packed_57 (fu + 1) (lN a) (nI i) I = fX4_packed_57 fu (lN (a * 64 + N i)) (nI (i + 1)) I := by
  rw [fX4_packed_57, if_neg (show ¬ Int32.ofNat 4 ≤ nI i from nI_ge hi (by decide)), if_pos (inb_nI hi (by decide)), clamp_nI (by omega), h, nI_l (by omega), shl_6, show (64 : Nat) = 2 ^ 6 from rfl, orL 6 (by omega), nI_1]
theorem x_packed {I : HI} {N : Nat → Nat} (h : XNow I N) (hN : NRng N) : fX4_packed I = some (lN (pk N)) := by
  obtain ⟨h0, h1, h2, h3, h4, h5⟩ := h
  obtain ⟨n0, n1, n2, n3, n4, n5, n6, n7, n8⟩ := hN
  obtain ⟨m, hm⟩ := fuel_at 5 (by decide)
  unfold fX4_packed
  have e : (if I 52 4 = 0 then some false else some true) = some (decide (N 7 = 1)) := by
    rw [h4]
    rcases (show N 7 = 0 ∨ N 7 = 1 by omega) with z | z
    · rw [z]; rfl
    · rw [z]; rfl
  have eb : (b2i (decide (N 7 = 1))).toInt64 = lN (N 7) := by
    rcases (show N 7 = 0 ∨ N 7 = 1 by omega) with z | z
    · rw [z]; rfl
    · rw [z]; rfl
  rw [e]
  simp only [Option.bind_some]
  rw [h1, h2, h3, h5, eb, nI_l (by omega), nI_l (by omega), nI_l (by omega), nI_l (by omega), shl_1, show (2 : Nat) = 2 ^ 1 from rfl, orL 1 (by omega), shl_4, show (16 : Nat) = 2 ^ 4 from rfl, orL 4 (by omega), shl_8, show (256 : Nat) = 2 ^ 8 from rfl, orL 8 (by omega), shl_4, show (16 : Nat) = 2 ^ 4 from rfl, orL 4 (by omega), hm]
  rw [show (0 : Int32) = nI 0 from rfl, pack_step (by decide) (h0 0 (by decide)) n0, pack_step (by decide) (h0 1 (by decide)) n1, pack_step (by decide) (h0 2 (by decide)) n2, pack_step (by decide) (h0 3 (by decide)) n3, fX4_packed_57, if_pos (show Int32.ofNat 4 ≤ nI (3 + 1) from nI_le (by decide) (by decide))]
  rfl
