/-! what acts change: packed in one long by the class, a row of nine by the reference -/
def pk (N : Nat → Nat) : Nat := ((((((((N 8) * 2 + N 7) * 16 + N 6) * 256 + N 5) * 16 + N 4) * 64 + N 0) * 64 + N 1) * 64 + N 2) * 64 + N 3
def NRng (N : Nat → Nat) : Prop := N 0 < 64 ∧ N 1 < 64 ∧ N 2 < 64 ∧ N 3 < 64 ∧ N 4 < 16 ∧ N 5 < 256 ∧ N 6 < 16 ∧ N 7 < 2 ∧ N 8 ≤ 2000
theorem shl_1 (a : Nat) : lN a <<< ((1 : Int32).toInt64 &&& 63) = lN (a * 2) := by
  apply Int64.toBitVec_inj.mp
  apply BitVec.eq_of_toNat_eq
  unfold lN
  simp [Nat.shiftLeft_eq]
theorem shr_1 (a : Nat) (h : a < 2 ^ 63) : ((lN a).toUInt64 >>> ((1 : Int32).toInt64.toUInt64 &&& Int64.toUInt64 63)).toInt64 = lN (a / 2) := by
  apply Int64.toBitVec_inj.mp
  apply BitVec.eq_of_toNat_eq
  unfold lN
  simp [Nat.shiftRight_eq_div_pow]
  omega
theorem shl_4 (a : Nat) : lN a <<< ((4 : Int32).toInt64 &&& 63) = lN (a * 16) := by
  apply Int64.toBitVec_inj.mp
  apply BitVec.eq_of_toNat_eq
  unfold lN
  simp [Nat.shiftLeft_eq]
theorem shr_4 (a : Nat) (h : a < 2 ^ 63) : ((lN a).toUInt64 >>> ((4 : Int32).toInt64.toUInt64 &&& Int64.toUInt64 63)).toInt64 = lN (a / 16) := by
  apply Int64.toBitVec_inj.mp
  apply BitVec.eq_of_toNat_eq
  unfold lN
  simp [Nat.shiftRight_eq_div_pow]
  omega
theorem shl_6 (a : Nat) : lN a <<< ((6 : Int32).toInt64 &&& 63) = lN (a * 64) := by
  apply Int64.toBitVec_inj.mp
  apply BitVec.eq_of_toNat_eq
  unfold lN
  simp [Nat.shiftLeft_eq]
theorem shr_6 (a : Nat) (h : a < 2 ^ 63) : ((lN a).toUInt64 >>> ((6 : Int32).toInt64.toUInt64 &&& Int64.toUInt64 63)).toInt64 = lN (a / 64) := by
  apply Int64.toBitVec_inj.mp
  apply BitVec.eq_of_toNat_eq
  unfold lN
  simp [Nat.shiftRight_eq_div_pow]
  omega
theorem shl_8 (a : Nat) : lN a <<< ((8 : Int32).toInt64 &&& 63) = lN (a * 256) := by
  apply Int64.toBitVec_inj.mp
  apply BitVec.eq_of_toNat_eq
  unfold lN
  simp [Nat.shiftLeft_eq]
theorem shr_8 (a : Nat) (h : a < 2 ^ 63) : ((lN a).toUInt64 >>> ((8 : Int32).toInt64.toUInt64 &&& Int64.toUInt64 63)).toInt64 = lN (a / 256) := by
  apply Int64.toBitVec_inj.mp
  apply BitVec.eq_of_toNat_eq
  unfold lN
  simp [Nat.shiftRight_eq_div_pow]
  omega
theorem orL {a b : Nat} (k : Nat) (h : b < 2 ^ k) : lN (a * 2 ^ k) ||| lN b = lN (a * 2 ^ k + b) := by
  rw [Nat.mul_comm a]
  exact fb_or_sumL a h
def XNow (I : HI) (N : Nat → Nat) : Prop := (∀ i, i < 4 → I 53 i = nI (N i)) ∧ I 52 1 = nI (N 4) ∧ I 52 2 = nI (N 5) ∧ I 52 3 = nI (N 6) ∧ I 52 4 = nI (N 7) ∧ I 52 5 = nI (N 8)
theorem pack_step {I : HI} {N : Nat → Nat} {fu i a : Nat} (hi : i < 4) (h : I 53 i = nI (N i)) (hN : N i < 64) : fX4_packed_57 (fu + 1) (lN a) (nI i) I = fX4_packed_57 fu (lN (a * 64 + N i)) (nI (i + 1)) I := by
  rw [fX4_packed_57, if_neg (show ¬ Int32.ofNat 4 ≤ nI i from nI_ge hi (by decide)), if_pos (inb_nI hi (by decide)), clamp_nI (by omega), h, nI_l (by omega), shl_6, show (64 : Nat) = 2 ^ 6 from rfl, orL 6 (by omega), nI_1]
theorem x_packed {I : HI} {N : Nat → Nat} (h : XNow I N) (hN : NRng N) : fX4_packed I = some (lN (pk N)) := by
  obtain ⟨h0, h1, h2, h3, h4, h5⟩ := h
  obtain ⟨n0, n1, n2, n3, n4, n5, n6, n7, n8⟩ := hN
  obtain ⟨m, hm⟩ := fuel_at 5 (by decide)
  unfold fX4_packed
  have e : (if I 52 4 = 0 then some false else some true) = some (decide (N 7 = 1)) := by
    rw [h4]
    rcases (show N 7 = 0 ∨ N 7 = 1 by omega) with z | z
    · rw [z]; rfl
    · rw [z]; rfl
  have eb : (b2i (decide (N 7 = 1))).toInt64 = lN (N 7) := by
    rcases (show N 7 = 0 ∨ N 7 = 1 by omega) with z | z
    · rw [z]; rfl
    · rw [z]; rfl
  rw [e]
  simp only [Option.bind_some]
  rw [h1, h2, h3, h5, eb, nI_l (by omega), nI_l (by omega), nI_l (by omega), nI_l (by omega), shl_1, show (2 : Nat) = 2 ^ 1 from rfl, orL 1 (by omega), shl_4, show (16 : Nat) = 2 ^ 4 from rfl, orL 4 (by omega), shl_8, show (256 : Nat) = 2 ^ 8 from rfl, orL 8 (by omega), shl_4, show (16 : Nat) = 2 ^ 4 from rfl, orL 4 (by omega), hm]
  rw [show (0 : Int32) = nI 0 from rfl, pack_step (by decide) (h0 0 (by decide)) n0, pack_step (by decide) (h0 1 (by decide)) n1, pack_step (by decide) (h0 2 (by decide)) n2, pack_step (by decide) (h0 3 (by decide)) n3, fX4_packed_57, if_pos (show Int32.ofNat 4 ≤ nI (3 + 1) from nI_le (by decide) (by decide))]
  rfl
theorem mask_L (n k : Nat) (m : Int64) (hm : m = lN (2 ^ k - 1)) : lN n &&& m = lN (n % 2 ^ k) := by rw [hm]; exact fb_maskL n k
theorem unpack_step {I : HI} {fu i a b : Nat} {y : Int32} (hi : i < 4) (hb : b < 64) (ha : a * 64 + b < 2 ^ 63) (hy : y = nI i) : fX4_unpack_11 (fu + 1) (lN (a * 64 + b)) y I = fX4_unpack_11 fu (lN a) (nI i + (-1 : Int32)) (up2 I 53 i (nI b)) := by
  subst hy
  rw [fX4_unpack_11, if_neg (nI_pos (by omega)), if_pos (inb_nI hi (by decide)), clamp_nI (by omega), shr_6 _ ha, mask_L _ 6 63 rfl, lN_i, show (a * 64 + b) / 64 = a by omega, show (a * 64 + b) % 2 ^ 6 = b by omega]
def nowPut (N : Nat → Nat) (I : HI) : HI := up2 (up2 (up2 (up2 (up2 (up2 (up2 (up2 (up2 I 53 3 (nI (N 3))) 53 2 (nI (N 2))) 53 1 (nI (N 1))) 53 0 (nI (N 0))) 52 1 (nI (N 4))) 52 2 (nI (N 5))) 52 3 (nI (N 6))) 52 4 (nI (N 7))) 52 5 (nI (N 8))
theorem x_unpack {I : HI} {N : Nat → Nat} (hN : NRng N) : fX4_unpack (lN (pk N)) I = some (nowPut N I) := by
  obtain ⟨n0, n1, n2, n3, n4, n5, n6, n7, n8⟩ := hN
  obtain ⟨m, hm⟩ := fuel_at 5 (by decide)
  unfold fX4_unpack pk
  dsimp only
  rw [hm, unpack_step (i := 3) (by decide) n3 (by omega) (by decide), unpack_step (i := 2) (by decide) n2 (by omega) (by decide), unpack_step (i := 1) (by decide) n1 (by omega) (by decide), unpack_step (i := 0) (by decide) n0 (by omega) (by decide), fX4_unpack_11, if_pos (by decide)]
  simp only [Option.bind_some]
  rw [mask_L _ 4 15 rfl, lN_i, shr_4 _ (by omega), mask_L _ 8 255 rfl, lN_i, shr_8 _ (by omega), mask_L _ 4 15 rfl, lN_i, shr_4 _ (by omega), mask_L _ 1 1 rfl, shr_1 _ (by omega), lN_i]
  have e1 : ((((N 8 * 2 + N 7) * 16 + N 6) * 256 + N 5) * 16 + N 4) % 2 ^ 4 = N 4 := by omega
  have e2 : ((((N 8 * 2 + N 7) * 16 + N 6) * 256 + N 5) * 16 + N 4) / 16 = ((N 8 * 2 + N 7) * 16 + N 6) * 256 + N 5 := by omega
  rw [e1, e2]
  have e3 : (((N 8 * 2 + N 7) * 16 + N 6) * 256 + N 5) % 2 ^ 8 = N 5 := by omega
  have e4 : (((N 8 * 2 + N 7) * 16 + N 6) * 256 + N 5) / 256 = (N 8 * 2 + N 7) * 16 + N 6 := by omega
  rw [e3, e4]
  have e5 : ((N 8 * 2 + N 7) * 16 + N 6) % 2 ^ 4 = N 6 := by omega
  have e6 : ((N 8 * 2 + N 7) * 16 + N 6) / 16 = N 8 * 2 + N 7 := by omega
  rw [e5, e6]
  have e7 : (N 8 * 2 + N 7) % 2 ^ 1 = N 7 := by omega
  have e8 : (N 8 * 2 + N 7) / 2 = N 8 := by omega
  rw [e7, e8]
  have e9 : (if lN (N 7) = (0 : Int64) then some false else some true) = some (decide (N 7 = 1)) := by
    rcases (show N 7 = 0 ∨ N 7 = 1 by omega) with z | z
    · rw [z]; rfl
    · rw [z]; rfl
  have eb : b2i (decide (N 7 = 1)) = nI (N 7) := by
    rcases (show N 7 = 0 ∨ N 7 = 1 by omega) with z | z
    · rw [z]; rfl
    · rw [z]; rfl
  rw [e9]
  simp only [Option.bind_some]
  rw [eb]
  rfl
theorem nowPut_now (N : Nat → Nat) (I : HI) : XNow (nowPut N I) N := by
  refine ⟨fun i hi => ?_, ?_, ?_, ?_, ?_, ?_⟩
  · rcases (show i = 0 ∨ i = 1 ∨ i = 2 ∨ i = 3 by omega) with rfl | rfl | rfl | rfl <;> simp [nowPut, up2_at]
  all_goals simp [nowPut, up2_at]
theorem nowPut_off {N : Nat → Nat} {I : HI} {k : Nat} (h1 : k ≠ 52) (h2 : k ≠ 53) : nowPut N I k = I k := by
  unfold nowPut
  simp only [up2_off _ _ _ h1, up2_off _ _ _ h2]
