theorem lN_addn (a b : Nat) : lN a + lN b = lN (a + b) := by
  apply Int64.toBitVec_inj.mp
  rw [Int64.toBitVec_add, wb_tb, wb_tb, wb_tb, BitVec.ofNat_add]
theorem lN_subn {a b : Nat} (h : b ≤ a) : lN a - lN b = lN (a - b) := by
  have : lN (a - b) + lN b = lN a := by rw [lN_addn]; congr 1; omega
  rw [← this, Int64.add_sub_cancel]
theorem wb_shrc {n k : Nat} (hn : n < 2 ^ 64) (hk : k < 64) {m : Nat} (hm : m = n / 2 ^ k) {y : Int32} (hy : y = nI k) : ((lN n).toUInt64 >>> (y.toInt64.toUInt64 &&& Int64.toUInt64 63)).toInt64 = lN m := by
  rw [hy, hm]
  exact wb_shr hn hk
theorem pc_bound {n : Nat} (h : n < 2 ^ 64) : pc1 8 n < 2 ^ 64 ∧ pc2 8 n ≤ 7378697629483820646 := by
  have h1 : pc1 8 n < 2 ^ 64 := by unfold pc1; omega
  refine ⟨h1, ?_⟩
  unfold pc2
  have a : pc1 8 n &&& pcM 51 8 ≤ pcM 51 8 := Nat.and_le_right
  have b : pc1 8 n / 4 &&& pcM 51 8 ≤ pcM 51 8 := Nat.and_le_right
  have c : pcM 51 8 = 3689348814741910323 := by decide +kernel
  rw [c] at a b ⊢
  omega
theorem pc64 {n : Nat} (h : n < 2 ^ 64) : fJ13_bitCount_95d88 (lN n) = nI (pcT 8 n) := by
  obtain ⟨h1, h2⟩ := pc_bound h
  have h3 : pc3 8 n ≤ 1085102592571150095 := by
    have c : pcM 15 8 = 1085102592571150095 := by decide +kernel
    unfold pc3
    rw [c]
    exact Nat.and_le_right
  unfold fJ13_bitCount_95d88
  dsimp only
  have a1 : lN n - (((lN n).toUInt64 >>> ((1 : Int32).toInt64.toUInt64 &&& Int64.toUInt64 63)).toInt64 &&& (6148914691236517205 : Int64)) = lN (pc1 8 n) := by
    rw [wb_shrc (y := 1) (k := 1) (m := n / 2) h (by decide) rfl rfl, show (6148914691236517205 : Int64) = lN (pcM 85 8) by decide +kernel, fb_andL, lN_subn (Nat.le_trans Nat.and_le_left (Nat.div_le_self _ _))]
    rfl
  rw [a1]
  have a2 : (lN (pc1 8 n) &&& (3689348814741910323 : Int64)) + (((lN (pc1 8 n)).toUInt64 >>> ((2 : Int32).toInt64.toUInt64 &&& Int64.toUInt64 63)).toInt64 &&& (3689348814741910323 : Int64)) = lN (pc2 8 n) := by
    rw [wb_shrc (y := 2) (k := 2) (m := pc1 8 n / 4) h1 (by decide) rfl rfl, show (3689348814741910323 : Int64) = lN (pcM 51 8) by decide +kernel, fb_andL, fb_andL, lN_addn]
    rfl
  rw [a2]
  have a3 : (lN (pc2 8 n) + ((lN (pc2 8 n)).toUInt64 >>> ((4 : Int32).toInt64.toUInt64 &&& Int64.toUInt64 63)).toInt64) &&& (1085102592571150095 : Int64) = lN (pc3 8 n) := by
    rw [wb_shrc (y := 4) (k := 4) (m := pc2 8 n / 16) (by omega) (by decide) rfl rfl, show (1085102592571150095 : Int64) = lN (pcM 15 8) by decide +kernel, lN_addn, fb_andL]
    rfl
  rw [a3]
  generalize hA : pc3 8 n = A at h3 ⊢
  rw [wb_shrc (y := 8) (k := 8) (m := A / 256) (by omega) (by decide) rfl rfl, lN_addn]
  generalize hB : A + A / 256 = B
  rw [wb_shrc (y := 16) (k := 16) (m := B / 65536) (by omega) (by decide) rfl rfl, lN_addn]
  generalize hC : B + B / 65536 = C
  rw [wb_shrc (y := 32) (k := 32) (m := C / 4294967296) (by omega) (by decide) rfl rfl, lN_addn, lN_i, show (127 : Int32) = nI (2 ^ 7 - 1) from rfl, fa_mask]
  congr 1
  exact pc_sum (by rw [← hA]; exact pc3_S 8 n h) hB.symm hC.symm
theorem hb_lN {n : Nat} (c : Nat) (hc : c < 64) : hb (lN n) c = n.testBit c := by
  unfold hb
  rw [wb_tb, BitVec.getLsbD_ofNat]
  simp [hc]
theorem x_bits (s : Int64) : fJ13_bitCount_95d88 s = nI (fb_ct (hb s) 64) := by
  obtain ⟨n, hn, rfl⟩ := wb_of s
  rw [pc64 hn, pcT_ct]
  congr 1
  exact fb_ct_cong (fun c hc => (hb_lN c hc).symm)
theorem x_bits8 : ∀ b : Fin 256, fJ6_bitCount_0f7a4 (nI b.1) = nI (fb_ct (fun i => b.1.testBit i) 8) := by decide +kernel
theorem members4 (s : Int64) : ∀ (d k fu m : Nat), k + d = 64 → d < fu → fX12_members_4 fu s (nI m) (nI k) = some (nI (m + (fb_ct (hb s) 64 - fb_ct (hb s) k))) := by
  intro d
  induction d with
  | zero =>
    intro k fu m hk hf
    obtain ⟨f, rfl⟩ : ∃ f, fu = f + 1 := ⟨fu - 1, by omega⟩
    have : k = 64 := by omega
    subst this
    rw [fX12_members_4, if_pos (by rw [fa_lit 64]; exact nI_le (by omega) (by omega)), Nat.sub_self]
    rfl
  | succ d ih =>
    intro k fu m hk hf
    obtain ⟨f, rfl⟩ : ∃ f, fu = f + 1 := ⟨fu - 1, by omega⟩
    have hm : fb_ct (hb s) (k + 1) ≤ fb_ct (hb s) 64 := fb_ct_mono _ (by omega)
    rw [fX12_members_4, if_neg (by rw [fa_lit 64]; exact nI_ge (by omega) (by omega)), has_hb s (by omega), nI_1, nI_1, show (0 : Int32) = nI 0 from rfl, nI_add]
    rw [fb_ct_succ] at hm
    cases z : hb s k with
    | false =>
      rw [if_pos (by decide), ih (k + 1) f (m + 0) (by omega) (by omega), fb_ct_succ _ k, z]
      congr 2
    | true =>
      rw [if_neg (by decide), ih (k + 1) f (m + 1) (by omega) (by omega), fb_ct_succ _ k, z]
      rw [z] at hm
      simp only [if_true] at hm ⊢
      congr 2
      omega
theorem m_members (s : Int64) : fX12_members s = some (nI (fb_ct (hb s) 64)) := by
  obtain ⟨m, hm⟩ := fuel_at 100 (by decide)
  unfold fX12_members
  rw [hm, show (0 : Int32) = nI 0 from rfl, members4 s 64 0 _ 0 (by omega) (by omega)]
  simp [fb_ct]
