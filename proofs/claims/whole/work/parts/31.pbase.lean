/-! pure lemmas: heaps, loops -/
theorem up2_at {α : Type} (F : Nat → Nat → α) (k i : Nat) (v : α) (a j : Nat) : up2 F k i v a j = if a = k ∧ j = i then v else F a j := by
  unfold up2
  by_cases h : a = k
  · subst h
    by_cases h2 : j = i
    · simp [h2]
    · simp [h2]
  · simp [h]
theorem fuel_at (k : Nat) (h : k ≤ 100000) : ∃ m, FUEL = m + k := ⟨FUEL - k, by have := FUEL_ge; omega⟩
theorem inb_nI {n N : Nat} (h : n < N) (hN : N < 2 ^ 31) : inb (nI n) N = true := inb_iff.mpr (vp_in_nI h hN)
theorem clamp_nI {n : Nat} (h : n < 2 ^ 31) : (nI n).toNatClampNeg = n := nI_clamp h
theorem b2i_eq0 (b : Bool) : (b2i b = 0) ↔ b = false := by cases b <;> decide
theorem b2i_inj {a b : Bool} : (b2i a = b2i b) ↔ a = b := by cases a <;> cases b <;> decide
/-- byte j of a number, as the class keeps it, and as the reference does -/
def xby (v : Int32) (s : Int32) : Int32 := ((v.toUInt32 >>> (s.toUInt32 &&& Int32.toUInt32 31)).toInt32.toInt8.toInt32.toInt8.toInt32)
def mby (v : Int32) (s : Int32) : Int32 := (v >>> (s &&& 31)) &&& 255
theorem t255 (i : Nat) : (255#32).getLsbD i = decide (i < 8) := by
  have h : Nat.testBit 255 i = decide (i < 8) := Nat.testBit_two_pow_sub_one 8 i
  rw [BitVec.getLsbD_ofNat, h]
  by_cases h8 : i < 8
  · simp [h8, show i < 32 by omega]
  · simp [h8]
theorem by_same (v : Int32) : xby v 24 &&& 255 = mby v 24 ∧ xby v 16 &&& 255 = mby v 16 ∧ xby v 8 &&& 255 = mby v 8 ∧ xby v 0 &&& 255 = mby v 0 := by
  refine ⟨?_, ?_, ?_, ?_⟩ <;>
  · apply Int32.toBitVec_inj.mp
    unfold xby mby
    apply BitVec.eq_of_getLsbD_eq
    intro i hi
    simp [t255]
    by_cases h8 : i < 8
    · simp [BitVec.getElem_signExtend, BitVec.getElem_sshiftRight, h8, hi]
      try rw [dif_pos (by omega)]
      try exact BitVec.getLsbD_eq_getElem (by omega)
    · simp [h8]
/-- the tape: how many bytes, and those -/
def sB (b : Nat) : Int32 := Int32.ofInt (if b < 128 then (b : Int) else (b : Int) - 256)
theorem sB_8 : ∀ b : Fin 256, (nI b.1).toInt8.toInt32 = sB b.1 := by decide +kernel
theorem i8_of : ∀ b : Fin 256, Int8.ofBitVec (BitVec.ofNat 8 b.1) = (nI b.1).toInt8 := by decide +kernel
theorem byte_ex (z : Int8) : ∃ b, b < 256 ∧ z.toInt32 = sB b ∧ z.toInt32 &&& 255 = nI b := by
  have hb : z.toBitVec.toNat < 256 := z.toBitVec.isLt
  have e : z = (nI z.toBitVec.toNat).toInt8 := by
    rw [← i8_of ⟨_, hb⟩]
    apply Int8.toBitVec_inj.mp
    show z.toBitVec = BitVec.ofNat 8 z.toBitVec.toNat
    simp
  refine ⟨z.toBitVec.toNat, hb, ?_, ?_⟩
  · conv => lhs; rw [e]
    exact sB_8 ⟨_, hb⟩
  · conv => lhs; rw [e]
    exact sc_k8 _ hb
def TapeOk (I : HI) : Prop := ∃ n : Nat, n ≤ 1600 ∧ I 0 1 = nI n ∧ I 73 1 = nI n ∧ ∀ i, i < n → ∃ b, b < 256 ∧ I 1 i = sB b ∧ I 74 i = nI b
theorem x_put_step {I : HI} {n : Nat} {fu : Nat} {y1 y2 : Int32} (h0 : I 0 1 = nI n) (hn : n < 1600) (hy : ¬ y2 < 0) : fX11_putOnTape_3 (fu + 1) y1 y2 I = fX11_putOnTape_3 fu y1 (y2 + (-8 : Int32)) (up2 (up2 I 1 n (xby y1 y2)) 0 1 (nI (n + 1))) := by
  have a : ¬ (Int32.ofNat 1600 ≤ nI n) := nI_ge hn (by decide)
  have b : inb (nI n) 1600 = true := inb_nI hn (by decide)
  have c : (nI n).toNatClampNeg = n := clamp_nI (by omega)
  rw [fX11_putOnTape_3, if_neg hy, h0, if_neg a, if_pos b, c]
  simp only [up2_at, h0]
  simp [nI_1, xby]
theorem m_four_step {I : HI} {n : Nat} {fu : Nat} {y1 y2 : Int32} (h0 : I 73 1 = nI n) (hn : n < 1600) (hy : ¬ y2 < 0) : fX12_four_3 (fu + 1) y1 y2 I = fX12_four_3 fu y1 (y2 + (-8 : Int32)) (up2 (up2 I 74 n (mby y1 y2)) 73 1 (nI (n + 1))) := by
  have b : inb (nI n) 1600 = true := inb_nI hn (by decide)
  have c : (nI n).toNatClampNeg = n := clamp_nI (by omega)
  rw [fX12_four_3, if_neg hy, h0, if_pos b, c]
  simp only [up2_at, h0]
  simp [nI_1, mby]
/-- four bytes more on a tape that lies in row b, its length at (a, 1) -/
def put4 (a b : Nat) (by_ : Int32 → Int32 → Int32) (n : Nat) (v : Int32) (I : HI) : HI := up2 (up2 (up2 (up2 (up2 (up2 (up2 (up2 I b n (by_ v 24)) a 1 (nI (n + 1))) b (n + 1) (by_ v 16)) a 1 (nI (n + 2))) b (n + 2) (by_ v 8)) a 1 (nI (n + 3))) b (n + 3) (by_ v 0)) a 1 (nI (n + 4))
theorem x_put {I : HI} {n : Nat} (v : Int32) (h0 : I 0 1 = nI n) (hn : n + 4 ≤ 1600) : fX11_putOnTape v I = some (put4 0 1 xby n v I) := by
  obtain ⟨m, hm⟩ := fuel_at 5 (by decide)
  unfold fX11_putOnTape
  rw [hm, x_put_step h0 (by omega) (by decide), x_put_step (n := n + 1) (by simp [up2_at]) (by omega) (by decide), x_put_step (n := n + 2) (by simp [up2_at]) (by omega) (by decide), x_put_step (n := n + 3) (by simp [up2_at]) (by omega) (by decide), fX11_putOnTape_3, if_pos (by decide)]
  rfl
theorem m_put {I : HI} {n : Nat} (v : Int32) (h0 : I 73 1 = nI n) (hn : n + 4 ≤ 1600) : fX12_four v I = some (put4 73 74 mby n v I) := by
  obtain ⟨m, hm⟩ := fuel_at 5 (by decide)
  unfold fX12_four
  rw [hm, m_four_step h0 (by omega) (by decide), m_four_step (n := n + 1) (by simp [up2_at]) (by omega) (by decide), m_four_step (n := n + 2) (by simp [up2_at]) (by omega) (by decide), m_four_step (n := n + 3) (by simp [up2_at]) (by omega) (by decide), fX12_four_3, if_pos (by decide)]
  rfl
theorem put4_len {a b n : Nat} {by_ : Int32 → Int32 → Int32} {v : Int32} {I : HI} : put4 a b by_ n v I a 1 = nI (n + 4) := by simp [put4, up2_at]
theorem put4_off {a b n : Nat} {by_ : Int32 → Int32 → Int32} {v : Int32} {I : HI} {k : Nat} (h1 : k ≠ a) (h2 : k ≠ b) : put4 a b by_ n v I k = I k := by
  unfold put4
  rw [up2_off _ _ _ h1, up2_off _ _ _ h2, up2_off _ _ _ h1, up2_off _ _ _ h2, up2_off _ _ _ h1, up2_off _ _ _ h2, up2_off _ _ _ h1, up2_off _ _ _ h2]
theorem put4_fld {a b n : Nat} {by_ : Int32 → Int32 → Int32} {v : Int32} {I : HI} {j : Nat} (hab : a ≠ b) (h : j ≠ 1) : put4 a b by_ n v I a j = I a j := by simp [put4, up2_at, hab, h]
/-- byte k of four -/
def byt4 (by_ : Int32 → Int32 → Int32) (v : Int32) (k : Nat) : Int32 := if k = 0 then by_ v 24 else if k = 1 then by_ v 16 else if k = 2 then by_ v 8 else by_ v 0
theorem put4_byt {a b n : Nat} {by_ : Int32 → Int32 → Int32} {v : Int32} {I : HI} {i : Nat} (hab : b ≠ a) : put4 a b by_ n v I b i = if n ≤ i ∧ i < n + 4 then byt4 by_ v (i - n) else I b i := by
  simp only [put4, up2_at, hab, false_and, if_false, true_and]
  unfold byt4
  by_cases h3 : i = n + 3
  · subst h3; simp
  · by_cases h2 : i = n + 2
    · subst h2; simp
    · by_cases h1 : i = n + 1
      · subst h1; simp
      · by_cases h0 : i = n
        · subst h0; simp
        · rw [if_neg h3, if_neg h2, if_neg h1, if_neg h0, if_neg (by omega)]
theorem byt4_same (v : Int32) (k : Nat) : byt4 xby v k &&& 255 = byt4 mby v k := by
  obtain ⟨h0, h1, h2, h3⟩ := by_same v
  unfold byt4
  split
  · exact h0
  · split
    · exact h1
    · split
      · exact h2
      · exact h3
theorem byt4_ex (v : Int32) (k : Nat) : ∃ b, b < 256 ∧ byt4 xby v k = sB b ∧ byt4 mby v k = nI b := by
  have h : ∃ z : Int8, byt4 xby v k = z.toInt32 := by
    unfold byt4 xby
    split
    · exact ⟨_, rfl⟩
    · split
      · exact ⟨_, rfl⟩
      · split
        · exact ⟨_, rfl⟩
        · exact ⟨_, rfl⟩
  obtain ⟨z, hz⟩ := h
  obtain ⟨b, h1, h2, h3⟩ := byte_ex z
  exact ⟨b, h1, by rw [hz, h2], by rw [← byt4_same, hz, h3]⟩
def put20 (a b : Nat) (by_ : Int32 → Int32 → Int32) (n : Nat) (v1 v2 v3 v4 v5 : Int32) (I : HI) : HI := put4 a b by_ (n + 16) v5 (put4 a b by_ (n + 12) v4 (put4 a b by_ (n + 8) v3 (put4 a b by_ (n + 4) v2 (put4 a b by_ n v1 I))))
theorem put20_len {a b n : Nat} {by_ : Int32 → Int32 → Int32} {v1 v2 v3 v4 v5 : Int32} {I : HI} : put20 a b by_ n v1 v2 v3 v4 v5 I a 1 = nI (n + 20) := put4_len
theorem put20_off {a b n : Nat} {by_ : Int32 → Int32 → Int32} {v1 v2 v3 v4 v5 : Int32} {I : HI} {k : Nat} (h1 : k ≠ a) (h2 : k ≠ b) : put20 a b by_ n v1 v2 v3 v4 v5 I k = I k := by
  unfold put20
  rw [put4_off h1 h2, put4_off h1 h2, put4_off h1 h2, put4_off h1 h2, put4_off h1 h2]
theorem put20_fld {a b n : Nat} {by_ : Int32 → Int32 → Int32} {v1 v2 v3 v4 v5 : Int32} {I : HI} {j : Nat} (hab : a ≠ b) (h : j ≠ 1) : put20 a b by_ n v1 v2 v3 v4 v5 I a j = I a j := by
  unfold put20
  rw [put4_fld hab h, put4_fld hab h, put4_fld hab h, put4_fld hab h, put4_fld hab h]
theorem x_feed {I : HI} {n : Nat} (v1 v2 v3 v4 v5 : Int32) (h0 : I 0 1 = nI n) (hn : n + 20 ≤ 1600) : fX11_feed v1 v2 v3 v4 v5 I = some (nI (n + 20), put20 0 1 xby n v1 v2 v3 v4 v5 I) := by
  unfold fX11_feed
  rw [h0, if_pos (by rw [fa_lit 20, fa_lit 1600, nI_add]; exact nI_le hn (by decide)), x_put v1 h0 (by omega)]
  simp only [Option.bind_some]
  rw [x_put v2 put4_len (by omega)]
  simp only [Option.bind_some]
  rw [x_put v3 put4_len (by omega)]
  simp only [Option.bind_some]
  rw [x_put v4 put4_len (by omega)]
  simp only [Option.bind_some]
  rw [x_put v5 put4_len (by omega)]
  simp only [Option.bind_some]
  rw [put4_len]
  rfl
theorem m_feed {I : HI} {n : Nat} (v1 v2 v3 v4 v5 : Int32) (h0 : I 73 1 = nI n) (hn : n + 20 ≤ 1600) : fX12_feed v1 v2 v3 v4 v5 I = some (nI (n + 20), put20 73 74 mby n v1 v2 v3 v4 v5 I) := by
  unfold fX12_feed
  rw [h0, if_pos (by rw [fa_lit 20, fa_lit 1600, nI_add]; exact nI_le hn (by decide)), m_put v1 h0 (by omega)]
  simp only [Option.bind_some]
  rw [m_put v2 put4_len (by omega)]
  simp only [Option.bind_some]
  rw [m_put v3 put4_len (by omega)]
  simp only [Option.bind_some]
  rw [m_put v4 put4_len (by omega)]
  simp only [Option.bind_some]
  rw [m_put v5 put4_len (by omega)]
  simp only [Option.bind_some]
  rw [put4_len]
  rfl
theorem x_feed_no {I : HI} {n : Nat} (v1 v2 v3 v4 v5 : Int32) (h0 : I 0 1 = nI n) (hn : n ≤ 1600) (h : 1600 < n + 20) : fX11_feed v1 v2 v3 v4 v5 I = some (-1, I) := by
  unfold fX11_feed
  rw [h0, if_neg (by rw [fa_lit 20, fa_lit 1600, nI_add]; exact nI_ge h (by omega))]
theorem m_feed_no {I : HI} {n : Nat} (v1 v2 v3 v4 v5 : Int32) (h0 : I 73 1 = nI n) (hn : n ≤ 1600) (h : 1600 < n + 20) : fX12_feed v1 v2 v3 v4 v5 I = some (-1, I) := by
  unfold fX12_feed
  rw [h0, if_neg (by rw [fa_lit 20, fa_lit 1600, nI_add]; exact nI_ge h (by omega))]
theorem x_end {I : HI} {n : Nat} (v : Int32) (h0 : I 0 1 = nI n) (hn : n ≤ 1600) : fX11_end v I = if v < 0 ∨ nI n < v then ((-1 : Int32), I) else (v, up2 I 0 1 v) := by
  unfold fX11_end tbn
  rw [h0]
  by_cases h1 : v < 0
  · simp [h1]
  · by_cases h2 : v ≤ nI n
    · have h3 : ¬ nI n < v := Int32.not_lt.mpr h2
      simp [h1, h2, h3]
    · have h3 : nI n < v := Int32.not_le.mp h2
      simp [h1, h2, h3]
theorem m_end {I : HI} {n : Nat} (v : Int32) (h0 : I 73 1 = nI n) (hn : n ≤ 1600) : fX12_end v I = if v < 0 ∨ nI n < v then ((-1 : Int32), I) else (v, up2 I 73 1 v) := by
  unfold fX12_end tbn
  rw [h0]
  by_cases h1 : v < 0
  · simp [h1]
  · by_cases h2 : v ≤ nI n
    · have h3 : ¬ nI n < v := Int32.not_lt.mpr h2
      simp [h1, h2, h3]
    · have h3 : nI n < v := Int32.not_le.mp h2
      simp [h1, h2, h3]
theorem tape_feed {I : HI} (v1 v2 v3 v4 v5 : Int32) (h : TapeOk I) : ∃ (r : Int32) (I1 I2 : HI), fX11_feed v1 v2 v3 v4 v5 I = some (r, I1) ∧ fX12_feed v1 v2 v3 v4 v5 I1 = some (r, I2) ∧ TapeOk I2 ∧ (∀ k, k ≠ 0 → k ≠ 1 → k ≠ 73 → k ≠ 74 → I2 k = I k) ∧ (∀ j, j ≠ 1 → I2 0 j = I 0 j ∧ I2 73 j = I 73 j) := by
  obtain ⟨n, hn, h1, h2, h3⟩ := h
  by_cases hq : n + 20 ≤ 1600
  · have e73 : put20 0 1 xby n v1 v2 v3 v4 v5 I 73 = I 73 := put20_off (by decide) (by decide)
    have e74 : put20 0 1 xby n v1 v2 v3 v4 v5 I 74 = I 74 := put20_off (by decide) (by decide)
    refine ⟨_, _, _, x_feed v1 v2 v3 v4 v5 h1 hq, m_feed v1 v2 v3 v4 v5 (by rw [e73]; exact h2) hq, ⟨n + 20, hq, ?_, put20_len, ?_⟩, ?_, ?_⟩
    · rw [put20_off (by decide) (by decide)]; exact put20_len
    · intro i hi
      rw [put20_off (by decide) (by decide)]
      unfold put20
      simp only [put4_byt (show (1 : Nat) ≠ 0 by decide), put4_byt (show (74 : Nat) ≠ 73 by decide)]
      have e : put4 0 1 xby (n + 16) v5 (put4 0 1 xby (n + 12) v4 (put4 0 1 xby (n + 8) v3 (put4 0 1 xby (n + 4) v2 (put4 0 1 xby n v1 I)))) 74 i = I 74 i := by
        have := congrFun e74 i
        exact this
      rw [e]
      by_cases c5 : n + 16 ≤ i ∧ i < n + 16 + 4
      · rw [if_pos c5, if_pos c5]; exact byt4_ex _ _
      · rw [if_neg c5, if_neg c5]
        by_cases c4 : n + 12 ≤ i ∧ i < n + 12 + 4
        · rw [if_pos c4, if_pos c4]; exact byt4_ex _ _
        · rw [if_neg c4, if_neg c4]
          by_cases c3 : n + 8 ≤ i ∧ i < n + 8 + 4
          · rw [if_pos c3, if_pos c3]; exact byt4_ex _ _
          · rw [if_neg c3, if_neg c3]
            by_cases c2 : n + 4 ≤ i ∧ i < n + 4 + 4
            · rw [if_pos c2, if_pos c2]; exact byt4_ex _ _
            · rw [if_neg c2, if_neg c2]
              by_cases c1 : n ≤ i ∧ i < n + 4
              · rw [if_pos c1, if_pos c1]; exact byt4_ex _ _
              · rw [if_neg c1, if_neg c1]
                exact h3 i (by omega)
    · intro k k0 k1 k2 k3
      rw [put20_off k2 k3, put20_off k0 k1]
    · intro j hj
      refine ⟨?_, ?_⟩
      · rw [put20_off (by decide) (by decide)]; exact put20_fld (by decide) hj
      · rw [put20_fld (by decide) hj, e73]
  · refine ⟨_, _, _, x_feed_no v1 v2 v3 v4 v5 h1 hn (by omega), m_feed_no v1 v2 v3 v4 v5 h2 hn (by omega), ⟨n, hn, h1, h2, h3⟩, fun _ _ _ _ _ => rfl, fun _ _ => ⟨rfl, rfl⟩⟩
theorem tape_end {I : HI} (v : Int32) (h : TapeOk I) : ∃ (r : Int32) (I1 I2 : HI), fX11_end v I = (r, I1) ∧ fX12_end v I1 = (r, I2) ∧ TapeOk I2 ∧ (∀ k, k ≠ 0 → k ≠ 1 → k ≠ 73 → k ≠ 74 → I2 k = I k) ∧ (∀ j, j ≠ 1 → I2 0 j = I 0 j ∧ I2 73 j = I 73 j) := by
  obtain ⟨n, hn, h1, h2, h3⟩ := h
  by_cases hq : v < 0 ∨ nI n < v
  · refine ⟨-1, I, I, ?_, ?_, ⟨n, hn, h1, h2, h3⟩, fun _ _ _ _ _ => rfl, fun _ _ => ⟨rfl, rfl⟩⟩
    · rw [x_end v h1 hn, if_pos hq]
    · rw [m_end v h2 hn, if_pos hq]
  · have hv := not_or.mp hq
    obtain ⟨j, hj, rfl⟩ := nI_of hv.1
    have hjn : j ≤ n := by
      rcases Nat.lt_or_ge n j with z | z
      · exact absurd (nI_lt z hj) hv.2
      · exact z
    refine ⟨nI j, up2 I 0 1 (nI j), up2 (up2 I 0 1 (nI j)) 73 1 (nI j), ?_, ?_, ⟨j, by omega, by simp [up2_at], by simp [up2_at], fun i hi => by simp [up2_at]; exact h3 i (by omega)⟩, ?_, ?_⟩
    · rw [x_end _ h1 hn, if_neg hq]
    · rw [m_end _ (n := n) (by simp [up2_at]; exact h2) hn, if_neg hq]
    · intro k k0 k1 k2 k3
      rw [up2_off _ _ _ k2, up2_off _ _ _ k0]
    · intro i hi
      simp [up2_at, hi]
