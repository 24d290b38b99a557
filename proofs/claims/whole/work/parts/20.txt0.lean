/-! java/lang/String.isLatin1 -/
noncomputable def fJ0_isLatin1_aae02 (k : Nat) : Bool :=
  tbn (
    if (1 : Int32) = 0 then
      true
    else
      if (0 : Int32) = 0 then
        false
      else
        true
  ) fun b1 =>
  if b1 = true then
    false
  else
    true
set_option maxRecDepth 100000 in
set_option maxHeartbeats 4000000 in
theorem tJ0_isLatin1_aae02 {g : GG} {n d : Nat} {r : HR} {k : Nat} (hk : k < 2) {I : HI} {L : HL} {res : Bool} (hf : fJ0_isLatin1_aae02 k = res) : CT g mJ0_isLatin1_aae02 (d + 1) 0 0 n r I L [.retAddr k] (PoB n r res I L) := by
  refine CT.of rfl (Nat.le_of_ble_eq_true rfl) ?_
  show V g mJ0_isLatin1_aae02 (d + 1) 0 0 n r I L 0 [some (.retAddr k)] [] (PoB n r res I L)
  refine V_getCS (pc := 0) dJ0_isLatin1_aae02_0 fjJ0_38 rfl ?_
  obtain ⟨b1, hb1, hf⟩ := tbd hf
  have KTb1 : b1 = true → V g mJ0_isLatin1_aae02 (d + 1) 0 0 n r I L 17 [some (.retAddr k)] [] (PoB n r res I L) := fun hc => by
    replace hf := (if_pos hc).symm.trans hf
    refine V_iconst (pc := 17) dJ0_isLatin1_aae02_17 ic_0 rfl ?_
    cases hf
    exact V_zretE (pc := 18) dJ0_isLatin1_aae02_18 rfl (show (0 : Int32) = b2i false from rfl) PoB_mk
  have KFb1 : ¬ b1 = true → V g mJ0_isLatin1_aae02 (d + 1) 0 0 n r I L 13 [some (.retAddr k)] [] (PoB n r res I L) := fun hc => by
    replace hf := (if_neg hc).symm.trans hf
    refine V_iconst (pc := 13) dJ0_isLatin1_aae02_13 ic_1 rfl ?_
    refine V_goto (pc := 14) (tgt := 18) dJ0_isLatin1_aae02_14 (by decide) ?_
    cases hf
    exact V_zretE (pc := 18) dJ0_isLatin1_aae02_18 rfl (show (1 : Int32) = b2i true from rfl) PoB_mk
  refine V_if_eq (pc := 3) (tgt := 17) dJ0_isLatin1_aae02_3 (by decide) rfl (fun hc => ?_) (fun hc => ?_)
  · replace hb1 := (if_pos hc).symm.trans hb1
    cases hb1
    exact KTb1 rfl
  · replace hb1 := (if_neg hc).symm.trans hb1
    refine V_aload_nX (pc := 6) dJ0_isLatin1_aae02_6 rfl rfl rfl ?_
    refine V_strCoder (pc := 7) dJ0_isLatin1_aae02_7 fjJ0_15 hk rfl ?_
    refine V_if_ne (pc := 10) (tgt := 17) dJ0_isLatin1_aae02_10 (by decide) rfl (fun hc => ?_) (fun hc => ?_)
    · replace hb1 := (if_neg hc).symm.trans hb1
      cases hb1
      exact KTb1 rfl
    · replace hb1 := (if_pos hc).symm.trans hb1
      cases hb1
      exact KFb1 (nbt rfl)
/-! java/lang/String.coder -/
noncomputable def fJ0_coder_7d493 (k : Nat) : Int32 :=
  if (1 : Int32) = 0 then
    (1 : Int32)
  else
    (0 : Int32)
set_option maxRecDepth 100000 in
set_option maxHeartbeats 4000000 in
theorem tJ0_coder_7d493 {g : GG} {n d : Nat} {r : HR} {k : Nat} (hk : k < 2) {I : HI} {L : HL} {res : Int32} (hf : fJ0_coder_7d493 k = res) : CT g mJ0_coder_7d493 (d + 1) 0 0 n r I L [.retAddr k] (PoI n r res I L) := by
  refine CT.of rfl (Nat.le_of_ble_eq_true rfl) ?_
  show V g mJ0_coder_7d493 (d + 1) 0 0 n r I L 0 [some (.retAddr k)] [] (PoI n r res I L)
  refine V_getCS (pc := 0) dJ0_coder_7d493_0 fjJ0_38 rfl ?_
  refine V_if_eq (pc := 3) (tgt := 13) dJ0_coder_7d493_3 (by decide) rfl (fun hc => ?_) (fun hc => ?_)
  · replace hf := (if_pos hc).symm.trans hf
    refine V_iconst (pc := 13) dJ0_coder_7d493_13 ic_1 rfl ?_
    cases hf
    exact V_bret (pc := 14) dJ0_coder_7d493_14 rfl (by decide) PoI_mk
  · replace hf := (if_neg hc).symm.trans hf
    refine V_aload_nX (pc := 6) dJ0_coder_7d493_6 rfl rfl rfl ?_
    refine V_strCoder (pc := 7) dJ0_coder_7d493_7 fjJ0_15 hk rfl ?_
    refine V_goto (pc := 10) (tgt := 14) dJ0_coder_7d493_10 (by decide) ?_
    cases hf
    exact V_bret (pc := 14) dJ0_coder_7d493_14 rfl (by decide) PoI_mk
/-! java/lang/String.length -/
noncomputable def fJ0_length_8abf5 (k : Nat) : Int32 :=
  ((Int32.ofNat (txLen.getD k 0)) >>> ((fJ0_coder_7d493 k) &&& 31))
set_option maxRecDepth 100000 in
set_option maxHeartbeats 4000000 in
theorem tJ0_length_8abf5 {g : GG} {n d : Nat} {r : HR} {k : Nat} (hk : k < 2) {I : HI} {L : HL} {res : Int32} (hf : fJ0_length_8abf5 k = res) : CT g mJ0_length_8abf5 (d + 2) 0 0 n r I L [.retAddr k] (PoI n r res I L) := by
  refine CT.of rfl (Nat.le_of_ble_eq_true rfl) ?_
  show V g mJ0_length_8abf5 (d + 2) 0 0 n r I L 0 [some (.retAddr k)] [] (PoI n r res I L)
  refine V_aload_nX (pc := 0) dJ0_length_8abf5_0 rfl rfl rfl ?_
  refine V_strValue (pc := 1) dJ0_length_8abf5_1 fjJ0_9 hk rfl ?_
  refine V_strLen (pc := 4) dJ0_length_8abf5_4 hk rfl ?_
  refine V_aload_nX (pc := 5) dJ0_length_8abf5_5 rfl rfl rfl ?_
  refine V_cXi (md' := mJ0_coder_7d493) (pc := 6) dJ0_length_8abf5_6 mlJ0_335 mXJ0_coder_7d493 (tJ0_coder_7d493 hk rfl) rfl hk rfl (Nat.le_of_ble_eq_true rfl) rfl ?_
  refine V_ishr (pc := 9) dJ0_length_8abf5_9 rfl ?_
  cases hf
  exact V_iret (pc := 10) dJ0_length_8abf5_10 rfl PoI_mk
/-! java/lang/StringLatin1.canEncode -/
noncomputable def fJ1_canEncode_9a6ad (v1 : Int32) : Bool :=
  tbn (
    if v1 < 0 then
      true
    else
      if (255 : Int32) < v1 then
        true
      else
        false
  ) fun b1 =>
  if b1 = true then
    false
  else
    true
set_option maxRecDepth 100000 in
set_option maxHeartbeats 4000000 in
theorem tJ1_canEncode_9a6ad {g : GG} {n d : Nat} {r : HR}  {v1 : Int32} {I : HI} {L : HL} {res : Bool} (hf : fJ1_canEncode_9a6ad v1 = res) : CT g mJ1_canEncode_9a6ad (d + 1) 0 0 n r I L [.int v1] (PoB n r res I L) := by
  refine CT.of rfl (Nat.le_of_ble_eq_true rfl) ?_
  show V g mJ1_canEncode_9a6ad (d + 1) 0 0 n r I L 0 [some (.int v1)] [] (PoB n r res I L)
  refine V_iload_n (pc := 0) dJ1_canEncode_9a6ad_0 rfl rfl rfl ?_
  obtain ⟨b1, hb1, hf⟩ := tbd hf
  have KTb1 : b1 = true → V g mJ1_canEncode_9a6ad (d + 1) 0 0 n r I L 15 [some (.int v1)] [] (PoB n r res I L) := fun hc => by
    replace hf := (if_pos hc).symm.trans hf
    refine V_iconst (pc := 15) dJ1_canEncode_9a6ad_15 ic_0 rfl ?_
    cases hf
    exact V_zretE (pc := 16) dJ1_canEncode_9a6ad_16 rfl (show (0 : Int32) = b2i false from rfl) PoB_mk
  have KFb1 : ¬ b1 = true → V g mJ1_canEncode_9a6ad (d + 1) 0 0 n r I L 11 [some (.int v1)] [] (PoB n r res I L) := fun hc => by
    replace hf := (if_neg hc).symm.trans hf
    refine V_iconst (pc := 11) dJ1_canEncode_9a6ad_11 ic_1 rfl ?_
    refine V_goto (pc := 12) (tgt := 16) dJ1_canEncode_9a6ad_12 (by decide) ?_
    cases hf
    exact V_zretE (pc := 16) dJ1_canEncode_9a6ad_16 rfl (show (1 : Int32) = b2i true from rfl) PoB_mk
  refine V_if_lt (pc := 1) (tgt := 15) dJ1_canEncode_9a6ad_1 (by decide) rfl (fun hc => ?_) (fun hc => ?_)
  · replace hb1 := (if_pos hc).symm.trans hb1
    cases hb1
    exact KTb1 rfl
  · replace hb1 := (if_neg hc).symm.trans hb1
    refine V_iload_n (pc := 4) dJ1_canEncode_9a6ad_4 rfl rfl rfl ?_
    refine V_sipush (pc := 5) dJ1_canEncode_9a6ad_5 sp_255 rfl ?_
    refine V_icmp_gt (pc := 8) (tgt := 15) dJ1_canEncode_9a6ad_8 (by decide) rfl (fun hc => ?_) (fun hc => ?_)
    · replace hb1 := (if_pos hc).symm.trans hb1
      cases hb1
      exact KTb1 rfl
    · replace hb1 := (if_neg hc).symm.trans hb1
      cases hb1
      exact KFb1 (nbt rfl)
/-! java/lang/StringLatin1.indexOfChar -/
noncomputable def fJ1_indexOfChar_4cfef_7 (k : Nat) : Nat → Int32 → Int32 → Int32 → Option (Int32)
  | 0, _, _, _ => none
  | fu + 1, y3, y4, y5 =>
    if y3 ≤ y5 then
      some (-1 : Int32)
    else
      if inb y5 (txLen.getD k 0) = true then
        if (txB k y5.toNatClampNeg) = y4 then
          some y5
        else
          fJ1_indexOfChar_4cfef_7 k fu y3 y4 (y5 + (1 : Int32))
      else none
set_option maxRecDepth 100000 in
set_option maxHeartbeats 4000000 in
theorem lJ1_indexOfChar_4cfef_7 {g : GG} {n d : Nat} {r : HR} {k : Nat} (hk : k < 2) {P : PP} : ∀ (fu : Nat) (y3 : Int32) (y4 : Int32) (y5 : Int32) (I : HI) (L : HL) (res : Int32), fJ1_indexOfChar_4cfef_7 k fu y3 y4 y5 = some res → P (some (.int res)) n r I L → V g mJ1_indexOfChar_4cfef (d + 1) 0 0 n r I L 7 [some (.retAddr (k + 2)), none, none, some (.int y3), some (.int y4), some (.int y5)] [] P := by
  intro fu
  induction fu with
  | zero => intro y3 y4 y5 I L res hf; cases (show none = some res from hf)
  | succ fu ih =>
    intro y3 y4 y5 I L res hf K
    refine V_iload (pc := 7) dJ1_indexOfChar_4cfef_7 rfl rfl ?_
    refine V_iload_n (pc := 9) dJ1_indexOfChar_4cfef_9 rfl rfl rfl ?_
    refine V_icmp_ge (pc := 10) (tgt := 31) dJ1_indexOfChar_4cfef_10 (by decide) rfl (fun hc => ?_) (fun hc => ?_)
    · replace hf := (if_pos hc).symm.trans hf
      refine V_iconst (pc := 31) dJ1_indexOfChar_4cfef_31 ic_m1 rfl ?_
      cases hf
      exact V_iret (pc := 32) dJ1_indexOfChar_4cfef_32 rfl K
    · replace hf := (if_neg hc).symm.trans hf
      refine V_aload_nX (pc := 13) dJ1_indexOfChar_4cfef_13 rfl rfl rfl ?_
      refine V_iload (pc := 14) dJ1_indexOfChar_4cfef_14 rfl rfl ?_
      obtain ⟨hc1, hf⟩ := pif hf
      refine V_strLd (pc := 16) dJ1_indexOfChar_4cfef_16 hk hc1 rfl ?_
      refine V_iload (pc := 17) dJ1_indexOfChar_4cfef_17 rfl rfl ?_
      refine V_icmp_ne (pc := 19) (tgt := 25) dJ1_indexOfChar_4cfef_19 (by decide) rfl (fun hc => ?_) (fun hc => ?_)
      · replace hf := (if_neg hc).symm.trans hf
        refine V_iinc (ls' := [some _, none, none, some _, some _, some _]) (pc := 25) dJ1_indexOfChar_4cfef_25 rfl (Nat.le_of_ble_eq_true rfl) (congrArg _ ic_1) rfl rfl ?_
        refine V_goto (pc := 28) (tgt := 7) dJ1_indexOfChar_4cfef_28 (by decide) ?_
        exact V_wk (ih _ _ _ _ _ _ hf K) ⟨rfl, ⟨rfl, ⟨rfl, ⟨rfl, trivial⟩⟩⟩⟩
      · replace hf := (if_pos hc).symm.trans hf
        refine V_iload (pc := 22) dJ1_indexOfChar_4cfef_22 rfl rfl ?_
        cases hf
        exact V_iret (pc := 24) dJ1_indexOfChar_4cfef_24 rfl K
noncomputable def fJ1_indexOfChar_4cfef (k : Nat) (v2 : Int32) (v3 : Int32) (v4 : Int32) : Option (Int32) :=
  Option.bind (fJ1_indexOfChar_4cfef_7 k FUEL v4 v2.toInt8.toInt32 v3) fun q2 =>
  some q2
set_option maxRecDepth 100000 in
set_option maxHeartbeats 4000000 in
theorem tJ1_indexOfChar_4cfef {g : GG} {n d : Nat} {r : HR} {k : Nat} (hk : k < 2) {v2 : Int32} {v3 : Int32} {v4 : Int32} {I : HI} {L : HL} {res : Int32} (hf : fJ1_indexOfChar_4cfef k v2 v3 v4 = some res) : CT g mJ1_indexOfChar_4cfef (d + 1) 0 0 n r I L [.retAddr (k + 2), .int v2, .int v3, .int v4] (PoI n r res I L) := by
  refine CT.of rfl (Nat.le_of_ble_eq_true rfl) ?_
  show V g mJ1_indexOfChar_4cfef (d + 1) 0 0 n r I L 0 [some (.retAddr (k + 2)), some (.int v2), some (.int v3), some (.int v4)] [] (PoI n r res I L)
  refine V_iload_n (pc := 0) dJ1_indexOfChar_4cfef_0 rfl rfl rfl ?_
  refine V_i2b (pc := 1) dJ1_indexOfChar_4cfef_1 rfl ?_
  refine V_istore (ls' := [some _, some _, some _, some _, some _]) (pc := 2) dJ1_indexOfChar_4cfef_2 (Nat.le_of_ble_eq_true rfl) rfl rfl ?_
  refine V_iload_n (pc := 4) dJ1_indexOfChar_4cfef_4 rfl rfl rfl ?_
  refine V_istore (ls' := [some _, some _, some _, some _, some _, some _]) (pc := 5) dJ1_indexOfChar_4cfef_5 (Nat.le_of_ble_eq_true rfl) rfl rfl ?_
  obtain ⟨q2, hq2, hf⟩ := bnd hf
  refine V_wk (lJ1_indexOfChar_4cfef_7 hk FUEL _ _ _ _ _ _ hq2 ?_) ⟨rfl, ⟨rfl, ⟨rfl, ⟨rfl, trivial⟩⟩⟩⟩
  cases hf
  exact PoI_mk
/-! java/lang/StringLatin1.indexOf -/
noncomputable def fJ1_indexOf_4cfef (k : Nat) (v2 : Int32) (v3 : Int32) (v4 : Int32) : Option (Int32) :=
  if (b2i (fJ1_canEncode_9a6ad v2)) = 0 then
    some (-1 : Int32)
  else
    let x1 : Int32 := (if v3 < (0 : Int32) then (0 : Int32) else v3)
    let x2 : Int32 := (if (Int32.ofNat (txLen.getD k 0)) < v4 then (Int32.ofNat (txLen.getD k 0)) else v4)
    if x1 < x2 then
      Option.bind (fJ1_indexOfChar_4cfef k v2 x1 x2) fun q3 =>
      some q3
    else
      some (-1 : Int32)
set_option maxRecDepth 100000 in
set_option maxHeartbeats 4000000 in
theorem tJ1_indexOf_4cfef {g : GG} {n d : Nat} {r : HR} {k : Nat} (hk : k < 2) {v2 : Int32} {v3 : Int32} {v4 : Int32} {I : HI} {L : HL} {res : Int32} (hf : fJ1_indexOf_4cfef k v2 v3 v4 = some res) : CT g mJ1_indexOf_4cfef (d + 2) 0 0 n r I L [.retAddr (k + 2), .int v2, .int v3, .int v4] (PoI n r res I L) := by
  refine CT.of rfl (Nat.le_of_ble_eq_true rfl) ?_
  show V g mJ1_indexOf_4cfef (d + 2) 0 0 n r I L 0 [some (.retAddr (k + 2)), some (.int v2), some (.int v3), some (.int v4)] [] (PoI n r res I L)
  refine V_iload_n (pc := 0) dJ1_indexOf_4cfef_0 rfl rfl rfl ?_
  refine V_cSz (md' := mJ1_canEncode_9a6ad) (pc := 1) dJ1_indexOf_4cfef_1 mlJ1_88 mSJ1_canEncode_9a6ad (tJ1_canEncode_9a6ad rfl) rfl rfl (Nat.le_of_ble_eq_true rfl) rfl ?_
  refine V_if_ne (pc := 4) (tgt := 9) dJ1_indexOf_4cfef_4 (by decide) rfl (fun hc => ?_) (fun hc => ?_)
  · replace hf := (if_neg hc).symm.trans hf
    refine V_iload_n (pc := 9) dJ1_indexOf_4cfef_9 rfl rfl rfl ?_
    refine V_iconst (pc := 10) dJ1_indexOf_4cfef_10 ic_0 rfl ?_
    refine V_mmax (pc := 11) dJ1_indexOf_4cfef_11 mlJ1_92 (Nat.le_of_ble_eq_true rfl) rfl ?_
    let x1 : Int32 := (if v3 < (0 : Int32) then (0 : Int32) else v3)
    refine V_istore_n (ls' := [some _, some _, some _, some _]) (pc := 14) dJ1_indexOf_4cfef_14 rfl (Nat.le_of_ble_eq_true rfl) rfl rfl ?_
    refine V_iload_n (pc := 15) dJ1_indexOf_4cfef_15 rfl rfl rfl ?_
    refine V_aload_nX (pc := 16) dJ1_indexOf_4cfef_16 rfl rfl rfl ?_
    refine V_strLen (pc := 17) dJ1_indexOf_4cfef_17 hk rfl ?_
    refine V_mmin (pc := 18) dJ1_indexOf_4cfef_18 mlJ1_38 (Nat.le_of_ble_eq_true rfl) rfl ?_
    let x2 : Int32 := (if (Int32.ofNat (txLen.getD k 0)) < v4 then (Int32.ofNat (txLen.getD k 0)) else v4)
    refine V_istore_n (ls' := [some _, some _, some _, some _]) (pc := 21) dJ1_indexOf_4cfef_21 rfl (Nat.le_of_ble_eq_true rfl) rfl rfl ?_
    refine V_iload_n (pc := 22) dJ1_indexOf_4cfef_22 rfl rfl rfl ?_
    refine V_iload_n (pc := 23) dJ1_indexOf_4cfef_23 rfl rfl rfl ?_
    refine V_icmp_lt (pc := 24) (tgt := 29) dJ1_indexOf_4cfef_24 (by decide) rfl (fun hc => ?_) (fun hc => ?_)
    · replace hf := (if_pos hc).symm.trans hf
      refine V_aload_nX (pc := 29) dJ1_indexOf_4cfef_29 rfl rfl rfl ?_
      refine V_iload_n (pc := 30) dJ1_indexOf_4cfef_30 rfl rfl rfl ?_
      refine V_iload_n (pc := 31) dJ1_indexOf_4cfef_31 rfl rfl rfl ?_
      refine V_iload_n (pc := 32) dJ1_indexOf_4cfef_32 rfl rfl rfl ?_
      obtain ⟨q3, hq3, hf⟩ := bnd hf
      refine V_cSi (md' := mJ1_indexOfChar_4cfef) (pc := 33) dJ1_indexOf_4cfef_33 mlJ1_95 mSJ1_indexOfChar_4cfef (tJ1_indexOfChar_4cfef hk hq3) rfl rfl (Nat.le_of_ble_eq_true rfl) rfl ?_
      cases hf
      exact V_iret (pc := 36) dJ1_indexOf_4cfef_36 rfl PoI_mk
    · replace hf := (if_neg hc).symm.trans hf
      refine V_iconst (pc := 27) dJ1_indexOf_4cfef_27 ic_m1 rfl ?_
      cases hf
      exact V_iret (pc := 28) dJ1_indexOf_4cfef_28 rfl PoI_mk
  · replace hf := (if_pos hc).symm.trans hf
    refine V_iconst (pc := 7) dJ1_indexOf_4cfef_7 ic_m1 rfl ?_
    cases hf
    exact V_iret (pc := 8) dJ1_indexOf_4cfef_8 rfl PoI_mk
/-! java/lang/String.indexOf -/
noncomputable def fJ0_indexOf_7cf53 (k : Nat) (v1 : Int32) (v2 : Int32) : Option (Int32) :=
  if (b2i (fJ0_isLatin1_aae02 k)) = 0 then
    none
  else
    Option.bind (fJ1_indexOf_4cfef k v1 v2 (fJ0_length_8abf5 k)) fun q1 =>
    some q1
set_option maxRecDepth 100000 in
set_option maxHeartbeats 4000000 in
theorem tJ0_indexOf_7cf53 {g : GG} {n d : Nat} {r : HR} {k : Nat} (hk : k < 2) {v1 : Int32} {v2 : Int32} {I : HI} {L : HL} {res : Int32} (hf : fJ0_indexOf_7cf53 k v1 v2 = some res) : CT g mJ0_indexOf_7cf53 (d + 3) 0 0 n r I L [.retAddr k, .int v1, .int v2] (PoI n r res I L) := by
  refine CT.of rfl (Nat.le_of_ble_eq_true rfl) ?_
  show V g mJ0_indexOf_7cf53 (d + 3) 0 0 n r I L 0 [some (.retAddr k), some (.int v1), some (.int v2)] [] (PoI n r res I L)
  refine V_aload_nX (pc := 0) dJ0_indexOf_7cf53_0 rfl rfl rfl ?_
  refine V_cXz (md' := mJ0_isLatin1_aae02) (pc := 1) dJ0_indexOf_7cf53_1 mlJ0_492 mXJ0_isLatin1_aae02 (tJ0_isLatin1_aae02 hk rfl) rfl hk rfl (Nat.le_of_ble_eq_true rfl) rfl ?_
  refine V_if_eq (pc := 4) (tgt := 23) dJ0_indexOf_7cf53_4 (by decide) rfl (fun hc => ?_) (fun hc => ?_)
  · replace hf := (if_pos hc).symm.trans hf
    refine V_aload_nX (pc := 23) dJ0_indexOf_7cf53_23 rfl rfl rfl ?_
    refine V_strValue (pc := 24) dJ0_indexOf_7cf53_24 fjJ0_9 hk rfl ?_
    refine V_iload_n (pc := 27) dJ0_indexOf_7cf53_27 rfl rfl rfl ?_
    refine V_iload_n (pc := 28) dJ0_indexOf_7cf53_28 rfl rfl rfl ?_
    refine V_aload_nX (pc := 29) dJ0_indexOf_7cf53_29 rfl rfl rfl ?_
    refine V_cXi (md' := mJ0_length_8abf5) (pc := 30) dJ0_indexOf_7cf53_30 mlJ0_505 mXJ0_length_8abf5 (tJ0_length_8abf5 hk rfl) rfl hk rfl (Nat.le_of_ble_eq_true rfl) rfl ?_
    cases hf
  · replace hf := (if_neg hc).symm.trans hf
    refine V_aload_nX (pc := 7) dJ0_indexOf_7cf53_7 rfl rfl rfl ?_
    refine V_strValue (pc := 8) dJ0_indexOf_7cf53_8 fjJ0_9 hk rfl ?_
    refine V_iload_n (pc := 11) dJ0_indexOf_7cf53_11 rfl rfl rfl ?_
    refine V_iload_n (pc := 12) dJ0_indexOf_7cf53_12 rfl rfl rfl ?_
    refine V_aload_nX (pc := 13) dJ0_indexOf_7cf53_13 rfl rfl rfl ?_
    refine V_cXi (md' := mJ0_length_8abf5) (pc := 14) dJ0_indexOf_7cf53_14 mlJ0_505 mXJ0_length_8abf5 (tJ0_length_8abf5 hk rfl) rfl hk rfl (Nat.le_of_ble_eq_true rfl) rfl ?_
    obtain ⟨q1, hq1, hf⟩ := bnd hf
    refine V_cSi (md' := mJ1_indexOf_4cfef) (pc := 17) dJ0_indexOf_7cf53_17 mlJ0_637 mSJ1_indexOf_4cfef (tJ1_indexOf_4cfef hk hq1) rfl rfl (Nat.le_of_ble_eq_true rfl) rfl ?_
    refine V_goto (pc := 20) (tgt := 36) dJ0_indexOf_7cf53_20 (by decide) ?_
    cases hf
    exact V_iret (pc := 36) dJ0_indexOf_7cf53_36 rfl PoI_mk
/-! java/lang/String.indexOf -/
noncomputable def fJ0_indexOf_0f7a4 (k : Nat) (v1 : Int32) : Option (Int32) :=
  Option.bind (fJ0_indexOf_7cf53 k v1 (0 : Int32)) fun q1 =>
  some q1
set_option maxRecDepth 100000 in
set_option maxHeartbeats 4000000 in
theorem tJ0_indexOf_0f7a4 {g : GG} {n d : Nat} {r : HR} {k : Nat} (hk : k < 2) {v1 : Int32} {I : HI} {L : HL} {res : Int32} (hf : fJ0_indexOf_0f7a4 k v1 = some res) : CT g mJ0_indexOf_0f7a4 (d + 4) 0 0 n r I L [.retAddr k, .int v1] (PoI n r res I L) := by
  refine CT.of rfl (Nat.le_of_ble_eq_true rfl) ?_
  show V g mJ0_indexOf_0f7a4 (d + 4) 0 0 n r I L 0 [some (.retAddr k), some (.int v1)] [] (PoI n r res I L)
  refine V_aload_nX (pc := 0) dJ0_indexOf_0f7a4_0 rfl rfl rfl ?_
  refine V_iload_n (pc := 1) dJ0_indexOf_0f7a4_1 rfl rfl rfl ?_
  refine V_iconst (pc := 2) dJ0_indexOf_0f7a4_2 ic_0 rfl ?_
  obtain ⟨q1, hq1, hf⟩ := bnd hf
  refine V_cXi (md' := mJ0_indexOf_7cf53) (pc := 3) dJ0_indexOf_0f7a4_3 mlJ0_633 mXJ0_indexOf_7cf53 (tJ0_indexOf_7cf53 hk hq1) rfl hk rfl (Nat.le_of_ble_eq_true rfl) rfl ?_
  cases hf
  exact V_iret (pc := 6) dJ0_indexOf_0f7a4_6 rfl PoI_mk
