/-! ShadowDoorsModel.four -/
noncomputable def fX12_four_3 : Nat → Int32 → Int32 → HI → Option (HI)
  | 0, _, _, _ => none
  | fu + 1, y1, y2, I =>
    if y2 < 0 then
      some I
    else
      if inb (I 73 1) 1600 = true then
        let I2 : HI := up2 I 74 (I 73 1).toNatClampNeg ((y1 >>> (y2 &&& 31)) &&& (255 : Int32))
        let I3 : HI := up2 I2 73 1 ((I2 73 1) + (1 : Int32))
        fX12_four_3 fu y1 (y2 + (-8 : Int32)) I3
      else none
set_option maxRecDepth 100000 in
set_option maxHeartbeats 4000000 in
theorem lX12_four_3 {g : GG} {n d : Nat} {tw dr sk tl ff : Nat} (hG : RG tw dr sk tl ff) (hn : 116 ≤ n) {P : PP} : ∀ (fu : Nat) (y1 : Int32) (y2 : Int32) (I : HI) (L : HL) (res : HI), fX12_four_3 fu y1 y2 I = some res → P none n (RT tw dr sk tl ff) res L → V g mX12_four (d + 1) 0 0 n (RT tw dr sk tl ff) I L 3 [some (.ref 73), some (.int y1), some (.int y2)] [] P := by
  intro fu
  induction fu with
  | zero => intro y1 y2 I L res hf; cases (show none = some res from hf)
  | succ fu ih =>
    intro y1 y2 I L res hf K
    refine V_iload_n (pc := 3) dX12_four_3 rfl rfl rfl ?_
    refine V_if_lt (pc := 4) (tgt := 39) dX12_four_4 (by decide) rfl (fun hc => ?_) (fun hc => ?_)
    · replace hf := (if_pos hc).symm.trans hf
      cases hf
      exact V_vret (pc := 39) dX12_four_39 rfl K
    · replace hf := (if_neg hc).symm.trans hf
      refine V_aload_n (pc := 7) dX12_four_7 rfl rfl rfl ?_
      refine V_getR (pc := 8) dX12_four_8 flX12_7 rfl (by omega) (congrArg Prod.fst sh_73) rt_73_0 rfl ?_
      refine V_aload_n (pc := 11) dX12_four_11 rfl rfl rfl ?_
      refine V_getI (pc := 12) dX12_four_12 flX12_148 rfl (by omega) (congrArg Prod.fst sh_73) rfl ?_
      refine V_iload_n (pc := 15) dX12_four_15 rfl rfl rfl ?_
      refine V_iload_n (pc := 16) dX12_four_16 rfl rfl rfl ?_
      refine V_ishr (pc := 17) dX12_four_17 rfl ?_
      refine V_sipush (pc := 18) dX12_four_18 sp_255 rfl ?_
      refine V_iand (pc := 21) dX12_four_21 rfl ?_
      obtain ⟨hc1, hf⟩ := pif hf
      let I2 : HI := up2 I 74 (I 73 1).toNatClampNeg ((y1 >>> (y2 &&& 31)) &&& (255 : Int32))
      refine V_iast (pc := 22) dX12_four_22 (by omega) sh_74 hc1 rfl ?_
      refine V_aload_n (pc := 23) dX12_four_23 rfl rfl rfl ?_
      refine V_dup (pc := 24) dX12_four_24 rfl rfl ?_
      refine V_getI (pc := 25) dX12_four_25 flX12_148 rfl (by omega) (congrArg Prod.fst sh_73) rfl ?_
      refine V_iconst (pc := 28) dX12_four_28 ic_1 rfl ?_
      refine V_iadd (pc := 29) dX12_four_29 rfl ?_
      let I3 : HI := up2 I2 73 1 ((I2 73 1) + (1 : Int32))
      refine V_putI (pc := 30) dX12_four_30 flX12_148 rfl rfl (by omega) (congrArg Prod.fst sh_73) rfl ?_
      refine V_iinc (ls' := [some _, some _, some _]) (pc := 33) dX12_four_33 rfl (Nat.le_of_ble_eq_true rfl) (congrArg _ ic_m8) rfl rfl ?_
      refine V_goto (pc := 36) (tgt := 3) dX12_four_36 (by decide) ?_
      exact V_wk (ih _ _ _ _ _ hf K) ⟨rfl, ⟨rfl, ⟨rfl, trivial⟩⟩⟩
noncomputable def fX12_four (v1 : Int32) (I : HI) : Option (HI) :=
  Option.bind (fX12_four_3 FUEL v1 (24 : Int32) I) fun q4 =>
  some q4
set_option maxRecDepth 100000 in
set_option maxHeartbeats 4000000 in
theorem tX12_four {g : GG} {n d : Nat} {tw dr sk tl ff : Nat} (hG : RG tw dr sk tl ff) (hn : 116 ≤ n) {v1 : Int32} {I : HI} {L : HL} {res : HI} (hf : fX12_four v1 I = some res) : CT g mX12_four (d + 1) 0 0 n (RT tw dr sk tl ff) I L [.ref 73, .int v1] (PoV n (RT tw dr sk tl ff) res L) := by
  refine CT.of rfl (Nat.le_of_ble_eq_true rfl) ?_
  show V g mX12_four (d + 1) 0 0 n (RT tw dr sk tl ff) I L 0 [some (.ref 73), some (.int v1)] [] (PoV n (RT tw dr sk tl ff) res L)
  refine V_bipush (pc := 0) dX12_four_0 bp_24 rfl ?_
  refine V_istore_n (ls' := [some _, some _, some _]) (pc := 2) dX12_four_2 rfl (Nat.le_of_ble_eq_true rfl) rfl rfl ?_
  obtain ⟨q4, hq4, hf⟩ := bnd hf
  refine V_wk (lX12_four_3 hG hn FUEL _ _ _ _ _ hq4 ?_) ⟨rfl, ⟨rfl, ⟨rfl, trivial⟩⟩⟩
  cases hf
  exact PoV_mk
/-! ShadowDoorsModel.feed -/
noncomputable def fX12_feed (v1 : Int32) (v2 : Int32) (v3 : Int32) (v4 : Int32) (v5 : Int32) (I : HI) : Option (Int32 × HI) :=
  if ((I 73 1) + (20 : Int32)) ≤ (1600 : Int32) then
    Option.bind (fX12_four v1 I) fun q1 =>
    Option.bind (fX12_four v2 q1) fun q2 =>
    Option.bind (fX12_four v3 q2) fun q3 =>
    Option.bind (fX12_four v4 q3) fun q4 =>
    Option.bind (fX12_four v5 q4) fun q5 =>
    some ((q5 73 1), q5)
  else
    some ((-1 : Int32), I)
set_option maxRecDepth 100000 in
set_option maxHeartbeats 4000000 in
theorem tX12_feed {g : GG} {n d : Nat} {tw dr sk tl ff : Nat} (hG : RG tw dr sk tl ff) (hn : 116 ≤ n) {v1 : Int32} {v2 : Int32} {v3 : Int32} {v4 : Int32} {v5 : Int32} {I : HI} {L : HL} {res : Int32 × HI} (hf : fX12_feed v1 v2 v3 v4 v5 I = some res) : CT g mX12_feed (d + 2) 0 0 n (RT tw dr sk tl ff) I L [.ref 73, .int v1, .int v2, .int v3, .int v4, .int v5] (PoI n (RT tw dr sk tl ff) res.1 res.2 L) := by
  refine CT.of rfl (Nat.le_of_ble_eq_true rfl) ?_
  show V g mX12_feed (d + 2) 0 0 n (RT tw dr sk tl ff) I L 0 [some (.ref 73), some (.int v1), some (.int v2), some (.int v3), some (.int v4), some (.int v5)] [] (PoI n (RT tw dr sk tl ff) res.1 res.2 L)
  refine V_aload_n (pc := 0) dX12_feed_0 rfl rfl rfl ?_
  refine V_getI (pc := 1) dX12_feed_1 flX12_148 rfl (by omega) (congrArg Prod.fst sh_73) rfl ?_
  refine V_bipush (pc := 4) dX12_feed_4 bp_20 rfl ?_
  refine V_iadd (pc := 6) dX12_feed_6 rfl ?_
  refine V_sipush (pc := 7) dX12_feed_7 sp_1600 rfl ?_
  refine V_icmp_le (pc := 10) (tgt := 15) dX12_feed_10 (by decide) rfl (fun hc => ?_) (fun hc => ?_)
  · replace hf := (if_pos hc).symm.trans hf
    refine V_aload_n (pc := 15) dX12_feed_15 rfl rfl rfl ?_
    refine V_iload_n (pc := 16) dX12_feed_16 rfl rfl rfl ?_
    obtain ⟨q1, hq1, hf⟩ := bnd hf
    refine V_cVv (md' := mX12_four) (pc := 17) dX12_feed_17 mlX12_151 mVX12_four (tX12_four hG hn hq1) rfl (by omega) (congrArg Prod.fst sh_73) rfl (Nat.le_of_ble_eq_true rfl) rfl ?_
    refine V_aload_n (pc := 20) dX12_feed_20 rfl rfl rfl ?_
    refine V_iload_n (pc := 21) dX12_feed_21 rfl rfl rfl ?_
    obtain ⟨q2, hq2, hf⟩ := bnd hf
    refine V_cVv (md' := mX12_four) (pc := 22) dX12_feed_22 mlX12_151 mVX12_four (tX12_four hG hn hq2) rfl (by omega) (congrArg Prod.fst sh_73) rfl (Nat.le_of_ble_eq_true rfl) rfl ?_
    refine V_aload_n (pc := 25) dX12_feed_25 rfl rfl rfl ?_
    refine V_iload_n (pc := 26) dX12_feed_26 rfl rfl rfl ?_
    obtain ⟨q3, hq3, hf⟩ := bnd hf
    refine V_cVv (md' := mX12_four) (pc := 27) dX12_feed_27 mlX12_151 mVX12_four (tX12_four hG hn hq3) rfl (by omega) (congrArg Prod.fst sh_73) rfl (Nat.le_of_ble_eq_true rfl) rfl ?_
    refine V_aload_n (pc := 30) dX12_feed_30 rfl rfl rfl ?_
    refine V_iload (pc := 31) dX12_feed_31 rfl rfl ?_
    obtain ⟨q4, hq4, hf⟩ := bnd hf
    refine V_cVv (md' := mX12_four) (pc := 33) dX12_feed_33 mlX12_151 mVX12_four (tX12_four hG hn hq4) rfl (by omega) (congrArg Prod.fst sh_73) rfl (Nat.le_of_ble_eq_true rfl) rfl ?_
    refine V_aload_n (pc := 36) dX12_feed_36 rfl rfl rfl ?_
    refine V_iload (pc := 37) dX12_feed_37 rfl rfl ?_
    obtain ⟨q5, hq5, hf⟩ := bnd hf
    refine V_cVv (md' := mX12_four) (pc := 39) dX12_feed_39 mlX12_151 mVX12_four (tX12_four hG hn hq5) rfl (by omega) (congrArg Prod.fst sh_73) rfl (Nat.le_of_ble_eq_true rfl) rfl ?_
    refine V_aload_n (pc := 42) dX12_feed_42 rfl rfl rfl ?_
    refine V_getI (pc := 43) dX12_feed_43 flX12_148 rfl (by omega) (congrArg Prod.fst sh_73) rfl ?_
    cases hf
    exact V_iret (pc := 46) dX12_feed_46 rfl PoI_mk
  · replace hf := (if_neg hc).symm.trans hf
    refine V_iconst (pc := 13) dX12_feed_13 ic_m1 rfl ?_
    cases hf
    exact V_iret (pc := 14) dX12_feed_14 rfl PoI_mk
/-! ShadowDoorsModel.end -/
noncomputable def fX12_end (v1 : Int32) (I : HI) : Int32 × HI :=
  tbn (
    if v1 < 0 then
      true
    else
      if v1 ≤ (I 73 1) then
        false
      else
        true
  ) fun b1 =>
  if b1 = true then
    ((-1 : Int32), I)
  else
    let I2 : HI := up2 I 73 1 v1
    (v1, I2)
set_option maxRecDepth 100000 in
set_option maxHeartbeats 4000000 in
theorem tX12_end {g : GG} {n d : Nat} {tw dr sk tl ff : Nat} (hG : RG tw dr sk tl ff) (hn : 116 ≤ n) {v1 : Int32} {I : HI} {L : HL} {res : Int32 × HI} (hf : fX12_end v1 I = res) : CT g mX12_end (d + 1) 0 0 n (RT tw dr sk tl ff) I L [.ref 73, .int v1] (PoI n (RT tw dr sk tl ff) res.1 res.2 L) := by
  refine CT.of rfl (Nat.le_of_ble_eq_true rfl) ?_
  show V g mX12_end (d + 1) 0 0 n (RT tw dr sk tl ff) I L 0 [some (.ref 73), some (.int v1)] [] (PoI n (RT tw dr sk tl ff) res.1 res.2 L)
  refine V_iload_n (pc := 0) dX12_end_0 rfl rfl rfl ?_
  obtain ⟨b1, hb1, hf⟩ := tbd hf
  have KTb1 : b1 = true → V g mX12_end (d + 1) 0 0 n (RT tw dr sk tl ff) I L 12 [some (.ref 73), some (.int v1)] [] (PoI n (RT tw dr sk tl ff) res.1 res.2 L) := fun hc => by
    replace hf := (if_pos hc).symm.trans hf
    refine V_iconst (pc := 12) dX12_end_12 ic_m1 rfl ?_
    cases hf
    exact V_iret (pc := 13) dX12_end_13 rfl PoI_mk
  have KFb1 : ¬ b1 = true → V g mX12_end (d + 1) 0 0 n (RT tw dr sk tl ff) I L 14 [some (.ref 73), some (.int v1)] [] (PoI n (RT tw dr sk tl ff) res.1 res.2 L) := fun hc => by
    replace hf := (if_neg hc).symm.trans hf
    refine V_aload_n (pc := 14) dX12_end_14 rfl rfl rfl ?_
    refine V_iload_n (pc := 15) dX12_end_15 rfl rfl rfl ?_
    let I2 : HI := up2 I 73 1 v1
    refine V_putI (pc := 16) dX12_end_16 flX12_148 rfl rfl (by omega) (congrArg Prod.fst sh_73) rfl ?_
    refine V_iload_n (pc := 19) dX12_end_19 rfl rfl rfl ?_
    cases hf
    exact V_iret (pc := 20) dX12_end_20 rfl PoI_mk
  refine V_if_lt (pc := 1) (tgt := 12) dX12_end_1 (by decide) rfl (fun hc => ?_) (fun hc => ?_)
  · replace hb1 := (if_pos hc).symm.trans hb1
    cases hb1
    exact KTb1 rfl
  · replace hb1 := (if_neg hc).symm.trans hb1
    refine V_iload_n (pc := 4) dX12_end_4 rfl rfl rfl ?_
    refine V_aload_n (pc := 5) dX12_end_5 rfl rfl rfl ?_
    refine V_getI (pc := 6) dX12_end_6 flX12_148 rfl (by omega) (congrArg Prod.fst sh_73) rfl ?_
    refine V_icmp_le (pc := 9) (tgt := 14) dX12_end_9 (by decide) rfl (fun hc => ?_) (fun hc => ?_)
    · replace hb1 := (if_pos hc).symm.trans hb1
      cases hb1
      exact KFb1 (nbt rfl)
    · replace hb1 := (if_neg hc).symm.trans hb1
      cases hb1
      exact KTb1 rfl
/-! ShadowDoorsModel.here -/
noncomputable def fX12_here (v1 : Int32) (I : HI) : Option (Int32) :=
  if (I 73 5) ≤ ((I 73 4) + v1) then
    some (-1 : Int32)
  else
    if inb ((I 73 4) + v1) 1600 = true then
      some (I 74 ((I 73 4) + v1).toNatClampNeg)
    else none
set_option maxRecDepth 100000 in
set_option maxHeartbeats 4000000 in
theorem tX12_here {g : GG} {n d : Nat} {tw dr sk tl ff : Nat} (hG : RG tw dr sk tl ff) (hn : 116 ≤ n) {v1 : Int32} {I : HI} {L : HL} {res : Int32} (hf : fX12_here v1 I = some res) : CT g mX12_here (d + 1) 0 0 n (RT tw dr sk tl ff) I L [.ref 73, .int v1] (PoI n (RT tw dr sk tl ff) res I L) := by
  refine CT.of rfl (Nat.le_of_ble_eq_true rfl) ?_
  show V g mX12_here (d + 1) 0 0 n (RT tw dr sk tl ff) I L 0 [some (.ref 73), some (.int v1)] [] (PoI n (RT tw dr sk tl ff) res I L)
  refine V_aload_n (pc := 0) dX12_here_0 rfl rfl rfl ?_
  refine V_getI (pc := 1) dX12_here_1 flX12_155 rfl (by omega) (congrArg Prod.fst sh_73) rfl ?_
  refine V_iload_n (pc := 4) dX12_here_4 rfl rfl rfl ?_
  refine V_iadd (pc := 5) dX12_here_5 rfl ?_
  refine V_aload_n (pc := 6) dX12_here_6 rfl rfl rfl ?_
  refine V_getI (pc := 7) dX12_here_7 flX12_158 rfl (by omega) (congrArg Prod.fst sh_73) rfl ?_
  refine V_icmp_ge (pc := 10) (tgt := 27) dX12_here_10 (by decide) rfl (fun hc => ?_) (fun hc => ?_)
  · replace hf := (if_pos hc).symm.trans hf
    refine V_iconst (pc := 27) dX12_here_27 ic_m1 rfl ?_
    cases hf
    exact V_iret (pc := 28) dX12_here_28 rfl PoI_mk
  · replace hf := (if_neg hc).symm.trans hf
    refine V_aload_n (pc := 13) dX12_here_13 rfl rfl rfl ?_
    refine V_getR (pc := 14) dX12_here_14 flX12_7 rfl (by omega) (congrArg Prod.fst sh_73) rt_73_0 rfl ?_
    refine V_aload_n (pc := 17) dX12_here_17 rfl rfl rfl ?_
    refine V_getI (pc := 18) dX12_here_18 flX12_155 rfl (by omega) (congrArg Prod.fst sh_73) rfl ?_
    refine V_iload_n (pc := 21) dX12_here_21 rfl rfl rfl ?_
    refine V_iadd (pc := 22) dX12_here_22 rfl ?_
    obtain ⟨hc1, hf⟩ := pif hf
    refine V_iald (pc := 23) dX12_here_23 (by omega) sh_74 hc1 rfl ?_
    refine V_goto (pc := 24) (tgt := 28) dX12_here_24 (by decide) ?_
    cases hf
    exact V_iret (pc := 28) dX12_here_28 rfl PoI_mk
/-! ShadowDoorsModel.isLetter -/
noncomputable def fX12_isLetter (v1 : Int32) : Bool :=
  tbn (
    if v1 < (97 : Int32) then
      true
    else
      if (122 : Int32) < v1 then
        true
      else
        false
  ) fun b1 =>
  if b1 = true then
    false
  else
    true
set_option maxRecDepth 100000 in
set_option maxHeartbeats 4000000 in
theorem tX12_isLetter {g : GG} {n d : Nat} {r : HR}  {v1 : Int32} {I : HI} {L : HL} {res : Bool} (hf : fX12_isLetter v1 = res) : CT g mX12_isLetter (d + 1) 0 0 n r I L [.int v1] (PoB n r res I L) := by
  refine CT.of rfl (Nat.le_of_ble_eq_true rfl) ?_
  show V g mX12_isLetter (d + 1) 0 0 n r I L 0 [some (.int v1)] [] (PoB n r res I L)
  refine V_iload_n (pc := 0) dX12_isLetter_0 rfl rfl rfl ?_
  refine V_bipush (pc := 1) dX12_isLetter_1 bp_97 rfl ?_
  obtain ⟨b1, hb1, hf⟩ := tbd hf
  have KTb1 : b1 = true → V g mX12_isLetter (d + 1) 0 0 n r I L 16 [some (.int v1)] [] (PoB n r res I L) := fun hc => by
    replace hf := (if_pos hc).symm.trans hf
    refine V_iconst (pc := 16) dX12_isLetter_16 ic_0 rfl ?_
    cases hf
    exact V_zretE (pc := 17) dX12_isLetter_17 rfl (show (0 : Int32) = b2i false from rfl) PoB_mk
  have KFb1 : ¬ b1 = true → V g mX12_isLetter (d + 1) 0 0 n r I L 12 [some (.int v1)] [] (PoB n r res I L) := fun hc => by
    replace hf := (if_neg hc).symm.trans hf
    refine V_iconst (pc := 12) dX12_isLetter_12 ic_1 rfl ?_
    refine V_goto (pc := 13) (tgt := 17) dX12_isLetter_13 (by decide) ?_
    cases hf
    exact V_zretE (pc := 17) dX12_isLetter_17 rfl (show (1 : Int32) = b2i true from rfl) PoB_mk
  refine V_icmp_lt (pc := 3) (tgt := 16) dX12_isLetter_3 (by decide) rfl (fun hc => ?_) (fun hc => ?_)
  · replace hb1 := (if_pos hc).symm.trans hb1
    cases hb1
    exact KTb1 rfl
  · replace hb1 := (if_neg hc).symm.trans hb1
    refine V_iload_n (pc := 6) dX12_isLetter_6 rfl rfl rfl ?_
    refine V_bipush (pc := 7) dX12_isLetter_7 bp_122 rfl ?_
    refine V_icmp_gt (pc := 9) (tgt := 16) dX12_isLetter_9 (by decide) rfl (fun hc => ?_) (fun hc => ?_)
    · replace hb1 := (if_pos hc).symm.trans hb1
      cases hb1
      exact KTb1 rfl
    · replace hb1 := (if_neg hc).symm.trans hb1
      cases hb1
      exact KFb1 (nbt rfl)
/-! ShadowDoorsModel.isDigit -/
noncomputable def fX12_isDigit (v1 : Int32) : Bool :=
  tbn (
    if v1 < (48 : Int32) then
      true
    else
      if (57 : Int32) < v1 then
        true
      else
        false
  ) fun b1 =>
  if b1 = true then
    false
  else
    true
set_option maxRecDepth 100000 in
set_option maxHeartbeats 4000000 in
theorem tX12_isDigit {g : GG} {n d : Nat} {r : HR}  {v1 : Int32} {I : HI} {L : HL} {res : Bool} (hf : fX12_isDigit v1 = res) : CT g mX12_isDigit (d + 1) 0 0 n r I L [.int v1] (PoB n r res I L) := by
  refine CT.of rfl (Nat.le_of_ble_eq_true rfl) ?_
  show V g mX12_isDigit (d + 1) 0 0 n r I L 0 [some (.int v1)] [] (PoB n r res I L)
  refine V_iload_n (pc := 0) dX12_isDigit_0 rfl rfl rfl ?_
  refine V_bipush (pc := 1) dX12_isDigit_1 bp_48 rfl ?_
  obtain ⟨b1, hb1, hf⟩ := tbd hf
  have KTb1 : b1 = true → V g mX12_isDigit (d + 1) 0 0 n r I L 16 [some (.int v1)] [] (PoB n r res I L) := fun hc => by
    replace hf := (if_pos hc).symm.trans hf
    refine V_iconst (pc := 16) dX12_isDigit_16 ic_0 rfl ?_
    cases hf
    exact V_zretE (pc := 17) dX12_isDigit_17 rfl (show (0 : Int32) = b2i false from rfl) PoB_mk
  have KFb1 : ¬ b1 = true → V g mX12_isDigit (d + 1) 0 0 n r I L 12 [some (.int v1)] [] (PoB n r res I L) := fun hc => by
    replace hf := (if_neg hc).symm.trans hf
    refine V_iconst (pc := 12) dX12_isDigit_12 ic_1 rfl ?_
    refine V_goto (pc := 13) (tgt := 17) dX12_isDigit_13 (by decide) ?_
    cases hf
    exact V_zretE (pc := 17) dX12_isDigit_17 rfl (show (1 : Int32) = b2i true from rfl) PoB_mk
  refine V_icmp_lt (pc := 3) (tgt := 16) dX12_isDigit_3 (by decide) rfl (fun hc => ?_) (fun hc => ?_)
  · replace hb1 := (if_pos hc).symm.trans hb1
    cases hb1
    exact KTb1 rfl
  · replace hb1 := (if_neg hc).symm.trans hb1
    refine V_iload_n (pc := 6) dX12_isDigit_6 rfl rfl rfl ?_
    refine V_bipush (pc := 7) dX12_isDigit_7 bp_57 rfl ?_
    refine V_icmp_gt (pc := 9) (tgt := 16) dX12_isDigit_9 (by decide) rfl (fun hc => ?_) (fun hc => ?_)
    · replace hb1 := (if_pos hc).symm.trans hb1
      cases hb1
      exact KTb1 rfl
    · replace hb1 := (if_neg hc).symm.trans hb1
      cases hb1
      exact KFb1 (nbt rfl)
/-! ShadowDoorsModel.isSign -/
noncomputable def fX12_isSign (v1 : Int32) : Bool :=
  tbn (
    if v1 = (59 : Int32) then
      true
    else
      if v1 = (40 : Int32) then
        true
      else
        if v1 = (41 : Int32) then
          true
        else
          if v1 = (60 : Int32) then
            true
          else
            if v1 = (62 : Int32) then
              true
            else
              if v1 = (61 : Int32) then
                true
              else
                if v1 = (43 : Int32) then
                  true
                else
                  if v1 = (45 : Int32) then
                    true
                  else
                    if v1 = (42 : Int32) then
                      true
                    else
                      if v1 = (47 : Int32) then
                        true
                      else
                        if v1 = (37 : Int32) then
                          true
                        else
                          false
  ) fun b1 =>
  if b1 = true then
    true
  else
    false
set_option maxRecDepth 100000 in
set_option maxHeartbeats 4000000 in
theorem tX12_isSign {g : GG} {n d : Nat} {r : HR}  {v1 : Int32} {I : HI} {L : HL} {res : Bool} (hf : fX12_isSign v1 = res) : CT g mX12_isSign (d + 1) 0 0 n r I L [.int v1] (PoB n r res I L) := by
  refine CT.of rfl (Nat.le_of_ble_eq_true rfl) ?_
  show V g mX12_isSign (d + 1) 0 0 n r I L 0 [some (.int v1)] [] (PoB n r res I L)
  refine V_iload_n (pc := 0) dX12_isSign_0 rfl rfl rfl ?_
  refine V_bipush (pc := 1) dX12_isSign_1 bp_59 rfl ?_
  obtain ⟨b1, hb1, hf⟩ := tbd hf
  have KTb1 : b1 = true → V g mX12_isSign (d + 1) 0 0 n r I L 66 [some (.int v1)] [] (PoB n r res I L) := fun hc => by
    replace hf := (if_pos hc).symm.trans hf
    refine V_iconst (pc := 66) dX12_isSign_66 ic_1 rfl ?_
    refine V_goto (pc := 67) (tgt := 71) dX12_isSign_67 (by decide) ?_
    cases hf
    exact V_zretE (pc := 71) dX12_isSign_71 rfl (show (1 : Int32) = b2i true from rfl) PoB_mk
  have KFb1 : ¬ b1 = true → V g mX12_isSign (d + 1) 0 0 n r I L 70 [some (.int v1)] [] (PoB n r res I L) := fun hc => by
    replace hf := (if_neg hc).symm.trans hf
    refine V_iconst (pc := 70) dX12_isSign_70 ic_0 rfl ?_
    cases hf
    exact V_zretE (pc := 71) dX12_isSign_71 rfl (show (0 : Int32) = b2i false from rfl) PoB_mk
  refine V_icmp_eq (pc := 3) (tgt := 66) dX12_isSign_3 (by decide) rfl (fun hc => ?_) (fun hc => ?_)
  · replace hb1 := (if_pos hc).symm.trans hb1
    cases hb1
    exact KTb1 rfl
  · replace hb1 := (if_neg hc).symm.trans hb1
    refine V_iload_n (pc := 6) dX12_isSign_6 rfl rfl rfl ?_
    refine V_bipush (pc := 7) dX12_isSign_7 bp_40 rfl ?_
    refine V_icmp_eq (pc := 9) (tgt := 66) dX12_isSign_9 (by decide) rfl (fun hc => ?_) (fun hc => ?_)
    · replace hb1 := (if_pos hc).symm.trans hb1
      cases hb1
      exact KTb1 rfl
    · replace hb1 := (if_neg hc).symm.trans hb1
      refine V_iload_n (pc := 12) dX12_isSign_12 rfl rfl rfl ?_
      refine V_bipush (pc := 13) dX12_isSign_13 bp_41 rfl ?_
      refine V_icmp_eq (pc := 15) (tgt := 66) dX12_isSign_15 (by decide) rfl (fun hc => ?_) (fun hc => ?_)
      · replace hb1 := (if_pos hc).symm.trans hb1
        cases hb1
        exact KTb1 rfl
      · replace hb1 := (if_neg hc).symm.trans hb1
        refine V_iload_n (pc := 18) dX12_isSign_18 rfl rfl rfl ?_
        refine V_bipush (pc := 19) dX12_isSign_19 bp_60 rfl ?_
        refine V_icmp_eq (pc := 21) (tgt := 66) dX12_isSign_21 (by decide) rfl (fun hc => ?_) (fun hc => ?_)
        · replace hb1 := (if_pos hc).symm.trans hb1
          cases hb1
          exact KTb1 rfl
        · replace hb1 := (if_neg hc).symm.trans hb1
          refine V_iload_n (pc := 24) dX12_isSign_24 rfl rfl rfl ?_
          refine V_bipush (pc := 25) dX12_isSign_25 bp_62 rfl ?_
          refine V_icmp_eq (pc := 27) (tgt := 66) dX12_isSign_27 (by decide) rfl (fun hc => ?_) (fun hc => ?_)
          · replace hb1 := (if_pos hc).symm.trans hb1
            cases hb1
            exact KTb1 rfl
          · replace hb1 := (if_neg hc).symm.trans hb1
            refine V_iload_n (pc := 30) dX12_isSign_30 rfl rfl rfl ?_
            refine V_bipush (pc := 31) dX12_isSign_31 bp_61 rfl ?_
            refine V_icmp_eq (pc := 33) (tgt := 66) dX12_isSign_33 (by decide) rfl (fun hc => ?_) (fun hc => ?_)
            · replace hb1 := (if_pos hc).symm.trans hb1
              cases hb1
              exact KTb1 rfl
            · replace hb1 := (if_neg hc).symm.trans hb1
              refine V_iload_n (pc := 36) dX12_isSign_36 rfl rfl rfl ?_
              refine V_bipush (pc := 37) dX12_isSign_37 bp_43 rfl ?_
              refine V_icmp_eq (pc := 39) (tgt := 66) dX12_isSign_39 (by decide) rfl (fun hc => ?_) (fun hc => ?_)
              · replace hb1 := (if_pos hc).symm.trans hb1
                cases hb1
                exact KTb1 rfl
              · replace hb1 := (if_neg hc).symm.trans hb1
                refine V_iload_n (pc := 42) dX12_isSign_42 rfl rfl rfl ?_
                refine V_bipush (pc := 43) dX12_isSign_43 bp_45 rfl ?_
                refine V_icmp_eq (pc := 45) (tgt := 66) dX12_isSign_45 (by decide) rfl (fun hc => ?_) (fun hc => ?_)
                · replace hb1 := (if_pos hc).symm.trans hb1
                  cases hb1
                  exact KTb1 rfl
                · replace hb1 := (if_neg hc).symm.trans hb1
                  refine V_iload_n (pc := 48) dX12_isSign_48 rfl rfl rfl ?_
                  refine V_bipush (pc := 49) dX12_isSign_49 bp_42 rfl ?_
                  refine V_icmp_eq (pc := 51) (tgt := 66) dX12_isSign_51 (by decide) rfl (fun hc => ?_) (fun hc => ?_)
                  · replace hb1 := (if_pos hc).symm.trans hb1
                    cases hb1
                    exact KTb1 rfl
                  · replace hb1 := (if_neg hc).symm.trans hb1
                    refine V_iload_n (pc := 54) dX12_isSign_54 rfl rfl rfl ?_
                    refine V_bipush (pc := 55) dX12_isSign_55 bp_47 rfl ?_
                    refine V_icmp_eq (pc := 57) (tgt := 66) dX12_isSign_57 (by decide) rfl (fun hc => ?_) (fun hc => ?_)
                    · replace hb1 := (if_pos hc).symm.trans hb1
                      cases hb1
                      exact KTb1 rfl
                    · replace hb1 := (if_neg hc).symm.trans hb1
                      refine V_iload_n (pc := 60) dX12_isSign_60 rfl rfl rfl ?_
                      refine V_bipush (pc := 61) dX12_isSign_61 bp_37 rfl ?_
                      refine V_icmp_ne (pc := 63) (tgt := 70) dX12_isSign_63 (by decide) rfl (fun hc => ?_) (fun hc => ?_)
                      · replace hb1 := (if_neg hc).symm.trans hb1
                        cases hb1
                        exact KFb1 (nbt rfl)
                      · replace hb1 := (if_pos hc).symm.trans hb1
                        cases hb1
                        exact KTb1 rfl
/-! ShadowDoorsModel.token -/
noncomputable def fX12_token_0 : Nat → HI → HL → Option (HI)
  | 0, _, _ => none
  | fu + 1, I, L =>
    Option.bind (fX12_here (0 : Int32) I) fun q1 =>
    Option.bind (
      if q1 = (32 : Int32) then
        some true
      else
        Option.bind (fX12_here (0 : Int32) I) fun q3 =>
        if q3 = (10 : Int32) then
          some true
        else
          some false
    ) fun b2 =>
    if b2 = true then
      let I4 : HI := up2 I 73 4 ((I 73 4) + (1 : Int32))
      fX12_token_0 fu  I4 L
    else
      some I
set_option maxRecDepth 100000 in
set_option maxHeartbeats 4000000 in
theorem lX12_token_0 {g : GG} {n d : Nat} {tw dr sk tl ff : Nat} (hG : RG tw dr sk tl ff) (hn : 116 ≤ n) {P : PP} : ∀ (fu : Nat)  (I : HI) (L : HL) (res : HI), fX12_token_0 fu  I L = some res → V g mX12_token (d + 2) 0 0 n (RT tw dr sk tl ff) res L 33 [some (.ref 73)] [] P → V g mX12_token (d + 2) 0 0 n (RT tw dr sk tl ff) I L 0 [some (.ref 73)] [] P := by
  intro fu
  induction fu with
  | zero => intro  I L res hf; cases (show none = some res from hf)
  | succ fu ih =>
    intro  I L res hf K
    refine V_aload_n (pc := 0) dX12_token_0 rfl rfl rfl ?_
    refine V_iconst (pc := 1) dX12_token_1 ic_0 rfl ?_
    obtain ⟨q1, hq1, hf⟩ := bnd hf
    refine V_cVi (md' := mX12_here) (pc := 2) dX12_token_2 mlX12_161 mVX12_here (tX12_here hG hn hq1) rfl (by omega) (congrArg Prod.fst sh_73) rfl (Nat.le_of_ble_eq_true rfl) rfl ?_
    refine V_bipush (pc := 5) dX12_token_5 bp_32 rfl ?_
    obtain ⟨b2, hb2, hf⟩ := bnd hf
    have KTb2 : b2 = true → V g mX12_token (d + 2) 0 0 n (RT tw dr sk tl ff) I L 20 [some (.ref 73)] [] P := fun hc => by
      replace hf := (if_pos hc).symm.trans hf
      refine V_aload_n (pc := 20) dX12_token_20 rfl rfl rfl ?_
      refine V_dup (pc := 21) dX12_token_21 rfl rfl ?_
      refine V_getI (pc := 22) dX12_token_22 flX12_155 rfl (by omega) (congrArg Prod.fst sh_73) rfl ?_
      refine V_iconst (pc := 25) dX12_token_25 ic_1 rfl ?_
      refine V_iadd (pc := 26) dX12_token_26 rfl ?_
      let I4 : HI := up2 I 73 4 ((I 73 4) + (1 : Int32))
      refine V_putI (pc := 27) dX12_token_27 flX12_155 rfl rfl (by omega) (congrArg Prod.fst sh_73) rfl ?_
      refine V_goto (pc := 30) (tgt := 0) dX12_token_30 (by decide) ?_
      exact V_wk (ih  _ _ _ hf K) ⟨rfl, trivial⟩
    have KFb2 : ¬ b2 = true → V g mX12_token (d + 2) 0 0 n (RT tw dr sk tl ff) I L 33 [some (.ref 73)] [] P := fun hc => by
      replace hf := (if_neg hc).symm.trans hf
      cases hf
      exact V_wk K ⟨rfl, trivial⟩
    refine V_icmp_eq (pc := 7) (tgt := 20) dX12_token_7 (by decide) rfl (fun hc => ?_) (fun hc => ?_)
    · replace hb2 := (if_pos hc).symm.trans hb2
      cases hb2
      exact KTb2 rfl
    · replace hb2 := (if_neg hc).symm.trans hb2
      refine V_aload_n (pc := 10) dX12_token_10 rfl rfl rfl ?_
      refine V_iconst (pc := 11) dX12_token_11 ic_0 rfl ?_
      obtain ⟨q3, hq3, hb2⟩ := bnd hb2
      refine V_cVi (md' := mX12_here) (pc := 12) dX12_token_12 mlX12_161 mVX12_here (tX12_here hG hn hq3) rfl (by omega) (congrArg Prod.fst sh_73) rfl (Nat.le_of_ble_eq_true rfl) rfl ?_
      refine V_bipush (pc := 15) dX12_token_15 bp_10 rfl ?_
      refine V_icmp_ne (pc := 17) (tgt := 33) dX12_token_17 (by decide) rfl (fun hc => ?_) (fun hc => ?_)
      · replace hb2 := (if_neg hc).symm.trans hb2
        cases hb2
        exact KFb2 (nbt rfl)
      · replace hb2 := (if_pos hc).symm.trans hb2
        cases hb2
        exact KTb2 rfl
noncomputable def fX12_token_144 : Nat → Int32 → HI → HL → Option (Int32 × HI)
  | 0, _, _, _ => none
  | fu + 1, y2, I, L =>
    Option.bind (fX12_here y2 I) fun q12 =>
    if (b2i (fX12_isDigit q12)) = 0 then
      some (y2, I)
    else
      if (4 : Int32) ≤ y2 then
        fX12_token_144 fu (y2 + (1 : Int32)) I L
      else
        Option.bind (fX12_here y2 I) fun q13 =>
        let I14 : HI := up2 I 73 8 ((((10 : Int32) * (I 73 8)) + q13) - (48 : Int32))
        fX12_token_144 fu (y2 + (1 : Int32)) I14 L
set_option maxRecDepth 100000 in
set_option maxHeartbeats 4000000 in
theorem lX12_token_144 {g : GG} {n d : Nat} {tw dr sk tl ff : Nat} (hG : RG tw dr sk tl ff) (hn : 116 ≤ n) {P : PP} : ∀ (fu : Nat) (y2 : Int32) (I : HI) (L : HL) (res : Int32 × HI), fX12_token_144 fu y2 I L = some res → V g mX12_token (d + 2) 0 0 n (RT tw dr sk tl ff) res.2 L 186 [some (.ref 73), none, some (.int res.1)] [] P → V g mX12_token (d + 2) 0 0 n (RT tw dr sk tl ff) I L 144 [some (.ref 73), none, some (.int y2)] [] P := by
  intro fu
  induction fu with
  | zero => intro y2 I L res hf; cases (show none = some res from hf)
  | succ fu ih =>
    intro y2 I L res hf K
    refine V_aload_n (pc := 144) dX12_token_144 rfl rfl rfl ?_
    refine V_iload_n (pc := 145) dX12_token_145 rfl rfl rfl ?_
    obtain ⟨q12, hq12, hf⟩ := bnd hf
    refine V_cVi (md' := mX12_here) (pc := 146) dX12_token_146 mlX12_161 mVX12_here (tX12_here hG hn hq12) rfl (by omega) (congrArg Prod.fst sh_73) rfl (Nat.le_of_ble_eq_true rfl) rfl ?_
    refine V_cSz (md' := mX12_isDigit) (pc := 149) dX12_token_149 mlX12_182 mSX12_isDigit (tX12_isDigit rfl) rfl rfl (Nat.le_of_ble_eq_true rfl) rfl ?_
    refine V_if_eq (pc := 152) (tgt := 186) dX12_token_152 (by decide) rfl (fun hc => ?_) (fun hc => ?_)
    · replace hf := (if_pos hc).symm.trans hf
      cases hf
      exact V_wk K ⟨rfl, ⟨rfl, trivial⟩⟩
    · replace hf := (if_neg hc).symm.trans hf
      refine V_iload_n (pc := 155) dX12_token_155 rfl rfl rfl ?_
      refine V_iconst (pc := 156) dX12_token_156 ic_4 rfl ?_
      refine V_icmp_ge (pc := 157) (tgt := 180) dX12_token_157 (by decide) rfl (fun hc => ?_) (fun hc => ?_)
      · replace hf := (if_pos hc).symm.trans hf
        refine V_iinc (ls' := [some _, none, some _]) (pc := 180) dX12_token_180 rfl (Nat.le_of_ble_eq_true rfl) (congrArg _ ic_1) rfl rfl ?_
        refine V_goto (pc := 183) (tgt := 144) dX12_token_183 (by decide) ?_
        exact V_wk (ih _ _ _ _ hf K) ⟨rfl, ⟨rfl, trivial⟩⟩
      · replace hf := (if_neg hc).symm.trans hf
        refine V_aload_n (pc := 160) dX12_token_160 rfl rfl rfl ?_
        refine V_bipush (pc := 161) dX12_token_161 bp_10 rfl ?_
        refine V_aload_n (pc := 163) dX12_token_163 rfl rfl rfl ?_
        refine V_getI (pc := 164) dX12_token_164 flX12_172 rfl (by omega) (congrArg Prod.fst sh_73) rfl ?_
        refine V_imul (pc := 167) dX12_token_167 rfl ?_
        refine V_aload_n (pc := 168) dX12_token_168 rfl rfl rfl ?_
        refine V_iload_n (pc := 169) dX12_token_169 rfl rfl rfl ?_
        obtain ⟨q13, hq13, hf⟩ := bnd hf
        refine V_cVi (md' := mX12_here) (pc := 170) dX12_token_170 mlX12_161 mVX12_here (tX12_here hG hn hq13) rfl (by omega) (congrArg Prod.fst sh_73) rfl (Nat.le_of_ble_eq_true rfl) rfl ?_
        refine V_iadd (pc := 173) dX12_token_173 rfl ?_
        refine V_bipush (pc := 174) dX12_token_174 bp_48 rfl ?_
        refine V_isub (pc := 176) dX12_token_176 rfl ?_
        let I14 : HI := up2 I 73 8 ((((10 : Int32) * (I 73 8)) + q13) - (48 : Int32))
        refine V_putI (pc := 177) dX12_token_177 flX12_172 rfl rfl (by omega) (congrArg Prod.fst sh_73) rfl ?_
        refine V_iinc (ls' := [some _, none, some _]) (pc := 180) dX12_token_180 rfl (Nat.le_of_ble_eq_true rfl) (congrArg _ ic_1) rfl rfl ?_
        refine V_goto (pc := 183) (tgt := 144) dX12_token_183 (by decide) ?_
        exact V_wk (ih _ _ _ _ hf K) ⟨rfl, ⟨rfl, trivial⟩⟩
noncomputable def fX12_token_78 : Nat → Int32 → HI → HL → Option (Int32 × HL)
  | 0, _, _, _ => none
  | fu + 1, y2, I, L =>
    Option.bind (fX12_here y2 I) fun q20 =>
    if (b2i (fX12_isLetter q20)) = 0 then
      some (y2, L)
    else
      if (8 : Int32) ≤ y2 then
        fX12_token_78 fu (y2 + (1 : Int32)) I L
      else
        Option.bind (fX12_here y2 I) fun q21 =>
        let L22 : HL := up2 L 73 9 (((L 73 9) <<< ((8 : Int32).toInt64 &&& 63)) ||| q21.toInt64)
        fX12_token_78 fu (y2 + (1 : Int32)) I L22
set_option maxRecDepth 100000 in
set_option maxHeartbeats 4000000 in
theorem lX12_token_78 {g : GG} {n d : Nat} {tw dr sk tl ff : Nat} (hG : RG tw dr sk tl ff) (hn : 116 ≤ n) {P : PP} : ∀ (fu : Nat) (y2 : Int32) (I : HI) (L : HL) (res : Int32 × HL), fX12_token_78 fu y2 I L = some res → V g mX12_token (d + 2) 0 0 n (RT tw dr sk tl ff) I res.2 119 [some (.ref 73), none, some (.int res.1)] [] P → V g mX12_token (d + 2) 0 0 n (RT tw dr sk tl ff) I L 78 [some (.ref 73), none, some (.int y2)] [] P := by
  intro fu
  induction fu with
  | zero => intro y2 I L res hf; cases (show none = some res from hf)
  | succ fu ih =>
    intro y2 I L res hf K
    refine V_aload_n (pc := 78) dX12_token_78 rfl rfl rfl ?_
    refine V_iload_n (pc := 79) dX12_token_79 rfl rfl rfl ?_
    obtain ⟨q20, hq20, hf⟩ := bnd hf
    refine V_cVi (md' := mX12_here) (pc := 80) dX12_token_80 mlX12_161 mVX12_here (tX12_here hG hn hq20) rfl (by omega) (congrArg Prod.fst sh_73) rfl (Nat.le_of_ble_eq_true rfl) rfl ?_
    refine V_cSz (md' := mX12_isLetter) (pc := 83) dX12_token_83 mlX12_178 mSX12_isLetter (tX12_isLetter rfl) rfl rfl (Nat.le_of_ble_eq_true rfl) rfl ?_
    refine V_if_eq (pc := 86) (tgt := 119) dX12_token_86 (by decide) rfl (fun hc => ?_) (fun hc => ?_)
    · replace hf := (if_pos hc).symm.trans hf
      cases hf
      exact V_wk K ⟨rfl, ⟨rfl, trivial⟩⟩
    · replace hf := (if_neg hc).symm.trans hf
      refine V_iload_n (pc := 89) dX12_token_89 rfl rfl rfl ?_
      refine V_bipush (pc := 90) dX12_token_90 bp_8 rfl ?_
      refine V_icmp_ge (pc := 92) (tgt := 113) dX12_token_92 (by decide) rfl (fun hc => ?_) (fun hc => ?_)
      · replace hf := (if_pos hc).symm.trans hf
        refine V_iinc (ls' := [some _, none, some _]) (pc := 113) dX12_token_113 rfl (Nat.le_of_ble_eq_true rfl) (congrArg _ ic_1) rfl rfl ?_
        refine V_goto (pc := 116) (tgt := 78) dX12_token_116 (by decide) ?_
        exact V_wk (ih _ _ _ _ hf K) ⟨rfl, ⟨rfl, trivial⟩⟩
      · replace hf := (if_neg hc).symm.trans hf
        refine V_aload_n (pc := 95) dX12_token_95 rfl rfl rfl ?_
        refine V_aload_n (pc := 96) dX12_token_96 rfl rfl rfl ?_
        refine V_getL (pc := 97) dX12_token_97 flX12_168 rfl (by omega) (congrArg Prod.fst sh_73) rfl ?_
        refine V_bipush (pc := 100) dX12_token_100 bp_8 rfl ?_
        refine V_lshl (pc := 102) dX12_token_102 rfl ?_
        refine V_aload_n (pc := 103) dX12_token_103 rfl rfl rfl ?_
        refine V_iload_n (pc := 104) dX12_token_104 rfl rfl rfl ?_
        obtain ⟨q21, hq21, hf⟩ := bnd hf
        refine V_cVi (md' := mX12_here) (pc := 105) dX12_token_105 mlX12_161 mVX12_here (tX12_here hG hn hq21) rfl (by omega) (congrArg Prod.fst sh_73) rfl (Nat.le_of_ble_eq_true rfl) rfl ?_
        refine V_i2l (pc := 108) dX12_token_108 rfl ?_
        refine V_lor (pc := 109) dX12_token_109 rfl ?_
        let L22 : HL := up2 L 73 9 (((L 73 9) <<< ((8 : Int32).toInt64 &&& 63)) ||| q21.toInt64)
        refine V_putL (pc := 110) dX12_token_110 flX12_168 rfl rfl (by omega) (congrArg Prod.fst sh_73) rfl ?_
        refine V_iinc (ls' := [some _, none, some _]) (pc := 113) dX12_token_113 rfl (Nat.le_of_ble_eq_true rfl) (congrArg _ ic_1) rfl rfl ?_
        refine V_goto (pc := 116) (tgt := 78) dX12_token_116 (by decide) ?_
        exact V_wk (ih _ _ _ _ hf K) ⟨rfl, ⟨rfl, trivial⟩⟩
noncomputable def fX12_token (I : HI) (L : HL) : Option (HI × HL) :=
  Option.bind (fX12_token_0 FUEL  I L) fun q5 =>
  let I6 : HI := up2 q5 73 7 (q5 73 4)
  Option.bind (fX12_here (0 : Int32) I6) fun q7 =>
  let L8 : HL := up2 L 73 9 (0 : Int64)
  let I9 : HI := up2 I6 73 8 (0 : Int32)
  Option.bind (
    if 0 ≤ q7 then
      if (b2i (fX12_isLetter q7)) = 0 then
        if (b2i (fX12_isDigit q7)) = 0 then
          if (b2i (fX12_isSign q7)) = 0 then
            let I28 : HI := up2 I9 73 6 (3 : Int32)
            some ((1 : Int32), I28, L8)
          else
            let I29 : HI := up2 I9 73 6 q7
            some ((1 : Int32), I29, L8)
        else
          Option.bind (fX12_token_144 FUEL (0 : Int32) I9 L8) fun q30 =>
          Option.bind (
            if (4 : Int32) < q30.1 then
              some true
            else
              Option.bind (fX12_here q30.1 q30.2) fun q32 =>
              if (b2i (fX12_isLetter q32)) = 0 then
                some false
              else
                some true
          ) fun b31 =>
          if b31 = true then
            let I33 : HI := up2 q30.2 73 6 (3 : Int32)
            some (q30.1, I33, L8)
          else
            let I34 : HI := up2 q30.2 73 6 (2 : Int32)
            some (q30.1, I34, L8)
      else
        Option.bind (fX12_token_78 FUEL (0 : Int32) I9 L8) fun q35 =>
        if q35.1 ≤ (8 : Int32) then
          let I36 : HI := up2 I9 73 6 (1 : Int32)
          some (q35.1, I36, q35.2)
        else
          let I37 : HI := up2 I9 73 6 (3 : Int32)
          some (q35.1, I37, q35.2)
    else
      let I38 : HI := up2 I9 73 6 (0 : Int32)
      some ((0 : Int32), I38, L8)
  ) fun q27 =>
  if (q27.2.1 73 6) = (3 : Int32) then
    some (q27.2.1, q27.2.2)
  else
    let I39 : HI := up2 q27.2.1 73 4 ((q27.2.1 73 4) + q27.1)
    some (I39, q27.2.2)
set_option maxRecDepth 100000 in
set_option maxHeartbeats 4000000 in
theorem tX12_token {g : GG} {n d : Nat} {tw dr sk tl ff : Nat} (hG : RG tw dr sk tl ff) (hn : 116 ≤ n) {I : HI} {L : HL} {res : HI × HL} (hf : fX12_token I L = some res) : CT g mX12_token (d + 2) 0 0 n (RT tw dr sk tl ff) I L [.ref 73] (PoV n (RT tw dr sk tl ff) res.1 res.2) := by
  refine CT.of rfl (Nat.le_of_ble_eq_true rfl) ?_
  show V g mX12_token (d + 2) 0 0 n (RT tw dr sk tl ff) I L 0 [some (.ref 73)] [] (PoV n (RT tw dr sk tl ff) res.1 res.2)
  obtain ⟨q5, hq5, hf⟩ := bnd hf
  refine V_wk (lX12_token_0 hG hn FUEL _ _ _ hq5 ?_) ⟨rfl, trivial⟩
  refine V_aload_n (pc := 33) dX12_token_33 rfl rfl rfl ?_
  refine V_aload_n (pc := 34) dX12_token_34 rfl rfl rfl ?_
  refine V_getI (pc := 35) dX12_token_35 flX12_155 rfl (by omega) (congrArg Prod.fst sh_73) rfl ?_
  let I6 : HI := up2 q5 73 7 (q5 73 4)
  refine V_putI (pc := 38) dX12_token_38 flX12_165 rfl rfl (by omega) (congrArg Prod.fst sh_73) rfl ?_
  refine V_aload_n (pc := 41) dX12_token_41 rfl rfl rfl ?_
  refine V_iconst (pc := 42) dX12_token_42 ic_0 rfl ?_
  obtain ⟨q7, hq7, hf⟩ := bnd hf
  refine V_cVi (md' := mX12_here) (pc := 43) dX12_token_43 mlX12_161 mVX12_here (tX12_here hG hn hq7) rfl (by omega) (congrArg Prod.fst sh_73) rfl (Nat.le_of_ble_eq_true rfl) rfl ?_
  refine V_istore_n (ls' := [some _, some _]) (pc := 46) dX12_token_46 rfl (Nat.le_of_ble_eq_true rfl) rfl rfl ?_
  refine V_iconst (pc := 47) dX12_token_47 ic_0 rfl ?_
  refine V_istore_n (ls' := [some _, some _, some _]) (pc := 48) dX12_token_48 rfl (Nat.le_of_ble_eq_true rfl) rfl rfl ?_
  refine V_aload_n (pc := 49) dX12_token_49 rfl rfl rfl ?_
  refine V_lconst (pc := 50) dX12_token_50 lc_0 rfl ?_
  let L8 : HL := up2 L 73 9 (0 : Int64)
  refine V_putL (pc := 51) dX12_token_51 flX12_168 rfl rfl (by omega) (congrArg Prod.fst sh_73) rfl ?_
  refine V_aload_n (pc := 54) dX12_token_54 rfl rfl rfl ?_
  refine V_iconst (pc := 55) dX12_token_55 ic_0 rfl ?_
  let I9 : HI := up2 I6 73 8 (0 : Int32)
  refine V_putI (pc := 56) dX12_token_56 flX12_172 rfl rfl (by omega) (congrArg Prod.fst sh_73) rfl ?_
  refine V_iload_n (pc := 59) dX12_token_59 rfl rfl rfl ?_
  obtain ⟨q27, hq27, hf⟩ := bnd hf
  have Kq27 : V g mX12_token (d + 2) 0 0 n (RT tw dr sk tl ff) q27.2.1 q27.2.2 232 [some (.ref 73), none, some (.int q27.1)] [] (PoV n (RT tw dr sk tl ff) res.1 res.2) := by
    refine V_aload_n (pc := 232) dX12_token_232 rfl rfl rfl ?_
    refine V_getI (pc := 233) dX12_token_233 flX12_175 rfl (by omega) (congrArg Prod.fst sh_73) rfl ?_
    refine V_iconst (pc := 236) dX12_token_236 ic_3 rfl ?_
    refine V_icmp_eq (pc := 237) (tgt := 250) dX12_token_237 (by decide) rfl (fun hc => ?_) (fun hc => ?_)
    · replace hf := (if_pos hc).symm.trans hf
      cases hf
      exact V_vret (pc := 250) dX12_token_250 rfl PoV_mk
    · replace hf := (if_neg hc).symm.trans hf
      refine V_aload_n (pc := 240) dX12_token_240 rfl rfl rfl ?_
      refine V_dup (pc := 241) dX12_token_241 rfl rfl ?_
      refine V_getI (pc := 242) dX12_token_242 flX12_155 rfl (by omega) (congrArg Prod.fst sh_73) rfl ?_
      refine V_iload_n (pc := 245) dX12_token_245 rfl rfl rfl ?_
      refine V_iadd (pc := 246) dX12_token_246 rfl ?_
      let I39 : HI := up2 q27.2.1 73 4 ((q27.2.1 73 4) + q27.1)
      refine V_putI (pc := 247) dX12_token_247 flX12_155 rfl rfl (by omega) (congrArg Prod.fst sh_73) rfl ?_
      cases hf
      exact V_vret (pc := 250) dX12_token_250 rfl PoV_mk
  refine V_if_ge (pc := 60) (tgt := 71) dX12_token_60 (by decide) rfl (fun hc => ?_) (fun hc => ?_)
  · replace hq27 := (if_pos hc).symm.trans hq27
    refine V_iload_n (pc := 71) dX12_token_71 rfl rfl rfl ?_
    refine V_cSz (md' := mX12_isLetter) (pc := 72) dX12_token_72 mlX12_178 mSX12_isLetter (tX12_isLetter rfl) rfl rfl (Nat.le_of_ble_eq_true rfl) rfl ?_
    refine V_if_eq (pc := 75) (tgt := 137) dX12_token_75 (by decide) rfl (fun hc => ?_) (fun hc => ?_)
    · replace hq27 := (if_pos hc).symm.trans hq27
      refine V_iload_n (pc := 137) dX12_token_137 rfl rfl rfl ?_
      refine V_cSz (md' := mX12_isDigit) (pc := 138) dX12_token_138 mlX12_182 mSX12_isDigit (tX12_isDigit rfl) rfl rfl (Nat.le_of_ble_eq_true rfl) rfl ?_
      refine V_if_eq (pc := 141) (tgt := 214) dX12_token_141 (by decide) rfl (fun hc => ?_) (fun hc => ?_)
      · replace hq27 := (if_pos hc).symm.trans hq27
        refine V_iconst (pc := 214) dX12_token_214 ic_1 rfl ?_
        refine V_istore_n (ls' := [some _, some _, some _]) (pc := 215) dX12_token_215 rfl (Nat.le_of_ble_eq_true rfl) rfl rfl ?_
        refine V_aload_n (pc := 216) dX12_token_216 rfl rfl rfl ?_
        refine V_iload_n (pc := 217) dX12_token_217 rfl rfl rfl ?_
        refine V_cSz (md' := mX12_isSign) (pc := 218) dX12_token_218 mlX12_185 mSX12_isSign (tX12_isSign rfl) rfl rfl (Nat.le_of_ble_eq_true rfl) rfl ?_
        refine V_if_eq (pc := 221) (tgt := 228) dX12_token_221 (by decide) rfl (fun hc => ?_) (fun hc => ?_)
        · replace hq27 := (if_pos hc).symm.trans hq27
          refine V_iconst (pc := 228) dX12_token_228 ic_3 rfl ?_
          let I28 : HI := up2 I9 73 6 (3 : Int32)
          refine V_putI (pc := 229) dX12_token_229 flX12_175 rfl rfl (by omega) (congrArg Prod.fst sh_73) rfl ?_
          cases hq27
          exact V_wk Kq27 ⟨rfl, ⟨rfl, trivial⟩⟩
        · replace hq27 := (if_neg hc).symm.trans hq27
          refine V_iload_n (pc := 224) dX12_token_224 rfl rfl rfl ?_
          refine V_goto (pc := 225) (tgt := 229) dX12_token_225 (by decide) ?_
          let I29 : HI := up2 I9 73 6 q7
          refine V_putI (pc := 229) dX12_token_229 flX12_175 rfl rfl (by omega) (congrArg Prod.fst sh_73) rfl ?_
          cases hq27
          exact V_wk Kq27 ⟨rfl, ⟨rfl, trivial⟩⟩
      · replace hq27 := (if_neg hc).symm.trans hq27
        obtain ⟨q30, hq30, hq27⟩ := bnd hq27
        refine V_wk (lX12_token_144 hG hn FUEL _ _ _ _ hq30 ?_) ⟨rfl, ⟨rfl, trivial⟩⟩
        refine V_aload_n (pc := 186) dX12_token_186 rfl rfl rfl ?_
        refine V_iload_n (pc := 187) dX12_token_187 rfl rfl rfl ?_
        refine V_iconst (pc := 188) dX12_token_188 ic_4 rfl ?_
        obtain ⟨b31, hb31, hq27⟩ := bnd hq27
        have KTb31 : b31 = true → V g mX12_token (d + 2) 0 0 n (RT tw dr sk tl ff) q30.2 L8 203 [some (.ref 73), none, some (.int q30.1)] [.ref 73] (PoV n (RT tw dr sk tl ff) res.1 res.2) := fun hc => by
          replace hq27 := (if_pos hc).symm.trans hq27
          refine V_iconst (pc := 203) dX12_token_203 ic_3 rfl ?_
          refine V_goto (pc := 204) (tgt := 208) dX12_token_204 (by decide) ?_
          let I33 : HI := up2 q30.2 73 6 (3 : Int32)
          refine V_putI (pc := 208) dX12_token_208 flX12_175 rfl rfl (by omega) (congrArg Prod.fst sh_73) rfl ?_
          refine V_goto (pc := 211) (tgt := 232) dX12_token_211 (by decide) ?_
          cases hq27
          exact V_wk Kq27 ⟨rfl, ⟨rfl, trivial⟩⟩
        have KFb31 : ¬ b31 = true → V g mX12_token (d + 2) 0 0 n (RT tw dr sk tl ff) q30.2 L8 207 [some (.ref 73), none, some (.int q30.1)] [.ref 73] (PoV n (RT tw dr sk tl ff) res.1 res.2) := fun hc => by
          replace hq27 := (if_neg hc).symm.trans hq27
          refine V_iconst (pc := 207) dX12_token_207 ic_2 rfl ?_
          let I34 : HI := up2 q30.2 73 6 (2 : Int32)
          refine V_putI (pc := 208) dX12_token_208 flX12_175 rfl rfl (by omega) (congrArg Prod.fst sh_73) rfl ?_
          refine V_goto (pc := 211) (tgt := 232) dX12_token_211 (by decide) ?_
          cases hq27
          exact V_wk Kq27 ⟨rfl, ⟨rfl, trivial⟩⟩
        refine V_icmp_gt (pc := 189) (tgt := 203) dX12_token_189 (by decide) rfl (fun hc => ?_) (fun hc => ?_)
        · replace hb31 := (if_pos hc).symm.trans hb31
          cases hb31
          exact KTb31 rfl
        · replace hb31 := (if_neg hc).symm.trans hb31
          refine V_aload_n (pc := 192) dX12_token_192 rfl rfl rfl ?_
          refine V_iload_n (pc := 193) dX12_token_193 rfl rfl rfl ?_
          obtain ⟨q32, hq32, hb31⟩ := bnd hb31
          refine V_cVi (md' := mX12_here) (pc := 194) dX12_token_194 mlX12_161 mVX12_here (tX12_here hG hn hq32) rfl (by omega) (congrArg Prod.fst sh_73) rfl (Nat.le_of_ble_eq_true rfl) rfl ?_
          refine V_cSz (md' := mX12_isLetter) (pc := 197) dX12_token_197 mlX12_178 mSX12_isLetter (tX12_isLetter rfl) rfl rfl (Nat.le_of_ble_eq_true rfl) rfl ?_
          refine V_if_eq (pc := 200) (tgt := 207) dX12_token_200 (by decide) rfl (fun hc => ?_) (fun hc => ?_)
          · replace hb31 := (if_pos hc).symm.trans hb31
            cases hb31
            exact KFb31 (nbt rfl)
          · replace hb31 := (if_neg hc).symm.trans hb31
            cases hb31
            exact KTb31 rfl
    · replace hq27 := (if_neg hc).symm.trans hq27
      obtain ⟨q35, hq35, hq27⟩ := bnd hq27
      refine V_wk (lX12_token_78 hG hn FUEL _ _ _ _ hq35 ?_) ⟨rfl, ⟨rfl, trivial⟩⟩
      refine V_aload_n (pc := 119) dX12_token_119 rfl rfl rfl ?_
      refine V_iload_n (pc := 120) dX12_token_120 rfl rfl rfl ?_
      refine V_bipush (pc := 121) dX12_token_121 bp_8 rfl ?_
      refine V_icmp_le (pc := 123) (tgt := 130) dX12_token_123 (by decide) rfl (fun hc => ?_) (fun hc => ?_)
      · replace hq27 := (if_pos hc).symm.trans hq27
        refine V_iconst (pc := 130) dX12_token_130 ic_1 rfl ?_
        let I36 : HI := up2 I9 73 6 (1 : Int32)
        refine V_putI (pc := 131) dX12_token_131 flX12_175 rfl rfl (by omega) (congrArg Prod.fst sh_73) rfl ?_
        refine V_goto (pc := 134) (tgt := 232) dX12_token_134 (by decide) ?_
        cases hq27
        exact V_wk Kq27 ⟨rfl, ⟨rfl, trivial⟩⟩
      · replace hq27 := (if_neg hc).symm.trans hq27
        refine V_iconst (pc := 126) dX12_token_126 ic_3 rfl ?_
        refine V_goto (pc := 127) (tgt := 131) dX12_token_127 (by decide) ?_
        let I37 : HI := up2 I9 73 6 (3 : Int32)
        refine V_putI (pc := 131) dX12_token_131 flX12_175 rfl rfl (by omega) (congrArg Prod.fst sh_73) rfl ?_
        refine V_goto (pc := 134) (tgt := 232) dX12_token_134 (by decide) ?_
        cases hq27
        exact V_wk Kq27 ⟨rfl, ⟨rfl, trivial⟩⟩
  · replace hq27 := (if_neg hc).symm.trans hq27
    refine V_aload_n (pc := 63) dX12_token_63 rfl rfl rfl ?_
    refine V_iconst (pc := 64) dX12_token_64 ic_0 rfl ?_
    let I38 : HI := up2 I9 73 6 (0 : Int32)
    refine V_putI (pc := 65) dX12_token_65 flX12_175 rfl rfl (by omega) (congrArg Prod.fst sh_73) rfl ?_
    refine V_goto (pc := 68) (tgt := 232) dX12_token_68 (by decide) ?_
    cases hq27
    exact V_wk Kq27 ⟨rfl, ⟨rfl, trivial⟩⟩
/-! ShadowDoorsModel.wrongAt -/
noncomputable def fX12_wrongAt (v1 : Int32) (v2 : Int32) (I : HI) : HI :=
  if (I 73 2) ≤ 0 then
    tbn (
      if (I 73 6) = (3 : Int32) then
        if v2 = (I 73 7) then
          false
        else
          true
      else
        true
    ) fun b1 =>
    if b1 = true then
      let I2 : HI := up2 I 73 2 v1
      let I3 : HI := up2 I2 73 3 v2
      I3
    else
      let I4 : HI := up2 I 73 2 (1 : Int32)
      let I5 : HI := up2 I4 73 3 v2
      I5
  else
    I
set_option maxRecDepth 100000 in
set_option maxHeartbeats 4000000 in
theorem tX12_wrongAt {g : GG} {n d : Nat} {tw dr sk tl ff : Nat} (hG : RG tw dr sk tl ff) (hn : 116 ≤ n) {v1 : Int32} {v2 : Int32} {I : HI} {L : HL} {res : HI} (hf : fX12_wrongAt v1 v2 I = res) : CT g mX12_wrongAt (d + 1) 0 0 n (RT tw dr sk tl ff) I L [.ref 73, .int v1, .int v2] (PoV n (RT tw dr sk tl ff) res L) := by
  refine CT.of rfl (Nat.le_of_ble_eq_true rfl) ?_
  show V g mX12_wrongAt (d + 1) 0 0 n (RT tw dr sk tl ff) I L 0 [some (.ref 73), some (.int v1), some (.int v2)] [] (PoV n (RT tw dr sk tl ff) res L)
  refine V_aload_n (pc := 0) dX12_wrongAt_0 rfl rfl rfl ?_
  refine V_getI (pc := 1) dX12_wrongAt_1 flX12_188 rfl (by omega) (congrArg Prod.fst sh_73) rfl ?_
  refine V_if_le (pc := 4) (tgt := 8) dX12_wrongAt_4 (by decide) rfl (fun hc => ?_) (fun hc => ?_)
  · replace hf := (if_pos hc).symm.trans hf
    refine V_aload_n (pc := 8) dX12_wrongAt_8 rfl rfl rfl ?_
    refine V_aload_n (pc := 9) dX12_wrongAt_9 rfl rfl rfl ?_
    refine V_getI (pc := 10) dX12_wrongAt_10 flX12_175 rfl (by omega) (congrArg Prod.fst sh_73) rfl ?_
    refine V_iconst (pc := 13) dX12_wrongAt_13 ic_3 rfl ?_
    obtain ⟨b1, hb1, hf⟩ := tbd hf
    have KTb1 : b1 = true → V g mX12_wrongAt (d + 1) 0 0 n (RT tw dr sk tl ff) I L 29 [some (.ref 73), some (.int v1), some (.int v2)] [.ref 73] (PoV n (RT tw dr sk tl ff) res L) := fun hc => by
      replace hf := (if_pos hc).symm.trans hf
      refine V_iload_n (pc := 29) dX12_wrongAt_29 rfl rfl rfl ?_
      let I2 : HI := up2 I 73 2 v1
      refine V_putI (pc := 30) dX12_wrongAt_30 flX12_188 rfl rfl (by omega) (congrArg Prod.fst sh_73) rfl ?_
      refine V_aload_n (pc := 33) dX12_wrongAt_33 rfl rfl rfl ?_
      refine V_iload_n (pc := 34) dX12_wrongAt_34 rfl rfl rfl ?_
      let I3 : HI := up2 I2 73 3 v2
      refine V_putI (pc := 35) dX12_wrongAt_35 flX12_13 rfl rfl (by omega) (congrArg Prod.fst sh_73) rfl ?_
      cases hf
      exact V_vret (pc := 38) dX12_wrongAt_38 rfl PoV_mk
    have KFb1 : ¬ b1 = true → V g mX12_wrongAt (d + 1) 0 0 n (RT tw dr sk tl ff) I L 25 [some (.ref 73), some (.int v1), some (.int v2)] [.ref 73] (PoV n (RT tw dr sk tl ff) res L) := fun hc => by
      replace hf := (if_neg hc).symm.trans hf
      refine V_iconst (pc := 25) dX12_wrongAt_25 ic_1 rfl ?_
      refine V_goto (pc := 26) (tgt := 30) dX12_wrongAt_26 (by decide) ?_
      let I4 : HI := up2 I 73 2 (1 : Int32)
      refine V_putI (pc := 30) dX12_wrongAt_30 flX12_188 rfl rfl (by omega) (congrArg Prod.fst sh_73) rfl ?_
      refine V_aload_n (pc := 33) dX12_wrongAt_33 rfl rfl rfl ?_
      refine V_iload_n (pc := 34) dX12_wrongAt_34 rfl rfl rfl ?_
      let I5 : HI := up2 I4 73 3 v2
      refine V_putI (pc := 35) dX12_wrongAt_35 flX12_13 rfl rfl (by omega) (congrArg Prod.fst sh_73) rfl ?_
      cases hf
      exact V_vret (pc := 38) dX12_wrongAt_38 rfl PoV_mk
    refine V_icmp_ne (pc := 14) (tgt := 29) dX12_wrongAt_14 (by decide) rfl (fun hc => ?_) (fun hc => ?_)
    · replace hb1 := (if_neg hc).symm.trans hb1
      cases hb1
      exact KTb1 rfl
    · replace hb1 := (if_pos hc).symm.trans hb1
      refine V_iload_n (pc := 17) dX12_wrongAt_17 rfl rfl rfl ?_
      refine V_aload_n (pc := 18) dX12_wrongAt_18 rfl rfl rfl ?_
      refine V_getI (pc := 19) dX12_wrongAt_19 flX12_165 rfl (by omega) (congrArg Prod.fst sh_73) rfl ?_
      refine V_icmp_ne (pc := 22) (tgt := 29) dX12_wrongAt_22 (by decide) rfl (fun hc => ?_) (fun hc => ?_)
      · replace hb1 := (if_neg hc).symm.trans hb1
        cases hb1
        exact KTb1 rfl
      · replace hb1 := (if_pos hc).symm.trans hb1
        cases hb1
        exact KFb1 (nbt rfl)
  · replace hf := (if_neg hc).symm.trans hf
    cases hf
    exact V_vret (pc := 7) dX12_wrongAt_7 rfl PoV_mk
/-! ShadowDoorsModel.wrong -/
noncomputable def fX12_wrong (v1 : Int32) (I : HI) : HI :=
  tbn (fX12_wrongAt v1 (I 73 7) I) fun q1 =>
  q1
set_option maxRecDepth 100000 in
set_option maxHeartbeats 4000000 in
theorem tX12_wrong {g : GG} {n d : Nat} {tw dr sk tl ff : Nat} (hG : RG tw dr sk tl ff) (hn : 116 ≤ n) {v1 : Int32} {I : HI} {L : HL} {res : HI} (hf : fX12_wrong v1 I = res) : CT g mX12_wrong (d + 2) 0 0 n (RT tw dr sk tl ff) I L [.ref 73, .int v1] (PoV n (RT tw dr sk tl ff) res L) := by
  refine CT.of rfl (Nat.le_of_ble_eq_true rfl) ?_
  show V g mX12_wrong (d + 2) 0 0 n (RT tw dr sk tl ff) I L 0 [some (.ref 73), some (.int v1)] [] (PoV n (RT tw dr sk tl ff) res L)
  refine V_aload_n (pc := 0) dX12_wrong_0 rfl rfl rfl ?_
  refine V_iload_n (pc := 1) dX12_wrong_1 rfl rfl rfl ?_
  refine V_aload_n (pc := 2) dX12_wrong_2 rfl rfl rfl ?_
  refine V_getI (pc := 3) dX12_wrong_3 flX12_165 rfl (by omega) (congrArg Prod.fst sh_73) rfl ?_
  obtain ⟨q1, hq1, hf⟩ := tbd hf
  refine V_cVv (md' := mX12_wrongAt) (pc := 6) dX12_wrong_6 mlX12_191 mVX12_wrongAt (tX12_wrongAt hG hn hq1) rfl (by omega) (congrArg Prod.fst sh_73) rfl (Nat.le_of_ble_eq_true rfl) rfl ?_
  cases hf
  exact V_vret (pc := 9) dX12_wrong_9 rfl PoV_mk
/-! ShadowDoorsModel.isWord -/
noncomputable def fX12_isWord (v1 : Int64) (I : HI) (L : HL) : Bool :=
  tbn (
    if (I 73 6) = (1 : Int32) then
      if (L 73 9) = v1 then
        false
      else
        true
    else
      true
  ) fun b1 =>
  if b1 = true then
    false
  else
    true
set_option maxRecDepth 100000 in
set_option maxHeartbeats 4000000 in
theorem tX12_isWord {g : GG} {n d : Nat} {tw dr sk tl ff : Nat} (hG : RG tw dr sk tl ff) (hn : 116 ≤ n) {v1 : Int64} {I : HI} {L : HL} {res : Bool} (hf : fX12_isWord v1 I L = res) : CT g mX12_isWord (d + 1) 0 0 n (RT tw dr sk tl ff) I L [.ref 73, .long v1] (PoB n (RT tw dr sk tl ff) res I L) := by
  refine CT.of rfl (Nat.le_of_ble_eq_true rfl) ?_
  show V g mX12_isWord (d + 1) 0 0 n (RT tw dr sk tl ff) I L 0 [some (.ref 73), some (.long v1), none] [] (PoB n (RT tw dr sk tl ff) res I L)
  refine V_aload_n (pc := 0) dX12_isWord_0 rfl rfl rfl ?_
  refine V_getI (pc := 1) dX12_isWord_1 flX12_175 rfl (by omega) (congrArg Prod.fst sh_73) rfl ?_
  refine V_iconst (pc := 4) dX12_isWord_4 ic_1 rfl ?_
  obtain ⟨b1, hb1, hf⟩ := tbd hf
  have KTb1 : b1 = true → V g mX12_isWord (d + 1) 0 0 n (RT tw dr sk tl ff) I L 21 [some (.ref 73), some (.long v1), none] [] (PoB n (RT tw dr sk tl ff) res I L) := fun hc => by
    replace hf := (if_pos hc).symm.trans hf
    refine V_iconst (pc := 21) dX12_isWord_21 ic_0 rfl ?_
    cases hf
    exact V_zretE (pc := 22) dX12_isWord_22 rfl (show (0 : Int32) = b2i false from rfl) PoB_mk
  have KFb1 : ¬ b1 = true → V g mX12_isWord (d + 1) 0 0 n (RT tw dr sk tl ff) I L 17 [some (.ref 73), some (.long v1), none] [] (PoB n (RT tw dr sk tl ff) res I L) := fun hc => by
    replace hf := (if_neg hc).symm.trans hf
    refine V_iconst (pc := 17) dX12_isWord_17 ic_1 rfl ?_
    refine V_goto (pc := 18) (tgt := 22) dX12_isWord_18 (by decide) ?_
    cases hf
    exact V_zretE (pc := 22) dX12_isWord_22 rfl (show (1 : Int32) = b2i true from rfl) PoB_mk
  refine V_icmp_ne (pc := 5) (tgt := 21) dX12_isWord_5 (by decide) rfl (fun hc => ?_) (fun hc => ?_)
  · replace hb1 := (if_neg hc).symm.trans hb1
    cases hb1
    exact KTb1 rfl
  · replace hb1 := (if_pos hc).symm.trans hb1
    refine V_aload_n (pc := 8) dX12_isWord_8 rfl rfl rfl ?_
    refine V_getL (pc := 9) dX12_isWord_9 flX12_168 rfl (by omega) (congrArg Prod.fst sh_73) rfl ?_
    refine V_lload_n (pc := 12) dX12_isWord_12 rfl rfl rfl ?_
    refine V_lc_ne (pc := 13) (tgt := 21) dX12_isWord_13 rfl dX12_isWord_14 (by decide) rfl (fun hc => ?_) (fun hc => ?_)
    · replace hb1 := (if_neg hc).symm.trans hb1
      cases hb1
      exact KTb1 rfl
    · replace hb1 := (if_pos hc).symm.trans hb1
      cases hb1
      exact KFb1 (nbt rfl)
/-! ShadowDoorsModel.isOwn -/
noncomputable def fX12_isOwn (L : HL) : Bool :=
  tbn (
    if (L 73 9) = (1936292453 : Int64) then
      true
    else
      if (L 73 9) = (25209 : Int64) then
        true
      else
        if (L 73 9) = (2002873452 : Int64) then
          true
        else
          if (L 73 9) = (1685024626 : Int64) then
            true
          else
            if (L 73 9) = (24948 : Int64) then
              true
            else
              if (L 73 9) = (1751738216 : Int64) then
                true
              else
                if (L 73 9) = (1869636974 : Int64) then
                  true
                else
                  if (L 73 9) = (29807 : Int64) then
                    true
                  else
                    if (L 73 9) = (1818324336 : Int64) then
                      true
                    else
                      if (L 73 9) = (7104884 : Int64) then
                        true
                      else
                        if (L 73 9) = (123581014175598 : Int64) then
                          true
                        else
                          if (L 73 9) = (495672452197 : Int64) then
                            true
                          else
                            if (L 73 9) = (427021006180 : Int64) then
                              true
                            else
                              false
  ) fun b1 =>
  if b1 = true then
    true
  else
    tbn (
      if (L 73 9) = (114784769370228 : Int64) then
        true
      else
        if (L 73 9) = (1752135026 : Int64) then
          true
        else
          if (L 73 9) = (1684108389 : Int64) then
            true
          else
            if (L 73 9) = (6385252 : Int64) then
              true
            else
              if (L 73 9) = (28530 : Int64) then
                true
              else
                if (L 73 9) = (7237492 : Int64) then
                  true
                else
                  false
    ) fun b2 =>
    if b2 = true then
      true
    else
      false
set_option maxRecDepth 100000 in
set_option maxHeartbeats 4000000 in
theorem tX12_isOwn {g : GG} {n d : Nat} {tw dr sk tl ff : Nat} (hG : RG tw dr sk tl ff) (hn : 116 ≤ n) {I : HI} {L : HL} {res : Bool} (hf : fX12_isOwn L = res) : CT g mX12_isOwn (d + 1) 0 0 n (RT tw dr sk tl ff) I L [.ref 73] (PoB n (RT tw dr sk tl ff) res I L) := by
  refine CT.of rfl (Nat.le_of_ble_eq_true rfl) ?_
  show V g mX12_isOwn (d + 1) 0 0 n (RT tw dr sk tl ff) I L 0 [some (.ref 73)] [] (PoB n (RT tw dr sk tl ff) res I L)
  refine V_aload_n (pc := 0) dX12_isOwn_0 rfl rfl rfl ?_
  refine V_getL (pc := 1) dX12_isOwn_1 flX12_168 rfl (by omega) (congrArg Prod.fst sh_73) rfl ?_
  refine V_ldc2 (pc := 4) dX12_isOwn_4 klX12_195 rfl ?_
  obtain ⟨b1, hb1, hf⟩ := tbd hf
  have KTb1 : b1 = true → V g mX12_isOwn (d + 1) 0 0 n (RT tw dr sk tl ff) I L 209 [some (.ref 73)] [] (PoB n (RT tw dr sk tl ff) res I L) := fun hc => by
    replace hf := (if_pos hc).symm.trans hf
    refine V_iconst (pc := 209) dX12_isOwn_209 ic_1 rfl ?_
    refine V_goto (pc := 210) (tgt := 214) dX12_isOwn_210 (by decide) ?_
    cases hf
    exact V_zretE (pc := 214) dX12_isOwn_214 rfl (show (1 : Int32) = b2i true from rfl) PoB_mk
  have KFb1 : ¬ b1 = true → V g mX12_isOwn (d + 1) 0 0 n (RT tw dr sk tl ff) I L 143 [some (.ref 73)] [] (PoB n (RT tw dr sk tl ff) res I L) := fun hc => by
    replace hf := (if_neg hc).symm.trans hf
    refine V_aload_n (pc := 143) dX12_isOwn_143 rfl rfl rfl ?_
    refine V_getL (pc := 144) dX12_isOwn_144 flX12_168 rfl (by omega) (congrArg Prod.fst sh_73) rfl ?_
    refine V_ldc2 (pc := 147) dX12_isOwn_147 klX12_221 rfl ?_
    obtain ⟨b2, hb2, hf⟩ := tbd hf
    have KTb2 : b2 = true → V g mX12_isOwn (d + 1) 0 0 n (RT tw dr sk tl ff) I L 209 [some (.ref 73)] [] (PoB n (RT tw dr sk tl ff) res I L) := fun hc => by
      replace hf := (if_pos hc).symm.trans hf
      refine V_iconst (pc := 209) dX12_isOwn_209 ic_1 rfl ?_
      refine V_goto (pc := 210) (tgt := 214) dX12_isOwn_210 (by decide) ?_
      cases hf
      exact V_zretE (pc := 214) dX12_isOwn_214 rfl (show (1 : Int32) = b2i true from rfl) PoB_mk
    have KFb2 : ¬ b2 = true → V g mX12_isOwn (d + 1) 0 0 n (RT tw dr sk tl ff) I L 213 [some (.ref 73)] [] (PoB n (RT tw dr sk tl ff) res I L) := fun hc => by
      replace hf := (if_neg hc).symm.trans hf
      refine V_iconst (pc := 213) dX12_isOwn_213 ic_0 rfl ?_
      cases hf
      exact V_zretE (pc := 214) dX12_isOwn_214 rfl (show (0 : Int32) = b2i false from rfl) PoB_mk
    refine V_lc_eq (pc := 150) (tgt := 209) dX12_isOwn_150 rfl dX12_isOwn_151 (by decide) rfl (fun hc => ?_) (fun hc => ?_)
    · replace hb2 := (if_pos hc).symm.trans hb2
      cases hb2
      exact KTb2 rfl
    · replace hb2 := (if_neg hc).symm.trans hb2
      refine V_aload_n (pc := 154) dX12_isOwn_154 rfl rfl rfl ?_
      refine V_getL (pc := 155) dX12_isOwn_155 flX12_168 rfl (by omega) (congrArg Prod.fst sh_73) rfl ?_
      refine V_ldc2 (pc := 158) dX12_isOwn_158 klX12_223 rfl ?_
      refine V_lc_eq (pc := 161) (tgt := 209) dX12_isOwn_161 rfl dX12_isOwn_162 (by decide) rfl (fun hc => ?_) (fun hc => ?_)
      · replace hb2 := (if_pos hc).symm.trans hb2
        cases hb2
        exact KTb2 rfl
      · replace hb2 := (if_neg hc).symm.trans hb2
        refine V_aload_n (pc := 165) dX12_isOwn_165 rfl rfl rfl ?_
        refine V_getL (pc := 166) dX12_isOwn_166 flX12_168 rfl (by omega) (congrArg Prod.fst sh_73) rfl ?_
        refine V_ldc2 (pc := 169) dX12_isOwn_169 klX12_225 rfl ?_
        refine V_lc_eq (pc := 172) (tgt := 209) dX12_isOwn_172 rfl dX12_isOwn_173 (by decide) rfl (fun hc => ?_) (fun hc => ?_)
        · replace hb2 := (if_pos hc).symm.trans hb2
          cases hb2
          exact KTb2 rfl
        · replace hb2 := (if_neg hc).symm.trans hb2
          refine V_aload_n (pc := 176) dX12_isOwn_176 rfl rfl rfl ?_
          refine V_getL (pc := 177) dX12_isOwn_177 flX12_168 rfl (by omega) (congrArg Prod.fst sh_73) rfl ?_
          refine V_ldc2 (pc := 180) dX12_isOwn_180 klX12_227 rfl ?_
          refine V_lc_eq (pc := 183) (tgt := 209) dX12_isOwn_183 rfl dX12_isOwn_184 (by decide) rfl (fun hc => ?_) (fun hc => ?_)
          · replace hb2 := (if_pos hc).symm.trans hb2
            cases hb2
            exact KTb2 rfl
          · replace hb2 := (if_neg hc).symm.trans hb2
            refine V_aload_n (pc := 187) dX12_isOwn_187 rfl rfl rfl ?_
            refine V_getL (pc := 188) dX12_isOwn_188 flX12_168 rfl (by omega) (congrArg Prod.fst sh_73) rfl ?_
            refine V_ldc2 (pc := 191) dX12_isOwn_191 klX12_229 rfl ?_
            refine V_lc_eq (pc := 194) (tgt := 209) dX12_isOwn_194 rfl dX12_isOwn_195 (by decide) rfl (fun hc => ?_) (fun hc => ?_)
            · replace hb2 := (if_pos hc).symm.trans hb2
              cases hb2
              exact KTb2 rfl
            · replace hb2 := (if_neg hc).symm.trans hb2
              refine V_aload_n (pc := 198) dX12_isOwn_198 rfl rfl rfl ?_
              refine V_getL (pc := 199) dX12_isOwn_199 flX12_168 rfl (by omega) (congrArg Prod.fst sh_73) rfl ?_
              refine V_ldc2 (pc := 202) dX12_isOwn_202 klX12_231 rfl ?_
              refine V_lc_ne (pc := 205) (tgt := 213) dX12_isOwn_205 rfl dX12_isOwn_206 (by decide) rfl (fun hc => ?_) (fun hc => ?_)
              · replace hb2 := (if_neg hc).symm.trans hb2
                cases hb2
                exact KFb2 (nbt rfl)
              · replace hb2 := (if_pos hc).symm.trans hb2
                cases hb2
                exact KTb2 rfl
  refine V_lc_eq (pc := 7) (tgt := 209) dX12_isOwn_7 rfl dX12_isOwn_8 (by decide) rfl (fun hc => ?_) (fun hc => ?_)
  · replace hb1 := (if_pos hc).symm.trans hb1
    cases hb1
    exact KTb1 rfl
  · replace hb1 := (if_neg hc).symm.trans hb1
    refine V_aload_n (pc := 11) dX12_isOwn_11 rfl rfl rfl ?_
    refine V_getL (pc := 12) dX12_isOwn_12 flX12_168 rfl (by omega) (congrArg Prod.fst sh_73) rfl ?_
    refine V_ldc2 (pc := 15) dX12_isOwn_15 klX12_197 rfl ?_
    refine V_lc_eq (pc := 18) (tgt := 209) dX12_isOwn_18 rfl dX12_isOwn_19 (by decide) rfl (fun hc => ?_) (fun hc => ?_)
    · replace hb1 := (if_pos hc).symm.trans hb1
      cases hb1
      exact KTb1 rfl
    · replace hb1 := (if_neg hc).symm.trans hb1
      refine V_aload_n (pc := 22) dX12_isOwn_22 rfl rfl rfl ?_
      refine V_getL (pc := 23) dX12_isOwn_23 flX12_168 rfl (by omega) (congrArg Prod.fst sh_73) rfl ?_
      refine V_ldc2 (pc := 26) dX12_isOwn_26 klX12_199 rfl ?_
      refine V_lc_eq (pc := 29) (tgt := 209) dX12_isOwn_29 rfl dX12_isOwn_30 (by decide) rfl (fun hc => ?_) (fun hc => ?_)
      · replace hb1 := (if_pos hc).symm.trans hb1
        cases hb1
        exact KTb1 rfl
      · replace hb1 := (if_neg hc).symm.trans hb1
        refine V_aload_n (pc := 33) dX12_isOwn_33 rfl rfl rfl ?_
        refine V_getL (pc := 34) dX12_isOwn_34 flX12_168 rfl (by omega) (congrArg Prod.fst sh_73) rfl ?_
        refine V_ldc2 (pc := 37) dX12_isOwn_37 klX12_201 rfl ?_
        refine V_lc_eq (pc := 40) (tgt := 209) dX12_isOwn_40 rfl dX12_isOwn_41 (by decide) rfl (fun hc => ?_) (fun hc => ?_)
        · replace hb1 := (if_pos hc).symm.trans hb1
          cases hb1
          exact KTb1 rfl
        · replace hb1 := (if_neg hc).symm.trans hb1
          refine V_aload_n (pc := 44) dX12_isOwn_44 rfl rfl rfl ?_
          refine V_getL (pc := 45) dX12_isOwn_45 flX12_168 rfl (by omega) (congrArg Prod.fst sh_73) rfl ?_
          refine V_ldc2 (pc := 48) dX12_isOwn_48 klX12_203 rfl ?_
          refine V_lc_eq (pc := 51) (tgt := 209) dX12_isOwn_51 rfl dX12_isOwn_52 (by decide) rfl (fun hc => ?_) (fun hc => ?_)
          · replace hb1 := (if_pos hc).symm.trans hb1
            cases hb1
            exact KTb1 rfl
          · replace hb1 := (if_neg hc).symm.trans hb1
            refine V_aload_n (pc := 55) dX12_isOwn_55 rfl rfl rfl ?_
            refine V_getL (pc := 56) dX12_isOwn_56 flX12_168 rfl (by omega) (congrArg Prod.fst sh_73) rfl ?_
            refine V_ldc2 (pc := 59) dX12_isOwn_59 klX12_205 rfl ?_
            refine V_lc_eq (pc := 62) (tgt := 209) dX12_isOwn_62 rfl dX12_isOwn_63 (by decide) rfl (fun hc => ?_) (fun hc => ?_)
            · replace hb1 := (if_pos hc).symm.trans hb1
              cases hb1
              exact KTb1 rfl
            · replace hb1 := (if_neg hc).symm.trans hb1
              refine V_aload_n (pc := 66) dX12_isOwn_66 rfl rfl rfl ?_
              refine V_getL (pc := 67) dX12_isOwn_67 flX12_168 rfl (by omega) (congrArg Prod.fst sh_73) rfl ?_
              refine V_ldc2 (pc := 70) dX12_isOwn_70 klX12_207 rfl ?_
              refine V_lc_eq (pc := 73) (tgt := 209) dX12_isOwn_73 rfl dX12_isOwn_74 (by decide) rfl (fun hc => ?_) (fun hc => ?_)
              · replace hb1 := (if_pos hc).symm.trans hb1
                cases hb1
                exact KTb1 rfl
              · replace hb1 := (if_neg hc).symm.trans hb1
                refine V_aload_n (pc := 77) dX12_isOwn_77 rfl rfl rfl ?_
                refine V_getL (pc := 78) dX12_isOwn_78 flX12_168 rfl (by omega) (congrArg Prod.fst sh_73) rfl ?_
                refine V_ldc2 (pc := 81) dX12_isOwn_81 klX12_209 rfl ?_
                refine V_lc_eq (pc := 84) (tgt := 209) dX12_isOwn_84 rfl dX12_isOwn_85 (by decide) rfl (fun hc => ?_) (fun hc => ?_)
                · replace hb1 := (if_pos hc).symm.trans hb1
                  cases hb1
                  exact KTb1 rfl
                · replace hb1 := (if_neg hc).symm.trans hb1
                  refine V_aload_n (pc := 88) dX12_isOwn_88 rfl rfl rfl ?_
                  refine V_getL (pc := 89) dX12_isOwn_89 flX12_168 rfl (by omega) (congrArg Prod.fst sh_73) rfl ?_
                  refine V_ldc2 (pc := 92) dX12_isOwn_92 klX12_211 rfl ?_
                  refine V_lc_eq (pc := 95) (tgt := 209) dX12_isOwn_95 rfl dX12_isOwn_96 (by decide) rfl (fun hc => ?_) (fun hc => ?_)
                  · replace hb1 := (if_pos hc).symm.trans hb1
                    cases hb1
                    exact KTb1 rfl
                  · replace hb1 := (if_neg hc).symm.trans hb1
                    refine V_aload_n (pc := 99) dX12_isOwn_99 rfl rfl rfl ?_
                    refine V_getL (pc := 100) dX12_isOwn_100 flX12_168 rfl (by omega) (congrArg Prod.fst sh_73) rfl ?_
                    refine V_ldc2 (pc := 103) dX12_isOwn_103 klX12_213 rfl ?_
                    refine V_lc_eq (pc := 106) (tgt := 209) dX12_isOwn_106 rfl dX12_isOwn_107 (by decide) rfl (fun hc => ?_) (fun hc => ?_)
                    · replace hb1 := (if_pos hc).symm.trans hb1
                      cases hb1
                      exact KTb1 rfl
                    · replace hb1 := (if_neg hc).symm.trans hb1
                      refine V_aload_n (pc := 110) dX12_isOwn_110 rfl rfl rfl ?_
                      refine V_getL (pc := 111) dX12_isOwn_111 flX12_168 rfl (by omega) (congrArg Prod.fst sh_73) rfl ?_
                      refine V_ldc2 (pc := 114) dX12_isOwn_114 klX12_215 rfl ?_
                      refine V_lc_eq (pc := 117) (tgt := 209) dX12_isOwn_117 rfl dX12_isOwn_118 (by decide) rfl (fun hc => ?_) (fun hc => ?_)
                      · replace hb1 := (if_pos hc).symm.trans hb1
                        cases hb1
                        exact KTb1 rfl
                      · replace hb1 := (if_neg hc).symm.trans hb1
                        refine V_aload_n (pc := 121) dX12_isOwn_121 rfl rfl rfl ?_
                        refine V_getL (pc := 122) dX12_isOwn_122 flX12_168 rfl (by omega) (congrArg Prod.fst sh_73) rfl ?_
                        refine V_ldc2 (pc := 125) dX12_isOwn_125 klX12_217 rfl ?_
                        refine V_lc_eq (pc := 128) (tgt := 209) dX12_isOwn_128 rfl dX12_isOwn_129 (by decide) rfl (fun hc => ?_) (fun hc => ?_)
                        · replace hb1 := (if_pos hc).symm.trans hb1
                          cases hb1
                          exact KTb1 rfl
                        · replace hb1 := (if_neg hc).symm.trans hb1
                          refine V_aload_n (pc := 132) dX12_isOwn_132 rfl rfl rfl ?_
                          refine V_getL (pc := 133) dX12_isOwn_133 flX12_168 rfl (by omega) (congrArg Prod.fst sh_73) rfl ?_
                          refine V_ldc2 (pc := 136) dX12_isOwn_136 klX12_219 rfl ?_
                          refine V_lc_eq (pc := 139) (tgt := 209) dX12_isOwn_139 rfl dX12_isOwn_140 (by decide) rfl (fun hc => ?_) (fun hc => ?_)
                          · replace hb1 := (if_pos hc).symm.trans hb1
                            cases hb1
                            exact KTb1 rfl
                          · replace hb1 := (if_neg hc).symm.trans hb1
                            cases hb1
                            exact KFb1 (nbt rfl)
/-! ShadowDoorsModel.isName -/
noncomputable def fX12_isName (I : HI) (L : HL) : Bool :=
  tbn (
    if (I 73 6) = (1 : Int32) then
      if (b2i (fX12_isOwn  L)) = 0 then
        false
      else
        true
    else
      true
  ) fun b1 =>
  if b1 = true then
    false
  else
    true
set_option maxRecDepth 100000 in
set_option maxHeartbeats 4000000 in
theorem tX12_isName {g : GG} {n d : Nat} {tw dr sk tl ff : Nat} (hG : RG tw dr sk tl ff) (hn : 116 ≤ n) {I : HI} {L : HL} {res : Bool} (hf : fX12_isName I L = res) : CT g mX12_isName (d + 2) 0 0 n (RT tw dr sk tl ff) I L [.ref 73] (PoB n (RT tw dr sk tl ff) res I L) := by
  refine CT.of rfl (Nat.le_of_ble_eq_true rfl) ?_
  show V g mX12_isName (d + 2) 0 0 n (RT tw dr sk tl ff) I L 0 [some (.ref 73)] [] (PoB n (RT tw dr sk tl ff) res I L)
  refine V_aload_n (pc := 0) dX12_isName_0 rfl rfl rfl ?_
  refine V_getI (pc := 1) dX12_isName_1 flX12_175 rfl (by omega) (congrArg Prod.fst sh_73) rfl ?_
  refine V_iconst (pc := 4) dX12_isName_4 ic_1 rfl ?_
  obtain ⟨b1, hb1, hf⟩ := tbd hf
  have KTb1 : b1 = true → V g mX12_isName (d + 2) 0 0 n (RT tw dr sk tl ff) I L 19 [some (.ref 73)] [] (PoB n (RT tw dr sk tl ff) res I L) := fun hc => by
    replace hf := (if_pos hc).symm.trans hf
    refine V_iconst (pc := 19) dX12_isName_19 ic_0 rfl ?_
    cases hf
    exact V_zretE (pc := 20) dX12_isName_20 rfl (show (0 : Int32) = b2i false from rfl) PoB_mk
  have KFb1 : ¬ b1 = true → V g mX12_isName (d + 2) 0 0 n (RT tw dr sk tl ff) I L 15 [some (.ref 73)] [] (PoB n (RT tw dr sk tl ff) res I L) := fun hc => by
    replace hf := (if_neg hc).symm.trans hf
    refine V_iconst (pc := 15) dX12_isName_15 ic_1 rfl ?_
    refine V_goto (pc := 16) (tgt := 20) dX12_isName_16 (by decide) ?_
    cases hf
    exact V_zretE (pc := 20) dX12_isName_20 rfl (show (1 : Int32) = b2i true from rfl) PoB_mk
  refine V_icmp_ne (pc := 5) (tgt := 19) dX12_isName_5 (by decide) rfl (fun hc => ?_) (fun hc => ?_)
  · replace hb1 := (if_neg hc).symm.trans hb1
    cases hb1
    exact KTb1 rfl
  · replace hb1 := (if_pos hc).symm.trans hb1
    refine V_aload_n (pc := 8) dX12_isName_8 rfl rfl rfl ?_
    refine V_cVz (md' := mX12_isOwn) (pc := 9) dX12_isName_9 mlX12_233 mVX12_isOwn (tX12_isOwn hG hn rfl) rfl (by omega) (congrArg Prod.fst sh_73) rfl (Nat.le_of_ble_eq_true rfl) rfl ?_
    refine V_if_ne (pc := 12) (tgt := 19) dX12_isName_12 (by decide) rfl (fun hc => ?_) (fun hc => ?_)
    · replace hb1 := (if_neg hc).symm.trans hb1
      cases hb1
      exact KTb1 rfl
    · replace hb1 := (if_pos hc).symm.trans hb1
      cases hb1
      exact KFb1 (nbt rfl)
/-! ShadowDoorsModel.want -/
noncomputable def fX12_want (v1 : Int64) (I : HI) (L : HL) : Option (HI × HL) :=
  if (I 73 2) ≤ 0 then
    if (b2i (fX12_isWord v1 I L)) = 0 then
      obn (fX12_wrong (2 : Int32) I) fun q2 =>
      some (q2, L)
    else
      Option.bind (fX12_token  I L) fun q1 =>
      some (q1.1, q1.2)
  else
    some (I, L)
set_option maxRecDepth 100000 in
set_option maxHeartbeats 4000000 in
theorem tX12_want {g : GG} {n d : Nat} {tw dr sk tl ff : Nat} (hG : RG tw dr sk tl ff) (hn : 116 ≤ n) {v1 : Int64} {I : HI} {L : HL} {res : HI × HL} (hf : fX12_want v1 I L = some res) : CT g mX12_want (d + 3) 0 0 n (RT tw dr sk tl ff) I L [.ref 73, .long v1] (PoV n (RT tw dr sk tl ff) res.1 res.2) := by
  refine CT.of rfl (Nat.le_of_ble_eq_true rfl) ?_
  show V g mX12_want (d + 3) 0 0 n (RT tw dr sk tl ff) I L 0 [some (.ref 73), some (.long v1), none] [] (PoV n (RT tw dr sk tl ff) res.1 res.2)
  refine V_aload_n (pc := 0) dX12_want_0 rfl rfl rfl ?_
  refine V_getI (pc := 1) dX12_want_1 flX12_188 rfl (by omega) (congrArg Prod.fst sh_73) rfl ?_
  refine V_if_le (pc := 4) (tgt := 8) dX12_want_4 (by decide) rfl (fun hc => ?_) (fun hc => ?_)
  · replace hf := (if_pos hc).symm.trans hf
    refine V_aload_n (pc := 8) dX12_want_8 rfl rfl rfl ?_
    refine V_lload_n (pc := 9) dX12_want_9 rfl rfl rfl ?_
    refine V_cVz (md' := mX12_isWord) (pc := 10) dX12_want_10 mlX12_237 mVX12_isWord (tX12_isWord hG hn rfl) rfl (by omega) (congrArg Prod.fst sh_73) rfl (Nat.le_of_ble_eq_true rfl) rfl ?_
    refine V_if_ne (pc := 13) (tgt := 24) dX12_want_13 (by decide) rfl (fun hc => ?_) (fun hc => ?_)
    · replace hf := (if_neg hc).symm.trans hf
      refine V_aload_n (pc := 24) dX12_want_24 rfl rfl rfl ?_
      obtain ⟨q1, hq1, hf⟩ := bnd hf
      refine V_cVv (md' := mX12_token) (pc := 25) dX12_want_25 mlX12_244 mVX12_token (tX12_token hG hn hq1) rfl (by omega) (congrArg Prod.fst sh_73) rfl (Nat.le_of_ble_eq_true rfl) rfl ?_
      cases hf
      exact V_vret (pc := 28) dX12_want_28 rfl PoV_mk
    · replace hf := (if_pos hc).symm.trans hf
      refine V_aload_n (pc := 16) dX12_want_16 rfl rfl rfl ?_
      refine V_iconst (pc := 17) dX12_want_17 ic_2 rfl ?_
      obtain ⟨q2, hq2, hf⟩ := obd hf
      refine V_cVv (md' := mX12_wrong) (pc := 18) dX12_want_18 mlX12_241 mVX12_wrong (tX12_wrong hG hn hq2) rfl (by omega) (congrArg Prod.fst sh_73) rfl (Nat.le_of_ble_eq_true rfl) rfl ?_
      refine V_goto (pc := 21) (tgt := 28) dX12_want_21 (by decide) ?_
      cases hf
      exact V_vret (pc := 28) dX12_want_28 rfl PoV_mk
  · replace hf := (if_neg hc).symm.trans hf
    cases hf
    exact V_vret (pc := 7) dX12_want_7 rfl PoV_mk
/-! ShadowDoorsModel.toldNumber -/
noncomputable def fX12_toldNumber (v1 : Int32) (v2 : Int32) (I : HI) (L : HL) : Option (Int32 × HI × HL) :=
  if (I 73 2) ≤ 0 then
    Option.bind (
      if (I 73 6) = (2 : Int32) then
        Option.bind (
          if (I 73 8) < v1 then
            some true
          else
            if (I 73 8) ≤ v2 then
              some false
            else
              some true
        ) fun b5 =>
        if b5 = true then
          obn (fX12_wrong (4 : Int32) I) fun q6 =>
          some q6
        else
          some I
      else
        obn (fX12_wrong (2 : Int32) I) fun q7 =>
        some q7
    ) fun q4 =>
    if (q4 73 2) = 0 then
      Option.bind (fX12_token  q4 L) fun q8 =>
      some ((q4 73 8), q8.1, q8.2)
    else
      some ((q4 73 8), q4, L)
  else
    some ((0 : Int32), I, L)
set_option maxRecDepth 100000 in
set_option maxHeartbeats 4000000 in
theorem tX12_toldNumber {g : GG} {n d : Nat} {tw dr sk tl ff : Nat} (hG : RG tw dr sk tl ff) (hn : 116 ≤ n) {v1 : Int32} {v2 : Int32} {I : HI} {L : HL} {res : Int32 × HI × HL} (hf : fX12_toldNumber v1 v2 I L = some res) : CT g mX12_toldNumber (d + 3) 0 0 n (RT tw dr sk tl ff) I L [.ref 73, .int v1, .int v2] (PoI n (RT tw dr sk tl ff) res.1 res.2.1 res.2.2) := by
  refine CT.of rfl (Nat.le_of_ble_eq_true rfl) ?_
  show V g mX12_toldNumber (d + 3) 0 0 n (RT tw dr sk tl ff) I L 0 [some (.ref 73), some (.int v1), some (.int v2)] [] (PoI n (RT tw dr sk tl ff) res.1 res.2.1 res.2.2)
  refine V_aload_n (pc := 0) dX12_toldNumber_0 rfl rfl rfl ?_
  refine V_getI (pc := 1) dX12_toldNumber_1 flX12_188 rfl (by omega) (congrArg Prod.fst sh_73) rfl ?_
  refine V_if_le (pc := 4) (tgt := 9) dX12_toldNumber_4 (by decide) rfl (fun hc => ?_) (fun hc => ?_)
  · replace hf := (if_pos hc).symm.trans hf
    refine V_aload_n (pc := 9) dX12_toldNumber_9 rfl rfl rfl ?_
    refine V_getI (pc := 10) dX12_toldNumber_10 flX12_175 rfl (by omega) (congrArg Prod.fst sh_73) rfl ?_
    refine V_iconst (pc := 13) dX12_toldNumber_13 ic_2 rfl ?_
    obtain ⟨q4, hq4, hf⟩ := bnd hf
    have Kq4 : V g mX12_toldNumber (d + 3) 0 0 n (RT tw dr sk tl ff) q4 L 46 [some (.ref 73)] [] (PoI n (RT tw dr sk tl ff) res.1 res.2.1 res.2.2) := by
      refine V_aload_n (pc := 46) dX12_toldNumber_46 rfl rfl rfl ?_
      refine V_getI (pc := 47) dX12_toldNumber_47 flX12_172 rfl (by omega) (congrArg Prod.fst sh_73) rfl ?_
      refine V_istore_n (ls' := [some _, none, none, some _]) (pc := 50) dX12_toldNumber_50 rfl (Nat.le_of_ble_eq_true rfl) rfl rfl ?_
      refine V_aload_n (pc := 51) dX12_toldNumber_51 rfl rfl rfl ?_
      refine V_getI (pc := 52) dX12_toldNumber_52 flX12_188 rfl (by omega) (congrArg Prod.fst sh_73) rfl ?_
      refine V_if_ne (pc := 55) (tgt := 62) dX12_toldNumber_55 (by decide) rfl (fun hc => ?_) (fun hc => ?_)
      · replace hf := (if_neg hc).symm.trans hf
        refine V_iload_n (pc := 62) dX12_toldNumber_62 rfl rfl rfl ?_
        cases hf
        exact V_iret (pc := 63) dX12_toldNumber_63 rfl PoI_mk
      · replace hf := (if_pos hc).symm.trans hf
        refine V_aload_n (pc := 58) dX12_toldNumber_58 rfl rfl rfl ?_
        obtain ⟨q8, hq8, hf⟩ := bnd hf
        refine V_cVv (md' := mX12_token) (pc := 59) dX12_toldNumber_59 mlX12_244 mVX12_token (tX12_token hG hn hq8) rfl (by omega) (congrArg Prod.fst sh_73) rfl (Nat.le_of_ble_eq_true rfl) rfl ?_
        refine V_iload_n (pc := 62) dX12_toldNumber_62 rfl rfl rfl ?_
        cases hf
        exact V_iret (pc := 63) dX12_toldNumber_63 rfl PoI_mk
    refine V_icmp_eq (pc := 14) (tgt := 25) dX12_toldNumber_14 (by decide) rfl (fun hc => ?_) (fun hc => ?_)
    · replace hq4 := (if_pos hc).symm.trans hq4
      refine V_aload_n (pc := 25) dX12_toldNumber_25 rfl rfl rfl ?_
      refine V_getI (pc := 26) dX12_toldNumber_26 flX12_172 rfl (by omega) (congrArg Prod.fst sh_73) rfl ?_
      refine V_iload_n (pc := 29) dX12_toldNumber_29 rfl rfl rfl ?_
      obtain ⟨b5, hb5, hq4⟩ := bnd hq4
      have KTb5 : b5 = true → V g mX12_toldNumber (d + 3) 0 0 n (RT tw dr sk tl ff) I L 41 [some (.ref 73), some (.int v1), some (.int v2)] [] (PoI n (RT tw dr sk tl ff) res.1 res.2.1 res.2.2) := fun hc => by
        replace hq4 := (if_pos hc).symm.trans hq4
        refine V_aload_n (pc := 41) dX12_toldNumber_41 rfl rfl rfl ?_
        refine V_iconst (pc := 42) dX12_toldNumber_42 ic_4 rfl ?_
        obtain ⟨q6, hq6, hq4⟩ := obd hq4
        refine V_cVv (md' := mX12_wrong) (pc := 43) dX12_toldNumber_43 mlX12_241 mVX12_wrong (tX12_wrong hG hn hq6) rfl (by omega) (congrArg Prod.fst sh_73) rfl (Nat.le_of_ble_eq_true rfl) rfl ?_
        cases hq4
        exact V_wk Kq4 ⟨rfl, trivial⟩
      have KFb5 : ¬ b5 = true → V g mX12_toldNumber (d + 3) 0 0 n (RT tw dr sk tl ff) I L 46 [some (.ref 73), some (.int v1), some (.int v2)] [] (PoI n (RT tw dr sk tl ff) res.1 res.2.1 res.2.2) := fun hc => by
        replace hq4 := (if_neg hc).symm.trans hq4
        cases hq4
        exact V_wk Kq4 ⟨rfl, trivial⟩
      refine V_icmp_lt (pc := 30) (tgt := 41) dX12_toldNumber_30 (by decide) rfl (fun hc => ?_) (fun hc => ?_)
      · replace hb5 := (if_pos hc).symm.trans hb5
        cases hb5
        exact KTb5 rfl
      · replace hb5 := (if_neg hc).symm.trans hb5
        refine V_aload_n (pc := 33) dX12_toldNumber_33 rfl rfl rfl ?_
        refine V_getI (pc := 34) dX12_toldNumber_34 flX12_172 rfl (by omega) (congrArg Prod.fst sh_73) rfl ?_
        refine V_iload_n (pc := 37) dX12_toldNumber_37 rfl rfl rfl ?_
        refine V_icmp_le (pc := 38) (tgt := 46) dX12_toldNumber_38 (by decide) rfl (fun hc => ?_) (fun hc => ?_)
        · replace hb5 := (if_pos hc).symm.trans hb5
          cases hb5
          exact KFb5 (nbt rfl)
        · replace hb5 := (if_neg hc).symm.trans hb5
          cases hb5
          exact KTb5 rfl
    · replace hq4 := (if_neg hc).symm.trans hq4
      refine V_aload_n (pc := 17) dX12_toldNumber_17 rfl rfl rfl ?_
      refine V_iconst (pc := 18) dX12_toldNumber_18 ic_2 rfl ?_
      obtain ⟨q7, hq7, hq4⟩ := obd hq4
      refine V_cVv (md' := mX12_wrong) (pc := 19) dX12_toldNumber_19 mlX12_241 mVX12_wrong (tX12_wrong hG hn hq7) rfl (by omega) (congrArg Prod.fst sh_73) rfl (Nat.le_of_ble_eq_true rfl) rfl ?_
      refine V_goto (pc := 22) (tgt := 46) dX12_toldNumber_22 (by decide) ?_
      cases hq4
      exact V_wk Kq4 ⟨rfl, trivial⟩
  · replace hf := (if_neg hc).symm.trans hf
    refine V_iconst (pc := 7) dX12_toldNumber_7 ic_0 rfl ?_
    cases hf
    exact V_iret (pc := 8) dX12_toldNumber_8 rfl PoI_mk
/-! ShadowDoorsModel.told -/
noncomputable def fX12_told (v1 : Int64) (v2 : Int32) (v3 : Int32) (I : HI) (L : HL) : Option (Int32 × HI × HL) :=
  Option.bind (fX12_want v1 I L) fun q1 =>
  Option.bind (fX12_toldNumber v2 v3 q1.1 q1.2) fun q2 =>
  some (q2.1, q2.2.1, q2.2.2)
set_option maxRecDepth 100000 in
set_option maxHeartbeats 4000000 in
theorem tX12_told {g : GG} {n d : Nat} {tw dr sk tl ff : Nat} (hG : RG tw dr sk tl ff) (hn : 116 ≤ n) {v1 : Int64} {v2 : Int32} {v3 : Int32} {I : HI} {L : HL} {res : Int32 × HI × HL} (hf : fX12_told v1 v2 v3 I L = some res) : CT g mX12_told (d + 4) 0 0 n (RT tw dr sk tl ff) I L [.ref 73, .long v1, .int v2, .int v3] (PoI n (RT tw dr sk tl ff) res.1 res.2.1 res.2.2) := by
  refine CT.of rfl (Nat.le_of_ble_eq_true rfl) ?_
  show V g mX12_told (d + 4) 0 0 n (RT tw dr sk tl ff) I L 0 [some (.ref 73), some (.long v1), none, some (.int v2), some (.int v3)] [] (PoI n (RT tw dr sk tl ff) res.1 res.2.1 res.2.2)
  refine V_aload_n (pc := 0) dX12_told_0 rfl rfl rfl ?_
  refine V_lload_n (pc := 1) dX12_told_1 rfl rfl rfl ?_
  obtain ⟨q1, hq1, hf⟩ := bnd hf
  refine V_cVv (md' := mX12_want) (pc := 2) dX12_told_2 mlX12_247 mVX12_want (tX12_want hG hn hq1) rfl (by omega) (congrArg Prod.fst sh_73) rfl (Nat.le_of_ble_eq_true rfl) rfl ?_
  refine V_aload_n (pc := 5) dX12_told_5 rfl rfl rfl ?_
  refine V_iload_n (pc := 6) dX12_told_6 rfl rfl rfl ?_
  refine V_iload (pc := 7) dX12_told_7 rfl rfl ?_
  obtain ⟨q2, hq2, hf⟩ := bnd hf
  refine V_cVi (md' := mX12_toldNumber) (pc := 9) dX12_told_9 mlX12_251 mVX12_toldNumber (tX12_toldNumber hG hn hq2) rfl (by omega) (congrArg Prod.fst sh_73) rfl (Nat.le_of_ble_eq_true rfl) rfl ?_
  cases hf
  exact V_iret (pc := 12) dX12_told_12 rfl PoI_mk
/-! ShadowDoorsModel.find -/
noncomputable def fX12_find_5 : Nat → Int32 → Int32 → Int32 → Int32 → HL → Option (Int32)
  | 0, _, _, _, _, _ => none
  | fu + 1, y1, y2, y3, y4, L =>
    if y2 ≤ y4 then
      some y3
    else
      if inb (y1 + y4) 16 = true then
        if (L 75 (y1 + y4).toNatClampNeg) = (L 73 9) then
          fX12_find_5 fu y1 y2 y4 (y4 + (1 : Int32)) L
        else
          fX12_find_5 fu y1 y2 y3 (y4 + (1 : Int32)) L
      else none
set_option maxRecDepth 100000 in
set_option maxHeartbeats 4000000 in
theorem lX12_find_5 {g : GG} {n d : Nat} {tw dr sk tl ff : Nat} (hG : RG tw dr sk tl ff) (hn : 116 ≤ n) {P : PP} : ∀ (fu : Nat) (y1 : Int32) (y2 : Int32) (y3 : Int32) (y4 : Int32) (I : HI) (L : HL) (res : Int32), fX12_find_5 fu y1 y2 y3 y4 L = some res → P (some (.int res)) n (RT tw dr sk tl ff) I L → V g mX12_find (d + 1) 0 0 n (RT tw dr sk tl ff) I L 5 [some (.ref 73), some (.int y1), some (.int y2), some (.int y3), some (.int y4)] [] P := by
  intro fu
  induction fu with
  | zero => intro y1 y2 y3 y4 I L res hf; cases (show none = some res from hf)
  | succ fu ih =>
    intro y1 y2 y3 y4 I L res hf K
    refine V_iload (pc := 5) dX12_find_5 rfl rfl ?_
    refine V_iload_n (pc := 7) dX12_find_7 rfl rfl rfl ?_
    refine V_icmp_ge (pc := 8) (tgt := 41) dX12_find_8 (by decide) rfl (fun hc => ?_) (fun hc => ?_)
    · replace hf := (if_pos hc).symm.trans hf
      refine V_iload_n (pc := 41) dX12_find_41 rfl rfl rfl ?_
      cases hf
      exact V_iret (pc := 42) dX12_find_42 rfl K
    · replace hf := (if_neg hc).symm.trans hf
      refine V_aload_n (pc := 11) dX12_find_11 rfl rfl rfl ?_
      refine V_getR (pc := 12) dX12_find_12 flX12_17 rfl (by omega) (congrArg Prod.fst sh_73) rt_73_10 rfl ?_
      refine V_iload_n (pc := 15) dX12_find_15 rfl rfl rfl ?_
      refine V_iload (pc := 16) dX12_find_16 rfl rfl ?_
      refine V_iadd (pc := 18) dX12_find_18 rfl ?_
      obtain ⟨hc1, hf⟩ := pif hf
      refine V_lald (pc := 19) dX12_find_19 (by omega) sh_75 hc1 rfl ?_
      refine V_aload_n (pc := 20) dX12_find_20 rfl rfl rfl ?_
      refine V_getL (pc := 21) dX12_find_21 flX12_168 rfl (by omega) (congrArg Prod.fst sh_73) rfl ?_
      refine V_lc_ne (pc := 24) (tgt := 33) dX12_find_24 rfl dX12_find_25 (by decide) rfl (fun hc => ?_) (fun hc => ?_)
      · replace hf := (if_neg hc).symm.trans hf
        refine V_iload_n (pc := 33) dX12_find_33 rfl rfl rfl ?_
        refine V_istore_n (ls' := [some _, some _, some _, some _, some _]) (pc := 34) dX12_find_34 rfl (Nat.le_of_ble_eq_true rfl) rfl rfl ?_
        refine V_iinc (ls' := [some _, some _, some _, some _, some _]) (pc := 35) dX12_find_35 rfl (Nat.le_of_ble_eq_true rfl) (congrArg _ ic_1) rfl rfl ?_
        refine V_goto (pc := 38) (tgt := 5) dX12_find_38 (by decide) ?_
        exact V_wk (ih _ _ _ _ _ _ _ hf K) ⟨rfl, ⟨rfl, ⟨rfl, ⟨rfl, ⟨rfl, trivial⟩⟩⟩⟩⟩
      · replace hf := (if_pos hc).symm.trans hf
        refine V_iload (pc := 28) dX12_find_28 rfl rfl ?_
        refine V_goto (pc := 30) (tgt := 34) dX12_find_30 (by decide) ?_
        refine V_istore_n (ls' := [some _, some _, some _, some _, some _]) (pc := 34) dX12_find_34 rfl (Nat.le_of_ble_eq_true rfl) rfl rfl ?_
        refine V_iinc (ls' := [some _, some _, some _, some _, some _]) (pc := 35) dX12_find_35 rfl (Nat.le_of_ble_eq_true rfl) (congrArg _ ic_1) rfl rfl ?_
        refine V_goto (pc := 38) (tgt := 5) dX12_find_38 (by decide) ?_
        exact V_wk (ih _ _ _ _ _ _ _ hf K) ⟨rfl, ⟨rfl, ⟨rfl, ⟨rfl, ⟨rfl, trivial⟩⟩⟩⟩⟩
noncomputable def fX12_find (v1 : Int32) (v2 : Int32) (L : HL) : Option (Int32) :=
  Option.bind (fX12_find_5 FUEL v1 v2 (-1 : Int32) (0 : Int32) L) fun q2 =>
  some q2
set_option maxRecDepth 100000 in
set_option maxHeartbeats 4000000 in
theorem tX12_find {g : GG} {n d : Nat} {tw dr sk tl ff : Nat} (hG : RG tw dr sk tl ff) (hn : 116 ≤ n) {v1 : Int32} {v2 : Int32} {I : HI} {L : HL} {res : Int32} (hf : fX12_find v1 v2 L = some res) : CT g mX12_find (d + 1) 0 0 n (RT tw dr sk tl ff) I L [.ref 73, .int v1, .int v2] (PoI n (RT tw dr sk tl ff) res I L) := by
  refine CT.of rfl (Nat.le_of_ble_eq_true rfl) ?_
  show V g mX12_find (d + 1) 0 0 n (RT tw dr sk tl ff) I L 0 [some (.ref 73), some (.int v1), some (.int v2)] [] (PoI n (RT tw dr sk tl ff) res I L)
  refine V_iconst (pc := 0) dX12_find_0 ic_m1 rfl ?_
  refine V_istore_n (ls' := [some _, some _, some _, some _]) (pc := 1) dX12_find_1 rfl (Nat.le_of_ble_eq_true rfl) rfl rfl ?_
  refine V_iconst (pc := 2) dX12_find_2 ic_0 rfl ?_
  refine V_istore (ls' := [some _, some _, some _, some _, some _]) (pc := 3) dX12_find_3 (Nat.le_of_ble_eq_true rfl) rfl rfl ?_
  obtain ⟨q2, hq2, hf⟩ := bnd hf
  refine V_wk (lX12_find_5 hG hn FUEL _ _ _ _ _ _ _ hq2 ?_) ⟨rfl, ⟨rfl, ⟨rfl, ⟨rfl, ⟨rfl, trivial⟩⟩⟩⟩⟩
  cases hf
  exact PoI_mk
/-! ShadowDoorsModel.newName -/
noncomputable def fX12_newName (v1 : Int32) (v2 : Int32) (I : HI) (L : HL) : Option (HI × HL) :=
  Option.bind (fX12_token  I L) fun q1 =>
  Option.bind (
    if (b2i (fX12_isName  q1.1 q1.2)) = 0 then
      obn (fX12_wrong (2 : Int32) q1.1) fun q8 =>
      some q8
    else
      Option.bind (fX12_find v1 v2 q1.2) fun q6 =>
      if q6 < 0 then
        some q1.1
      else
        obn (fX12_wrong (3 : Int32) q1.1) fun q7 =>
        some q7
  ) fun q5 =>
  if (q5 73 2) ≤ 0 then
    if inb (v1 + v2) 16 = true then
      let L10 : HL := up2 q1.2 75 (v1 + v2).toNatClampNeg (q1.2 73 9)
      Option.bind (fX12_token  q5 L10) fun q11 =>
      some (q11.1, q11.2)
    else none
  else
    some (q5, q1.2)
set_option maxRecDepth 100000 in
set_option maxHeartbeats 4000000 in
theorem tX12_newName {g : GG} {n d : Nat} {tw dr sk tl ff : Nat} (hG : RG tw dr sk tl ff) (hn : 116 ≤ n) {v1 : Int32} {v2 : Int32} {I : HI} {L : HL} {res : HI × HL} (hf : fX12_newName v1 v2 I L = some res) : CT g mX12_newName (d + 3) 0 0 n (RT tw dr sk tl ff) I L [.ref 73, .int v1, .int v2] (PoV n (RT tw dr sk tl ff) res.1 res.2) := by
  refine CT.of rfl (Nat.le_of_ble_eq_true rfl) ?_
  show V g mX12_newName (d + 3) 0 0 n (RT tw dr sk tl ff) I L 0 [some (.ref 73), some (.int v1), some (.int v2)] [] (PoV n (RT tw dr sk tl ff) res.1 res.2)
  refine V_aload_n (pc := 0) dX12_newName_0 rfl rfl rfl ?_
  obtain ⟨q1, hq1, hf⟩ := bnd hf
  refine V_cVv (md' := mX12_token) (pc := 1) dX12_newName_1 mlX12_244 mVX12_token (tX12_token hG hn hq1) rfl (by omega) (congrArg Prod.fst sh_73) rfl (Nat.le_of_ble_eq_true rfl) rfl ?_
  refine V_aload_n (pc := 4) dX12_newName_4 rfl rfl rfl ?_
  refine V_cVz (md' := mX12_isName) (pc := 5) dX12_newName_5 mlX12_255 mVX12_isName (tX12_isName hG hn rfl) rfl (by omega) (congrArg Prod.fst sh_73) rfl (Nat.le_of_ble_eq_true rfl) rfl ?_
  obtain ⟨q5, hq5, hf⟩ := bnd hf
  have Kq5 : V g mX12_newName (d + 3) 0 0 n (RT tw dr sk tl ff) q5 q1.2 33 [some (.ref 73), some (.int v1), some (.int v2)] [] (PoV n (RT tw dr sk tl ff) res.1 res.2) := by
    refine V_aload_n (pc := 33) dX12_newName_33 rfl rfl rfl ?_
    refine V_getI (pc := 34) dX12_newName_34 flX12_188 rfl (by omega) (congrArg Prod.fst sh_73) rfl ?_
    refine V_if_le (pc := 37) (tgt := 41) dX12_newName_37 (by decide) rfl (fun hc => ?_) (fun hc => ?_)
    · replace hf := (if_pos hc).symm.trans hf
      refine V_aload_n (pc := 41) dX12_newName_41 rfl rfl rfl ?_
      refine V_getR (pc := 42) dX12_newName_42 flX12_17 rfl (by omega) (congrArg Prod.fst sh_73) rt_73_10 rfl ?_
      refine V_iload_n (pc := 45) dX12_newName_45 rfl rfl rfl ?_
      refine V_iload_n (pc := 46) dX12_newName_46 rfl rfl rfl ?_
      refine V_iadd (pc := 47) dX12_newName_47 rfl ?_
      refine V_aload_n (pc := 48) dX12_newName_48 rfl rfl rfl ?_
      refine V_getL (pc := 49) dX12_newName_49 flX12_168 rfl (by omega) (congrArg Prod.fst sh_73) rfl ?_
      obtain ⟨hc9, hf⟩ := pif hf
      let L10 : HL := up2 q1.2 75 (v1 + v2).toNatClampNeg (q1.2 73 9)
      refine V_last (pc := 52) dX12_newName_52 (by omega) sh_75 hc9 rfl ?_
      refine V_aload_n (pc := 53) dX12_newName_53 rfl rfl rfl ?_
      obtain ⟨q11, hq11, hf⟩ := bnd hf
      refine V_cVv (md' := mX12_token) (pc := 54) dX12_newName_54 mlX12_244 mVX12_token (tX12_token hG hn hq11) rfl (by omega) (congrArg Prod.fst sh_73) rfl (Nat.le_of_ble_eq_true rfl) rfl ?_
      cases hf
      exact V_vret (pc := 57) dX12_newName_57 rfl PoV_mk
    · replace hf := (if_neg hc).symm.trans hf
      cases hf
      exact V_vret (pc := 40) dX12_newName_40 rfl PoV_mk
  refine V_if_ne (pc := 8) (tgt := 19) dX12_newName_8 (by decide) rfl (fun hc => ?_) (fun hc => ?_)
  · replace hq5 := (if_neg hc).symm.trans hq5
    refine V_aload_n (pc := 19) dX12_newName_19 rfl rfl rfl ?_
    refine V_iload_n (pc := 20) dX12_newName_20 rfl rfl rfl ?_
    refine V_iload_n (pc := 21) dX12_newName_21 rfl rfl rfl ?_
    obtain ⟨q6, hq6, hq5⟩ := bnd hq5
    refine V_cVi (md' := mX12_find) (pc := 22) dX12_newName_22 mlX12_258 mVX12_find (tX12_find hG hn hq6) rfl (by omega) (congrArg Prod.fst sh_73) rfl (Nat.le_of_ble_eq_true rfl) rfl ?_
    refine V_if_lt (pc := 25) (tgt := 33) dX12_newName_25 (by decide) rfl (fun hc => ?_) (fun hc => ?_)
    · replace hq5 := (if_pos hc).symm.trans hq5
      cases hq5
      exact V_wk Kq5 ⟨rfl, ⟨rfl, ⟨rfl, trivial⟩⟩⟩
    · replace hq5 := (if_neg hc).symm.trans hq5
      refine V_aload_n (pc := 28) dX12_newName_28 rfl rfl rfl ?_
      refine V_iconst (pc := 29) dX12_newName_29 ic_3 rfl ?_
      obtain ⟨q7, hq7, hq5⟩ := obd hq5
      refine V_cVv (md' := mX12_wrong) (pc := 30) dX12_newName_30 mlX12_241 mVX12_wrong (tX12_wrong hG hn hq7) rfl (by omega) (congrArg Prod.fst sh_73) rfl (Nat.le_of_ble_eq_true rfl) rfl ?_
      cases hq5
      exact V_wk Kq5 ⟨rfl, ⟨rfl, ⟨rfl, trivial⟩⟩⟩
  · replace hq5 := (if_pos hc).symm.trans hq5
    refine V_aload_n (pc := 11) dX12_newName_11 rfl rfl rfl ?_
    refine V_iconst (pc := 12) dX12_newName_12 ic_2 rfl ?_
    obtain ⟨q8, hq8, hq5⟩ := obd hq5
    refine V_cVv (md' := mX12_wrong) (pc := 13) dX12_newName_13 mlX12_241 mVX12_wrong (tX12_wrong hG hn hq8) rfl (by omega) (congrArg Prod.fst sh_73) rfl (Nat.le_of_ble_eq_true rfl) rfl ?_
    refine V_goto (pc := 16) (tgt := 33) dX12_newName_16 (by decide) ?_
    cases hq5
    exact V_wk Kq5 ⟨rfl, ⟨rfl, ⟨rfl, trivial⟩⟩⟩
/-! ShadowDoorsModel.add -/
noncomputable def fX12_add (v1 : Int32) (v2 : Int32) (I : HI) : Option (HI) :=
  if inb (I 73 17) 320 = true then
    let I2 : HI := up2 I 76 (I 73 17).toNatClampNeg v1
    if inb (I2 73 17) 320 = true then
      let I4 : HI := up2 I2 77 (I2 73 17).toNatClampNeg v2
      let I5 : HI := up2 I4 73 17 ((I4 73 17) + (1 : Int32))
      some I5
    else none
  else none
set_option maxRecDepth 100000 in
set_option maxHeartbeats 4000000 in
theorem tX12_add {g : GG} {n d : Nat} {tw dr sk tl ff : Nat} (hG : RG tw dr sk tl ff) (hn : 116 ≤ n) {v1 : Int32} {v2 : Int32} {I : HI} {L : HL} {res : HI} (hf : fX12_add v1 v2 I = some res) : CT g mX12_add (d + 1) 0 0 n (RT tw dr sk tl ff) I L [.ref 73, .int v1, .int v2] (PoV n (RT tw dr sk tl ff) res L) := by
  refine CT.of rfl (Nat.le_of_ble_eq_true rfl) ?_
  show V g mX12_add (d + 1) 0 0 n (RT tw dr sk tl ff) I L 0 [some (.ref 73), some (.int v1), some (.int v2)] [] (PoV n (RT tw dr sk tl ff) res L)
  refine V_aload_n (pc := 0) dX12_add_0 rfl rfl rfl ?_
  refine V_getR (pc := 1) dX12_add_1 flX12_21 rfl (by omega) (congrArg Prod.fst sh_73) rt_73_11 rfl ?_
  refine V_aload_n (pc := 4) dX12_add_4 rfl rfl rfl ?_
  refine V_getI (pc := 5) dX12_add_5 flX12_261 rfl (by omega) (congrArg Prod.fst sh_73) rfl ?_
  refine V_iload_n (pc := 8) dX12_add_8 rfl rfl rfl ?_
  obtain ⟨hc1, hf⟩ := pif hf
  let I2 : HI := up2 I 76 (I 73 17).toNatClampNeg v1
  refine V_iast (pc := 9) dX12_add_9 (by omega) sh_76 hc1 rfl ?_
  refine V_aload_n (pc := 10) dX12_add_10 rfl rfl rfl ?_
  refine V_getR (pc := 11) dX12_add_11 flX12_24 rfl (by omega) (congrArg Prod.fst sh_73) rt_73_12 rfl ?_
  refine V_aload_n (pc := 14) dX12_add_14 rfl rfl rfl ?_
  refine V_getI (pc := 15) dX12_add_15 flX12_261 rfl (by omega) (congrArg Prod.fst sh_73) rfl ?_
  refine V_iload_n (pc := 18) dX12_add_18 rfl rfl rfl ?_
  obtain ⟨hc3, hf⟩ := pif hf
  let I4 : HI := up2 I2 77 (I2 73 17).toNatClampNeg v2
  refine V_iast (pc := 19) dX12_add_19 (by omega) sh_77 hc3 rfl ?_
  refine V_aload_n (pc := 20) dX12_add_20 rfl rfl rfl ?_
  refine V_dup (pc := 21) dX12_add_21 rfl rfl ?_
  refine V_getI (pc := 22) dX12_add_22 flX12_261 rfl (by omega) (congrArg Prod.fst sh_73) rfl ?_
  refine V_iconst (pc := 25) dX12_add_25 ic_1 rfl ?_
  refine V_iadd (pc := 26) dX12_add_26 rfl ?_
  let I5 : HI := up2 I4 73 17 ((I4 73 17) + (1 : Int32))
  refine V_putI (pc := 27) dX12_add_27 flX12_261 rfl rfl (by omega) (congrArg Prod.fst sh_73) rfl ?_
  cases hf
  exact V_vret (pc := 30) dX12_add_30 rfl PoV_mk
/-! ShadowDoorsModel.tight -/
noncomputable def fX12_tight (v1 : Int32) : Int32 :=
  if v1 = (21 : Int32) then
    (3 : Int32)
  else
    if v1 = (38 : Int32) then
      (2 : Int32)
    else
      if v1 = (43 : Int32) then
        (5 : Int32)
      else
        if v1 = (45 : Int32) then
          (5 : Int32)
        else
          if v1 = (60 : Int32) then
            (4 : Int32)
          else
            if v1 = (61 : Int32) then
              (4 : Int32)
            else
              if v1 = (62 : Int32) then
                (4 : Int32)
              else
                if v1 = (124 : Int32) then
                  (1 : Int32)
                else
                  (6 : Int32)
set_option maxRecDepth 100000 in
set_option maxHeartbeats 4000000 in
theorem tX12_tight {g : GG} {n d : Nat} {r : HR}  {v1 : Int32} {I : HI} {L : HL} {res : Int32} (hf : fX12_tight v1 = res) : CT g mX12_tight (d + 1) 0 0 n r I L [.int v1] (PoI n r res I L) := by
  refine CT.of rfl (Nat.le_of_ble_eq_true rfl) ?_
  show V g mX12_tight (d + 1) 0 0 n r I L 0 [some (.int v1)] [] (PoI n r res I L)
  refine V_iload_n (pc := 0) dX12_tight_0 rfl rfl rfl ?_
  by_cases hc1 : v1 = (21 : Int32)
  · replace hf := (if_pos hc1).symm.trans hf
    refine V_lsw (off := 79) (pc := 1) (tgt := 80) dX12_tight_1 (by decide) (by rw [hc1]; first | done | rfl) (by decide) ?_
    refine V_iconst (pc := 80) dX12_tight_80 ic_3 rfl ?_
    cases hf
    exact V_iret (pc := 81) dX12_tight_81 rfl PoI_mk
  · replace hf := (if_neg hc1).symm.trans hf
    by_cases hc2 : v1 = (38 : Int32)
    · replace hf := (if_pos hc2).symm.trans hf
      refine V_lsw (off := 77) (pc := 1) (tgt := 78) dX12_tight_1 (by decide) (by rw [hc2]; first | done | rfl) (by decide) ?_
      refine V_iconst (pc := 78) dX12_tight_78 ic_2 rfl ?_
      cases hf
      exact V_iret (pc := 79) dX12_tight_79 rfl PoI_mk
    · replace hf := (if_neg hc2).symm.trans hf
      by_cases hc3 : v1 = (43 : Int32)
      · replace hf := (if_pos hc3).symm.trans hf
        refine V_lsw (off := 83) (pc := 1) (tgt := 84) dX12_tight_1 (by decide) (by rw [hc3]; first | done | rfl) (by decide) ?_
        refine V_iconst (pc := 84) dX12_tight_84 ic_5 rfl ?_
        cases hf
        exact V_iret (pc := 85) dX12_tight_85 rfl PoI_mk
      · replace hf := (if_neg hc3).symm.trans hf
        by_cases hc4 : v1 = (45 : Int32)
        · replace hf := (if_pos hc4).symm.trans hf
          refine V_lsw (off := 83) (pc := 1) (tgt := 84) dX12_tight_1 (by decide) (by rw [hc4]; first | done | rfl) (by decide) ?_
          refine V_iconst (pc := 84) dX12_tight_84 ic_5 rfl ?_
          cases hf
          exact V_iret (pc := 85) dX12_tight_85 rfl PoI_mk
        · replace hf := (if_neg hc4).symm.trans hf
          by_cases hc5 : v1 = (60 : Int32)
          · replace hf := (if_pos hc5).symm.trans hf
            refine V_lsw (off := 81) (pc := 1) (tgt := 82) dX12_tight_1 (by decide) (by rw [hc5]; first | done | rfl) (by decide) ?_
            refine V_iconst (pc := 82) dX12_tight_82 ic_4 rfl ?_
            cases hf
            exact V_iret (pc := 83) dX12_tight_83 rfl PoI_mk
          · replace hf := (if_neg hc5).symm.trans hf
            by_cases hc6 : v1 = (61 : Int32)
            · replace hf := (if_pos hc6).symm.trans hf
              refine V_lsw (off := 81) (pc := 1) (tgt := 82) dX12_tight_1 (by decide) (by rw [hc6]; first | done | rfl) (by decide) ?_
              refine V_iconst (pc := 82) dX12_tight_82 ic_4 rfl ?_
              cases hf
              exact V_iret (pc := 83) dX12_tight_83 rfl PoI_mk
            · replace hf := (if_neg hc6).symm.trans hf
              by_cases hc7 : v1 = (62 : Int32)
              · replace hf := (if_pos hc7).symm.trans hf
                refine V_lsw (off := 81) (pc := 1) (tgt := 82) dX12_tight_1 (by decide) (by rw [hc7]; first | done | rfl) (by decide) ?_
                refine V_iconst (pc := 82) dX12_tight_82 ic_4 rfl ?_
                cases hf
                exact V_iret (pc := 83) dX12_tight_83 rfl PoI_mk
              · replace hf := (if_neg hc7).symm.trans hf
                by_cases hc8 : v1 = (124 : Int32)
                · replace hf := (if_pos hc8).symm.trans hf
                  refine V_lsw (off := 75) (pc := 1) (tgt := 76) dX12_tight_1 (by decide) (by rw [hc8]; first | done | rfl) (by decide) ?_
                  refine V_iconst (pc := 76) dX12_tight_76 ic_1 rfl ?_
                  cases hf
                  exact V_iret (pc := 77) dX12_tight_77 rfl PoI_mk
                · replace hf := (if_neg hc8).symm.trans hf
                  have KD9 : V g mX12_tight (d + 1) 0 0 n r I L 86 [some (.int v1)] [] (PoI n r res I L) := by
                    refine V_bipush (pc := 86) dX12_tight_86 bp_6 rfl ?_
                    cases hf
                    exact V_iret (pc := 88) dX12_tight_88 rfl PoI_mk
                  refine V_lsw (off := 85) (pc := 1) (tgt := 86) dX12_tight_1 (by decide) (by have e0 := swn (k := (21 : Int32)) (z := 21) hc1 rfl; have e1 := swn (k := (38 : Int32)) (z := 38) hc2 rfl; have e2 := swn (k := (43 : Int32)) (z := 43) hc3 rfl; have e3 := swn (k := (45 : Int32)) (z := 45) hc4 rfl; have e4 := swn (k := (60 : Int32)) (z := 60) hc5 rfl; have e5 := swn (k := (61 : Int32)) (z := 61) hc6 rfl; have e6 := swn (k := (62 : Int32)) (z := 62) hc7 rfl; have e7 := swn (k := (124 : Int32)) (z := 124) hc8 rfl; simp only [Op.lookupswitch.offset_cons, Op.lookupswitch.offset_nil]; rw [if_neg (fun z => e0 z.symm)]; rw [if_neg (fun z => e1 z.symm)]; rw [if_neg (fun z => e2 z.symm)]; rw [if_neg (fun z => e3 z.symm)]; rw [if_neg (fun z => e4 z.symm)]; rw [if_neg (fun z => e5 z.symm)]; rw [if_neg (fun z => e6 z.symm)]; rw [if_neg (fun z => e7 z.symm)]) (by decide) KD9
/-! ShadowDoorsModel.close -/
noncomputable def fX12_close_0 : Nat → Int32 → HI → Option (HI)
  | 0, _, _ => none
  | fu + 1, y1, I =>
    Option.bind (
      if (I 73 19) ≤ 0 then
        some true
      else
        if inb ((I 73 19) - (1 : Int32)) 160 = true then
          if (I 80 ((I 73 19) - (1 : Int32)).toNatClampNeg) = (20 : Int32) then
            some true
          else
            if inb ((I 73 19) - (1 : Int32)) 160 = true then
              if (fX12_tight (I 80 ((I 73 19) - (1 : Int32)).toNatClampNeg)) < y1 then
                some true
              else
                some false
            else none
        else none
    ) fun b1 =>
    if b1 = true then
      some I
    else
      let I4 : HI := up2 I 73 19 ((I 73 19) - (1 : Int32))
      if inb (I4 73 19) 160 = true then
        if (I4 80 (I4 73 19).toNatClampNeg) = (21 : Int32) then
          Option.bind (fX12_add (2 : Int32) (0 : Int32) I4) fun q8 =>
          let I9 : HI := up2 q8 73 23 ((q8 73 23) - (1 : Int32))
          fX12_close_0 fu y1 I9
        else
          if inb (I4 73 19) 160 = true then
            Option.bind (fX12_add (3 : Int32) (I4 80 (I4 73 19).toNatClampNeg) I4) fun q7 =>
            fX12_close_0 fu y1 q7
          else none
      else none
set_option maxRecDepth 100000 in
set_option maxHeartbeats 4000000 in
theorem lX12_close_0 {g : GG} {n d : Nat} {tw dr sk tl ff : Nat} (hG : RG tw dr sk tl ff) (hn : 116 ≤ n) {P : PP} : ∀ (fu : Nat) (y1 : Int32) (I : HI) (L : HL) (res : HI), fX12_close_0 fu y1 I = some res → P none n (RT tw dr sk tl ff) res L → V g mX12_close (d + 2) 0 0 n (RT tw dr sk tl ff) I L 0 [some (.ref 73), some (.int y1)] [] P := by
  intro fu
  induction fu with
  | zero => intro y1 I L res hf; cases (show none = some res from hf)
  | succ fu ih =>
    intro y1 I L res hf K
    refine V_aload_n (pc := 0) dX12_close_0 rfl rfl rfl ?_
    refine V_getI (pc := 1) dX12_close_1 flX12_264 rfl (by omega) (congrArg Prod.fst sh_73) rfl ?_
    obtain ⟨b1, hb1, hf⟩ := bnd hf
    have KTb1 : b1 = true → V g mX12_close (d + 2) 0 0 n (RT tw dr sk tl ff) I L 101 [some (.ref 73), some (.int y1)] [] P := fun hc => by
      replace hf := (if_pos hc).symm.trans hf
      cases hf
      exact V_vret (pc := 101) dX12_close_101 rfl K
    have KFb1 : ¬ b1 = true → V g mX12_close (d + 2) 0 0 n (RT tw dr sk tl ff) I L 41 [some (.ref 73), some (.int y1)] [] P := fun hc => by
      replace hf := (if_neg hc).symm.trans hf
      refine V_aload_n (pc := 41) dX12_close_41 rfl rfl rfl ?_
      refine V_dup (pc := 42) dX12_close_42 rfl rfl ?_
      refine V_getI (pc := 43) dX12_close_43 flX12_264 rfl (by omega) (congrArg Prod.fst sh_73) rfl ?_
      refine V_iconst (pc := 46) dX12_close_46 ic_1 rfl ?_
      refine V_isub (pc := 47) dX12_close_47 rfl ?_
      let I4 : HI := up2 I 73 19 ((I 73 19) - (1 : Int32))
      refine V_putI (pc := 48) dX12_close_48 flX12_264 rfl rfl (by omega) (congrArg Prod.fst sh_73) rfl ?_
      refine V_aload_n (pc := 51) dX12_close_51 rfl rfl rfl ?_
      refine V_getR (pc := 52) dX12_close_52 flX12_33 rfl (by omega) (congrArg Prod.fst sh_73) rt_73_15 rfl ?_
      refine V_aload_n (pc := 55) dX12_close_55 rfl rfl rfl ?_
      refine V_getI (pc := 56) dX12_close_56 flX12_264 rfl (by omega) (congrArg Prod.fst sh_73) rfl ?_
      obtain ⟨hc5, hf⟩ := pif hf
      refine V_iald (pc := 59) dX12_close_59 (by omega) sh_80 hc5 rfl ?_
      refine V_bipush (pc := 60) dX12_close_60 bp_21 rfl ?_
      refine V_icmp_ne (pc := 62) (tgt := 84) dX12_close_62 (by decide) rfl (fun hc => ?_) (fun hc => ?_)
      · replace hf := (if_neg hc).symm.trans hf
        refine V_aload_n (pc := 84) dX12_close_84 rfl rfl rfl ?_
        refine V_iconst (pc := 85) dX12_close_85 ic_3 rfl ?_
        refine V_aload_n (pc := 86) dX12_close_86 rfl rfl rfl ?_
        refine V_getR (pc := 87) dX12_close_87 flX12_33 rfl (by omega) (congrArg Prod.fst sh_73) rt_73_15 rfl ?_
        refine V_aload_n (pc := 90) dX12_close_90 rfl rfl rfl ?_
        refine V_getI (pc := 91) dX12_close_91 flX12_264 rfl (by omega) (congrArg Prod.fst sh_73) rfl ?_
        obtain ⟨hc6, hf⟩ := pif hf
        refine V_iald (pc := 94) dX12_close_94 (by omega) sh_80 hc6 rfl ?_
        obtain ⟨q7, hq7, hf⟩ := bnd hf
        refine V_cVv (md' := mX12_add) (pc := 95) dX12_close_95 mlX12_270 mVX12_add (tX12_add hG hn hq7) rfl (by omega) (congrArg Prod.fst sh_73) rfl (Nat.le_of_ble_eq_true rfl) rfl ?_
        refine V_goto (pc := 98) (tgt := 0) dX12_close_98 (by decide) ?_
        exact V_wk (ih _ _ _ _ hf K) ⟨rfl, ⟨rfl, trivial⟩⟩
      · replace hf := (if_pos hc).symm.trans hf
        refine V_aload_n (pc := 65) dX12_close_65 rfl rfl rfl ?_
        refine V_iconst (pc := 66) dX12_close_66 ic_2 rfl ?_
        refine V_iconst (pc := 67) dX12_close_67 ic_0 rfl ?_
        obtain ⟨q8, hq8, hf⟩ := bnd hf
        refine V_cVv (md' := mX12_add) (pc := 68) dX12_close_68 mlX12_270 mVX12_add (tX12_add hG hn hq8) rfl (by omega) (congrArg Prod.fst sh_73) rfl (Nat.le_of_ble_eq_true rfl) rfl ?_
        refine V_aload_n (pc := 71) dX12_close_71 rfl rfl rfl ?_
        refine V_dup (pc := 72) dX12_close_72 rfl rfl ?_
        refine V_getI (pc := 73) dX12_close_73 flX12_273 rfl (by omega) (congrArg Prod.fst sh_73) rfl ?_
        refine V_iconst (pc := 76) dX12_close_76 ic_1 rfl ?_
        refine V_isub (pc := 77) dX12_close_77 rfl ?_
        let I9 : HI := up2 q8 73 23 ((q8 73 23) - (1 : Int32))
        refine V_putI (pc := 78) dX12_close_78 flX12_273 rfl rfl (by omega) (congrArg Prod.fst sh_73) rfl ?_
        refine V_goto (pc := 81) (tgt := 0) dX12_close_81 (by decide) ?_
        exact V_wk (ih _ _ _ _ hf K) ⟨rfl, ⟨rfl, trivial⟩⟩
    refine V_if_le (pc := 4) (tgt := 101) dX12_close_4 (by decide) rfl (fun hc => ?_) (fun hc => ?_)
    · replace hb1 := (if_pos hc).symm.trans hb1
      cases hb1
      exact KTb1 rfl
    · replace hb1 := (if_neg hc).symm.trans hb1
      refine V_aload_n (pc := 7) dX12_close_7 rfl rfl rfl ?_
      refine V_getR (pc := 8) dX12_close_8 flX12_33 rfl (by omega) (congrArg Prod.fst sh_73) rt_73_15 rfl ?_
      refine V_aload_n (pc := 11) dX12_close_11 rfl rfl rfl ?_
      refine V_getI (pc := 12) dX12_close_12 flX12_264 rfl (by omega) (congrArg Prod.fst sh_73) rfl ?_
      refine V_iconst (pc := 15) dX12_close_15 ic_1 rfl ?_
      refine V_isub (pc := 16) dX12_close_16 rfl ?_
      obtain ⟨hc2, hb1⟩ := pif hb1
      refine V_iald (pc := 17) dX12_close_17 (by omega) sh_80 hc2 rfl ?_
      refine V_bipush (pc := 18) dX12_close_18 bp_20 rfl ?_
      refine V_icmp_eq (pc := 20) (tgt := 101) dX12_close_20 (by decide) rfl (fun hc => ?_) (fun hc => ?_)
      · replace hb1 := (if_pos hc).symm.trans hb1
        cases hb1
        exact KTb1 rfl
      · replace hb1 := (if_neg hc).symm.trans hb1
        refine V_aload_n (pc := 23) dX12_close_23 rfl rfl rfl ?_
        refine V_getR (pc := 24) dX12_close_24 flX12_33 rfl (by omega) (congrArg Prod.fst sh_73) rt_73_15 rfl ?_
        refine V_aload_n (pc := 27) dX12_close_27 rfl rfl rfl ?_
        refine V_getI (pc := 28) dX12_close_28 flX12_264 rfl (by omega) (congrArg Prod.fst sh_73) rfl ?_
        refine V_iconst (pc := 31) dX12_close_31 ic_1 rfl ?_
        refine V_isub (pc := 32) dX12_close_32 rfl ?_
        obtain ⟨hc3, hb1⟩ := pif hb1
        refine V_iald (pc := 33) dX12_close_33 (by omega) sh_80 hc3 rfl ?_
        refine V_cSi (md' := mX12_tight) (pc := 34) dX12_close_34 mlX12_267 mSX12_tight (tX12_tight rfl) rfl rfl (Nat.le_of_ble_eq_true rfl) rfl ?_
        refine V_iload_n (pc := 37) dX12_close_37 rfl rfl rfl ?_
        refine V_icmp_lt (pc := 38) (tgt := 101) dX12_close_38 (by decide) rfl (fun hc => ?_) (fun hc => ?_)
        · replace hb1 := (if_pos hc).symm.trans hb1
          cases hb1
          exact KTb1 rfl
        · replace hb1 := (if_neg hc).symm.trans hb1
          cases hb1
          exact KFb1 (nbt rfl)
noncomputable def fX12_close (v1 : Int32) (I : HI) : Option (HI) :=
  Option.bind (fX12_close_0 FUEL v1 I) fun q10 =>
  some q10
set_option maxRecDepth 100000 in
set_option maxHeartbeats 4000000 in
theorem tX12_close {g : GG} {n d : Nat} {tw dr sk tl ff : Nat} (hG : RG tw dr sk tl ff) (hn : 116 ≤ n) {v1 : Int32} {I : HI} {L : HL} {res : HI} (hf : fX12_close v1 I = some res) : CT g mX12_close (d + 2) 0 0 n (RT tw dr sk tl ff) I L [.ref 73, .int v1] (PoV n (RT tw dr sk tl ff) res L) := by
  refine CT.of rfl (Nat.le_of_ble_eq_true rfl) ?_
  show V g mX12_close (d + 2) 0 0 n (RT tw dr sk tl ff) I L 0 [some (.ref 73), some (.int v1)] [] (PoV n (RT tw dr sk tl ff) res L)
  obtain ⟨q10, hq10, hf⟩ := bnd hf
  refine V_wk (lX12_close_0 hG hn FUEL _ _ _ _ hq10 ?_) ⟨rfl, ⟨rfl, trivial⟩⟩
  cases hf
  exact PoV_mk
/-! ShadowDoorsModel.hasRelation -/
noncomputable def fX12_hasRelation_7 : Nat → Int32 → HI → Option (Int32)
  | 0, _, _ => none
  | fu + 1, y1, I =>
    Option.bind (
      if y1 < 0 then
        some true
      else
        if inb y1 160 = true then
          if (I 80 y1.toNatClampNeg) = (20 : Int32) then
            some true
          else
            if inb y1 160 = true then
              if (fX12_tight (I 80 y1.toNatClampNeg)) ≤ (4 : Int32) then
                some true
              else
                some false
            else none
        else none
    ) fun b2 =>
    if b2 = true then
      some y1
    else
      fX12_hasRelation_7 fu (y1 + (-1 : Int32)) I
set_option maxRecDepth 100000 in
set_option maxHeartbeats 4000000 in
theorem lX12_hasRelation_7 {g : GG} {n d : Nat} {tw dr sk tl ff : Nat} (hG : RG tw dr sk tl ff) (hn : 116 ≤ n) {P : PP} : ∀ (fu : Nat) (y1 : Int32) (I : HI) (L : HL) (res : Int32), fX12_hasRelation_7 fu y1 I = some res → V g mX12_hasRelation (d + 2) 0 0 n (RT tw dr sk tl ff) I L 41 [some (.ref 73), some (.int res)] [] P → V g mX12_hasRelation (d + 2) 0 0 n (RT tw dr sk tl ff) I L 7 [some (.ref 73), some (.int y1)] [] P := by
  intro fu
  induction fu with
  | zero => intro y1 I L res hf; cases (show none = some res from hf)
  | succ fu ih =>
    intro y1 I L res hf K
    refine V_iload_n (pc := 7) dX12_hasRelation_7 rfl rfl rfl ?_
    obtain ⟨b2, hb2, hf⟩ := bnd hf
    have KTb2 : b2 = true → V g mX12_hasRelation (d + 2) 0 0 n (RT tw dr sk tl ff) I L 41 [some (.ref 73), some (.int y1)] [] P := fun hc => by
      replace hf := (if_pos hc).symm.trans hf
      cases hf
      exact V_wk K ⟨rfl, ⟨rfl, trivial⟩⟩
    have KFb2 : ¬ b2 = true → V g mX12_hasRelation (d + 2) 0 0 n (RT tw dr sk tl ff) I L 35 [some (.ref 73), some (.int y1)] [] P := fun hc => by
      replace hf := (if_neg hc).symm.trans hf
      refine V_iinc (ls' := [some _, some _]) (pc := 35) dX12_hasRelation_35 rfl (Nat.le_of_ble_eq_true rfl) (congrArg _ ic_m1) rfl rfl ?_
      refine V_goto (pc := 38) (tgt := 7) dX12_hasRelation_38 (by decide) ?_
      exact V_wk (ih _ _ _ _ hf K) ⟨rfl, ⟨rfl, trivial⟩⟩
    refine V_if_lt (pc := 8) (tgt := 41) dX12_hasRelation_8 (by decide) rfl (fun hc => ?_) (fun hc => ?_)
    · replace hb2 := (if_pos hc).symm.trans hb2
      cases hb2
      exact KTb2 rfl
    · replace hb2 := (if_neg hc).symm.trans hb2
      refine V_aload_n (pc := 11) dX12_hasRelation_11 rfl rfl rfl ?_
      refine V_getR (pc := 12) dX12_hasRelation_12 flX12_33 rfl (by omega) (congrArg Prod.fst sh_73) rt_73_15 rfl ?_
      refine V_iload_n (pc := 15) dX12_hasRelation_15 rfl rfl rfl ?_
      obtain ⟨hc3, hb2⟩ := pif hb2
      refine V_iald (pc := 16) dX12_hasRelation_16 (by omega) sh_80 hc3 rfl ?_
      refine V_bipush (pc := 17) dX12_hasRelation_17 bp_20 rfl ?_
      refine V_icmp_eq (pc := 19) (tgt := 41) dX12_hasRelation_19 (by decide) rfl (fun hc => ?_) (fun hc => ?_)
      · replace hb2 := (if_pos hc).symm.trans hb2
        cases hb2
        exact KTb2 rfl
      · replace hb2 := (if_neg hc).symm.trans hb2
        refine V_aload_n (pc := 22) dX12_hasRelation_22 rfl rfl rfl ?_
        refine V_getR (pc := 23) dX12_hasRelation_23 flX12_33 rfl (by omega) (congrArg Prod.fst sh_73) rt_73_15 rfl ?_
        refine V_iload_n (pc := 26) dX12_hasRelation_26 rfl rfl rfl ?_
        obtain ⟨hc4, hb2⟩ := pif hb2
        refine V_iald (pc := 27) dX12_hasRelation_27 (by omega) sh_80 hc4 rfl ?_
        refine V_cSi (md' := mX12_tight) (pc := 28) dX12_hasRelation_28 mlX12_267 mSX12_tight (tX12_tight rfl) rfl rfl (Nat.le_of_ble_eq_true rfl) rfl ?_
        refine V_iconst (pc := 31) dX12_hasRelation_31 ic_4 rfl ?_
        refine V_icmp_le (pc := 32) (tgt := 41) dX12_hasRelation_32 (by decide) rfl (fun hc => ?_) (fun hc => ?_)
        · replace hb2 := (if_pos hc).symm.trans hb2
          cases hb2
          exact KTb2 rfl
        · replace hb2 := (if_neg hc).symm.trans hb2
          cases hb2
          exact KFb2 (nbt rfl)
noncomputable def fX12_hasRelation (I : HI) : Option (Bool) :=
  let x1 : Int32 := ((I 73 19) - (1 : Int32))
  Option.bind (fX12_hasRelation_7 FUEL x1 I) fun q5 =>
  Option.bind (
    if q5 < 0 then
      some true
    else
      if inb q5 160 = true then
        if (I 80 q5.toNatClampNeg) = (20 : Int32) then
          some true
        else
          if inb q5 160 = true then
            if (fX12_tight (I 80 q5.toNatClampNeg)) = (4 : Int32) then
              some false
            else
              some true
          else none
      else none
  ) fun b6 =>
  if b6 = true then
    some false
  else
    some true
set_option maxRecDepth 100000 in
set_option maxHeartbeats 4000000 in
theorem tX12_hasRelation {g : GG} {n d : Nat} {tw dr sk tl ff : Nat} (hG : RG tw dr sk tl ff) (hn : 116 ≤ n) {I : HI} {L : HL} {res : Bool} (hf : fX12_hasRelation I = some res) : CT g mX12_hasRelation (d + 2) 0 0 n (RT tw dr sk tl ff) I L [.ref 73] (PoB n (RT tw dr sk tl ff) res I L) := by
  refine CT.of rfl (Nat.le_of_ble_eq_true rfl) ?_
  show V g mX12_hasRelation (d + 2) 0 0 n (RT tw dr sk tl ff) I L 0 [some (.ref 73)] [] (PoB n (RT tw dr sk tl ff) res I L)
  refine V_aload_n (pc := 0) dX12_hasRelation_0 rfl rfl rfl ?_
  refine V_getI (pc := 1) dX12_hasRelation_1 flX12_264 rfl (by omega) (congrArg Prod.fst sh_73) rfl ?_
  refine V_iconst (pc := 4) dX12_hasRelation_4 ic_1 rfl ?_
  refine V_isub (pc := 5) dX12_hasRelation_5 rfl ?_
  let x1 : Int32 := ((I 73 19) - (1 : Int32))
  refine V_istore_n (ls' := [some _, some _]) (pc := 6) dX12_hasRelation_6 rfl (Nat.le_of_ble_eq_true rfl) rfl rfl ?_
  obtain ⟨q5, hq5, hf⟩ := bnd hf
  refine V_wk (lX12_hasRelation_7 hG hn FUEL _ _ _ _ hq5 ?_) ⟨rfl, ⟨rfl, trivial⟩⟩
  refine V_iload_n (pc := 41) dX12_hasRelation_41 rfl rfl rfl ?_
  obtain ⟨b6, hb6, hf⟩ := bnd hf
  have KTb6 : b6 = true → V g mX12_hasRelation (d + 2) 0 0 n (RT tw dr sk tl ff) I L 73 [some (.ref 73), some (.int q5)] [] (PoB n (RT tw dr sk tl ff) res I L) := fun hc => by
    replace hf := (if_pos hc).symm.trans hf
    refine V_iconst (pc := 73) dX12_hasRelation_73 ic_0 rfl ?_
    cases hf
    exact V_zretE (pc := 74) dX12_hasRelation_74 rfl (show (0 : Int32) = b2i false from rfl) PoB_mk
  have KFb6 : ¬ b6 = true → V g mX12_hasRelation (d + 2) 0 0 n (RT tw dr sk tl ff) I L 69 [some (.ref 73), some (.int q5)] [] (PoB n (RT tw dr sk tl ff) res I L) := fun hc => by
    replace hf := (if_neg hc).symm.trans hf
    refine V_iconst (pc := 69) dX12_hasRelation_69 ic_1 rfl ?_
    refine V_goto (pc := 70) (tgt := 74) dX12_hasRelation_70 (by decide) ?_
    cases hf
    exact V_zretE (pc := 74) dX12_hasRelation_74 rfl (show (1 : Int32) = b2i true from rfl) PoB_mk
  refine V_if_lt (pc := 42) (tgt := 73) dX12_hasRelation_42 (by decide) rfl (fun hc => ?_) (fun hc => ?_)
  · replace hb6 := (if_pos hc).symm.trans hb6
    cases hb6
    exact KTb6 rfl
  · replace hb6 := (if_neg hc).symm.trans hb6
    refine V_aload_n (pc := 45) dX12_hasRelation_45 rfl rfl rfl ?_
    refine V_getR (pc := 46) dX12_hasRelation_46 flX12_33 rfl (by omega) (congrArg Prod.fst sh_73) rt_73_15 rfl ?_
    refine V_iload_n (pc := 49) dX12_hasRelation_49 rfl rfl rfl ?_
    obtain ⟨hc7, hb6⟩ := pif hb6
    refine V_iald (pc := 50) dX12_hasRelation_50 (by omega) sh_80 hc7 rfl ?_
    refine V_bipush (pc := 51) dX12_hasRelation_51 bp_20 rfl ?_
    refine V_icmp_eq (pc := 53) (tgt := 73) dX12_hasRelation_53 (by decide) rfl (fun hc => ?_) (fun hc => ?_)
    · replace hb6 := (if_pos hc).symm.trans hb6
      cases hb6
      exact KTb6 rfl
    · replace hb6 := (if_neg hc).symm.trans hb6
      refine V_aload_n (pc := 56) dX12_hasRelation_56 rfl rfl rfl ?_
      refine V_getR (pc := 57) dX12_hasRelation_57 flX12_33 rfl (by omega) (congrArg Prod.fst sh_73) rt_73_15 rfl ?_
      refine V_iload_n (pc := 60) dX12_hasRelation_60 rfl rfl rfl ?_
      obtain ⟨hc8, hb6⟩ := pif hb6
      refine V_iald (pc := 61) dX12_hasRelation_61 (by omega) sh_80 hc8 rfl ?_
      refine V_cSi (md' := mX12_tight) (pc := 62) dX12_hasRelation_62 mlX12_267 mSX12_tight (tX12_tight rfl) rfl rfl (Nat.le_of_ble_eq_true rfl) rfl ?_
      refine V_iconst (pc := 65) dX12_hasRelation_65 ic_4 rfl ?_
      refine V_icmp_ne (pc := 66) (tgt := 73) dX12_hasRelation_66 (by decide) rfl (fun hc => ?_) (fun hc => ?_)
      · replace hb6 := (if_neg hc).symm.trans hb6
        cases hb6
        exact KTb6 rfl
      · replace hb6 := (if_pos hc).symm.trans hb6
        cases hb6
        exact KFb6 (nbt rfl)
/-! ShadowDoorsModel.mayNot -/
noncomputable def fX12_mayNot (I : HI) : Option (Bool) :=
  Option.bind (
    if (I 73 19) = 0 then
      some true
    else
      if inb ((I 73 19) - (1 : Int32)) 160 = true then
        if (I 80 ((I 73 19) - (1 : Int32)).toNatClampNeg) = (20 : Int32) then
          some true
        else
          if inb ((I 73 19) - (1 : Int32)) 160 = true then
            if (4 : Int32) ≤ (fX12_tight (I 80 ((I 73 19) - (1 : Int32)).toNatClampNeg)) then
              some false
            else
              some true
          else none
      else none
  ) fun b1 =>
  if b1 = true then
    some true
  else
    some false
set_option maxRecDepth 100000 in
set_option maxHeartbeats 4000000 in
theorem tX12_mayNot {g : GG} {n d : Nat} {tw dr sk tl ff : Nat} (hG : RG tw dr sk tl ff) (hn : 116 ≤ n) {I : HI} {L : HL} {res : Bool} (hf : fX12_mayNot I = some res) : CT g mX12_mayNot (d + 2) 0 0 n (RT tw dr sk tl ff) I L [.ref 73] (PoB n (RT tw dr sk tl ff) res I L) := by
  refine CT.of rfl (Nat.le_of_ble_eq_true rfl) ?_
  show V g mX12_mayNot (d + 2) 0 0 n (RT tw dr sk tl ff) I L 0 [some (.ref 73)] [] (PoB n (RT tw dr sk tl ff) res I L)
  refine V_aload_n (pc := 0) dX12_mayNot_0 rfl rfl rfl ?_
  refine V_getI (pc := 1) dX12_mayNot_1 flX12_264 rfl (by omega) (congrArg Prod.fst sh_73) rfl ?_
  obtain ⟨b1, hb1, hf⟩ := bnd hf
  have KTb1 : b1 = true → V g mX12_mayNot (d + 2) 0 0 n (RT tw dr sk tl ff) I L 41 [some (.ref 73)] [] (PoB n (RT tw dr sk tl ff) res I L) := fun hc => by
    replace hf := (if_pos hc).symm.trans hf
    refine V_iconst (pc := 41) dX12_mayNot_41 ic_1 rfl ?_
    refine V_goto (pc := 42) (tgt := 46) dX12_mayNot_42 (by decide) ?_
    cases hf
    exact V_zretE (pc := 46) dX12_mayNot_46 rfl (show (1 : Int32) = b2i true from rfl) PoB_mk
  have KFb1 : ¬ b1 = true → V g mX12_mayNot (d + 2) 0 0 n (RT tw dr sk tl ff) I L 45 [some (.ref 73)] [] (PoB n (RT tw dr sk tl ff) res I L) := fun hc => by
    replace hf := (if_neg hc).symm.trans hf
    refine V_iconst (pc := 45) dX12_mayNot_45 ic_0 rfl ?_
    cases hf
    exact V_zretE (pc := 46) dX12_mayNot_46 rfl (show (0 : Int32) = b2i false from rfl) PoB_mk
  refine V_if_eq (pc := 4) (tgt := 41) dX12_mayNot_4 (by decide) rfl (fun hc => ?_) (fun hc => ?_)
  · replace hb1 := (if_pos hc).symm.trans hb1
    cases hb1
    exact KTb1 rfl
  · replace hb1 := (if_neg hc).symm.trans hb1
    refine V_aload_n (pc := 7) dX12_mayNot_7 rfl rfl rfl ?_
    refine V_getR (pc := 8) dX12_mayNot_8 flX12_33 rfl (by omega) (congrArg Prod.fst sh_73) rt_73_15 rfl ?_
    refine V_aload_n (pc := 11) dX12_mayNot_11 rfl rfl rfl ?_
    refine V_getI (pc := 12) dX12_mayNot_12 flX12_264 rfl (by omega) (congrArg Prod.fst sh_73) rfl ?_
    refine V_iconst (pc := 15) dX12_mayNot_15 ic_1 rfl ?_
    refine V_isub (pc := 16) dX12_mayNot_16 rfl ?_
    obtain ⟨hc2, hb1⟩ := pif hb1
    refine V_iald (pc := 17) dX12_mayNot_17 (by omega) sh_80 hc2 rfl ?_
    refine V_bipush (pc := 18) dX12_mayNot_18 bp_20 rfl ?_
    refine V_icmp_eq (pc := 20) (tgt := 41) dX12_mayNot_20 (by decide) rfl (fun hc => ?_) (fun hc => ?_)
    · replace hb1 := (if_pos hc).symm.trans hb1
      cases hb1
      exact KTb1 rfl
    · replace hb1 := (if_neg hc).symm.trans hb1
      refine V_aload_n (pc := 23) dX12_mayNot_23 rfl rfl rfl ?_
      refine V_getR (pc := 24) dX12_mayNot_24 flX12_33 rfl (by omega) (congrArg Prod.fst sh_73) rt_73_15 rfl ?_
      refine V_aload_n (pc := 27) dX12_mayNot_27 rfl rfl rfl ?_
      refine V_getI (pc := 28) dX12_mayNot_28 flX12_264 rfl (by omega) (congrArg Prod.fst sh_73) rfl ?_
      refine V_iconst (pc := 31) dX12_mayNot_31 ic_1 rfl ?_
      refine V_isub (pc := 32) dX12_mayNot_32 rfl ?_
      obtain ⟨hc3, hb1⟩ := pif hb1
      refine V_iald (pc := 33) dX12_mayNot_33 (by omega) sh_80 hc3 rfl ?_
      refine V_cSi (md' := mX12_tight) (pc := 34) dX12_mayNot_34 mlX12_267 mSX12_tight (tX12_tight rfl) rfl rfl (Nat.le_of_ble_eq_true rfl) rfl ?_
      refine V_iconst (pc := 37) dX12_mayNot_37 ic_4 rfl ?_
      refine V_icmp_ge (pc := 38) (tgt := 45) dX12_mayNot_38 (by decide) rfl (fun hc => ?_) (fun hc => ?_)
      · replace hb1 := (if_pos hc).symm.trans hb1
        cases hb1
        exact KFb1 (nbt rfl)
      · replace hb1 := (if_neg hc).symm.trans hb1
        cases hb1
        exact KTb1 rfl
/-! ShadowDoorsModel.asked -/
noncomputable def fX12_asked (I : HI) (L : HL) : Int32 :=
  if (I 73 6) = (1 : Int32) then
    if (L 73 9) = (114784769370228 : Int64) then
      (0 : Int32)
    else
      if (L 73 9) = (1752135026 : Int64) then
        (1 : Int32)
      else
        if (L 73 9) = (1684108389 : Int64) then
          (2 : Int32)
        else
          (-1 : Int32)
  else
    (-1 : Int32)
set_option maxRecDepth 100000 in
set_option maxHeartbeats 4000000 in
theorem tX12_asked {g : GG} {n d : Nat} {tw dr sk tl ff : Nat} (hG : RG tw dr sk tl ff) (hn : 116 ≤ n) {I : HI} {L : HL} {res : Int32} (hf : fX12_asked I L = res) : CT g mX12_asked (d + 1) 0 0 n (RT tw dr sk tl ff) I L [.ref 73] (PoI n (RT tw dr sk tl ff) res I L) := by
  refine CT.of rfl (Nat.le_of_ble_eq_true rfl) ?_
  show V g mX12_asked (d + 1) 0 0 n (RT tw dr sk tl ff) I L 0 [some (.ref 73)] [] (PoI n (RT tw dr sk tl ff) res I L)
  refine V_aload_n (pc := 0) dX12_asked_0 rfl rfl rfl ?_
  refine V_getI (pc := 1) dX12_asked_1 flX12_175 rfl (by omega) (congrArg Prod.fst sh_73) rfl ?_
  refine V_iconst (pc := 4) dX12_asked_4 ic_1 rfl ?_
  refine V_icmp_eq (pc := 5) (tgt := 10) dX12_asked_5 (by decide) rfl (fun hc => ?_) (fun hc => ?_)
  · replace hf := (if_pos hc).symm.trans hf
    refine V_aload_n (pc := 10) dX12_asked_10 rfl rfl rfl ?_
    refine V_getL (pc := 11) dX12_asked_11 flX12_168 rfl (by omega) (congrArg Prod.fst sh_73) rfl ?_
    refine V_ldc2 (pc := 14) dX12_asked_14 klX12_221 rfl ?_
    refine V_lc_ne (pc := 17) (tgt := 23) dX12_asked_17 rfl dX12_asked_18 (by decide) rfl (fun hc => ?_) (fun hc => ?_)
    · replace hf := (if_neg hc).symm.trans hf
      refine V_aload_n (pc := 23) dX12_asked_23 rfl rfl rfl ?_
      refine V_getL (pc := 24) dX12_asked_24 flX12_168 rfl (by omega) (congrArg Prod.fst sh_73) rfl ?_
      refine V_ldc2 (pc := 27) dX12_asked_27 klX12_223 rfl ?_
      refine V_lc_ne (pc := 30) (tgt := 36) dX12_asked_30 rfl dX12_asked_31 (by decide) rfl (fun hc => ?_) (fun hc => ?_)
      · replace hf := (if_neg hc).symm.trans hf
        refine V_aload_n (pc := 36) dX12_asked_36 rfl rfl rfl ?_
        refine V_getL (pc := 37) dX12_asked_37 flX12_168 rfl (by omega) (congrArg Prod.fst sh_73) rfl ?_
        refine V_ldc2 (pc := 40) dX12_asked_40 klX12_225 rfl ?_
        refine V_lc_ne (pc := 43) (tgt := 51) dX12_asked_43 rfl dX12_asked_44 (by decide) rfl (fun hc => ?_) (fun hc => ?_)
        · replace hf := (if_neg hc).symm.trans hf
          refine V_iconst (pc := 51) dX12_asked_51 ic_m1 rfl ?_
          cases hf
          exact V_iret (pc := 52) dX12_asked_52 rfl PoI_mk
        · replace hf := (if_pos hc).symm.trans hf
          refine V_iconst (pc := 47) dX12_asked_47 ic_2 rfl ?_
          refine V_goto (pc := 48) (tgt := 52) dX12_asked_48 (by decide) ?_
          cases hf
          exact V_iret (pc := 52) dX12_asked_52 rfl PoI_mk
      · replace hf := (if_pos hc).symm.trans hf
        refine V_iconst (pc := 34) dX12_asked_34 ic_1 rfl ?_
        cases hf
        exact V_iret (pc := 35) dX12_asked_35 rfl PoI_mk
    · replace hf := (if_pos hc).symm.trans hf
      refine V_iconst (pc := 21) dX12_asked_21 ic_0 rfl ?_
      cases hf
      exact V_iret (pc := 22) dX12_asked_22 rfl PoI_mk
  · replace hf := (if_neg hc).symm.trans hf
    refine V_iconst (pc := 8) dX12_asked_8 ic_m1 rfl ?_
    cases hf
    exact V_iret (pc := 9) dX12_asked_9 rfl PoI_mk
/-! ShadowDoorsModel.isFull -/
noncomputable def fX12_isFull (I : HI) : Bool :=
  tbn (
    if (I 73 20) = (60 : Int32) then
      true
    else
      if (I 73 22) = (30 : Int32) then
        true
      else
        false
  ) fun b1 =>
  if b1 = true then
    true
  else
    false
set_option maxRecDepth 100000 in
set_option maxHeartbeats 4000000 in
theorem tX12_isFull {g : GG} {n d : Nat} {tw dr sk tl ff : Nat} (hG : RG tw dr sk tl ff) (hn : 116 ≤ n) {I : HI} {L : HL} {res : Bool} (hf : fX12_isFull I = res) : CT g mX12_isFull (d + 1) 0 0 n (RT tw dr sk tl ff) I L [.ref 73] (PoB n (RT tw dr sk tl ff) res I L) := by
  refine CT.of rfl (Nat.le_of_ble_eq_true rfl) ?_
  show V g mX12_isFull (d + 1) 0 0 n (RT tw dr sk tl ff) I L 0 [some (.ref 73)] [] (PoB n (RT tw dr sk tl ff) res I L)
  refine V_aload_n (pc := 0) dX12_isFull_0 rfl rfl rfl ?_
  refine V_getI (pc := 1) dX12_isFull_1 flX12_276 rfl (by omega) (congrArg Prod.fst sh_73) rfl ?_
  refine V_bipush (pc := 4) dX12_isFull_4 bp_60 rfl ?_
  obtain ⟨b1, hb1, hf⟩ := tbd hf
  have KTb1 : b1 = true → V g mX12_isFull (d + 1) 0 0 n (RT tw dr sk tl ff) I L 18 [some (.ref 73)] [] (PoB n (RT tw dr sk tl ff) res I L) := fun hc => by
    replace hf := (if_pos hc).symm.trans hf
    refine V_iconst (pc := 18) dX12_isFull_18 ic_1 rfl ?_
    refine V_goto (pc := 19) (tgt := 23) dX12_isFull_19 (by decide) ?_
    cases hf
    exact V_zretE (pc := 23) dX12_isFull_23 rfl (show (1 : Int32) = b2i true from rfl) PoB_mk
  have KFb1 : ¬ b1 = true → V g mX12_isFull (d + 1) 0 0 n (RT tw dr sk tl ff) I L 22 [some (.ref 73)] [] (PoB n (RT tw dr sk tl ff) res I L) := fun hc => by
    replace hf := (if_neg hc).symm.trans hf
    refine V_iconst (pc := 22) dX12_isFull_22 ic_0 rfl ?_
    cases hf
    exact V_zretE (pc := 23) dX12_isFull_23 rfl (show (0 : Int32) = b2i false from rfl) PoB_mk
  refine V_icmp_eq (pc := 6) (tgt := 18) dX12_isFull_6 (by decide) rfl (fun hc => ?_) (fun hc => ?_)
  · replace hb1 := (if_pos hc).symm.trans hb1
    cases hb1
    exact KTb1 rfl
  · replace hb1 := (if_neg hc).symm.trans hb1
    refine V_aload_n (pc := 9) dX12_isFull_9 rfl rfl rfl ?_
    refine V_getI (pc := 10) dX12_isFull_10 flX12_279 rfl (by omega) (congrArg Prod.fst sh_73) rfl ?_
    refine V_bipush (pc := 13) dX12_isFull_13 bp_30 rfl ?_
    refine V_icmp_ne (pc := 15) (tgt := 22) dX12_isFull_15 (by decide) rfl (fun hc => ?_) (fun hc => ?_)
    · replace hb1 := (if_neg hc).symm.trans hb1
      cases hb1
      exact KFb1 (nbt rfl)
    · replace hb1 := (if_pos hc).symm.trans hb1
      cases hb1
      exact KTb1 rfl
/-! ShadowDoorsModel.countUnit -/
noncomputable def fX12_countUnit (I : HI) : HI :=
  let I1 : HI := up2 I 73 20 ((I 73 20) + (1 : Int32))
  let I2 : HI := up2 I1 73 22 ((I1 73 22) + (1 : Int32))
  I2
set_option maxRecDepth 100000 in
set_option maxHeartbeats 4000000 in
theorem tX12_countUnit {g : GG} {n d : Nat} {tw dr sk tl ff : Nat} (hG : RG tw dr sk tl ff) (hn : 116 ≤ n) {I : HI} {L : HL} {res : HI} (hf : fX12_countUnit I = res) : CT g mX12_countUnit (d + 1) 0 0 n (RT tw dr sk tl ff) I L [.ref 73] (PoV n (RT tw dr sk tl ff) res L) := by
  refine CT.of rfl (Nat.le_of_ble_eq_true rfl) ?_
  show V g mX12_countUnit (d + 1) 0 0 n (RT tw dr sk tl ff) I L 0 [some (.ref 73)] [] (PoV n (RT tw dr sk tl ff) res L)
  refine V_aload_n (pc := 0) dX12_countUnit_0 rfl rfl rfl ?_
  refine V_dup (pc := 1) dX12_countUnit_1 rfl rfl ?_
  refine V_getI (pc := 2) dX12_countUnit_2 flX12_276 rfl (by omega) (congrArg Prod.fst sh_73) rfl ?_
  refine V_iconst (pc := 5) dX12_countUnit_5 ic_1 rfl ?_
  refine V_iadd (pc := 6) dX12_countUnit_6 rfl ?_
  let I1 : HI := up2 I 73 20 ((I 73 20) + (1 : Int32))
  refine V_putI (pc := 7) dX12_countUnit_7 flX12_276 rfl rfl (by omega) (congrArg Prod.fst sh_73) rfl ?_
  refine V_aload_n (pc := 10) dX12_countUnit_10 rfl rfl rfl ?_
  refine V_dup (pc := 11) dX12_countUnit_11 rfl rfl ?_
  refine V_getI (pc := 12) dX12_countUnit_12 flX12_279 rfl (by omega) (congrArg Prod.fst sh_73) rfl ?_
  refine V_iconst (pc := 15) dX12_countUnit_15 ic_1 rfl ?_
  refine V_iadd (pc := 16) dX12_countUnit_16 rfl ?_
  let I2 : HI := up2 I1 73 22 ((I1 73 22) + (1 : Int32))
  refine V_putI (pc := 17) dX12_countUnit_17 flX12_279 rfl rfl (by omega) (congrArg Prod.fst sh_73) rfl ?_
  cases hf
  exact V_vret (pc := 20) dX12_countUnit_20 rfl PoV_mk
/-! ShadowDoorsModel.openUp -/
noncomputable def fX12_openUp (v1 : Int32) (I : HI) (L : HL) : Option (HI × HL) :=
  if inb (I 73 19) 160 = true then
    let I2 : HI := up2 I 80 (I 73 19).toNatClampNeg v1
    let I3 : HI := up2 I2 73 19 ((I2 73 19) + (1 : Int32))
    let I4 : HI := up2 I3 73 23 ((I3 73 23) + (1 : Int32))
    if (I4 73 2) = 0 then
      Option.bind (fX12_token  I4 L) fun q5 =>
      some (q5.1, q5.2)
    else
      some (I4, L)
  else none
set_option maxRecDepth 100000 in
set_option maxHeartbeats 4000000 in
theorem tX12_openUp {g : GG} {n d : Nat} {tw dr sk tl ff : Nat} (hG : RG tw dr sk tl ff) (hn : 116 ≤ n) {v1 : Int32} {I : HI} {L : HL} {res : HI × HL} (hf : fX12_openUp v1 I L = some res) : CT g mX12_openUp (d + 3) 0 0 n (RT tw dr sk tl ff) I L [.ref 73, .int v1] (PoV n (RT tw dr sk tl ff) res.1 res.2) := by
  refine CT.of rfl (Nat.le_of_ble_eq_true rfl) ?_
  show V g mX12_openUp (d + 3) 0 0 n (RT tw dr sk tl ff) I L 0 [some (.ref 73), some (.int v1)] [] (PoV n (RT tw dr sk tl ff) res.1 res.2)
  refine V_aload_n (pc := 0) dX12_openUp_0 rfl rfl rfl ?_
  refine V_getR (pc := 1) dX12_openUp_1 flX12_33 rfl (by omega) (congrArg Prod.fst sh_73) rt_73_15 rfl ?_
  refine V_aload_n (pc := 4) dX12_openUp_4 rfl rfl rfl ?_
  refine V_getI (pc := 5) dX12_openUp_5 flX12_264 rfl (by omega) (congrArg Prod.fst sh_73) rfl ?_
  refine V_iload_n (pc := 8) dX12_openUp_8 rfl rfl rfl ?_
  obtain ⟨hc1, hf⟩ := pif hf
  let I2 : HI := up2 I 80 (I 73 19).toNatClampNeg v1
  refine V_iast (pc := 9) dX12_openUp_9 (by omega) sh_80 hc1 rfl ?_
  refine V_aload_n (pc := 10) dX12_openUp_10 rfl rfl rfl ?_
  refine V_dup (pc := 11) dX12_openUp_11 rfl rfl ?_
  refine V_getI (pc := 12) dX12_openUp_12 flX12_264 rfl (by omega) (congrArg Prod.fst sh_73) rfl ?_
  refine V_iconst (pc := 15) dX12_openUp_15 ic_1 rfl ?_
  refine V_iadd (pc := 16) dX12_openUp_16 rfl ?_
  let I3 : HI := up2 I2 73 19 ((I2 73 19) + (1 : Int32))
  refine V_putI (pc := 17) dX12_openUp_17 flX12_264 rfl rfl (by omega) (congrArg Prod.fst sh_73) rfl ?_
  refine V_aload_n (pc := 20) dX12_openUp_20 rfl rfl rfl ?_
  refine V_dup (pc := 21) dX12_openUp_21 rfl rfl ?_
  refine V_getI (pc := 22) dX12_openUp_22 flX12_273 rfl (by omega) (congrArg Prod.fst sh_73) rfl ?_
  refine V_iconst (pc := 25) dX12_openUp_25 ic_1 rfl ?_
  refine V_iadd (pc := 26) dX12_openUp_26 rfl ?_
  let I4 : HI := up2 I3 73 23 ((I3 73 23) + (1 : Int32))
  refine V_putI (pc := 27) dX12_openUp_27 flX12_273 rfl rfl (by omega) (congrArg Prod.fst sh_73) rfl ?_
  refine V_aload_n (pc := 30) dX12_openUp_30 rfl rfl rfl ?_
  refine V_getI (pc := 31) dX12_openUp_31 flX12_188 rfl (by omega) (congrArg Prod.fst sh_73) rfl ?_
  refine V_if_ne (pc := 34) (tgt := 41) dX12_openUp_34 (by decide) rfl (fun hc => ?_) (fun hc => ?_)
  · replace hf := (if_neg hc).symm.trans hf
    cases hf
    exact V_vret (pc := 41) dX12_openUp_41 rfl PoV_mk
  · replace hf := (if_pos hc).symm.trans hf
    refine V_aload_n (pc := 37) dX12_openUp_37 rfl rfl rfl ?_
    obtain ⟨q5, hq5, hf⟩ := bnd hf
    refine V_cVv (md' := mX12_token) (pc := 38) dX12_openUp_38 mlX12_244 mVX12_token (tX12_token hG hn hq5) rfl (by omega) (congrArg Prod.fst sh_73) rfl (Nat.le_of_ble_eq_true rfl) rfl ?_
    cases hf
    exact V_vret (pc := 41) dX12_openUp_41 rfl PoV_mk
/-! ShadowDoorsModel.unit -/
noncomputable def fX12_unit_2 : Nat → Int32 → HI → HL → Option (HI × HL)
  | 0, _, _, _ => none
  | fu + 1, y1, I, L =>
    Option.bind (
      if y1 = 0 then
        some true
      else
        if (I 73 2) = 0 then
          some false
        else
          some true
    ) fun b1 =>
    if b1 = true then
      some (I, L)
    else
      Option.bind (
        if (b2i (fX12_isWord (7237492 : Int64) I L)) = 0 then
          some true
        else
          Option.bind (fX12_mayNot  I) fun q3 =>
          if (b2i q3) = 0 then
            some true
          else
            some false
      ) fun b2 =>
      if b2 = true then
        if (I 73 6) = (40 : Int32) then
          Option.bind (
            Option.bind (
              if (b2i (fX12_isFull  I)) = 0 then
                if (I 73 23) ≤ (6 : Int32) then
                  some false
                else
                  some true
              else
                some true
            ) fun b7 =>
            if b7 = true then
              obn (fX12_wrong (2 : Int32) I) fun q8 =>
              some q8
            else
              some I
          ) fun q6 =>
          obn (fX12_countUnit  q6) fun q9 =>
          Option.bind (fX12_openUp (20 : Int32) q9 L) fun q10 =>
          fX12_unit_2 fu y1 q10.1 q10.2
        else
          fX12_unit_2 fu (0 : Int32) I L
      else
        Option.bind (
          if (I 73 23) ≤ (6 : Int32) then
            some I
          else
            obn (fX12_wrong (2 : Int32) I) fun q13 =>
            some q13
        ) fun q12 =>
        Option.bind (fX12_openUp (21 : Int32) q12 L) fun q14 =>
        fX12_unit_2 fu y1 q14.1 q14.2
set_option maxRecDepth 100000 in
set_option maxHeartbeats 4000000 in
theorem lX12_unit_2 {g : GG} {n d : Nat} {tw dr sk tl ff : Nat} (hG : RG tw dr sk tl ff) (hn : 116 ≤ n) {P : PP} : ∀ (fu : Nat) (y1 : Int32) (I : HI) (L : HL) (res : HI × HL), fX12_unit_2 fu y1 I L = some res → V g mX12_unit (d + 4) 0 0 n (RT tw dr sk tl ff) res.1 res.2 101 [some (.ref 73)] [] P → V g mX12_unit (d + 4) 0 0 n (RT tw dr sk tl ff) I L 2 [some (.ref 73), some (.int y1)] [] P := by
  intro fu
  induction fu with
  | zero => intro y1 I L res hf; cases (show none = some res from hf)
  | succ fu ih =>
    intro y1 I L res hf K
    refine V_iload_n (pc := 2) dX12_unit_2 rfl rfl rfl ?_
    obtain ⟨b1, hb1, hf⟩ := bnd hf
    have KTb1 : b1 = true → V g mX12_unit (d + 4) 0 0 n (RT tw dr sk tl ff) I L 101 [some (.ref 73), some (.int y1)] [] P := fun hc => by
      replace hf := (if_pos hc).symm.trans hf
      cases hf
      exact V_wk K ⟨rfl, trivial⟩
    have KFb1 : ¬ b1 = true → V g mX12_unit (d + 4) 0 0 n (RT tw dr sk tl ff) I L 13 [some (.ref 73), some (.int y1)] [] P := fun hc => by
      replace hf := (if_neg hc).symm.trans hf
      refine V_aload_n (pc := 13) dX12_unit_13 rfl rfl rfl ?_
      refine V_ldc2 (pc := 14) dX12_unit_14 klX12_231 rfl ?_
      refine V_cVz (md' := mX12_isWord) (pc := 17) dX12_unit_17 mlX12_237 mVX12_isWord (tX12_isWord hG hn rfl) rfl (by omega) (congrArg Prod.fst sh_73) rfl (Nat.le_of_ble_eq_true rfl) rfl ?_
      obtain ⟨b2, hb2, hf⟩ := bnd hf
      have KTb2 : b2 = true → V g mX12_unit (d + 4) 0 0 n (RT tw dr sk tl ff) I L 53 [some (.ref 73), some (.int y1)] [] P := fun hc => by
        replace hf := (if_pos hc).symm.trans hf
        refine V_aload_n (pc := 53) dX12_unit_53 rfl rfl rfl ?_
        refine V_getI (pc := 54) dX12_unit_54 flX12_175 rfl (by omega) (congrArg Prod.fst sh_73) rfl ?_
        refine V_bipush (pc := 57) dX12_unit_57 bp_40 rfl ?_
        refine V_icmp_ne (pc := 59) (tgt := 96) dX12_unit_59 (by decide) rfl (fun hc => ?_) (fun hc => ?_)
        · replace hf := (if_neg hc).symm.trans hf
          refine V_iconst (pc := 96) dX12_unit_96 ic_0 rfl ?_
          refine V_istore_n (ls' := [some _, some _]) (pc := 97) dX12_unit_97 rfl (Nat.le_of_ble_eq_true rfl) rfl rfl ?_
          refine V_goto (pc := 98) (tgt := 2) dX12_unit_98 (by decide) ?_
          exact V_wk (ih _ _ _ _ hf K) ⟨rfl, ⟨rfl, trivial⟩⟩
        · replace hf := (if_pos hc).symm.trans hf
          refine V_aload_n (pc := 62) dX12_unit_62 rfl rfl rfl ?_
          refine V_cVz (md' := mX12_isFull) (pc := 63) dX12_unit_63 mlX12_288 mVX12_isFull (tX12_isFull hG hn rfl) rfl (by omega) (congrArg Prod.fst sh_73) rfl (Nat.le_of_ble_eq_true rfl) rfl ?_
          obtain ⟨q6, hq6, hf⟩ := bnd hf
          have Kq6 : V g mX12_unit (d + 4) 0 0 n (RT tw dr sk tl ff) q6 L 83 [some (.ref 73), some (.int y1)] [] P := by
            refine V_aload_n (pc := 83) dX12_unit_83 rfl rfl rfl ?_
            obtain ⟨q9, hq9, hf⟩ := obd hf
            refine V_cVv (md' := mX12_countUnit) (pc := 84) dX12_unit_84 mlX12_291 mVX12_countUnit (tX12_countUnit hG hn hq9) rfl (by omega) (congrArg Prod.fst sh_73) rfl (Nat.le_of_ble_eq_true rfl) rfl ?_
            refine V_aload_n (pc := 87) dX12_unit_87 rfl rfl rfl ?_
            refine V_bipush (pc := 88) dX12_unit_88 bp_20 rfl ?_
            obtain ⟨q10, hq10, hf⟩ := bnd hf
            refine V_cVv (md' := mX12_openUp) (pc := 90) dX12_unit_90 mlX12_285 mVX12_openUp (tX12_openUp hG hn hq10) rfl (by omega) (congrArg Prod.fst sh_73) rfl (Nat.le_of_ble_eq_true rfl) rfl ?_
            refine V_goto (pc := 93) (tgt := 2) dX12_unit_93 (by decide) ?_
            exact V_wk (ih _ _ _ _ hf K) ⟨rfl, ⟨rfl, trivial⟩⟩
          obtain ⟨b7, hb7, hq6⟩ := bnd hq6
          have KTb7 : b7 = true → V g mX12_unit (d + 4) 0 0 n (RT tw dr sk tl ff) I L 78 [some (.ref 73), some (.int y1)] [] P := fun hc => by
            replace hq6 := (if_pos hc).symm.trans hq6
            refine V_aload_n (pc := 78) dX12_unit_78 rfl rfl rfl ?_
            refine V_iconst (pc := 79) dX12_unit_79 ic_2 rfl ?_
            obtain ⟨q8, hq8, hq6⟩ := obd hq6
            refine V_cVv (md' := mX12_wrong) (pc := 80) dX12_unit_80 mlX12_241 mVX12_wrong (tX12_wrong hG hn hq8) rfl (by omega) (congrArg Prod.fst sh_73) rfl (Nat.le_of_ble_eq_true rfl) rfl ?_
            cases hq6
            exact V_wk Kq6 ⟨rfl, ⟨rfl, trivial⟩⟩
          have KFb7 : ¬ b7 = true → V g mX12_unit (d + 4) 0 0 n (RT tw dr sk tl ff) I L 83 [some (.ref 73), some (.int y1)] [] P := fun hc => by
            replace hq6 := (if_neg hc).symm.trans hq6
            cases hq6
            exact V_wk Kq6 ⟨rfl, ⟨rfl, trivial⟩⟩
          refine V_if_ne (pc := 66) (tgt := 78) dX12_unit_66 (by decide) rfl (fun hc => ?_) (fun hc => ?_)
          · replace hb7 := (if_neg hc).symm.trans hb7
            cases hb7
            exact KTb7 rfl
          · replace hb7 := (if_pos hc).symm.trans hb7
            refine V_aload_n (pc := 69) dX12_unit_69 rfl rfl rfl ?_
            refine V_getI (pc := 70) dX12_unit_70 flX12_273 rfl (by omega) (congrArg Prod.fst sh_73) rfl ?_
            refine V_bipush (pc := 73) dX12_unit_73 bp_6 rfl ?_
            refine V_icmp_le (pc := 75) (tgt := 83) dX12_unit_75 (by decide) rfl (fun hc => ?_) (fun hc => ?_)
            · replace hb7 := (if_pos hc).symm.trans hb7
              cases hb7
              exact KFb7 (nbt rfl)
            · replace hb7 := (if_neg hc).symm.trans hb7
              cases hb7
              exact KTb7 rfl
      have KFb2 : ¬ b2 = true → V g mX12_unit (d + 4) 0 0 n (RT tw dr sk tl ff) I L 30 [some (.ref 73), some (.int y1)] [] P := fun hc => by
        replace hf := (if_neg hc).symm.trans hf
        refine V_aload_n (pc := 30) dX12_unit_30 rfl rfl rfl ?_
        refine V_getI (pc := 31) dX12_unit_31 flX12_273 rfl (by omega) (congrArg Prod.fst sh_73) rfl ?_
        refine V_bipush (pc := 34) dX12_unit_34 bp_6 rfl ?_
        obtain ⟨q12, hq12, hf⟩ := bnd hf
        have Kq12 : V g mX12_unit (d + 4) 0 0 n (RT tw dr sk tl ff) q12 L 44 [some (.ref 73), some (.int y1)] [] P := by
          refine V_aload_n (pc := 44) dX12_unit_44 rfl rfl rfl ?_
          refine V_bipush (pc := 45) dX12_unit_45 bp_21 rfl ?_
          obtain ⟨q14, hq14, hf⟩ := bnd hf
          refine V_cVv (md' := mX12_openUp) (pc := 47) dX12_unit_47 mlX12_285 mVX12_openUp (tX12_openUp hG hn hq14) rfl (by omega) (congrArg Prod.fst sh_73) rfl (Nat.le_of_ble_eq_true rfl) rfl ?_
          refine V_goto (pc := 50) (tgt := 2) dX12_unit_50 (by decide) ?_
          exact V_wk (ih _ _ _ _ hf K) ⟨rfl, ⟨rfl, trivial⟩⟩
        refine V_icmp_le (pc := 36) (tgt := 44) dX12_unit_36 (by decide) rfl (fun hc => ?_) (fun hc => ?_)
        · replace hq12 := (if_pos hc).symm.trans hq12
          cases hq12
          exact V_wk Kq12 ⟨rfl, ⟨rfl, trivial⟩⟩
        · replace hq12 := (if_neg hc).symm.trans hq12
          refine V_aload_n (pc := 39) dX12_unit_39 rfl rfl rfl ?_
          refine V_iconst (pc := 40) dX12_unit_40 ic_2 rfl ?_
          obtain ⟨q13, hq13, hq12⟩ := obd hq12
          refine V_cVv (md' := mX12_wrong) (pc := 41) dX12_unit_41 mlX12_241 mVX12_wrong (tX12_wrong hG hn hq13) rfl (by omega) (congrArg Prod.fst sh_73) rfl (Nat.le_of_ble_eq_true rfl) rfl ?_
          cases hq12
          exact V_wk Kq12 ⟨rfl, ⟨rfl, trivial⟩⟩
      refine V_if_eq (pc := 20) (tgt := 53) dX12_unit_20 (by decide) rfl (fun hc => ?_) (fun hc => ?_)
      · replace hb2 := (if_pos hc).symm.trans hb2
        cases hb2
        exact KTb2 rfl
      · replace hb2 := (if_neg hc).symm.trans hb2
        refine V_aload_n (pc := 23) dX12_unit_23 rfl rfl rfl ?_
        obtain ⟨q3, hq3, hb2⟩ := bnd hb2
        refine V_cVz (md' := mX12_mayNot) (pc := 24) dX12_unit_24 mlX12_282 mVX12_mayNot (tX12_mayNot hG hn hq3) rfl (by omega) (congrArg Prod.fst sh_73) rfl (Nat.le_of_ble_eq_true rfl) rfl ?_
        refine V_if_eq (pc := 27) (tgt := 53) dX12_unit_27 (by decide) rfl (fun hc => ?_) (fun hc => ?_)
        · replace hb2 := (if_pos hc).symm.trans hb2
          cases hb2
          exact KTb2 rfl
        · replace hb2 := (if_neg hc).symm.trans hb2
          cases hb2
          exact KFb2 (nbt rfl)
    refine V_if_eq (pc := 3) (tgt := 101) dX12_unit_3 (by decide) rfl (fun hc => ?_) (fun hc => ?_)
    · replace hb1 := (if_pos hc).symm.trans hb1
      cases hb1
      exact KTb1 rfl
    · replace hb1 := (if_neg hc).symm.trans hb1
      refine V_aload_n (pc := 6) dX12_unit_6 rfl rfl rfl ?_
      refine V_getI (pc := 7) dX12_unit_7 flX12_188 rfl (by omega) (congrArg Prod.fst sh_73) rfl ?_
      refine V_if_ne (pc := 10) (tgt := 101) dX12_unit_10 (by decide) rfl (fun hc => ?_) (fun hc => ?_)
      · replace hb1 := (if_neg hc).symm.trans hb1
        cases hb1
        exact KTb1 rfl
      · replace hb1 := (if_pos hc).symm.trans hb1
        cases hb1
        exact KFb1 (nbt rfl)
noncomputable def fX12_unit (I : HI) (L : HL) : Option (HI × HL) :=
  Option.bind (fX12_unit_2 FUEL (1 : Int32) I L) fun q15 =>
  if (q15.1 73 2) ≤ 0 then
    let x16 : Int32 := (fX12_asked  q15.1 q15.2)
    Option.bind (
      Option.bind (
        if (q15.1 73 6) = (2 : Int32) then
          some true
        else
          if x16 < 0 then
            some false
          else
            some true
      ) fun b21 =>
      if b21 = true then
        if (b2i (fX12_isFull  q15.1)) = 0 then
          some q15.1
        else
          obn (fX12_wrong (2 : Int32) q15.1) fun q22 =>
          some q22
      else
        obn (fX12_wrong (2 : Int32) q15.1) fun q23 =>
        some q23
    ) fun q20 =>
    if (q20 73 2) ≤ 0 then
      obn (fX12_countUnit  q20) fun q24 =>
      Option.bind (
        if 0 ≤ x16 then
          some true
        else
          some false
      ) fun q25 =>
      Option.bind (
        if 0 ≤ x16 then
          some x16
        else
          some (q24 73 8)
      ) fun q26 =>
      Option.bind (fX12_add (b2i q25) q26 q24) fun q27 =>
      Option.bind (fX12_token  q27 q15.2) fun q28 =>
      some (q28.1, q28.2)
    else
      some (q20, q15.2)
  else
    some (q15.1, q15.2)
set_option maxRecDepth 100000 in
set_option maxHeartbeats 4000000 in
theorem tX12_unit {g : GG} {n d : Nat} {tw dr sk tl ff : Nat} (hG : RG tw dr sk tl ff) (hn : 116 ≤ n) {I : HI} {L : HL} {res : HI × HL} (hf : fX12_unit I L = some res) : CT g mX12_unit (d + 4) 0 0 n (RT tw dr sk tl ff) I L [.ref 73] (PoV n (RT tw dr sk tl ff) res.1 res.2) := by
  refine CT.of rfl (Nat.le_of_ble_eq_true rfl) ?_
  show V g mX12_unit (d + 4) 0 0 n (RT tw dr sk tl ff) I L 0 [some (.ref 73)] [] (PoV n (RT tw dr sk tl ff) res.1 res.2)
  refine V_iconst (pc := 0) dX12_unit_0 ic_1 rfl ?_
  refine V_istore_n (ls' := [some _, some _]) (pc := 1) dX12_unit_1 rfl (Nat.le_of_ble_eq_true rfl) rfl rfl ?_
  obtain ⟨q15, hq15, hf⟩ := bnd hf
  refine V_wk (lX12_unit_2 hG hn FUEL _ _ _ _ hq15 ?_) ⟨rfl, ⟨rfl, trivial⟩⟩
  refine V_aload_n (pc := 101) dX12_unit_101 rfl rfl rfl ?_
  refine V_getI (pc := 102) dX12_unit_102 flX12_188 rfl (by omega) (congrArg Prod.fst sh_73) rfl ?_
  refine V_if_le (pc := 105) (tgt := 109) dX12_unit_105 (by decide) rfl (fun hc => ?_) (fun hc => ?_)
  · replace hf := (if_pos hc).symm.trans hf
    refine V_aload_n (pc := 109) dX12_unit_109 rfl rfl rfl ?_
    refine V_cVi (md' := mX12_asked) (pc := 110) dX12_unit_110 mlX12_294 mVX12_asked (tX12_asked hG hn rfl) rfl (by omega) (congrArg Prod.fst sh_73) rfl (Nat.le_of_ble_eq_true rfl) rfl ?_
    let x16 : Int32 := (fX12_asked  q15.1 q15.2)
    refine V_istore_n (ls' := [some _, none, some _]) (pc := 113) dX12_unit_113 rfl (Nat.le_of_ble_eq_true rfl) rfl rfl ?_
    refine V_aload_n (pc := 114) dX12_unit_114 rfl rfl rfl ?_
    refine V_getI (pc := 115) dX12_unit_115 flX12_175 rfl (by omega) (congrArg Prod.fst sh_73) rfl ?_
    refine V_iconst (pc := 118) dX12_unit_118 ic_2 rfl ?_
    obtain ⟨q20, hq20, hf⟩ := bnd hf
    have Kq20 : V g mX12_unit (d + 4) 0 0 n (RT tw dr sk tl ff) q20 q15.2 138 [some (.ref 73), none, some (.int x16)] [] (PoV n (RT tw dr sk tl ff) res.1 res.2) := by
      refine V_aload_n (pc := 138) dX12_unit_138 rfl rfl rfl ?_
      refine V_getI (pc := 139) dX12_unit_139 flX12_188 rfl (by omega) (congrArg Prod.fst sh_73) rfl ?_
      refine V_if_le (pc := 142) (tgt := 146) dX12_unit_142 (by decide) rfl (fun hc => ?_) (fun hc => ?_)
      · replace hf := (if_pos hc).symm.trans hf
        refine V_aload_n (pc := 146) dX12_unit_146 rfl rfl rfl ?_
        obtain ⟨q24, hq24, hf⟩ := obd hf
        refine V_cVv (md' := mX12_countUnit) (pc := 147) dX12_unit_147 mlX12_291 mVX12_countUnit (tX12_countUnit hG hn hq24) rfl (by omega) (congrArg Prod.fst sh_73) rfl (Nat.le_of_ble_eq_true rfl) rfl ?_
        refine V_aload_n (pc := 150) dX12_unit_150 rfl rfl rfl ?_
        refine V_iload_n (pc := 151) dX12_unit_151 rfl rfl rfl ?_
        obtain ⟨q25, hq25, hf⟩ := bnd hf
        have Kq25 : V g mX12_unit (d + 4) 0 0 n (RT tw dr sk tl ff) q24 q15.2 160 [some (.ref 73), none, some (.int x16)] [.int (b2i q25), .ref 73] (PoV n (RT tw dr sk tl ff) res.1 res.2) := by
          refine V_iload_n (pc := 160) dX12_unit_160 rfl rfl rfl ?_
          obtain ⟨q26, hq26, hf⟩ := bnd hf
          have Kq26 : V g mX12_unit (d + 4) 0 0 n (RT tw dr sk tl ff) q24 q15.2 172 [some (.ref 73)] [.int q26, .int (b2i q25), .ref 73] (PoV n (RT tw dr sk tl ff) res.1 res.2) := by
            obtain ⟨q27, hq27, hf⟩ := bnd hf
            refine V_cVv (md' := mX12_add) (pc := 172) dX12_unit_172 mlX12_270 mVX12_add (tX12_add hG hn hq27) rfl (by omega) (congrArg Prod.fst sh_73) rfl (Nat.le_of_ble_eq_true rfl) rfl ?_
            refine V_aload_n (pc := 175) dX12_unit_175 rfl rfl rfl ?_
            obtain ⟨q28, hq28, hf⟩ := bnd hf
            refine V_cVv (md' := mX12_token) (pc := 176) dX12_unit_176 mlX12_244 mVX12_token (tX12_token hG hn hq28) rfl (by omega) (congrArg Prod.fst sh_73) rfl (Nat.le_of_ble_eq_true rfl) rfl ?_
            cases hf
            exact V_vret (pc := 179) dX12_unit_179 rfl PoV_mk
          refine V_if_ge (pc := 161) (tgt := 171) dX12_unit_161 (by decide) rfl (fun hc => ?_) (fun hc => ?_)
          · replace hq26 := (if_pos hc).symm.trans hq26
            refine V_iload_n (pc := 171) dX12_unit_171 rfl rfl rfl ?_
            cases hq26
            exact V_wk Kq26 ⟨rfl, trivial⟩
          · replace hq26 := (if_neg hc).symm.trans hq26
            refine V_aload_n (pc := 164) dX12_unit_164 rfl rfl rfl ?_
            refine V_getI (pc := 165) dX12_unit_165 flX12_172 rfl (by omega) (congrArg Prod.fst sh_73) rfl ?_
            refine V_goto (pc := 168) (tgt := 172) dX12_unit_168 (by decide) ?_
            cases hq26
            exact V_wk Kq26 ⟨rfl, trivial⟩
        refine V_if_ge (pc := 152) (tgt := 159) dX12_unit_152 (by decide) rfl (fun hc => ?_) (fun hc => ?_)
        · replace hq25 := (if_pos hc).symm.trans hq25
          refine V_iconst (pc := 159) dX12_unit_159 ic_1 rfl ?_
          cases hq25
          exact V_wk Kq25 ⟨rfl, ⟨rfl, trivial⟩⟩
        · replace hq25 := (if_neg hc).symm.trans hq25
          refine V_iconst (pc := 155) dX12_unit_155 ic_0 rfl ?_
          refine V_goto (pc := 156) (tgt := 160) dX12_unit_156 (by decide) ?_
          cases hq25
          exact V_wk Kq25 ⟨rfl, ⟨rfl, trivial⟩⟩
      · replace hf := (if_neg hc).symm.trans hf
        cases hf
        exact V_vret (pc := 145) dX12_unit_145 rfl PoV_mk
    obtain ⟨b21, hb21, hq20⟩ := bnd hq20
    have KTb21 : b21 = true → V g mX12_unit (d + 4) 0 0 n (RT tw dr sk tl ff) q15.1 q15.2 126 [some (.ref 73), none, some (.int x16)] [] (PoV n (RT tw dr sk tl ff) res.1 res.2) := fun hc => by
      replace hq20 := (if_pos hc).symm.trans hq20
      refine V_aload_n (pc := 126) dX12_unit_126 rfl rfl rfl ?_
      refine V_cVz (md' := mX12_isFull) (pc := 127) dX12_unit_127 mlX12_288 mVX12_isFull (tX12_isFull hG hn rfl) rfl (by omega) (congrArg Prod.fst sh_73) rfl (Nat.le_of_ble_eq_true rfl) rfl ?_
      refine V_if_eq (pc := 130) (tgt := 138) dX12_unit_130 (by decide) rfl (fun hc => ?_) (fun hc => ?_)
      · replace hq20 := (if_pos hc).symm.trans hq20
        cases hq20
        exact V_wk Kq20 ⟨rfl, ⟨rfl, trivial⟩⟩
      · replace hq20 := (if_neg hc).symm.trans hq20
        refine V_aload_n (pc := 133) dX12_unit_133 rfl rfl rfl ?_
        refine V_iconst (pc := 134) dX12_unit_134 ic_2 rfl ?_
        obtain ⟨q22, hq22, hq20⟩ := obd hq20
        refine V_cVv (md' := mX12_wrong) (pc := 135) dX12_unit_135 mlX12_241 mVX12_wrong (tX12_wrong hG hn hq22) rfl (by omega) (congrArg Prod.fst sh_73) rfl (Nat.le_of_ble_eq_true rfl) rfl ?_
        cases hq20
        exact V_wk Kq20 ⟨rfl, ⟨rfl, trivial⟩⟩
    have KFb21 : ¬ b21 = true → V g mX12_unit (d + 4) 0 0 n (RT tw dr sk tl ff) q15.1 q15.2 133 [some (.ref 73), none, some (.int x16)] [] (PoV n (RT tw dr sk tl ff) res.1 res.2) := fun hc => by
      replace hq20 := (if_neg hc).symm.trans hq20
      refine V_aload_n (pc := 133) dX12_unit_133 rfl rfl rfl ?_
      refine V_iconst (pc := 134) dX12_unit_134 ic_2 rfl ?_
      obtain ⟨q23, hq23, hq20⟩ := obd hq20
      refine V_cVv (md' := mX12_wrong) (pc := 135) dX12_unit_135 mlX12_241 mVX12_wrong (tX12_wrong hG hn hq23) rfl (by omega) (congrArg Prod.fst sh_73) rfl (Nat.le_of_ble_eq_true rfl) rfl ?_
      cases hq20
      exact V_wk Kq20 ⟨rfl, ⟨rfl, trivial⟩⟩
    refine V_icmp_eq (pc := 119) (tgt := 126) dX12_unit_119 (by decide) rfl (fun hc => ?_) (fun hc => ?_)
    · replace hb21 := (if_pos hc).symm.trans hb21
      cases hb21
      exact KTb21 rfl
    · replace hb21 := (if_neg hc).symm.trans hb21
      refine V_iload_n (pc := 122) dX12_unit_122 rfl rfl rfl ?_
      refine V_if_lt (pc := 123) (tgt := 133) dX12_unit_123 (by decide) rfl (fun hc => ?_) (fun hc => ?_)
      · replace hb21 := (if_pos hc).symm.trans hb21
        cases hb21
        exact KFb21 (nbt rfl)
      · replace hb21 := (if_neg hc).symm.trans hb21
        cases hb21
        exact KTb21 rfl
  · replace hf := (if_neg hc).symm.trans hf
    cases hf
    exact V_vret (pc := 108) dX12_unit_108 rfl PoV_mk
