/-! ShadowDoorsModel.hour -/
noncomputable def fX12_hour (I : HI) : Option (Int32 × HI) :=
  if inb (8 : Int32) 10 = true then
    if (I 99 (8 : Int32).toNatClampNeg) = (2000 : Int32) then
      some ((-1 : Int32), I)
    else
      Option.bind (fX12_act  I) fun q2 =>
      if inb (8 : Int32) 10 = true then
        if inb (8 : Int32) 10 = true then
          let I5 : HI := up2 q2 99 (8 : Int32).toNatClampNeg ((q2 99 (8 : Int32).toNatClampNeg) + (1 : Int32))
          if inb (4 : Int32) 10 = true then
            let I7 : HI := up2 I5 99 (4 : Int32).toNatClampNeg (0 : Int32)
            if inb (8 : Int32) 10 = true then
              some ((I7 99 (8 : Int32).toNatClampNeg), I7)
            else none
          else none
        else none
      else none
  else none
set_option maxRecDepth 100000 in
set_option maxHeartbeats 4000000 in
theorem tX12_hour {g : GG} {n d : Nat} {tw dr sk tl ff : Nat} (hG : RG tw dr sk tl ff) (hn : 116 ≤ n) {I : HI} {L : HL} {res : Int32 × HI} (hf : fX12_hour I = some res) : CT g mX12_hour (d + 2) 0 0 n (RT tw dr sk tl ff) I L [.ref 73] (PoI n (RT tw dr sk tl ff) res.1 res.2 L) := by
  refine CT.of rfl (Nat.le_of_ble_eq_true rfl) ?_
  show V g mX12_hour (d + 2) 0 0 n (RT tw dr sk tl ff) I L 0 [some (.ref 73)] [] (PoI n (RT tw dr sk tl ff) res.1 res.2 L)
  refine V_aload_n (pc := 0) dX12_hour_0 rfl rfl rfl ?_
  refine V_getR (pc := 1) dX12_hour_1 flX12_96 rfl (by omega) (congrArg Prod.fst sh_73) rt_73_63 rfl ?_
  refine V_bipush (pc := 4) dX12_hour_4 bp_8 rfl ?_
  obtain ⟨hc1, hf⟩ := pif hf
  refine V_iald (pc := 6) dX12_hour_6 (by omega) sh_99 hc1 rfl ?_
  refine V_sipush (pc := 7) dX12_hour_7 sp_2000 rfl ?_
  refine V_icmp_ne (pc := 10) (tgt := 15) dX12_hour_10 (by decide) rfl (fun hc => ?_) (fun hc => ?_)
  · replace hf := (if_neg hc).symm.trans hf
    refine V_aload_n (pc := 15) dX12_hour_15 rfl rfl rfl ?_
    obtain ⟨q2, hq2, hf⟩ := bnd hf
    refine V_cVv (md' := mX12_act) (pc := 16) dX12_hour_16 mlX12_521 mVX12_act (tX12_act hG hn hq2) rfl (by omega) (congrArg Prod.fst sh_73) rfl (Nat.le_of_ble_eq_true rfl) rfl ?_
    refine V_aload_n (pc := 19) dX12_hour_19 rfl rfl rfl ?_
    refine V_getR (pc := 20) dX12_hour_20 flX12_96 rfl (by omega) (congrArg Prod.fst sh_73) rt_73_63 rfl ?_
    refine V_bipush (pc := 23) dX12_hour_23 bp_8 rfl ?_
    refine V_dup2_11 (pc := 25) dX12_hour_25 rfl rfl rfl ?_
    obtain ⟨hc3, hf⟩ := pif hf
    refine V_iald (pc := 26) dX12_hour_26 (by omega) sh_99 hc3 rfl ?_
    refine V_iconst (pc := 27) dX12_hour_27 ic_1 rfl ?_
    refine V_iadd (pc := 28) dX12_hour_28 rfl ?_
    obtain ⟨hc4, hf⟩ := pif hf
    let I5 : HI := up2 q2 99 (8 : Int32).toNatClampNeg ((q2 99 (8 : Int32).toNatClampNeg) + (1 : Int32))
    refine V_iast (pc := 29) dX12_hour_29 (by omega) sh_99 hc4 rfl ?_
    refine V_aload_n (pc := 30) dX12_hour_30 rfl rfl rfl ?_
    refine V_getR (pc := 31) dX12_hour_31 flX12_96 rfl (by omega) (congrArg Prod.fst sh_73) rt_73_63 rfl ?_
    refine V_iconst (pc := 34) dX12_hour_34 ic_4 rfl ?_
    refine V_iconst (pc := 35) dX12_hour_35 ic_0 rfl ?_
    obtain ⟨hc6, hf⟩ := pif hf
    let I7 : HI := up2 I5 99 (4 : Int32).toNatClampNeg (0 : Int32)
    refine V_iast (pc := 36) dX12_hour_36 (by omega) sh_99 hc6 rfl ?_
    refine V_aload_n (pc := 37) dX12_hour_37 rfl rfl rfl ?_
    refine V_getR (pc := 38) dX12_hour_38 flX12_96 rfl (by omega) (congrArg Prod.fst sh_73) rt_73_63 rfl ?_
    refine V_bipush (pc := 41) dX12_hour_41 bp_8 rfl ?_
    obtain ⟨hc8, hf⟩ := pif hf
    refine V_iald (pc := 43) dX12_hour_43 (by omega) sh_99 hc8 rfl ?_
    cases hf
    exact V_iret (pc := 44) dX12_hour_44 rfl PoI_mk
  · replace hf := (if_pos hc).symm.trans hf
    refine V_iconst (pc := 13) dX12_hour_13 ic_m1 rfl ?_
    cases hf
    exact V_iret (pc := 14) dX12_hour_14 rfl PoI_mk
/-! ShadowDoorsModel.shut -/
noncomputable def fX12_shut (v1 : Int32) (I : HI) : Option (Int32 × HI) :=
  if (b2i (fX12_isDoor v1 I)) = 0 then
    some ((-1 : Int32), I)
  else
    Option.bind (fX12_act  I) fun q1 =>
    if inb (5 : Int32) 10 = true then
      if inb (5 : Int32) 10 = true then
        let I4 : HI := up2 q1 99 (5 : Int32).toNatClampNeg ((q1 99 (5 : Int32).toNatClampNeg) ^^^ ((1 : Int32) <<< (v1 &&& 31)))
        if inb (5 : Int32) 10 = true then
          some ((((I4 99 (5 : Int32).toNatClampNeg) >>> (v1 &&& 31)) &&& (1 : Int32)), I4)
        else none
      else none
    else none
set_option maxRecDepth 100000 in
set_option maxHeartbeats 4000000 in
theorem tX12_shut {g : GG} {n d : Nat} {tw dr sk tl ff : Nat} (hG : RG tw dr sk tl ff) (hn : 116 ≤ n) {v1 : Int32} {I : HI} {L : HL} {res : Int32 × HI} (hf : fX12_shut v1 I = some res) : CT g mX12_shut (d + 3) 0 0 n (RT tw dr sk tl ff) I L [.ref 73, .int v1] (PoI n (RT tw dr sk tl ff) res.1 res.2 L) := by
  refine CT.of rfl (Nat.le_of_ble_eq_true rfl) ?_
  show V g mX12_shut (d + 3) 0 0 n (RT tw dr sk tl ff) I L 0 [some (.ref 73), some (.int v1)] [] (PoI n (RT tw dr sk tl ff) res.1 res.2 L)
  refine V_aload_n (pc := 0) dX12_shut_0 rfl rfl rfl ?_
  refine V_iload_n (pc := 1) dX12_shut_1 rfl rfl rfl ?_
  refine V_cVz (md' := mX12_isDoor) (pc := 2) dX12_shut_2 mlX12_502 mVX12_isDoor (tX12_isDoor hG hn rfl) rfl (by omega) (congrArg Prod.fst sh_73) rfl (Nat.le_of_ble_eq_true rfl) rfl ?_
  refine V_if_ne (pc := 5) (tgt := 10) dX12_shut_5 (by decide) rfl (fun hc => ?_) (fun hc => ?_)
  · replace hf := (if_neg hc).symm.trans hf
    refine V_aload_n (pc := 10) dX12_shut_10 rfl rfl rfl ?_
    obtain ⟨q1, hq1, hf⟩ := bnd hf
    refine V_cVv (md' := mX12_act) (pc := 11) dX12_shut_11 mlX12_521 mVX12_act (tX12_act hG hn hq1) rfl (by omega) (congrArg Prod.fst sh_73) rfl (Nat.le_of_ble_eq_true rfl) rfl ?_
    refine V_aload_n (pc := 14) dX12_shut_14 rfl rfl rfl ?_
    refine V_getR (pc := 15) dX12_shut_15 flX12_96 rfl (by omega) (congrArg Prod.fst sh_73) rt_73_63 rfl ?_
    refine V_iconst (pc := 18) dX12_shut_18 ic_5 rfl ?_
    refine V_dup2_11 (pc := 19) dX12_shut_19 rfl rfl rfl ?_
    obtain ⟨hc2, hf⟩ := pif hf
    refine V_iald (pc := 20) dX12_shut_20 (by omega) sh_99 hc2 rfl ?_
    refine V_iconst (pc := 21) dX12_shut_21 ic_1 rfl ?_
    refine V_iload_n (pc := 22) dX12_shut_22 rfl rfl rfl ?_
    refine V_ishl (pc := 23) dX12_shut_23 rfl ?_
    refine V_ixor (pc := 24) dX12_shut_24 rfl ?_
    obtain ⟨hc3, hf⟩ := pif hf
    let I4 : HI := up2 q1 99 (5 : Int32).toNatClampNeg ((q1 99 (5 : Int32).toNatClampNeg) ^^^ ((1 : Int32) <<< (v1 &&& 31)))
    refine V_iast (pc := 25) dX12_shut_25 (by omega) sh_99 hc3 rfl ?_
    refine V_aload_n (pc := 26) dX12_shut_26 rfl rfl rfl ?_
    refine V_getR (pc := 27) dX12_shut_27 flX12_96 rfl (by omega) (congrArg Prod.fst sh_73) rt_73_63 rfl ?_
    refine V_iconst (pc := 30) dX12_shut_30 ic_5 rfl ?_
    obtain ⟨hc5, hf⟩ := pif hf
    refine V_iald (pc := 31) dX12_shut_31 (by omega) sh_99 hc5 rfl ?_
    refine V_iload_n (pc := 32) dX12_shut_32 rfl rfl rfl ?_
    refine V_ishr (pc := 33) dX12_shut_33 rfl ?_
    refine V_iconst (pc := 34) dX12_shut_34 ic_1 rfl ?_
    refine V_iand (pc := 35) dX12_shut_35 rfl ?_
    cases hf
    exact V_iret (pc := 36) dX12_shut_36 rfl PoI_mk
  · replace hf := (if_pos hc).symm.trans hf
    refine V_iconst (pc := 8) dX12_shut_8 ic_m1 rfl ?_
    cases hf
    exact V_iret (pc := 9) dX12_shut_9 rfl PoI_mk
/-! ShadowDoorsModel.out -/
noncomputable def fX12_out (v1 : Int32) (I : HI) : Option (Int32 × HI) :=
  if (b2i (fX12_isLamp v1 I)) = 0 then
    some ((-1 : Int32), I)
  else
    Option.bind (fX12_act  I) fun q1 =>
    if inb (6 : Int32) 10 = true then
      if inb (6 : Int32) 10 = true then
        let I4 : HI := up2 q1 99 (6 : Int32).toNatClampNeg ((q1 99 (6 : Int32).toNatClampNeg) ^^^ ((1 : Int32) <<< (v1 &&& 31)))
        if inb (6 : Int32) 10 = true then
          some ((((I4 99 (6 : Int32).toNatClampNeg) >>> (v1 &&& 31)) &&& (1 : Int32)), I4)
        else none
      else none
    else none
set_option maxRecDepth 100000 in
set_option maxHeartbeats 4000000 in
theorem tX12_out {g : GG} {n d : Nat} {tw dr sk tl ff : Nat} (hG : RG tw dr sk tl ff) (hn : 116 ≤ n) {v1 : Int32} {I : HI} {L : HL} {res : Int32 × HI} (hf : fX12_out v1 I = some res) : CT g mX12_out (d + 3) 0 0 n (RT tw dr sk tl ff) I L [.ref 73, .int v1] (PoI n (RT tw dr sk tl ff) res.1 res.2 L) := by
  refine CT.of rfl (Nat.le_of_ble_eq_true rfl) ?_
  show V g mX12_out (d + 3) 0 0 n (RT tw dr sk tl ff) I L 0 [some (.ref 73), some (.int v1)] [] (PoI n (RT tw dr sk tl ff) res.1 res.2 L)
  refine V_aload_n (pc := 0) dX12_out_0 rfl rfl rfl ?_
  refine V_iload_n (pc := 1) dX12_out_1 rfl rfl rfl ?_
  refine V_cVz (md' := mX12_isLamp) (pc := 2) dX12_out_2 mlX12_508 mVX12_isLamp (tX12_isLamp hG hn rfl) rfl (by omega) (congrArg Prod.fst sh_73) rfl (Nat.le_of_ble_eq_true rfl) rfl ?_
  refine V_if_ne (pc := 5) (tgt := 10) dX12_out_5 (by decide) rfl (fun hc => ?_) (fun hc => ?_)
  · replace hf := (if_neg hc).symm.trans hf
    refine V_aload_n (pc := 10) dX12_out_10 rfl rfl rfl ?_
    obtain ⟨q1, hq1, hf⟩ := bnd hf
    refine V_cVv (md' := mX12_act) (pc := 11) dX12_out_11 mlX12_521 mVX12_act (tX12_act hG hn hq1) rfl (by omega) (congrArg Prod.fst sh_73) rfl (Nat.le_of_ble_eq_true rfl) rfl ?_
    refine V_aload_n (pc := 14) dX12_out_14 rfl rfl rfl ?_
    refine V_getR (pc := 15) dX12_out_15 flX12_96 rfl (by omega) (congrArg Prod.fst sh_73) rt_73_63 rfl ?_
    refine V_bipush (pc := 18) dX12_out_18 bp_6 rfl ?_
    refine V_dup2_11 (pc := 20) dX12_out_20 rfl rfl rfl ?_
    obtain ⟨hc2, hf⟩ := pif hf
    refine V_iald (pc := 21) dX12_out_21 (by omega) sh_99 hc2 rfl ?_
    refine V_iconst (pc := 22) dX12_out_22 ic_1 rfl ?_
    refine V_iload_n (pc := 23) dX12_out_23 rfl rfl rfl ?_
    refine V_ishl (pc := 24) dX12_out_24 rfl ?_
    refine V_ixor (pc := 25) dX12_out_25 rfl ?_
    obtain ⟨hc3, hf⟩ := pif hf
    let I4 : HI := up2 q1 99 (6 : Int32).toNatClampNeg ((q1 99 (6 : Int32).toNatClampNeg) ^^^ ((1 : Int32) <<< (v1 &&& 31)))
    refine V_iast (pc := 26) dX12_out_26 (by omega) sh_99 hc3 rfl ?_
    refine V_aload_n (pc := 27) dX12_out_27 rfl rfl rfl ?_
    refine V_getR (pc := 28) dX12_out_28 flX12_96 rfl (by omega) (congrArg Prod.fst sh_73) rt_73_63 rfl ?_
    refine V_bipush (pc := 31) dX12_out_31 bp_6 rfl ?_
    obtain ⟨hc5, hf⟩ := pif hf
    refine V_iald (pc := 33) dX12_out_33 (by omega) sh_99 hc5 rfl ?_
    refine V_iload_n (pc := 34) dX12_out_34 rfl rfl rfl ?_
    refine V_ishr (pc := 35) dX12_out_35 rfl ?_
    refine V_iconst (pc := 36) dX12_out_36 ic_1 rfl ?_
    refine V_iand (pc := 37) dX12_out_37 rfl ?_
    cases hf
    exact V_iret (pc := 38) dX12_out_38 rfl PoI_mk
  · replace hf := (if_pos hc).symm.trans hf
    refine V_iconst (pc := 8) dX12_out_8 ic_m1 rfl ?_
    cases hf
    exact V_iret (pc := 9) dX12_out_9 rfl PoI_mk
/-! ShadowDoorsModel.eclipse -/
noncomputable def fX12_eclipse (I : HI) : Option (Bool × HI) :=
  Option.bind (fX12_act  I) fun q1 =>
  if inb (7 : Int32) 10 = true then
    if inb (7 : Int32) 10 = true then
      let I4 : HI := up2 q1 99 (7 : Int32).toNatClampNeg ((1 : Int32) - (q1 99 (7 : Int32).toNatClampNeg))
      if inb (7 : Int32) 10 = true then
        if (I4 99 (7 : Int32).toNatClampNeg) = (1 : Int32) then
          some (true, I4)
        else
          some (false, I4)
      else none
    else none
  else none
set_option maxRecDepth 100000 in
set_option maxHeartbeats 4000000 in
theorem tX12_eclipse {g : GG} {n d : Nat} {tw dr sk tl ff : Nat} (hG : RG tw dr sk tl ff) (hn : 116 ≤ n) {I : HI} {L : HL} {res : Bool × HI} (hf : fX12_eclipse I = some res) : CT g mX12_eclipse (d + 2) 0 0 n (RT tw dr sk tl ff) I L [.ref 73] (PoB n (RT tw dr sk tl ff) res.1 res.2 L) := by
  refine CT.of rfl (Nat.le_of_ble_eq_true rfl) ?_
  show V g mX12_eclipse (d + 2) 0 0 n (RT tw dr sk tl ff) I L 0 [some (.ref 73)] [] (PoB n (RT tw dr sk tl ff) res.1 res.2 L)
  refine V_aload_n (pc := 0) dX12_eclipse_0 rfl rfl rfl ?_
  obtain ⟨q1, hq1, hf⟩ := bnd hf
  refine V_cVv (md' := mX12_act) (pc := 1) dX12_eclipse_1 mlX12_521 mVX12_act (tX12_act hG hn hq1) rfl (by omega) (congrArg Prod.fst sh_73) rfl (Nat.le_of_ble_eq_true rfl) rfl ?_
  refine V_aload_n (pc := 4) dX12_eclipse_4 rfl rfl rfl ?_
  refine V_getR (pc := 5) dX12_eclipse_5 flX12_96 rfl (by omega) (congrArg Prod.fst sh_73) rt_73_63 rfl ?_
  refine V_bipush (pc := 8) dX12_eclipse_8 bp_7 rfl ?_
  refine V_iconst (pc := 10) dX12_eclipse_10 ic_1 rfl ?_
  refine V_aload_n (pc := 11) dX12_eclipse_11 rfl rfl rfl ?_
  refine V_getR (pc := 12) dX12_eclipse_12 flX12_96 rfl (by omega) (congrArg Prod.fst sh_73) rt_73_63 rfl ?_
  refine V_bipush (pc := 15) dX12_eclipse_15 bp_7 rfl ?_
  obtain ⟨hc2, hf⟩ := pif hf
  refine V_iald (pc := 17) dX12_eclipse_17 (by omega) sh_99 hc2 rfl ?_
  refine V_isub (pc := 18) dX12_eclipse_18 rfl ?_
  obtain ⟨hc3, hf⟩ := pif hf
  let I4 : HI := up2 q1 99 (7 : Int32).toNatClampNeg ((1 : Int32) - (q1 99 (7 : Int32).toNatClampNeg))
  refine V_iast (pc := 19) dX12_eclipse_19 (by omega) sh_99 hc3 rfl ?_
  refine V_aload_n (pc := 20) dX12_eclipse_20 rfl rfl rfl ?_
  refine V_getR (pc := 21) dX12_eclipse_21 flX12_96 rfl (by omega) (congrArg Prod.fst sh_73) rt_73_63 rfl ?_
  refine V_bipush (pc := 24) dX12_eclipse_24 bp_7 rfl ?_
  obtain ⟨hc5, hf⟩ := pif hf
  refine V_iald (pc := 26) dX12_eclipse_26 (by omega) sh_99 hc5 rfl ?_
  refine V_iconst (pc := 27) dX12_eclipse_27 ic_1 rfl ?_
  refine V_icmp_ne (pc := 28) (tgt := 35) dX12_eclipse_28 (by decide) rfl (fun hc => ?_) (fun hc => ?_)
  · replace hf := (if_neg hc).symm.trans hf
    refine V_iconst (pc := 35) dX12_eclipse_35 ic_0 rfl ?_
    cases hf
    exact V_zretE (pc := 36) dX12_eclipse_36 rfl (show (0 : Int32) = b2i false from rfl) PoB_mk
  · replace hf := (if_pos hc).symm.trans hf
    refine V_iconst (pc := 31) dX12_eclipse_31 ic_1 rfl ?_
    refine V_goto (pc := 32) (tgt := 36) dX12_eclipse_32 (by decide) ?_
    cases hf
    exact V_zretE (pc := 36) dX12_eclipse_36 rfl (show (1 : Int32) = b2i true from rfl) PoB_mk
/-! ShadowDoorsModel.undo -/
noncomputable def fX12_undo (I : HI) : Option (Bool × HI) :=
  if (I 73 73) = 0 then
    some (false, I)
  else
    let I1 : HI := up2 I 73 73 ((I 73 73) - (1 : Int32))
    let I2 : HI := up2 I1 73 74 ((I1 73 74) + (1 : Int32))
    Option.bind (fX12_exchange ((10 : Int32) * (I2 73 73)) I2) fun q3 =>
    some (true, q3)
set_option maxRecDepth 100000 in
set_option maxHeartbeats 4000000 in
theorem tX12_undo {g : GG} {n d : Nat} {tw dr sk tl ff : Nat} (hG : RG tw dr sk tl ff) (hn : 116 ≤ n) {I : HI} {L : HL} {res : Bool × HI} (hf : fX12_undo I = some res) : CT g mX12_undo (d + 2) 0 0 n (RT tw dr sk tl ff) I L [.ref 73] (PoB n (RT tw dr sk tl ff) res.1 res.2 L) := by
  refine CT.of rfl (Nat.le_of_ble_eq_true rfl) ?_
  show V g mX12_undo (d + 2) 0 0 n (RT tw dr sk tl ff) I L 0 [some (.ref 73)] [] (PoB n (RT tw dr sk tl ff) res.1 res.2 L)
  refine V_aload_n (pc := 0) dX12_undo_0 rfl rfl rfl ?_
  refine V_getI (pc := 1) dX12_undo_1 flX12_424 rfl (by omega) (congrArg Prod.fst sh_73) rfl ?_
  refine V_if_ne (pc := 4) (tgt := 9) dX12_undo_4 (by decide) rfl (fun hc => ?_) (fun hc => ?_)
  · replace hf := (if_neg hc).symm.trans hf
    refine V_aload_n (pc := 9) dX12_undo_9 rfl rfl rfl ?_
    refine V_dup (pc := 10) dX12_undo_10 rfl rfl ?_
    refine V_getI (pc := 11) dX12_undo_11 flX12_424 rfl (by omega) (congrArg Prod.fst sh_73) rfl ?_
    refine V_iconst (pc := 14) dX12_undo_14 ic_1 rfl ?_
    refine V_isub (pc := 15) dX12_undo_15 rfl ?_
    let I1 : HI := up2 I 73 73 ((I 73 73) - (1 : Int32))
    refine V_putI (pc := 16) dX12_undo_16 flX12_424 rfl rfl (by omega) (congrArg Prod.fst sh_73) rfl ?_
    refine V_aload_n (pc := 19) dX12_undo_19 rfl rfl rfl ?_
    refine V_dup (pc := 20) dX12_undo_20 rfl rfl ?_
    refine V_getI (pc := 21) dX12_undo_21 flX12_427 rfl (by omega) (congrArg Prod.fst sh_73) rfl ?_
    refine V_iconst (pc := 24) dX12_undo_24 ic_1 rfl ?_
    refine V_iadd (pc := 25) dX12_undo_25 rfl ?_
    let I2 : HI := up2 I1 73 74 ((I1 73 74) + (1 : Int32))
    refine V_putI (pc := 26) dX12_undo_26 flX12_427 rfl rfl (by omega) (congrArg Prod.fst sh_73) rfl ?_
    refine V_aload_n (pc := 29) dX12_undo_29 rfl rfl rfl ?_
    refine V_bipush (pc := 30) dX12_undo_30 bp_10 rfl ?_
    refine V_aload_n (pc := 32) dX12_undo_32 rfl rfl rfl ?_
    refine V_getI (pc := 33) dX12_undo_33 flX12_424 rfl (by omega) (congrArg Prod.fst sh_73) rfl ?_
    refine V_imul (pc := 36) dX12_undo_36 rfl ?_
    obtain ⟨q3, hq3, hf⟩ := bnd hf
    refine V_cVv (md' := mX12_exchange) (pc := 37) dX12_undo_37 mlX12_524 mVX12_exchange (tX12_exchange hG hn hq3) rfl (by omega) (congrArg Prod.fst sh_73) rfl (Nat.le_of_ble_eq_true rfl) rfl ?_
    refine V_iconst (pc := 40) dX12_undo_40 ic_1 rfl ?_
    cases hf
    exact V_zretE (pc := 41) dX12_undo_41 rfl (show (1 : Int32) = b2i true from rfl) PoB_mk
  · replace hf := (if_pos hc).symm.trans hf
    refine V_iconst (pc := 7) dX12_undo_7 ic_0 rfl ?_
    cases hf
    exact V_zretE (pc := 8) dX12_undo_8 rfl (show (0 : Int32) = b2i false from rfl) PoB_mk
/-! ShadowDoorsModel.redo -/
noncomputable def fX12_redo (I : HI) : Option (Bool × HI) :=
  if (I 73 74) = 0 then
    some (false, I)
  else
    Option.bind (fX12_exchange ((10 : Int32) * (I 73 73)) I) fun q1 =>
    let I2 : HI := up2 q1 73 73 ((q1 73 73) + (1 : Int32))
    let I3 : HI := up2 I2 73 74 ((I2 73 74) - (1 : Int32))
    some (true, I3)
set_option maxRecDepth 100000 in
set_option maxHeartbeats 4000000 in
theorem tX12_redo {g : GG} {n d : Nat} {tw dr sk tl ff : Nat} (hG : RG tw dr sk tl ff) (hn : 116 ≤ n) {I : HI} {L : HL} {res : Bool × HI} (hf : fX12_redo I = some res) : CT g mX12_redo (d + 2) 0 0 n (RT tw dr sk tl ff) I L [.ref 73] (PoB n (RT tw dr sk tl ff) res.1 res.2 L) := by
  refine CT.of rfl (Nat.le_of_ble_eq_true rfl) ?_
  show V g mX12_redo (d + 2) 0 0 n (RT tw dr sk tl ff) I L 0 [some (.ref 73)] [] (PoB n (RT tw dr sk tl ff) res.1 res.2 L)
  refine V_aload_n (pc := 0) dX12_redo_0 rfl rfl rfl ?_
  refine V_getI (pc := 1) dX12_redo_1 flX12_427 rfl (by omega) (congrArg Prod.fst sh_73) rfl ?_
  refine V_if_ne (pc := 4) (tgt := 9) dX12_redo_4 (by decide) rfl (fun hc => ?_) (fun hc => ?_)
  · replace hf := (if_neg hc).symm.trans hf
    refine V_aload_n (pc := 9) dX12_redo_9 rfl rfl rfl ?_
    refine V_bipush (pc := 10) dX12_redo_10 bp_10 rfl ?_
    refine V_aload_n (pc := 12) dX12_redo_12 rfl rfl rfl ?_
    refine V_getI (pc := 13) dX12_redo_13 flX12_424 rfl (by omega) (congrArg Prod.fst sh_73) rfl ?_
    refine V_imul (pc := 16) dX12_redo_16 rfl ?_
    obtain ⟨q1, hq1, hf⟩ := bnd hf
    refine V_cVv (md' := mX12_exchange) (pc := 17) dX12_redo_17 mlX12_524 mVX12_exchange (tX12_exchange hG hn hq1) rfl (by omega) (congrArg Prod.fst sh_73) rfl (Nat.le_of_ble_eq_true rfl) rfl ?_
    refine V_aload_n (pc := 20) dX12_redo_20 rfl rfl rfl ?_
    refine V_dup (pc := 21) dX12_redo_21 rfl rfl ?_
    refine V_getI (pc := 22) dX12_redo_22 flX12_424 rfl (by omega) (congrArg Prod.fst sh_73) rfl ?_
    refine V_iconst (pc := 25) dX12_redo_25 ic_1 rfl ?_
    refine V_iadd (pc := 26) dX12_redo_26 rfl ?_
    let I2 : HI := up2 q1 73 73 ((q1 73 73) + (1 : Int32))
    refine V_putI (pc := 27) dX12_redo_27 flX12_424 rfl rfl (by omega) (congrArg Prod.fst sh_73) rfl ?_
    refine V_aload_n (pc := 30) dX12_redo_30 rfl rfl rfl ?_
    refine V_dup (pc := 31) dX12_redo_31 rfl rfl ?_
    refine V_getI (pc := 32) dX12_redo_32 flX12_427 rfl (by omega) (congrArg Prod.fst sh_73) rfl ?_
    refine V_iconst (pc := 35) dX12_redo_35 ic_1 rfl ?_
    refine V_isub (pc := 36) dX12_redo_36 rfl ?_
    let I3 : HI := up2 I2 73 74 ((I2 73 74) - (1 : Int32))
    refine V_putI (pc := 37) dX12_redo_37 flX12_427 rfl rfl (by omega) (congrArg Prod.fst sh_73) rfl ?_
    refine V_iconst (pc := 40) dX12_redo_40 ic_1 rfl ?_
    cases hf
    exact V_zretE (pc := 41) dX12_redo_41 rfl (show (1 : Int32) = b2i true from rfl) PoB_mk
  · replace hf := (if_pos hc).symm.trans hf
    refine V_iconst (pc := 7) dX12_redo_7 ic_0 rfl ?_
    cases hf
    exact V_zretE (pc := 8) dX12_redo_8 rfl (show (0 : Int32) = b2i false from rfl) PoB_mk
/-! ShadowDoorsModel.soonest -/
noncomputable def fX12_soonest_48 : Nat → Int32 → Int32 → Int64 → Int32 → HI → HL → Option (Int64 × Int32)
  | 0, _, _, _, _, _, _ => none
  | fu + 1, y1, y2, y3, y5, I, L =>
    Option.bind (
      if (b2i (fX12_has y3 y2)) = 0 then
        if (48 : Int32) ≤ y5 then
          some true
        else
          some false
      else
        some true
    ) fun b7 =>
    if b7 = true then
      some (y3, y5)
    else
      Option.bind (fX12_goOn y3 y5 I L) fun q8 =>
      fX12_soonest_48 fu y1 y2 q8 (y5 + (1 : Int32)) I L
set_option maxRecDepth 100000 in
set_option maxHeartbeats 4000000 in
theorem lX12_soonest_48 {g : GG} {n d : Nat} {tw dr sk tl ff : Nat} (hG : RG tw dr sk tl ff) (hn : 116 ≤ n) {P : PP} : ∀ (fu : Nat) (y1 : Int32) (y2 : Int32) (y3 : Int64) (y5 : Int32) (I : HI) (L : HL) (res : Int64 × Int32), fX12_soonest_48 fu y1 y2 y3 y5 I L = some res → V g mX12_soonest (d + 8) 0 0 n (RT tw dr sk tl ff) I L 77 [some (.ref 73), some (.int y1), some (.int y2), some (.long res.1), none, some (.int res.2)] [] P → V g mX12_soonest (d + 8) 0 0 n (RT tw dr sk tl ff) I L 48 [some (.ref 73), some (.int y1), some (.int y2), some (.long y3), none, some (.int y5)] [] P := by
  intro fu
  induction fu with
  | zero => intro y1 y2 y3 y5 I L res hf; cases (show none = some res from hf)
  | succ fu ih =>
    intro y1 y2 y3 y5 I L res hf K
    refine V_lload_n (pc := 48) dX12_soonest_48 rfl rfl rfl ?_
    refine V_iload_n (pc := 49) dX12_soonest_49 rfl rfl rfl ?_
    refine V_cSz (md' := mX12_has) (pc := 50) dX12_soonest_50 mlX12_330 mSX12_has (tX12_has rfl) rfl rfl (Nat.le_of_ble_eq_true rfl) rfl ?_
    obtain ⟨b7, hb7, hf⟩ := bnd hf
    have KTb7 : b7 = true → V g mX12_soonest (d + 8) 0 0 n (RT tw dr sk tl ff) I L 77 [some (.ref 73), some (.int y1), some (.int y2), some (.long y3), none, some (.int y5)] [] P := fun hc => by
      replace hf := (if_pos hc).symm.trans hf
      cases hf
      exact V_wk K ⟨rfl, ⟨rfl, ⟨rfl, ⟨rfl, ⟨rfl, trivial⟩⟩⟩⟩⟩
    have KFb7 : ¬ b7 = true → V g mX12_soonest (d + 8) 0 0 n (RT tw dr sk tl ff) I L 63 [some (.ref 73), some (.int y1), some (.int y2), some (.long y3), none, some (.int y5)] [] P := fun hc => by
      replace hf := (if_neg hc).symm.trans hf
      refine V_aload_n (pc := 63) dX12_soonest_63 rfl rfl rfl ?_
      refine V_lload_n (pc := 64) dX12_soonest_64 rfl rfl rfl ?_
      refine V_iload (pc := 65) dX12_soonest_65 rfl rfl ?_
      obtain ⟨q8, hq8, hf⟩ := bnd hf
      refine V_cVl (md' := mX12_goOn) (pc := 67) dX12_soonest_67 mlX12_530 mVX12_goOn (tX12_goOn hG hn hq8) rfl (by omega) (congrArg Prod.fst sh_73) rfl (Nat.le_of_ble_eq_true rfl) rfl ?_
      refine V_lstore_n (ls' := [some _, some _, some _, some _, none, some _]) (pc := 70) dX12_soonest_70 rfl (Nat.le_of_ble_eq_true rfl) rfl rfl ?_
      refine V_iinc (ls' := [some _, some _, some _, some _, none, some _]) (pc := 71) dX12_soonest_71 rfl (Nat.le_of_ble_eq_true rfl) (congrArg _ ic_1) rfl rfl ?_
      refine V_goto (pc := 74) (tgt := 48) dX12_soonest_74 (by decide) ?_
      exact V_wk (ih _ _ _ _ _ _ _ hf K) ⟨rfl, ⟨rfl, ⟨rfl, ⟨rfl, ⟨rfl, trivial⟩⟩⟩⟩⟩
    refine V_if_ne (pc := 53) (tgt := 77) dX12_soonest_53 (by decide) rfl (fun hc => ?_) (fun hc => ?_)
    · replace hb7 := (if_neg hc).symm.trans hb7
      cases hb7
      exact KTb7 rfl
    · replace hb7 := (if_pos hc).symm.trans hb7
      refine V_iload (pc := 56) dX12_soonest_56 rfl rfl ?_
      refine V_bipush (pc := 58) dX12_soonest_58 bp_48 rfl ?_
      refine V_icmp_ge (pc := 60) (tgt := 77) dX12_soonest_60 (by decide) rfl (fun hc => ?_) (fun hc => ?_)
      · replace hb7 := (if_pos hc).symm.trans hb7
        cases hb7
        exact KTb7 rfl
      · replace hb7 := (if_neg hc).symm.trans hb7
        cases hb7
        exact KFb7 (nbt rfl)
noncomputable def fX12_soonest_119 : Nat → Int32 → Int32 → Int32 → Int32 → HI → HL → Option (HL)
  | 0, _, _, _, _, _, _ => none
  | fu + 1, y1, y5, y6, y7, I, L =>
    if ((I 73 52) * (I 73 53)) ≤ y7 then
      some L
    else
      if inb (((64 : Int32) * y6) + y7) 3136 = true then
        if inb (y6 + (1 : Int32)) 49 = true then
          if ((L 101 (((64 : Int32) * y6) + y7).toNatClampNeg) &&& (L 104 (y6 + (1 : Int32)).toNatClampNeg)) = (0 : Int64) then
            fX12_soonest_119 fu y1 y5 y6 (y7 + (1 : Int32)) I L
          else
            if inb y6 49 = true then
              if inb y6 49 = true then
                let L18 : HL := up2 L 104 y6.toNatClampNeg ((L 104 y6.toNatClampNeg) ||| ((1 : Int64) <<< (y7.toInt64 &&& 63)))
                fX12_soonest_119 fu y1 y5 y6 (y7 + (1 : Int32)) I L18
              else none
            else none
        else none
      else none
set_option maxRecDepth 100000 in
set_option maxHeartbeats 4000000 in
theorem lX12_soonest_119 {g : GG} {n d : Nat} {tw dr sk tl ff : Nat} (hG : RG tw dr sk tl ff) (hn : 116 ≤ n) {P : PP} : ∀ (fu : Nat) (y1 : Int32) (y5 : Int32) (y6 : Int32) (y7 : Int32) (I : HI) (L : HL) (res : HL), fX12_soonest_119 fu y1 y5 y6 y7 I L = some res → V g mX12_soonest (d + 8) 0 0 n (RT tw dr sk tl ff) I res 181 [some (.ref 73), some (.int y1), none, none, none, some (.int y5), some (.int y6)] [] P → V g mX12_soonest (d + 8) 0 0 n (RT tw dr sk tl ff) I L 119 [some (.ref 73), some (.int y1), none, none, none, some (.int y5), some (.int y6), some (.int y7)] [] P := by
  intro fu
  induction fu with
  | zero => intro y1 y5 y6 y7 I L res hf; cases (show none = some res from hf)
  | succ fu ih =>
    intro y1 y5 y6 y7 I L res hf K
    refine V_iload (pc := 119) dX12_soonest_119 rfl rfl ?_
    refine V_aload_n (pc := 121) dX12_soonest_121 rfl rfl rfl ?_
    refine V_getI (pc := 122) dX12_soonest_122 flX12_90 rfl (by omega) (congrArg Prod.fst sh_73) rfl ?_
    refine V_aload_n (pc := 125) dX12_soonest_125 rfl rfl rfl ?_
    refine V_getI (pc := 126) dX12_soonest_126 flX12_93 rfl (by omega) (congrArg Prod.fst sh_73) rfl ?_
    refine V_imul (pc := 129) dX12_soonest_129 rfl ?_
    refine V_icmp_ge (pc := 130) (tgt := 181) dX12_soonest_130 (by decide) rfl (fun hc => ?_) (fun hc => ?_)
    · replace hf := (if_pos hc).symm.trans hf
      cases hf
      exact V_wk K ⟨rfl, ⟨rfl, ⟨rfl, ⟨rfl, trivial⟩⟩⟩⟩
    · replace hf := (if_neg hc).symm.trans hf
      refine V_aload_n (pc := 133) dX12_soonest_133 rfl rfl rfl ?_
      refine V_getR (pc := 134) dX12_soonest_134 flX12_102 rfl (by omega) (congrArg Prod.fst sh_73) rt_73_71 rfl ?_
      refine V_bipush (pc := 137) dX12_soonest_137 bp_64 rfl ?_
      refine V_iload (pc := 139) dX12_soonest_139 rfl rfl ?_
      refine V_imul (pc := 141) dX12_soonest_141 rfl ?_
      refine V_iload (pc := 142) dX12_soonest_142 rfl rfl ?_
      refine V_iadd (pc := 144) dX12_soonest_144 rfl ?_
      obtain ⟨hc14, hf⟩ := pif hf
      refine V_lald (pc := 145) dX12_soonest_145 (by omega) sh_101 hc14 rfl ?_
      refine V_aload_n (pc := 146) dX12_soonest_146 rfl rfl rfl ?_
      refine V_getR (pc := 147) dX12_soonest_147 flX12_111 rfl (by omega) (congrArg Prod.fst sh_73) rt_73_77 rfl ?_
      refine V_iload (pc := 150) dX12_soonest_150 rfl rfl ?_
      refine V_iconst (pc := 152) dX12_soonest_152 ic_1 rfl ?_
      refine V_iadd (pc := 153) dX12_soonest_153 rfl ?_
      obtain ⟨hc15, hf⟩ := pif hf
      refine V_lald (pc := 154) dX12_soonest_154 (by omega) sh_104 hc15 rfl ?_
      refine V_land (pc := 155) dX12_soonest_155 rfl ?_
      refine V_lconst (pc := 156) dX12_soonest_156 lc_0 rfl ?_
      refine V_lc_eq (pc := 157) (tgt := 175) dX12_soonest_157 rfl dX12_soonest_158 (by decide) rfl (fun hc => ?_) (fun hc => ?_)
      · replace hf := (if_pos hc).symm.trans hf
        refine V_iinc (ls' := [some _, some _, none, none, none, some _, some _, some _]) (pc := 175) dX12_soonest_175 rfl (Nat.le_of_ble_eq_true rfl) (congrArg _ ic_1) rfl rfl ?_
        refine V_goto (pc := 178) (tgt := 119) dX12_soonest_178 (by decide) ?_
        exact V_wk (ih _ _ _ _ _ _ _ hf K) ⟨rfl, ⟨rfl, ⟨rfl, ⟨rfl, ⟨rfl, trivial⟩⟩⟩⟩⟩
      · replace hf := (if_neg hc).symm.trans hf
        refine V_aload_n (pc := 161) dX12_soonest_161 rfl rfl rfl ?_
        refine V_getR (pc := 162) dX12_soonest_162 flX12_111 rfl (by omega) (congrArg Prod.fst sh_73) rt_73_77 rfl ?_
        refine V_iload (pc := 165) dX12_soonest_165 rfl rfl ?_
        refine V_dup2_11 (pc := 167) dX12_soonest_167 rfl rfl rfl ?_
        obtain ⟨hc16, hf⟩ := pif hf
        refine V_lald (pc := 168) dX12_soonest_168 (by omega) sh_104 hc16 rfl ?_
        refine V_lconst (pc := 169) dX12_soonest_169 lc_1 rfl ?_
        refine V_iload (pc := 170) dX12_soonest_170 rfl rfl ?_
        refine V_lshl (pc := 172) dX12_soonest_172 rfl ?_
        refine V_lor (pc := 173) dX12_soonest_173 rfl ?_
        obtain ⟨hc17, hf⟩ := pif hf
        let L18 : HL := up2 L 104 y6.toNatClampNeg ((L 104 y6.toNatClampNeg) ||| ((1 : Int64) <<< (y7.toInt64 &&& 63)))
        refine V_last (pc := 174) dX12_soonest_174 (by omega) sh_104 hc17 rfl ?_
        refine V_iinc (ls' := [some _, some _, none, none, none, some _, some _, some _]) (pc := 175) dX12_soonest_175 rfl (Nat.le_of_ble_eq_true rfl) (congrArg _ ic_1) rfl rfl ?_
        refine V_goto (pc := 178) (tgt := 119) dX12_soonest_178 (by decide) ?_
        exact V_wk (ih _ _ _ _ _ _ _ hf K) ⟨rfl, ⟨rfl, ⟨rfl, ⟨rfl, ⟨rfl, trivial⟩⟩⟩⟩⟩
noncomputable def fX12_soonest_103 : Nat → Int32 → Int32 → Int32 → HI → HL → Option (HL)
  | 0, _, _, _, _, _ => none
  | fu + 1, y1, y5, y6, I, L =>
    if y6 < 0 then
      some L
    else
      if inb y6 49 = true then
        let L13 : HL := up2 L 104 y6.toNatClampNeg (0 : Int64)
        Option.bind (fX12_soonest_119 FUEL y1 y5 y6 (0 : Int32) I L13) fun q19 =>
        fX12_soonest_103 fu y1 y5 (y6 + (-1 : Int32)) I q19
      else none
set_option maxRecDepth 100000 in
set_option maxHeartbeats 4000000 in
theorem lX12_soonest_103 {g : GG} {n d : Nat} {tw dr sk tl ff : Nat} (hG : RG tw dr sk tl ff) (hn : 116 ≤ n) {P : PP} : ∀ (fu : Nat) (y1 : Int32) (y5 : Int32) (y6 : Int32) (I : HI) (L : HL) (res : HL), fX12_soonest_103 fu y1 y5 y6 I L = some res → V g mX12_soonest (d + 8) 0 0 n (RT tw dr sk tl ff) I res 187 [some (.ref 73), some (.int y1), none, none, none, some (.int y5)] [] P → V g mX12_soonest (d + 8) 0 0 n (RT tw dr sk tl ff) I L 103 [some (.ref 73), some (.int y1), none, none, none, some (.int y5), some (.int y6)] [] P := by
  intro fu
  induction fu with
  | zero => intro y1 y5 y6 I L res hf; cases (show none = some res from hf)
  | succ fu ih =>
    intro y1 y5 y6 I L res hf K
    refine V_iload (pc := 103) dX12_soonest_103 rfl rfl ?_
    refine V_if_lt (pc := 105) (tgt := 187) dX12_soonest_105 (by decide) rfl (fun hc => ?_) (fun hc => ?_)
    · replace hf := (if_pos hc).symm.trans hf
      cases hf
      exact V_wk K ⟨rfl, ⟨rfl, ⟨rfl, trivial⟩⟩⟩
    · replace hf := (if_neg hc).symm.trans hf
      refine V_aload_n (pc := 108) dX12_soonest_108 rfl rfl rfl ?_
      refine V_getR (pc := 109) dX12_soonest_109 flX12_111 rfl (by omega) (congrArg Prod.fst sh_73) rt_73_77 rfl ?_
      refine V_iload (pc := 112) dX12_soonest_112 rfl rfl ?_
      refine V_lconst (pc := 114) dX12_soonest_114 lc_0 rfl ?_
      obtain ⟨hc12, hf⟩ := pif hf
      let L13 : HL := up2 L 104 y6.toNatClampNeg (0 : Int64)
      refine V_last (pc := 115) dX12_soonest_115 (by omega) sh_104 hc12 rfl ?_
      refine V_iconst (pc := 116) dX12_soonest_116 ic_0 rfl ?_
      refine V_istore (ls' := [some _, some _, none, none, none, some _, some _, some _]) (pc := 117) dX12_soonest_117 (Nat.le_of_ble_eq_true rfl) rfl rfl ?_
      obtain ⟨q19, hq19, hf⟩ := bnd hf
      refine V_wk (lX12_soonest_119 hG hn FUEL _ _ _ _ _ _ _ hq19 ?_) ⟨rfl, ⟨rfl, ⟨rfl, ⟨rfl, ⟨rfl, trivial⟩⟩⟩⟩⟩
      refine V_iinc (ls' := [some _, some _, none, none, none, some _, some _]) (pc := 181) dX12_soonest_181 rfl (Nat.le_of_ble_eq_true rfl) (congrArg _ ic_m1) rfl rfl ?_
      refine V_goto (pc := 184) (tgt := 103) dX12_soonest_184 (by decide) ?_
      exact V_wk (ih _ _ _ _ _ _ hf K) ⟨rfl, ⟨rfl, ⟨rfl, ⟨rfl, trivial⟩⟩⟩⟩
noncomputable def fX12_soonest_193 : Nat → Int32 → Int32 → Int32 → HI → HL → Option (Int32 × HI)
  | 0, _, _, _, _, _ => none
  | fu + 1, y5, y6, y7, I, L =>
    if y5 ≤ y7 then
      let I21 : HI := up2 I 73 76 y5
      some (y5, I21)
    else
      if inb (((64 : Int32) * y7) + y6) 3136 = true then
        if inb (y7 + (1 : Int32)) 49 = true then
          Option.bind (fX12_leastOf ((L 101 (((64 : Int32) * y7) + y6).toNatClampNeg) &&& (L 104 (y7 + (1 : Int32)).toNatClampNeg))) fun q24 =>
          if inb y7 48 = true then
            let I26 : HI := up2 I 103 y7.toNatClampNeg q24
            fX12_soonest_193 fu y5 q24 (y7 + (1 : Int32)) I26 L
          else none
        else none
      else none
set_option maxRecDepth 100000 in
set_option maxHeartbeats 4000000 in
theorem lX12_soonest_193 {g : GG} {n d : Nat} {tw dr sk tl ff : Nat} (hG : RG tw dr sk tl ff) (hn : 116 ≤ n) {P : PP} : ∀ (fu : Nat) (y5 : Int32) (y6 : Int32) (y7 : Int32) (I : HI) (L : HL) (res : Int32 × HI), fX12_soonest_193 fu y5 y6 y7 I L = some res → P (some (.int res.1)) n (RT tw dr sk tl ff) res.2 L → V g mX12_soonest (d + 8) 0 0 n (RT tw dr sk tl ff) I L 193 [some (.ref 73), none, none, none, none, some (.int y5), some (.int y6), some (.int y7)] [] P := by
  intro fu
  induction fu with
  | zero => intro y5 y6 y7 I L res hf; cases (show none = some res from hf)
  | succ fu ih =>
    intro y5 y6 y7 I L res hf K
    refine V_iload (pc := 193) dX12_soonest_193 rfl rfl ?_
    refine V_iload (pc := 195) dX12_soonest_195 rfl rfl ?_
    refine V_icmp_ge (pc := 197) (tgt := 243) dX12_soonest_197 (by decide) rfl (fun hc => ?_) (fun hc => ?_)
    · replace hf := (if_pos hc).symm.trans hf
      refine V_aload_n (pc := 243) dX12_soonest_243 rfl rfl rfl ?_
      refine V_iload (pc := 244) dX12_soonest_244 rfl rfl ?_
      let I21 : HI := up2 I 73 76 y5
      refine V_putI (pc := 246) dX12_soonest_246 flX12_433 rfl rfl (by omega) (congrArg Prod.fst sh_73) rfl ?_
      refine V_iload (pc := 249) dX12_soonest_249 rfl rfl ?_
      cases hf
      exact V_iret (pc := 251) dX12_soonest_251 rfl K
    · replace hf := (if_neg hc).symm.trans hf
      refine V_aload_n (pc := 200) dX12_soonest_200 rfl rfl rfl ?_
      refine V_getR (pc := 201) dX12_soonest_201 flX12_102 rfl (by omega) (congrArg Prod.fst sh_73) rt_73_71 rfl ?_
      refine V_bipush (pc := 204) dX12_soonest_204 bp_64 rfl ?_
      refine V_iload (pc := 206) dX12_soonest_206 rfl rfl ?_
      refine V_imul (pc := 208) dX12_soonest_208 rfl ?_
      refine V_iload (pc := 209) dX12_soonest_209 rfl rfl ?_
      refine V_iadd (pc := 211) dX12_soonest_211 rfl ?_
      obtain ⟨hc22, hf⟩ := pif hf
      refine V_lald (pc := 212) dX12_soonest_212 (by omega) sh_101 hc22 rfl ?_
      refine V_aload_n (pc := 213) dX12_soonest_213 rfl rfl rfl ?_
      refine V_getR (pc := 214) dX12_soonest_214 flX12_111 rfl (by omega) (congrArg Prod.fst sh_73) rt_73_77 rfl ?_
      refine V_iload (pc := 217) dX12_soonest_217 rfl rfl ?_
      refine V_iconst (pc := 219) dX12_soonest_219 ic_1 rfl ?_
      refine V_iadd (pc := 220) dX12_soonest_220 rfl ?_
      obtain ⟨hc23, hf⟩ := pif hf
      refine V_lald (pc := 221) dX12_soonest_221 (by omega) sh_104 hc23 rfl ?_
      refine V_land (pc := 222) dX12_soonest_222 rfl ?_
      obtain ⟨q24, hq24, hf⟩ := bnd hf
      refine V_cSi (md' := mX12_leastOf) (pc := 223) dX12_soonest_223 mlX12_534 mSX12_leastOf (tX12_leastOf hq24) rfl rfl (Nat.le_of_ble_eq_true rfl) rfl ?_
      refine V_istore (ls' := [some _, none, none, none, none, some _, some _, some _]) (pc := 226) dX12_soonest_226 (Nat.le_of_ble_eq_true rfl) rfl rfl ?_
      refine V_aload_n (pc := 228) dX12_soonest_228 rfl rfl rfl ?_
      refine V_getR (pc := 229) dX12_soonest_229 flX12_108 rfl (by omega) (congrArg Prod.fst sh_73) rt_73_75 rfl ?_
      refine V_iload (pc := 232) dX12_soonest_232 rfl rfl ?_
      refine V_iload (pc := 234) dX12_soonest_234 rfl rfl ?_
      obtain ⟨hc25, hf⟩ := pif hf
      let I26 : HI := up2 I 103 y7.toNatClampNeg q24
      refine V_iast (pc := 236) dX12_soonest_236 (by omega) sh_103 hc25 rfl ?_
      refine V_iinc (ls' := [some _, none, none, none, none, some _, some _, some _]) (pc := 237) dX12_soonest_237 rfl (Nat.le_of_ble_eq_true rfl) (congrArg _ ic_1) rfl rfl ?_
      refine V_goto (pc := 240) (tgt := 193) dX12_soonest_240 (by decide) ?_
      exact V_wk (ih _ _ _ _ _ _ hf K) ⟨rfl, ⟨rfl, ⟨rfl, ⟨rfl, trivial⟩⟩⟩⟩
noncomputable def fX12_soonest (v1 : Int32) (v2 : Int32) (I : HI) (L : HL) : Option (Int32 × HI × HL) :=
  let I1 : HI := up2 I 73 76 (0 : Int32)
  Option.bind (
    if (b2i (fX12_isFree v1 I1 L)) = 0 then
      some true
    else
      if (b2i (fX12_isFree v2 I1 L)) = 0 then
        some true
      else
        some false
  ) fun b2 =>
  if b2 = true then
    some ((-1 : Int32), I1, L)
  else
    Option.bind (fX12_load (0 : Int32) I1) fun q3 =>
    if inb (8 : Int32) 10 = true then
      Option.bind (fX12_layHours (q3 99 (8 : Int32).toNatClampNeg) (48 : Int32) q3 L) fun q5 =>
      let x6 : Int64 := ((1 : Int64) <<< (v1.toInt64 &&& 63))
      Option.bind (fX12_soonest_48 FUEL v1 v2 x6 (0 : Int32) q5.1 q5.2) fun q9 =>
      if (b2i (fX12_has q9.1 v2)) = 0 then
        some ((-1 : Int32), q5.1, q5.2)
      else
        if inb q9.2 49 = true then
          let L11 : HL := up2 q5.2 104 q9.2.toNatClampNeg ((1 : Int64) <<< (v2.toInt64 &&& 63))
          Option.bind (fX12_soonest_103 FUEL v1 q9.2 (q9.2 - (1 : Int32)) q5.1 L11) fun q20 =>
          Option.bind (fX12_soonest_193 FUEL q9.2 v1 (0 : Int32) q5.1 q20) fun q27 =>
          some (q27.1, q27.2, q20)
        else none
    else none
set_option maxRecDepth 100000 in
set_option maxHeartbeats 4000000 in
theorem tX12_soonest {g : GG} {n d : Nat} {tw dr sk tl ff : Nat} (hG : RG tw dr sk tl ff) (hn : 116 ≤ n) {v1 : Int32} {v2 : Int32} {I : HI} {L : HL} {res : Int32 × HI × HL} (hf : fX12_soonest v1 v2 I L = some res) : CT g mX12_soonest (d + 8) 0 0 n (RT tw dr sk tl ff) I L [.ref 73, .int v1, .int v2] (PoI n (RT tw dr sk tl ff) res.1 res.2.1 res.2.2) := by
  refine CT.of rfl (Nat.le_of_ble_eq_true rfl) ?_
  show V g mX12_soonest (d + 8) 0 0 n (RT tw dr sk tl ff) I L 0 [some (.ref 73), some (.int v1), some (.int v2)] [] (PoI n (RT tw dr sk tl ff) res.1 res.2.1 res.2.2)
  refine V_aload_n (pc := 0) dX12_soonest_0 rfl rfl rfl ?_
  refine V_iconst (pc := 1) dX12_soonest_1 ic_0 rfl ?_
  let I1 : HI := up2 I 73 76 (0 : Int32)
  refine V_putI (pc := 2) dX12_soonest_2 flX12_433 rfl rfl (by omega) (congrArg Prod.fst sh_73) rfl ?_
  refine V_aload_n (pc := 5) dX12_soonest_5 rfl rfl rfl ?_
  refine V_iload_n (pc := 6) dX12_soonest_6 rfl rfl rfl ?_
  refine V_cVz (md' := mX12_isFree) (pc := 7) dX12_soonest_7 mlX12_518 mVX12_isFree (tX12_isFree hG hn rfl) rfl (by omega) (congrArg Prod.fst sh_73) rfl (Nat.le_of_ble_eq_true rfl) rfl ?_
  obtain ⟨b2, hb2, hf⟩ := bnd hf
  have KTb2 : b2 = true → V g mX12_soonest (d + 8) 0 0 n (RT tw dr sk tl ff) I1 L 21 [some (.ref 73), some (.int v1), some (.int v2)] [] (PoI n (RT tw dr sk tl ff) res.1 res.2.1 res.2.2) := fun hc => by
    replace hf := (if_pos hc).symm.trans hf
    refine V_iconst (pc := 21) dX12_soonest_21 ic_m1 rfl ?_
    cases hf
    exact V_iret (pc := 22) dX12_soonest_22 rfl PoI_mk
  have KFb2 : ¬ b2 = true → V g mX12_soonest (d + 8) 0 0 n (RT tw dr sk tl ff) I1 L 23 [some (.ref 73), some (.int v1), some (.int v2)] [] (PoI n (RT tw dr sk tl ff) res.1 res.2.1 res.2.2) := fun hc => by
    replace hf := (if_neg hc).symm.trans hf
    refine V_aload_n (pc := 23) dX12_soonest_23 rfl rfl rfl ?_
    refine V_iconst (pc := 24) dX12_soonest_24 ic_0 rfl ?_
    obtain ⟨q3, hq3, hf⟩ := bnd hf
    refine V_cVv (md' := mX12_load) (pc := 25) dX12_soonest_25 mlX12_505 mVX12_load (tX12_load hG hn hq3) rfl (by omega) (congrArg Prod.fst sh_73) rfl (Nat.le_of_ble_eq_true rfl) rfl ?_
    refine V_aload_n (pc := 28) dX12_soonest_28 rfl rfl rfl ?_
    refine V_aload_n (pc := 29) dX12_soonest_29 rfl rfl rfl ?_
    refine V_getR (pc := 30) dX12_soonest_30 flX12_96 rfl (by omega) (congrArg Prod.fst sh_73) rt_73_63 rfl ?_
    refine V_bipush (pc := 33) dX12_soonest_33 bp_8 rfl ?_
    obtain ⟨hc4, hf⟩ := pif hf
    refine V_iald (pc := 35) dX12_soonest_35 (by omega) sh_99 hc4 rfl ?_
    refine V_bipush (pc := 36) dX12_soonest_36 bp_48 rfl ?_
    obtain ⟨q5, hq5, hf⟩ := bnd hf
    refine V_cVv (md' := mX12_layHours) (pc := 38) dX12_soonest_38 mlX12_527 mVX12_layHours (tX12_layHours hG hn hq5) rfl (by omega) (congrArg Prod.fst sh_73) rfl (Nat.le_of_ble_eq_true rfl) rfl ?_
    refine V_lconst (pc := 41) dX12_soonest_41 lc_1 rfl ?_
    refine V_iload_n (pc := 42) dX12_soonest_42 rfl rfl rfl ?_
    refine V_lshl (pc := 43) dX12_soonest_43 rfl ?_
    let x6 : Int64 := ((1 : Int64) <<< (v1.toInt64 &&& 63))
    refine V_lstore_n (ls' := [some _, some _, some _, some _, none]) (pc := 44) dX12_soonest_44 rfl (Nat.le_of_ble_eq_true rfl) rfl rfl ?_
    refine V_iconst (pc := 45) dX12_soonest_45 ic_0 rfl ?_
    refine V_istore (ls' := [some _, some _, some _, some _, none, some _]) (pc := 46) dX12_soonest_46 (Nat.le_of_ble_eq_true rfl) rfl rfl ?_
    obtain ⟨q9, hq9, hf⟩ := bnd hf
    refine V_wk (lX12_soonest_48 hG hn FUEL _ _ _ _ _ _ _ hq9 ?_) ⟨rfl, ⟨rfl, ⟨rfl, ⟨rfl, ⟨rfl, trivial⟩⟩⟩⟩⟩
    refine V_lload_n (pc := 77) dX12_soonest_77 rfl rfl rfl ?_
    refine V_iload_n (pc := 78) dX12_soonest_78 rfl rfl rfl ?_
    refine V_cSz (md' := mX12_has) (pc := 79) dX12_soonest_79 mlX12_330 mSX12_has (tX12_has rfl) rfl rfl (Nat.le_of_ble_eq_true rfl) rfl ?_
    refine V_if_ne (pc := 82) (tgt := 87) dX12_soonest_82 (by decide) rfl (fun hc => ?_) (fun hc => ?_)
    · replace hf := (if_neg hc).symm.trans hf
      refine V_aload_n (pc := 87) dX12_soonest_87 rfl rfl rfl ?_
      refine V_getR (pc := 88) dX12_soonest_88 flX12_111 rfl (by omega) (congrArg Prod.fst sh_73) rt_73_77 rfl ?_
      refine V_iload (pc := 91) dX12_soonest_91 rfl rfl ?_
      refine V_lconst (pc := 93) dX12_soonest_93 lc_1 rfl ?_
      refine V_iload_n (pc := 94) dX12_soonest_94 rfl rfl rfl ?_
      refine V_lshl (pc := 95) dX12_soonest_95 rfl ?_
      obtain ⟨hc10, hf⟩ := pif hf
      let L11 : HL := up2 q5.2 104 q9.2.toNatClampNeg ((1 : Int64) <<< (v2.toInt64 &&& 63))
      refine V_last (pc := 96) dX12_soonest_96 (by omega) sh_104 hc10 rfl ?_
      refine V_iload (pc := 97) dX12_soonest_97 rfl rfl ?_
      refine V_iconst (pc := 99) dX12_soonest_99 ic_1 rfl ?_
      refine V_isub (pc := 100) dX12_soonest_100 rfl ?_
      refine V_istore (ls' := [some _, some _, some _, some _, none, some _, some _]) (pc := 101) dX12_soonest_101 (Nat.le_of_ble_eq_true rfl) rfl rfl ?_
      obtain ⟨q20, hq20, hf⟩ := bnd hf
      refine V_wk (lX12_soonest_103 hG hn FUEL _ _ _ _ _ _ hq20 ?_) ⟨rfl, ⟨rfl, ⟨rfl, ⟨rfl, trivial⟩⟩⟩⟩
      refine V_iload_n (pc := 187) dX12_soonest_187 rfl rfl rfl ?_
      refine V_istore (ls' := [some _, some _, none, none, none, some _, some _]) (pc := 188) dX12_soonest_188 (Nat.le_of_ble_eq_true rfl) rfl rfl ?_
      refine V_iconst (pc := 190) dX12_soonest_190 ic_0 rfl ?_
      refine V_istore (ls' := [some _, some _, none, none, none, some _, some _, some _]) (pc := 191) dX12_soonest_191 (Nat.le_of_ble_eq_true rfl) rfl rfl ?_
      obtain ⟨q27, hq27, hf⟩ := bnd hf
      refine V_wk (lX12_soonest_193 hG hn FUEL _ _ _ _ _ _ hq27 ?_) ⟨rfl, ⟨rfl, ⟨rfl, ⟨rfl, trivial⟩⟩⟩⟩
      cases hf
      exact PoI_mk
    · replace hf := (if_pos hc).symm.trans hf
      refine V_iconst (pc := 85) dX12_soonest_85 ic_m1 rfl ?_
      cases hf
      exact V_iret (pc := 86) dX12_soonest_86 rfl PoI_mk
  refine V_if_eq (pc := 10) (tgt := 21) dX12_soonest_10 (by decide) rfl (fun hc => ?_) (fun hc => ?_)
  · replace hb2 := (if_pos hc).symm.trans hb2
    cases hb2
    exact KTb2 rfl
  · replace hb2 := (if_neg hc).symm.trans hb2
    refine V_aload_n (pc := 13) dX12_soonest_13 rfl rfl rfl ?_
    refine V_iload_n (pc := 14) dX12_soonest_14 rfl rfl rfl ?_
    refine V_cVz (md' := mX12_isFree) (pc := 15) dX12_soonest_15 mlX12_518 mVX12_isFree (tX12_isFree hG hn rfl) rfl (by omega) (congrArg Prod.fst sh_73) rfl (Nat.le_of_ble_eq_true rfl) rfl ?_
    refine V_if_ne (pc := 18) (tgt := 23) dX12_soonest_18 (by decide) rfl (fun hc => ?_) (fun hc => ?_)
    · replace hb2 := (if_neg hc).symm.trans hb2
      cases hb2
      exact KFb2 (nbt rfl)
    · replace hb2 := (if_pos hc).symm.trans hb2
      cases hb2
      exact KTb2 rfl
/-! ShadowDoorsModel.reachOf -/
noncomputable def fX12_reachOf_7 : Nat → Int32 → Int64 → Int32 → HI → HL → Option (Int64)
  | 0, _, _, _, _, _ => none
  | fu + 1, y2, y3, y5, I, L =>
    if y2 ≤ y5 then
      some y3
    else
      Option.bind (fX12_goOn y3 y5 I L) fun q2 =>
      fX12_reachOf_7 fu y2 q2 (y5 + (1 : Int32)) I L
set_option maxRecDepth 100000 in
set_option maxHeartbeats 4000000 in
theorem lX12_reachOf_7 {g : GG} {n d : Nat} {tw dr sk tl ff : Nat} (hG : RG tw dr sk tl ff) (hn : 116 ≤ n) {P : PP} : ∀ (fu : Nat) (y2 : Int32) (y3 : Int64) (y5 : Int32) (I : HI) (L : HL) (res : Int64), fX12_reachOf_7 fu y2 y3 y5 I L = some res → P (some (.long res)) n (RT tw dr sk tl ff) I L → V g mX12_reachOf (d + 3) 0 0 n (RT tw dr sk tl ff) I L 7 [some (.ref 73), none, some (.int y2), some (.long y3), none, some (.int y5)] [] P := by
  intro fu
  induction fu with
  | zero => intro y2 y3 y5 I L res hf; cases (show none = some res from hf)
  | succ fu ih =>
    intro y2 y3 y5 I L res hf K
    refine V_iload (pc := 7) dX12_reachOf_7 rfl rfl ?_
    refine V_iload_n (pc := 9) dX12_reachOf_9 rfl rfl rfl ?_
    refine V_icmp_ge (pc := 10) (tgt := 27) dX12_reachOf_10 (by decide) rfl (fun hc => ?_) (fun hc => ?_)
    · replace hf := (if_pos hc).symm.trans hf
      refine V_lload_n (pc := 27) dX12_reachOf_27 rfl rfl rfl ?_
      cases hf
      exact V_lret (pc := 28) dX12_reachOf_28 rfl K
    · replace hf := (if_neg hc).symm.trans hf
      refine V_aload_n (pc := 13) dX12_reachOf_13 rfl rfl rfl ?_
      refine V_lload_n (pc := 14) dX12_reachOf_14 rfl rfl rfl ?_
      refine V_iload (pc := 15) dX12_reachOf_15 rfl rfl ?_
      obtain ⟨q2, hq2, hf⟩ := bnd hf
      refine V_cVl (md' := mX12_goOn) (pc := 17) dX12_reachOf_17 mlX12_530 mVX12_goOn (tX12_goOn hG hn hq2) rfl (by omega) (congrArg Prod.fst sh_73) rfl (Nat.le_of_ble_eq_true rfl) rfl ?_
      refine V_lstore_n (ls' := [some _, none, some _, some _, none, some _]) (pc := 20) dX12_reachOf_20 rfl (Nat.le_of_ble_eq_true rfl) rfl rfl ?_
      refine V_iinc (ls' := [some _, none, some _, some _, none, some _]) (pc := 21) dX12_reachOf_21 rfl (Nat.le_of_ble_eq_true rfl) (congrArg _ ic_1) rfl rfl ?_
      refine V_goto (pc := 24) (tgt := 7) dX12_reachOf_24 (by decide) ?_
      exact V_wk (ih _ _ _ _ _ _ hf K) ⟨rfl, ⟨rfl, ⟨rfl, ⟨rfl, trivial⟩⟩⟩⟩
noncomputable def fX12_reachOf (v1 : Int32) (v2 : Int32) (I : HI) (L : HL) : Option (Int64) :=
  let x1 : Int64 := ((1 : Int64) <<< (v1.toInt64 &&& 63))
  Option.bind (fX12_reachOf_7 FUEL v2 x1 (0 : Int32) I L) fun q3 =>
  some q3
set_option maxRecDepth 100000 in
set_option maxHeartbeats 4000000 in
theorem tX12_reachOf {g : GG} {n d : Nat} {tw dr sk tl ff : Nat} (hG : RG tw dr sk tl ff) (hn : 116 ≤ n) {v1 : Int32} {v2 : Int32} {I : HI} {L : HL} {res : Int64} (hf : fX12_reachOf v1 v2 I L = some res) : CT g mX12_reachOf (d + 3) 0 0 n (RT tw dr sk tl ff) I L [.ref 73, .int v1, .int v2] (PoL n (RT tw dr sk tl ff) res I L) := by
  refine CT.of rfl (Nat.le_of_ble_eq_true rfl) ?_
  show V g mX12_reachOf (d + 3) 0 0 n (RT tw dr sk tl ff) I L 0 [some (.ref 73), some (.int v1), some (.int v2)] [] (PoL n (RT tw dr sk tl ff) res I L)
  refine V_lconst (pc := 0) dX12_reachOf_0 lc_1 rfl ?_
  refine V_iload_n (pc := 1) dX12_reachOf_1 rfl rfl rfl ?_
  refine V_lshl (pc := 2) dX12_reachOf_2 rfl ?_
  let x1 : Int64 := ((1 : Int64) <<< (v1.toInt64 &&& 63))
  refine V_lstore_n (ls' := [some _, some _, some _, some _, none]) (pc := 3) dX12_reachOf_3 rfl (Nat.le_of_ble_eq_true rfl) rfl rfl ?_
  refine V_iconst (pc := 4) dX12_reachOf_4 ic_0 rfl ?_
  refine V_istore (ls' := [some _, some _, some _, some _, none, some _]) (pc := 5) dX12_reachOf_5 (Nat.le_of_ble_eq_true rfl) rfl rfl ?_
  obtain ⟨q3, hq3, hf⟩ := bnd hf
  refine V_wk (lX12_reachOf_7 hG hn FUEL _ _ _ _ _ _ hq3 ?_) ⟨rfl, ⟨rfl, ⟨rfl, ⟨rfl, trivial⟩⟩⟩⟩
  cases hf
  exact PoL_mk
/-! ShadowDoorsModel.reach -/
noncomputable def fX12_reach (v1 : Int32) (v2 : Int32) (I : HI) (L : HL) : Option (Int64 × HI × HL) :=
  Option.bind (
    if (b2i (fX12_isFree v1 I L)) = 0 then
      some true
    else
      if (b2i (fX12_isFar v2)) = 0 then
        some true
      else
        some false
  ) fun b1 =>
  if b1 = true then
    some ((0 : Int64), I, L)
  else
    Option.bind (fX12_load (0 : Int32) I) fun q2 =>
    if inb (8 : Int32) 10 = true then
      Option.bind (fX12_layHours (q2 99 (8 : Int32).toNatClampNeg) v2 q2 L) fun q4 =>
      Option.bind (fX12_reachOf v1 v2 q4.1 q4.2) fun q5 =>
      some (q5, q4.1, q4.2)
    else none
set_option maxRecDepth 100000 in
set_option maxHeartbeats 4000000 in
theorem tX12_reach {g : GG} {n d : Nat} {tw dr sk tl ff : Nat} (hG : RG tw dr sk tl ff) (hn : 116 ≤ n) {v1 : Int32} {v2 : Int32} {I : HI} {L : HL} {res : Int64 × HI × HL} (hf : fX12_reach v1 v2 I L = some res) : CT g mX12_reach (d + 8) 0 0 n (RT tw dr sk tl ff) I L [.ref 73, .int v1, .int v2] (PoL n (RT tw dr sk tl ff) res.1 res.2.1 res.2.2) := by
  refine CT.of rfl (Nat.le_of_ble_eq_true rfl) ?_
  show V g mX12_reach (d + 8) 0 0 n (RT tw dr sk tl ff) I L 0 [some (.ref 73), some (.int v1), some (.int v2)] [] (PoL n (RT tw dr sk tl ff) res.1 res.2.1 res.2.2)
  refine V_aload_n (pc := 0) dX12_reach_0 rfl rfl rfl ?_
  refine V_iload_n (pc := 1) dX12_reach_1 rfl rfl rfl ?_
  refine V_cVz (md' := mX12_isFree) (pc := 2) dX12_reach_2 mlX12_518 mVX12_isFree (tX12_isFree hG hn rfl) rfl (by omega) (congrArg Prod.fst sh_73) rfl (Nat.le_of_ble_eq_true rfl) rfl ?_
  obtain ⟨b1, hb1, hf⟩ := bnd hf
  have KTb1 : b1 = true → V g mX12_reach (d + 8) 0 0 n (RT tw dr sk tl ff) I L 15 [some (.ref 73), some (.int v1), some (.int v2)] [] (PoL n (RT tw dr sk tl ff) res.1 res.2.1 res.2.2) := fun hc => by
    replace hf := (if_pos hc).symm.trans hf
    refine V_lconst (pc := 15) dX12_reach_15 lc_0 rfl ?_
    cases hf
    exact V_lret (pc := 16) dX12_reach_16 rfl PoL_mk
  have KFb1 : ¬ b1 = true → V g mX12_reach (d + 8) 0 0 n (RT tw dr sk tl ff) I L 17 [some (.ref 73), some (.int v1), some (.int v2)] [] (PoL n (RT tw dr sk tl ff) res.1 res.2.1 res.2.2) := fun hc => by
    replace hf := (if_neg hc).symm.trans hf
    refine V_aload_n (pc := 17) dX12_reach_17 rfl rfl rfl ?_
    refine V_iconst (pc := 18) dX12_reach_18 ic_0 rfl ?_
    obtain ⟨q2, hq2, hf⟩ := bnd hf
    refine V_cVv (md' := mX12_load) (pc := 19) dX12_reach_19 mlX12_505 mVX12_load (tX12_load hG hn hq2) rfl (by omega) (congrArg Prod.fst sh_73) rfl (Nat.le_of_ble_eq_true rfl) rfl ?_
    refine V_aload_n (pc := 22) dX12_reach_22 rfl rfl rfl ?_
    refine V_aload_n (pc := 23) dX12_reach_23 rfl rfl rfl ?_
    refine V_getR (pc := 24) dX12_reach_24 flX12_96 rfl (by omega) (congrArg Prod.fst sh_73) rt_73_63 rfl ?_
    refine V_bipush (pc := 27) dX12_reach_27 bp_8 rfl ?_
    obtain ⟨hc3, hf⟩ := pif hf
    refine V_iald (pc := 29) dX12_reach_29 (by omega) sh_99 hc3 rfl ?_
    refine V_iload_n (pc := 30) dX12_reach_30 rfl rfl rfl ?_
    obtain ⟨q4, hq4, hf⟩ := bnd hf
    refine V_cVv (md' := mX12_layHours) (pc := 31) dX12_reach_31 mlX12_527 mVX12_layHours (tX12_layHours hG hn hq4) rfl (by omega) (congrArg Prod.fst sh_73) rfl (Nat.le_of_ble_eq_true rfl) rfl ?_
    refine V_aload_n (pc := 34) dX12_reach_34 rfl rfl rfl ?_
    refine V_iload_n (pc := 35) dX12_reach_35 rfl rfl rfl ?_
    refine V_iload_n (pc := 36) dX12_reach_36 rfl rfl rfl ?_
    obtain ⟨q5, hq5, hf⟩ := bnd hf
    refine V_cVl (md' := mX12_reachOf) (pc := 37) dX12_reach_37 mlX12_537 mVX12_reachOf (tX12_reachOf hG hn hq5) rfl (by omega) (congrArg Prod.fst sh_73) rfl (Nat.le_of_ble_eq_true rfl) rfl ?_
    cases hf
    exact V_lret (pc := 40) dX12_reach_40 rfl PoL_mk
  refine V_if_eq (pc := 5) (tgt := 15) dX12_reach_5 (by decide) rfl (fun hc => ?_) (fun hc => ?_)
  · replace hb1 := (if_pos hc).symm.trans hb1
    cases hb1
    exact KTb1 rfl
  · replace hb1 := (if_neg hc).symm.trans hb1
    refine V_iload_n (pc := 8) dX12_reach_8 rfl rfl rfl ?_
    refine V_cSz (md' := mX12_isFar) (pc := 9) dX12_reach_9 mlX12_514 mSX12_isFar (tX12_isFar rfl) rfl rfl (Nat.le_of_ble_eq_true rfl) rfl ?_
    refine V_if_ne (pc := 12) (tgt := 17) dX12_reach_12 (by decide) rfl (fun hc => ?_) (fun hc => ?_)
    · replace hb1 := (if_neg hc).symm.trans hb1
      cases hb1
      exact KFb1 (nbt rfl)
    · replace hb1 := (if_pos hc).symm.trans hb1
      cases hb1
      exact KTb1 rfl
/-! ShadowDoorsModel.meet -/
noncomputable def fX12_meet_73 : Nat → Int32 → Int64 → Int64 → Int32 → HI → HL → Option ((Int64 × Int64 × Int32) ⊕ (Int32))
  | 0, _, _, _, _, _, _ => none
  | fu + 1, y3, y4, y6, y8, I, L =>
    if (48 : Int32) < y8 then
      some (.inr (-1 : Int32))
    else
      if (y4 &&& y6) = (0 : Int64) then
        if y8 = (48 : Int32) then
          some (.inr (-1 : Int32))
        else
          Option.bind (fX12_goOn y4 y8 I L) fun q9 =>
          Option.bind (fX12_goOn y6 y8 I L) fun q10 =>
          fX12_meet_73 fu y3 q9 q10 (y8 + (1 : Int32)) I L
      else
        some (.inl (y4, y6, y8))
set_option maxRecDepth 100000 in
set_option maxHeartbeats 4000000 in
theorem lX12_meet_73 {g : GG} {n d : Nat} {tw dr sk tl ff : Nat} (hG : RG tw dr sk tl ff) (hn : 116 ≤ n) {P : PP} : ∀ (fu : Nat) (y3 : Int32) (y4 : Int64) (y6 : Int64) (y8 : Int32) (I : HI) (L : HL) (res : (Int64 × Int64 × Int32) ⊕ (Int32)), fX12_meet_73 fu y3 y4 y6 y8 I L = some res → (∀ a, res = .inl a → V g mX12_meet (d + 8) 0 0 n (RT tw dr sk tl ff) I L 90 [none, none, none, some (.int y3), some (.long a.1), none, some (.long a.2.1), none, some (.int a.2.2)] [] P) → (∀ b, res = .inr b → P (some (.int b)) n (RT tw dr sk tl ff) I L) → V g mX12_meet (d + 8) 0 0 n (RT tw dr sk tl ff) I L 73 [some (.ref 73), none, none, some (.int y3), some (.long y4), none, some (.long y6), none, some (.int y8)] [] P := by
  intro fu
  induction fu with
  | zero => intro y3 y4 y6 y8 I L res hf; cases (show none = some res from hf)
  | succ fu ih =>
    intro y3 y4 y6 y8 I L res hf K1 K2
    refine V_iload (pc := 73) dX12_meet_73 rfl rfl ?_
    refine V_bipush (pc := 75) dX12_meet_75 bp_48 rfl ?_
    refine V_icmp_gt (pc := 77) (tgt := 143) dX12_meet_77 (by decide) rfl (fun hc => ?_) (fun hc => ?_)
    · replace hf := (if_pos hc).symm.trans hf
      refine V_iconst (pc := 143) dX12_meet_143 ic_m1 rfl ?_
      cases hf
      exact V_iret (pc := 144) dX12_meet_144 rfl (K2 _ rfl)
    · replace hf := (if_neg hc).symm.trans hf
      refine V_lload (pc := 80) dX12_meet_80 rfl rfl ?_
      refine V_lload (pc := 82) dX12_meet_82 rfl rfl ?_
      refine V_land (pc := 84) dX12_meet_84 rfl ?_
      refine V_lconst (pc := 85) dX12_meet_85 lc_0 rfl ?_
      refine V_lc_eq (pc := 86) (tgt := 108) dX12_meet_86 rfl dX12_meet_87 (by decide) rfl (fun hc => ?_) (fun hc => ?_)
      · replace hf := (if_pos hc).symm.trans hf
        refine V_iload (pc := 108) dX12_meet_108 rfl rfl ?_
        refine V_bipush (pc := 110) dX12_meet_110 bp_48 rfl ?_
        refine V_icmp_ne (pc := 112) (tgt := 117) dX12_meet_112 (by decide) rfl (fun hc => ?_) (fun hc => ?_)
        · replace hf := (if_neg hc).symm.trans hf
          refine V_aload_n (pc := 117) dX12_meet_117 rfl rfl rfl ?_
          refine V_lload (pc := 118) dX12_meet_118 rfl rfl ?_
          refine V_iload (pc := 120) dX12_meet_120 rfl rfl ?_
          obtain ⟨q9, hq9, hf⟩ := bnd hf
          refine V_cVl (md' := mX12_goOn) (pc := 122) dX12_meet_122 mlX12_530 mVX12_goOn (tX12_goOn hG hn hq9) rfl (by omega) (congrArg Prod.fst sh_73) rfl (Nat.le_of_ble_eq_true rfl) rfl ?_
          refine V_lstore (ls' := [some _, none, none, some _, some _, none, some _, none, some _]) (pc := 125) dX12_meet_125 (Nat.le_of_ble_eq_true rfl) rfl rfl ?_
          refine V_aload_n (pc := 127) dX12_meet_127 rfl rfl rfl ?_
          refine V_lload (pc := 128) dX12_meet_128 rfl rfl ?_
          refine V_iload (pc := 130) dX12_meet_130 rfl rfl ?_
          obtain ⟨q10, hq10, hf⟩ := bnd hf
          refine V_cVl (md' := mX12_goOn) (pc := 132) dX12_meet_132 mlX12_530 mVX12_goOn (tX12_goOn hG hn hq10) rfl (by omega) (congrArg Prod.fst sh_73) rfl (Nat.le_of_ble_eq_true rfl) rfl ?_
          refine V_lstore (ls' := [some _, none, none, some _, some _, none, some _, none, some _]) (pc := 135) dX12_meet_135 (Nat.le_of_ble_eq_true rfl) rfl rfl ?_
          refine V_iinc (ls' := [some _, none, none, some _, some _, none, some _, none, some _]) (pc := 137) dX12_meet_137 rfl (Nat.le_of_ble_eq_true rfl) (congrArg _ ic_1) rfl rfl ?_
          refine V_goto (pc := 140) (tgt := 73) dX12_meet_140 (by decide) ?_
          exact V_wk (ih _ _ _ _ _ _ _ hf K1 K2) ⟨rfl, ⟨rfl, ⟨rfl, ⟨rfl, ⟨rfl, trivial⟩⟩⟩⟩⟩
        · replace hf := (if_pos hc).symm.trans hf
          refine V_iconst (pc := 115) dX12_meet_115 ic_m1 rfl ?_
          cases hf
          exact V_iret (pc := 116) dX12_meet_116 rfl (K2 _ rfl)
      · replace hf := (if_neg hc).symm.trans hf
        cases hf
        exact V_wk (K1 _ rfl) ⟨rfl, ⟨rfl, ⟨rfl, ⟨rfl, trivial⟩⟩⟩⟩
noncomputable def fX12_meet (v1 : Int32) (v2 : Int32) (v3 : Int32) (I : HI) (L : HL) : Option (Int32 × HI × HL) :=
  Option.bind (
    if (b2i (fX12_isPerson v1 I)) = 0 then
      some true
    else
      if (b2i (fX12_isPerson v2 I)) = 0 then
        some true
      else
        if v1 = v2 then
          some true
        else
          if (b2i (fX12_isIn v3 (0 : Int32) (1 : Int32))) = 0 then
            some true
          else
            some false
  ) fun b1 =>
  if b1 = true then
    some ((-1 : Int32), I, L)
  else
    Option.bind (fX12_load (0 : Int32) I) fun q2 =>
    if inb (8 : Int32) 10 = true then
      Option.bind (fX12_layHours (q2 99 (8 : Int32).toNatClampNeg) (48 : Int32) q2 L) fun q4 =>
      if inb v1 10 = true then
        let x6 : Int64 := ((1 : Int64) <<< ((q4.1 99 v1.toNatClampNeg).toInt64 &&& 63))
        if inb v2 10 = true then
          let x8 : Int64 := ((1 : Int64) <<< ((q4.1 99 v2.toNatClampNeg).toInt64 &&& 63))
          Option.bind (fX12_meet_73 FUEL v3 x6 x8 (0 : Int32) q4.1 q4.2) fun q11 => match q11 with
          | .inl a12 =>
            if v3 = 0 then
              some (a12.2.2, q4.1, q4.2)
            else
              Option.bind (fX12_leastOf (a12.1 &&& a12.2.1)) fun q14 =>
              some (q14, q4.1, q4.2)
          | .inr b13 =>
            some (b13, q4.1, q4.2)
        else none
      else none
    else none
set_option maxRecDepth 100000 in
set_option maxHeartbeats 4000000 in
theorem tX12_meet {g : GG} {n d : Nat} {tw dr sk tl ff : Nat} (hG : RG tw dr sk tl ff) (hn : 116 ≤ n) {v1 : Int32} {v2 : Int32} {v3 : Int32} {I : HI} {L : HL} {res : Int32 × HI × HL} (hf : fX12_meet v1 v2 v3 I L = some res) : CT g mX12_meet (d + 8) 0 0 n (RT tw dr sk tl ff) I L [.ref 73, .int v1, .int v2, .int v3] (PoI n (RT tw dr sk tl ff) res.1 res.2.1 res.2.2) := by
  refine CT.of rfl (Nat.le_of_ble_eq_true rfl) ?_
  show V g mX12_meet (d + 8) 0 0 n (RT tw dr sk tl ff) I L 0 [some (.ref 73), some (.int v1), some (.int v2), some (.int v3)] [] (PoI n (RT tw dr sk tl ff) res.1 res.2.1 res.2.2)
  refine V_aload_n (pc := 0) dX12_meet_0 rfl rfl rfl ?_
  refine V_iload_n (pc := 1) dX12_meet_1 rfl rfl rfl ?_
  refine V_cVz (md' := mX12_isPerson) (pc := 2) dX12_meet_2 mlX12_511 mVX12_isPerson (tX12_isPerson hG hn rfl) rfl (by omega) (congrArg Prod.fst sh_73) rfl (Nat.le_of_ble_eq_true rfl) rfl ?_
  obtain ⟨b1, hb1, hf⟩ := bnd hf
  have KTb1 : b1 = true → V g mX12_meet (d + 8) 0 0 n (RT tw dr sk tl ff) I L 30 [some (.ref 73), some (.int v1), some (.int v2), some (.int v3)] [] (PoI n (RT tw dr sk tl ff) res.1 res.2.1 res.2.2) := fun hc => by
    replace hf := (if_pos hc).symm.trans hf
    refine V_iconst (pc := 30) dX12_meet_30 ic_m1 rfl ?_
    cases hf
    exact V_iret (pc := 31) dX12_meet_31 rfl PoI_mk
  have KFb1 : ¬ b1 = true → V g mX12_meet (d + 8) 0 0 n (RT tw dr sk tl ff) I L 32 [some (.ref 73), some (.int v1), some (.int v2), some (.int v3)] [] (PoI n (RT tw dr sk tl ff) res.1 res.2.1 res.2.2) := fun hc => by
    replace hf := (if_neg hc).symm.trans hf
    refine V_aload_n (pc := 32) dX12_meet_32 rfl rfl rfl ?_
    refine V_iconst (pc := 33) dX12_meet_33 ic_0 rfl ?_
    obtain ⟨q2, hq2, hf⟩ := bnd hf
    refine V_cVv (md' := mX12_load) (pc := 34) dX12_meet_34 mlX12_505 mVX12_load (tX12_load hG hn hq2) rfl (by omega) (congrArg Prod.fst sh_73) rfl (Nat.le_of_ble_eq_true rfl) rfl ?_
    refine V_aload_n (pc := 37) dX12_meet_37 rfl rfl rfl ?_
    refine V_aload_n (pc := 38) dX12_meet_38 rfl rfl rfl ?_
    refine V_getR (pc := 39) dX12_meet_39 flX12_96 rfl (by omega) (congrArg Prod.fst sh_73) rt_73_63 rfl ?_
    refine V_bipush (pc := 42) dX12_meet_42 bp_8 rfl ?_
    obtain ⟨hc3, hf⟩ := pif hf
    refine V_iald (pc := 44) dX12_meet_44 (by omega) sh_99 hc3 rfl ?_
    refine V_bipush (pc := 45) dX12_meet_45 bp_48 rfl ?_
    obtain ⟨q4, hq4, hf⟩ := bnd hf
    refine V_cVv (md' := mX12_layHours) (pc := 47) dX12_meet_47 mlX12_527 mVX12_layHours (tX12_layHours hG hn hq4) rfl (by omega) (congrArg Prod.fst sh_73) rfl (Nat.le_of_ble_eq_true rfl) rfl ?_
    refine V_lconst (pc := 50) dX12_meet_50 lc_1 rfl ?_
    refine V_aload_n (pc := 51) dX12_meet_51 rfl rfl rfl ?_
    refine V_getR (pc := 52) dX12_meet_52 flX12_96 rfl (by omega) (congrArg Prod.fst sh_73) rt_73_63 rfl ?_
    refine V_iload_n (pc := 55) dX12_meet_55 rfl rfl rfl ?_
    obtain ⟨hc5, hf⟩ := pif hf
    refine V_iald (pc := 56) dX12_meet_56 (by omega) sh_99 hc5 rfl ?_
    refine V_lshl (pc := 57) dX12_meet_57 rfl ?_
    let x6 : Int64 := ((1 : Int64) <<< ((q4.1 99 v1.toNatClampNeg).toInt64 &&& 63))
    refine V_lstore (ls' := [some _, some _, some _, some _, some _, none]) (pc := 58) dX12_meet_58 (Nat.le_of_ble_eq_true rfl) rfl rfl ?_
    refine V_lconst (pc := 60) dX12_meet_60 lc_1 rfl ?_
    refine V_aload_n (pc := 61) dX12_meet_61 rfl rfl rfl ?_
    refine V_getR (pc := 62) dX12_meet_62 flX12_96 rfl (by omega) (congrArg Prod.fst sh_73) rt_73_63 rfl ?_
    refine V_iload_n (pc := 65) dX12_meet_65 rfl rfl rfl ?_
    obtain ⟨hc7, hf⟩ := pif hf
    refine V_iald (pc := 66) dX12_meet_66 (by omega) sh_99 hc7 rfl ?_
    refine V_lshl (pc := 67) dX12_meet_67 rfl ?_
    let x8 : Int64 := ((1 : Int64) <<< ((q4.1 99 v2.toNatClampNeg).toInt64 &&& 63))
    refine V_lstore (ls' := [some _, some _, some _, some _, some _, none, some _, none]) (pc := 68) dX12_meet_68 (Nat.le_of_ble_eq_true rfl) rfl rfl ?_
    refine V_iconst (pc := 70) dX12_meet_70 ic_0 rfl ?_
    refine V_istore (ls' := [some _, some _, some _, some _, some _, none, some _, none, some _]) (pc := 71) dX12_meet_71 (Nat.le_of_ble_eq_true rfl) rfl rfl ?_
    obtain ⟨q11, hq11, hf⟩ := bnd hf
    refine V_wk (lX12_meet_73 hG hn FUEL _ _ _ _ _ _ _ hq11 (fun a12 ha12 => ?_) (fun b13 hb13 => ?_)) ⟨rfl, ⟨rfl, ⟨rfl, ⟨rfl, ⟨rfl, trivial⟩⟩⟩⟩⟩
    · subst ha12
      refine V_iload_n (pc := 90) dX12_meet_90 rfl rfl rfl ?_
      refine V_if_ne (pc := 91) (tgt := 99) dX12_meet_91 (by decide) rfl (fun hc => ?_) (fun hc => ?_)
      · replace hf := (if_neg hc).symm.trans hf
        refine V_lload (pc := 99) dX12_meet_99 rfl rfl ?_
        refine V_lload (pc := 101) dX12_meet_101 rfl rfl ?_
        refine V_land (pc := 103) dX12_meet_103 rfl ?_
        obtain ⟨q14, hq14, hf⟩ := bnd hf
        refine V_cSi (md' := mX12_leastOf) (pc := 104) dX12_meet_104 mlX12_534 mSX12_leastOf (tX12_leastOf hq14) rfl rfl (Nat.le_of_ble_eq_true rfl) rfl ?_
        cases hf
        exact V_iret (pc := 107) dX12_meet_107 rfl PoI_mk
      · replace hf := (if_pos hc).symm.trans hf
        refine V_iload (pc := 94) dX12_meet_94 rfl rfl ?_
        refine V_goto (pc := 96) (tgt := 107) dX12_meet_96 (by decide) ?_
        cases hf
        exact V_iret (pc := 107) dX12_meet_107 rfl PoI_mk
    · subst hb13
      cases hf
      exact PoI_mk
  refine V_if_eq (pc := 5) (tgt := 30) dX12_meet_5 (by decide) rfl (fun hc => ?_) (fun hc => ?_)
  · replace hb1 := (if_pos hc).symm.trans hb1
    cases hb1
    exact KTb1 rfl
  · replace hb1 := (if_neg hc).symm.trans hb1
    refine V_aload_n (pc := 8) dX12_meet_8 rfl rfl rfl ?_
    refine V_iload_n (pc := 9) dX12_meet_9 rfl rfl rfl ?_
    refine V_cVz (md' := mX12_isPerson) (pc := 10) dX12_meet_10 mlX12_511 mVX12_isPerson (tX12_isPerson hG hn rfl) rfl (by omega) (congrArg Prod.fst sh_73) rfl (Nat.le_of_ble_eq_true rfl) rfl ?_
    refine V_if_eq (pc := 13) (tgt := 30) dX12_meet_13 (by decide) rfl (fun hc => ?_) (fun hc => ?_)
    · replace hb1 := (if_pos hc).symm.trans hb1
      cases hb1
      exact KTb1 rfl
    · replace hb1 := (if_neg hc).symm.trans hb1
      refine V_iload_n (pc := 16) dX12_meet_16 rfl rfl rfl ?_
      refine V_iload_n (pc := 17) dX12_meet_17 rfl rfl rfl ?_
      refine V_icmp_eq (pc := 18) (tgt := 30) dX12_meet_18 (by decide) rfl (fun hc => ?_) (fun hc => ?_)
      · replace hb1 := (if_pos hc).symm.trans hb1
        cases hb1
        exact KTb1 rfl
      · replace hb1 := (if_neg hc).symm.trans hb1
        refine V_iload_n (pc := 21) dX12_meet_21 rfl rfl rfl ?_
        refine V_iconst (pc := 22) dX12_meet_22 ic_0 rfl ?_
        refine V_iconst (pc := 23) dX12_meet_23 ic_1 rfl ?_
        refine V_cSz (md' := mX12_isIn) (pc := 24) dX12_meet_24 mlX12_436 mSX12_isIn (tX12_isIn rfl) rfl rfl (Nat.le_of_ble_eq_true rfl) rfl ?_
        refine V_if_ne (pc := 27) (tgt := 32) dX12_meet_27 (by decide) rfl (fun hc => ?_) (fun hc => ?_)
        · replace hb1 := (if_neg hc).symm.trans hb1
          cases hb1
          exact KFb1 (nbt rfl)
        · replace hb1 := (if_pos hc).symm.trans hb1
          cases hb1
          exact KTb1 rfl
/-! ShadowDoorsModel.barred -/
noncomputable def fX12_barred_39 : Nat → Int32 → Int32 → Int64 → Int32 → HI → HL → Option (Int64)
  | 0, _, _, _, _, _, _ => none
  | fu + 1, y1, y2, y3, y5, I, L =>
    if ((I 73 52) * (I 73 53)) ≤ y5 then
      some y3
    else
      Option.bind (
        if (b2i (fX12_has (L 73 44) y5)) = 0 then
          Option.bind (fX12_reachOf y5 y2 I L) fun q6 =>
          if (b2i (fX12_has q6 y1)) = 0 then
            some false
          else
            some true
        else
          some true
      ) fun b5 =>
      if b5 = true then
        fX12_barred_39 fu y1 y2 y3 (y5 + (1 : Int32)) I L
      else
        let x7 : Int64 := (y3 ||| ((1 : Int64) <<< (y5.toInt64 &&& 63)))
        fX12_barred_39 fu y1 y2 x7 (y5 + (1 : Int32)) I L
set_option maxRecDepth 100000 in
set_option maxHeartbeats 4000000 in
theorem lX12_barred_39 {g : GG} {n d : Nat} {tw dr sk tl ff : Nat} (hG : RG tw dr sk tl ff) (hn : 116 ≤ n) {P : PP} : ∀ (fu : Nat) (y1 : Int32) (y2 : Int32) (y3 : Int64) (y5 : Int32) (I : HI) (L : HL) (res : Int64), fX12_barred_39 fu y1 y2 y3 y5 I L = some res → P (some (.long res)) n (RT tw dr sk tl ff) I L → V g mX12_barred (d + 8) 0 0 n (RT tw dr sk tl ff) I L 39 [some (.ref 73), some (.int y1), some (.int y2), some (.long y3), none, some (.int y5)] [] P := by
  intro fu
  induction fu with
  | zero => intro y1 y2 y3 y5 I L res hf; cases (show none = some res from hf)
  | succ fu ih =>
    intro y1 y2 y3 y5 I L res hf K
    refine V_iload (pc := 39) dX12_barred_39 rfl rfl ?_
    refine V_aload_n (pc := 41) dX12_barred_41 rfl rfl rfl ?_
    refine V_getI (pc := 42) dX12_barred_42 flX12_90 rfl (by omega) (congrArg Prod.fst sh_73) rfl ?_
    refine V_aload_n (pc := 45) dX12_barred_45 rfl rfl rfl ?_
    refine V_getI (pc := 46) dX12_barred_46 flX12_93 rfl (by omega) (congrArg Prod.fst sh_73) rfl ?_
    refine V_imul (pc := 49) dX12_barred_49 rfl ?_
    refine V_icmp_ge (pc := 50) (tgt := 92) dX12_barred_50 (by decide) rfl (fun hc => ?_) (fun hc => ?_)
    · replace hf := (if_pos hc).symm.trans hf
      refine V_lload_n (pc := 92) dX12_barred_92 rfl rfl rfl ?_
      cases hf
      exact V_lret (pc := 93) dX12_barred_93 rfl K
    · replace hf := (if_neg hc).symm.trans hf
      refine V_aload_n (pc := 53) dX12_barred_53 rfl rfl rfl ?_
      refine V_getL (pc := 54) dX12_barred_54 flX12_403 rfl (by omega) (congrArg Prod.fst sh_73) rfl ?_
      refine V_iload (pc := 57) dX12_barred_57 rfl rfl ?_
      refine V_cSz (md' := mX12_has) (pc := 59) dX12_barred_59 mlX12_330 mSX12_has (tX12_has rfl) rfl rfl (Nat.le_of_ble_eq_true rfl) rfl ?_
      obtain ⟨b5, hb5, hf⟩ := bnd hf
      have KTb5 : b5 = true → V g mX12_barred (d + 8) 0 0 n (RT tw dr sk tl ff) I L 86 [some (.ref 73), some (.int y1), some (.int y2), some (.long y3), none, some (.int y5)] [] P := fun hc => by
        replace hf := (if_pos hc).symm.trans hf
        refine V_iinc (ls' := [some _, some _, some _, some _, none, some _]) (pc := 86) dX12_barred_86 rfl (Nat.le_of_ble_eq_true rfl) (congrArg _ ic_1) rfl rfl ?_
        refine V_goto (pc := 89) (tgt := 39) dX12_barred_89 (by decide) ?_
        exact V_wk (ih _ _ _ _ _ _ _ hf K) ⟨rfl, ⟨rfl, ⟨rfl, ⟨rfl, ⟨rfl, trivial⟩⟩⟩⟩⟩
      have KFb5 : ¬ b5 = true → V g mX12_barred (d + 8) 0 0 n (RT tw dr sk tl ff) I L 79 [some (.ref 73), some (.int y1), some (.int y2), some (.long y3), none, some (.int y5)] [] P := fun hc => by
        replace hf := (if_neg hc).symm.trans hf
        refine V_lload_n (pc := 79) dX12_barred_79 rfl rfl rfl ?_
        refine V_lconst (pc := 80) dX12_barred_80 lc_1 rfl ?_
        refine V_iload (pc := 81) dX12_barred_81 rfl rfl ?_
        refine V_lshl (pc := 83) dX12_barred_83 rfl ?_
        refine V_lor (pc := 84) dX12_barred_84 rfl ?_
        let x7 : Int64 := (y3 ||| ((1 : Int64) <<< (y5.toInt64 &&& 63)))
        refine V_lstore_n (ls' := [some _, some _, some _, some _, none, some _]) (pc := 85) dX12_barred_85 rfl (Nat.le_of_ble_eq_true rfl) rfl rfl ?_
        refine V_iinc (ls' := [some _, some _, some _, some _, none, some _]) (pc := 86) dX12_barred_86 rfl (Nat.le_of_ble_eq_true rfl) (congrArg _ ic_1) rfl rfl ?_
        refine V_goto (pc := 89) (tgt := 39) dX12_barred_89 (by decide) ?_
        exact V_wk (ih _ _ _ _ _ _ _ hf K) ⟨rfl, ⟨rfl, ⟨rfl, ⟨rfl, ⟨rfl, trivial⟩⟩⟩⟩⟩
      refine V_if_ne (pc := 62) (tgt := 86) dX12_barred_62 (by decide) rfl (fun hc => ?_) (fun hc => ?_)
      · replace hb5 := (if_neg hc).symm.trans hb5
        cases hb5
        exact KTb5 rfl
      · replace hb5 := (if_pos hc).symm.trans hb5
        refine V_aload_n (pc := 65) dX12_barred_65 rfl rfl rfl ?_
        refine V_iload (pc := 66) dX12_barred_66 rfl rfl ?_
        refine V_iload_n (pc := 68) dX12_barred_68 rfl rfl rfl ?_
        obtain ⟨q6, hq6, hb5⟩ := bnd hb5
        refine V_cVl (md' := mX12_reachOf) (pc := 69) dX12_barred_69 mlX12_537 mVX12_reachOf (tX12_reachOf hG hn hq6) rfl (by omega) (congrArg Prod.fst sh_73) rfl (Nat.le_of_ble_eq_true rfl) rfl ?_
        refine V_iload_n (pc := 72) dX12_barred_72 rfl rfl rfl ?_
        refine V_cSz (md' := mX12_has) (pc := 73) dX12_barred_73 mlX12_330 mSX12_has (tX12_has rfl) rfl rfl (Nat.le_of_ble_eq_true rfl) rfl ?_
        refine V_if_ne (pc := 76) (tgt := 86) dX12_barred_76 (by decide) rfl (fun hc => ?_) (fun hc => ?_)
        · replace hb5 := (if_neg hc).symm.trans hb5
          cases hb5
          exact KTb5 rfl
        · replace hb5 := (if_pos hc).symm.trans hb5
          cases hb5
          exact KFb5 (nbt rfl)
noncomputable def fX12_barred (v1 : Int32) (v2 : Int32) (I : HI) (L : HL) : Option (Int64 × HI × HL) :=
  Option.bind (
    if (b2i (fX12_isFree v1 I L)) = 0 then
      some true
    else
      if (b2i (fX12_isFar v2)) = 0 then
        some true
      else
        some false
  ) fun b1 =>
  if b1 = true then
    some ((0 : Int64), I, L)
  else
    Option.bind (fX12_load (0 : Int32) I) fun q2 =>
    if inb (8 : Int32) 10 = true then
      Option.bind (fX12_layHours (q2 99 (8 : Int32).toNatClampNeg) v2 q2 L) fun q4 =>
      Option.bind (fX12_barred_39 FUEL v1 v2 (0 : Int64) (0 : Int32) q4.1 q4.2) fun q8 =>
      some (q8, q4.1, q4.2)
    else none
set_option maxRecDepth 100000 in
set_option maxHeartbeats 4000000 in
theorem tX12_barred {g : GG} {n d : Nat} {tw dr sk tl ff : Nat} (hG : RG tw dr sk tl ff) (hn : 116 ≤ n) {v1 : Int32} {v2 : Int32} {I : HI} {L : HL} {res : Int64 × HI × HL} (hf : fX12_barred v1 v2 I L = some res) : CT g mX12_barred (d + 8) 0 0 n (RT tw dr sk tl ff) I L [.ref 73, .int v1, .int v2] (PoL n (RT tw dr sk tl ff) res.1 res.2.1 res.2.2) := by
  refine CT.of rfl (Nat.le_of_ble_eq_true rfl) ?_
  show V g mX12_barred (d + 8) 0 0 n (RT tw dr sk tl ff) I L 0 [some (.ref 73), some (.int v1), some (.int v2)] [] (PoL n (RT tw dr sk tl ff) res.1 res.2.1 res.2.2)
  refine V_aload_n (pc := 0) dX12_barred_0 rfl rfl rfl ?_
  refine V_iload_n (pc := 1) dX12_barred_1 rfl rfl rfl ?_
  refine V_cVz (md' := mX12_isFree) (pc := 2) dX12_barred_2 mlX12_518 mVX12_isFree (tX12_isFree hG hn rfl) rfl (by omega) (congrArg Prod.fst sh_73) rfl (Nat.le_of_ble_eq_true rfl) rfl ?_
  obtain ⟨b1, hb1, hf⟩ := bnd hf
  have KTb1 : b1 = true → V g mX12_barred (d + 8) 0 0 n (RT tw dr sk tl ff) I L 15 [some (.ref 73), some (.int v1), some (.int v2)] [] (PoL n (RT tw dr sk tl ff) res.1 res.2.1 res.2.2) := fun hc => by
    replace hf := (if_pos hc).symm.trans hf
    refine V_lconst (pc := 15) dX12_barred_15 lc_0 rfl ?_
    cases hf
    exact V_lret (pc := 16) dX12_barred_16 rfl PoL_mk
  have KFb1 : ¬ b1 = true → V g mX12_barred (d + 8) 0 0 n (RT tw dr sk tl ff) I L 17 [some (.ref 73), some (.int v1), some (.int v2)] [] (PoL n (RT tw dr sk tl ff) res.1 res.2.1 res.2.2) := fun hc => by
    replace hf := (if_neg hc).symm.trans hf
    refine V_aload_n (pc := 17) dX12_barred_17 rfl rfl rfl ?_
    refine V_iconst (pc := 18) dX12_barred_18 ic_0 rfl ?_
    obtain ⟨q2, hq2, hf⟩ := bnd hf
    refine V_cVv (md' := mX12_load) (pc := 19) dX12_barred_19 mlX12_505 mVX12_load (tX12_load hG hn hq2) rfl (by omega) (congrArg Prod.fst sh_73) rfl (Nat.le_of_ble_eq_true rfl) rfl ?_
    refine V_aload_n (pc := 22) dX12_barred_22 rfl rfl rfl ?_
    refine V_aload_n (pc := 23) dX12_barred_23 rfl rfl rfl ?_
    refine V_getR (pc := 24) dX12_barred_24 flX12_96 rfl (by omega) (congrArg Prod.fst sh_73) rt_73_63 rfl ?_
    refine V_bipush (pc := 27) dX12_barred_27 bp_8 rfl ?_
    obtain ⟨hc3, hf⟩ := pif hf
    refine V_iald (pc := 29) dX12_barred_29 (by omega) sh_99 hc3 rfl ?_
    refine V_iload_n (pc := 30) dX12_barred_30 rfl rfl rfl ?_
    obtain ⟨q4, hq4, hf⟩ := bnd hf
    refine V_cVv (md' := mX12_layHours) (pc := 31) dX12_barred_31 mlX12_527 mVX12_layHours (tX12_layHours hG hn hq4) rfl (by omega) (congrArg Prod.fst sh_73) rfl (Nat.le_of_ble_eq_true rfl) rfl ?_
    refine V_lconst (pc := 34) dX12_barred_34 lc_0 rfl ?_
    refine V_lstore_n (ls' := [some _, some _, some _, some _, none]) (pc := 35) dX12_barred_35 rfl (Nat.le_of_ble_eq_true rfl) rfl rfl ?_
    refine V_iconst (pc := 36) dX12_barred_36 ic_0 rfl ?_
    refine V_istore (ls' := [some _, some _, some _, some _, none, some _]) (pc := 37) dX12_barred_37 (Nat.le_of_ble_eq_true rfl) rfl rfl ?_
    obtain ⟨q8, hq8, hf⟩ := bnd hf
    refine V_wk (lX12_barred_39 hG hn FUEL _ _ _ _ _ _ _ hq8 ?_) ⟨rfl, ⟨rfl, ⟨rfl, ⟨rfl, ⟨rfl, trivial⟩⟩⟩⟩⟩
    cases hf
    exact PoL_mk
  refine V_if_eq (pc := 5) (tgt := 15) dX12_barred_5 (by decide) rfl (fun hc => ?_) (fun hc => ?_)
  · replace hb1 := (if_pos hc).symm.trans hb1
    cases hb1
    exact KTb1 rfl
  · replace hb1 := (if_neg hc).symm.trans hb1
    refine V_iload_n (pc := 8) dX12_barred_8 rfl rfl rfl ?_
    refine V_cSz (md' := mX12_isFar) (pc := 9) dX12_barred_9 mlX12_514 mSX12_isFar (tX12_isFar rfl) rfl rfl (Nat.le_of_ble_eq_true rfl) rfl ?_
    refine V_if_ne (pc := 12) (tgt := 17) dX12_barred_12 (by decide) rfl (fun hc => ?_) (fun hc => ?_)
    · replace hb1 := (if_neg hc).symm.trans hb1
      cases hb1
      exact KFb1 (nbt rfl)
    · replace hb1 := (if_pos hc).symm.trans hb1
      cases hb1
      exact KTb1 rfl
/-! ShadowDoorsModel.longest -/
noncomputable def fX12_longest_27 : Nat → Int32 → Int32 → Int32 → Int32 → Int32 → HI → HL → Option (Int32 × Int32 × HI)
  | 0, _, _, _, _, _, _, _ => none
  | fu + 1, y1, y2, y3, y4, y5, I, L =>
    if (24 : Int32) ≤ y5 then
      some (y3, y4, I)
    else
      Option.bind (fX12_load y5 I) fun q2 =>
      Option.bind (fX12_shadowOf y1 q2 L) fun q3 =>
      Option.bind (fX12_members q3.1) fun q4 =>
      if y4 < q4 then
        fX12_longest_27 fu y1 y2 y5 q4 (y5 + (1 : Int32)) q3.2 L
      else
        fX12_longest_27 fu y1 y2 y3 y4 (y5 + (1 : Int32)) q3.2 L
set_option maxRecDepth 100000 in
set_option maxHeartbeats 4000000 in
theorem lX12_longest_27 {g : GG} {n d : Nat} {tw dr sk tl ff : Nat} (hG : RG tw dr sk tl ff) (hn : 116 ≤ n) {P : PP} : ∀ (fu : Nat) (y1 : Int32) (y2 : Int32) (y3 : Int32) (y4 : Int32) (y5 : Int32) (I : HI) (L : HL) (res : Int32 × Int32 × HI), fX12_longest_27 fu y1 y2 y3 y4 y5 I L = some res → V g mX12_longest (d + 5) 0 0 n (RT tw dr sk tl ff) res.2.2 L 73 [none, none, some (.int y2), some (.int res.1), some (.int res.2.1)] [] P → V g mX12_longest (d + 5) 0 0 n (RT tw dr sk tl ff) I L 27 [some (.ref 73), some (.int y1), some (.int y2), some (.int y3), some (.int y4), some (.int y5)] [] P := by
  intro fu
  induction fu with
  | zero => intro y1 y2 y3 y4 y5 I L res hf; cases (show none = some res from hf)
  | succ fu ih =>
    intro y1 y2 y3 y4 y5 I L res hf K
    refine V_iload (pc := 27) dX12_longest_27 rfl rfl ?_
    refine V_bipush (pc := 29) dX12_longest_29 bp_24 rfl ?_
    refine V_icmp_ge (pc := 31) (tgt := 73) dX12_longest_31 (by decide) rfl (fun hc => ?_) (fun hc => ?_)
    · replace hf := (if_pos hc).symm.trans hf
      cases hf
      exact V_wk K ⟨rfl, ⟨rfl, ⟨rfl, trivial⟩⟩⟩
    · replace hf := (if_neg hc).symm.trans hf
      refine V_aload_n (pc := 34) dX12_longest_34 rfl rfl rfl ?_
      refine V_iload (pc := 35) dX12_longest_35 rfl rfl ?_
      obtain ⟨q2, hq2, hf⟩ := bnd hf
      refine V_cVv (md' := mX12_load) (pc := 37) dX12_longest_37 mlX12_505 mVX12_load (tX12_load hG hn hq2) rfl (by omega) (congrArg Prod.fst sh_73) rfl (Nat.le_of_ble_eq_true rfl) rfl ?_
      refine V_aload_n (pc := 40) dX12_longest_40 rfl rfl rfl ?_
      refine V_iload_n (pc := 41) dX12_longest_41 rfl rfl rfl ?_
      obtain ⟨q3, hq3, hf⟩ := bnd hf
      refine V_cVl (md' := mX12_shadowOf) (pc := 42) dX12_longest_42 mlX12_480 mVX12_shadowOf (tX12_shadowOf hG hn hq3) rfl (by omega) (congrArg Prod.fst sh_73) rfl (Nat.le_of_ble_eq_true rfl) rfl ?_
      obtain ⟨q4, hq4, hf⟩ := bnd hf
      refine V_cSi (md' := mX12_members) (pc := 45) dX12_longest_45 mlX12_540 mSX12_members (tX12_members hq4) rfl rfl (Nat.le_of_ble_eq_true rfl) rfl ?_
      refine V_istore (ls' := [some _, some _, some _, some _, some _, some _, some _]) (pc := 48) dX12_longest_48 (Nat.le_of_ble_eq_true rfl) rfl rfl ?_
      refine V_iload (pc := 50) dX12_longest_50 rfl rfl ?_
      refine V_iload (pc := 52) dX12_longest_52 rfl rfl ?_
      refine V_icmp_gt (pc := 54) (tgt := 60) dX12_longest_54 (by decide) rfl (fun hc => ?_) (fun hc => ?_)
      · replace hf := (if_pos hc).symm.trans hf
        refine V_iload (pc := 60) dX12_longest_60 rfl rfl ?_
        refine V_istore_n (ls' := [some _, some _, some _, some _, some _, some _, some _]) (pc := 62) dX12_longest_62 rfl (Nat.le_of_ble_eq_true rfl) rfl rfl ?_
        refine V_iload (pc := 63) dX12_longest_63 rfl rfl ?_
        refine V_istore (ls' := [some _, some _, some _, some _, some _, some _, some _]) (pc := 65) dX12_longest_65 (Nat.le_of_ble_eq_true rfl) rfl rfl ?_
        refine V_iinc (ls' := [some _, some _, some _, some _, some _, some _, some _]) (pc := 67) dX12_longest_67 rfl (Nat.le_of_ble_eq_true rfl) (congrArg _ ic_1) rfl rfl ?_
        refine V_goto (pc := 70) (tgt := 27) dX12_longest_70 (by decide) ?_
        exact V_wk (ih _ _ _ _ _ _ _ _ hf K) ⟨rfl, ⟨rfl, ⟨rfl, ⟨rfl, ⟨rfl, ⟨rfl, trivial⟩⟩⟩⟩⟩⟩
      · replace hf := (if_neg hc).symm.trans hf
        refine V_goto (pc := 57) (tgt := 67) dX12_longest_57 (by decide) ?_
        refine V_iinc (ls' := [some _, some _, some _, some _, some _, some _, some _]) (pc := 67) dX12_longest_67 rfl (Nat.le_of_ble_eq_true rfl) (congrArg _ ic_1) rfl rfl ?_
        refine V_goto (pc := 70) (tgt := 27) dX12_longest_70 (by decide) ?_
        exact V_wk (ih _ _ _ _ _ _ _ _ hf K) ⟨rfl, ⟨rfl, ⟨rfl, ⟨rfl, ⟨rfl, ⟨rfl, trivial⟩⟩⟩⟩⟩⟩
noncomputable def fX12_longest (v1 : Int32) (v2 : Int32) (I : HI) (L : HL) : Option (Int32 × HI) :=
  Option.bind (
    if (b2i (fX12_isDoor v1 I)) = 0 then
      some true
    else
      if (b2i (fX12_isIn v2 (0 : Int32) (1 : Int32))) = 0 then
        some true
      else
        some false
  ) fun b1 =>
  if b1 = true then
    some ((-1 : Int32), I)
  else
    Option.bind (fX12_longest_27 FUEL v1 v2 (0 : Int32) (-1 : Int32) (0 : Int32) I L) fun q5 =>
    if v2 = 0 then
      some (q5.1, q5.2.2)
    else
      some (q5.2.1, q5.2.2)
set_option maxRecDepth 100000 in
set_option maxHeartbeats 4000000 in
theorem tX12_longest {g : GG} {n d : Nat} {tw dr sk tl ff : Nat} (hG : RG tw dr sk tl ff) (hn : 116 ≤ n) {v1 : Int32} {v2 : Int32} {I : HI} {L : HL} {res : Int32 × HI} (hf : fX12_longest v1 v2 I L = some res) : CT g mX12_longest (d + 5) 0 0 n (RT tw dr sk tl ff) I L [.ref 73, .int v1, .int v2] (PoI n (RT tw dr sk tl ff) res.1 res.2 L) := by
  refine CT.of rfl (Nat.le_of_ble_eq_true rfl) ?_
  show V g mX12_longest (d + 5) 0 0 n (RT tw dr sk tl ff) I L 0 [some (.ref 73), some (.int v1), some (.int v2)] [] (PoI n (RT tw dr sk tl ff) res.1 res.2 L)
  refine V_aload_n (pc := 0) dX12_longest_0 rfl rfl rfl ?_
  refine V_iload_n (pc := 1) dX12_longest_1 rfl rfl rfl ?_
  refine V_cVz (md' := mX12_isDoor) (pc := 2) dX12_longest_2 mlX12_502 mVX12_isDoor (tX12_isDoor hG hn rfl) rfl (by omega) (congrArg Prod.fst sh_73) rfl (Nat.le_of_ble_eq_true rfl) rfl ?_
  obtain ⟨b1, hb1, hf⟩ := bnd hf
  have KTb1 : b1 = true → V g mX12_longest (d + 5) 0 0 n (RT tw dr sk tl ff) I L 17 [some (.ref 73), some (.int v1), some (.int v2)] [] (PoI n (RT tw dr sk tl ff) res.1 res.2 L) := fun hc => by
    replace hf := (if_pos hc).symm.trans hf
    refine V_iconst (pc := 17) dX12_longest_17 ic_m1 rfl ?_
    cases hf
    exact V_iret (pc := 18) dX12_longest_18 rfl PoI_mk
  have KFb1 : ¬ b1 = true → V g mX12_longest (d + 5) 0 0 n (RT tw dr sk tl ff) I L 19 [some (.ref 73), some (.int v1), some (.int v2)] [] (PoI n (RT tw dr sk tl ff) res.1 res.2 L) := fun hc => by
    replace hf := (if_neg hc).symm.trans hf
    refine V_iconst (pc := 19) dX12_longest_19 ic_0 rfl ?_
    refine V_istore_n (ls' := [some _, some _, some _, some _]) (pc := 20) dX12_longest_20 rfl (Nat.le_of_ble_eq_true rfl) rfl rfl ?_
    refine V_iconst (pc := 21) dX12_longest_21 ic_m1 rfl ?_
    refine V_istore (ls' := [some _, some _, some _, some _, some _]) (pc := 22) dX12_longest_22 (Nat.le_of_ble_eq_true rfl) rfl rfl ?_
    refine V_iconst (pc := 24) dX12_longest_24 ic_0 rfl ?_
    refine V_istore (ls' := [some _, some _, some _, some _, some _, some _]) (pc := 25) dX12_longest_25 (Nat.le_of_ble_eq_true rfl) rfl rfl ?_
    obtain ⟨q5, hq5, hf⟩ := bnd hf
    refine V_wk (lX12_longest_27 hG hn FUEL _ _ _ _ _ _ _ _ hq5 ?_) ⟨rfl, ⟨rfl, ⟨rfl, ⟨rfl, ⟨rfl, ⟨rfl, trivial⟩⟩⟩⟩⟩⟩
    refine V_iload_n (pc := 73) dX12_longest_73 rfl rfl rfl ?_
    refine V_if_ne (pc := 74) (tgt := 81) dX12_longest_74 (by decide) rfl (fun hc => ?_) (fun hc => ?_)
    · replace hf := (if_neg hc).symm.trans hf
      refine V_iload (pc := 81) dX12_longest_81 rfl rfl ?_
      cases hf
      exact V_iret (pc := 83) dX12_longest_83 rfl PoI_mk
    · replace hf := (if_pos hc).symm.trans hf
      refine V_iload_n (pc := 77) dX12_longest_77 rfl rfl rfl ?_
      refine V_goto (pc := 78) (tgt := 83) dX12_longest_78 (by decide) ?_
      cases hf
      exact V_iret (pc := 83) dX12_longest_83 rfl PoI_mk
  refine V_if_eq (pc := 5) (tgt := 17) dX12_longest_5 (by decide) rfl (fun hc => ?_) (fun hc => ?_)
  · replace hb1 := (if_pos hc).symm.trans hb1
    cases hb1
    exact KTb1 rfl
  · replace hb1 := (if_neg hc).symm.trans hb1
    refine V_iload_n (pc := 8) dX12_longest_8 rfl rfl rfl ?_
    refine V_iconst (pc := 9) dX12_longest_9 ic_0 rfl ?_
    refine V_iconst (pc := 10) dX12_longest_10 ic_1 rfl ?_
    refine V_cSz (md' := mX12_isIn) (pc := 11) dX12_longest_11 mlX12_436 mSX12_isIn (tX12_isIn rfl) rfl rfl (Nat.le_of_ble_eq_true rfl) rfl ?_
    refine V_if_ne (pc := 14) (tgt := 19) dX12_longest_14 (by decide) rfl (fun hc => ?_) (fun hc => ?_)
    · replace hb1 := (if_neg hc).symm.trans hb1
      cases hb1
      exact KFb1 (nbt rfl)
    · replace hb1 := (if_pos hc).symm.trans hb1
      cases hb1
      exact KTb1 rfl
/-! ShadowDoorsModel.cross -/
noncomputable def fX12_cross_35 : Nat → Int32 → Int32 → Int32 → Int32 → HI → HL → Option ((Int32 × Int64 × HI) ⊕ (Int32 × HI))
  | 0, _, _, _, _, _, _ => none
  | fu + 1, y1, y2, y3, y4, I, L =>
    if (48 : Int32) < y4 then
      some (.inr ((-1 : Int32), I))
    else
      Option.bind (fX12_load y4 I) fun q2 =>
      Option.bind (fX12_isOpen y1 q2) fun q3 =>
      Option.bind (
        Option.bind (
          if (b2i q3) = 0 then
            some true
          else
            Option.bind (fX12_isOpen y2 q2) fun q10 =>
            if (b2i q10) = 0 then
              some true
            else
              some false
        ) fun b9 =>
        if b9 = true then
          some ((0 : Int64), q2)
        else
          Option.bind (fX12_shadowOf y1 q2 L) fun q11 =>
          Option.bind (fX12_shadowOf y2 q11.2 L) fun q12 =>
          some ((q11.1 &&& q12.1), q12.2)
      ) fun q8 =>
      if q8.1 = (0 : Int64) then
        fX12_cross_35 fu y1 y2 y3 (y4 + (1 : Int32)) q8.2 L
      else
        some (.inl (y4, q8.1, q8.2))
set_option maxRecDepth 100000 in
set_option maxHeartbeats 4000000 in
theorem lX12_cross_35 {g : GG} {n d : Nat} {tw dr sk tl ff : Nat} (hG : RG tw dr sk tl ff) (hn : 116 ≤ n) {P : PP} : ∀ (fu : Nat) (y1 : Int32) (y2 : Int32) (y3 : Int32) (y4 : Int32) (I : HI) (L : HL) (res : (Int32 × Int64 × HI) ⊕ (Int32 × HI)), fX12_cross_35 fu y1 y2 y3 y4 I L = some res → (∀ a, res = .inl a → V g mX12_cross (d + 5) 0 0 n (RT tw dr sk tl ff) a.2.2 L 88 [none, none, none, some (.int y3), some (.int a.1), some (.long a.2.1)] [] P) → (∀ b, res = .inr b → P (some (.int b.1)) n (RT tw dr sk tl ff) b.2 L) → V g mX12_cross (d + 5) 0 0 n (RT tw dr sk tl ff) I L 35 [some (.ref 73), some (.int y1), some (.int y2), some (.int y3), some (.int y4)] [] P := by
  intro fu
  induction fu with
  | zero => intro y1 y2 y3 y4 I L res hf; cases (show none = some res from hf)
  | succ fu ih =>
    intro y1 y2 y3 y4 I L res hf K1 K2
    refine V_iload (pc := 35) dX12_cross_35 rfl rfl ?_
    refine V_bipush (pc := 37) dX12_cross_37 bp_48 rfl ?_
    refine V_icmp_gt (pc := 39) (tgt := 109) dX12_cross_39 (by decide) rfl (fun hc => ?_) (fun hc => ?_)
    · replace hf := (if_pos hc).symm.trans hf
      refine V_iconst (pc := 109) dX12_cross_109 ic_m1 rfl ?_
      cases hf
      exact V_iret (pc := 110) dX12_cross_110 rfl (K2 _ rfl)
    · replace hf := (if_neg hc).symm.trans hf
      refine V_aload_n (pc := 42) dX12_cross_42 rfl rfl rfl ?_
      refine V_iload (pc := 43) dX12_cross_43 rfl rfl ?_
      obtain ⟨q2, hq2, hf⟩ := bnd hf
      refine V_cVv (md' := mX12_load) (pc := 45) dX12_cross_45 mlX12_505 mVX12_load (tX12_load hG hn hq2) rfl (by omega) (congrArg Prod.fst sh_73) rfl (Nat.le_of_ble_eq_true rfl) rfl ?_
      refine V_aload_n (pc := 48) dX12_cross_48 rfl rfl rfl ?_
      refine V_iload_n (pc := 49) dX12_cross_49 rfl rfl rfl ?_
      obtain ⟨q3, hq3, hf⟩ := bnd hf
      refine V_cVz (md' := mX12_isOpen) (pc := 50) dX12_cross_50 mlX12_487 mVX12_isOpen (tX12_isOpen hG hn hq3) rfl (by omega) (congrArg Prod.fst sh_73) rfl (Nat.le_of_ble_eq_true rfl) rfl ?_
      obtain ⟨q8, hq8, hf⟩ := bnd hf
      have Kq8 : V g mX12_cross (d + 5) 0 0 n (RT tw dr sk tl ff) q8.2 L 79 [some (.ref 73), some (.int y1), some (.int y2), some (.int y3), some (.int y4)] [.long q8.1] P := by
        refine V_lstore (ls' := [some _, some _, some _, some _, some _, some _, none]) (pc := 79) dX12_cross_79 (Nat.le_of_ble_eq_true rfl) rfl rfl ?_
        refine V_lload (pc := 81) dX12_cross_81 rfl rfl ?_
        refine V_lconst (pc := 83) dX12_cross_83 lc_0 rfl ?_
        refine V_lc_eq (pc := 84) (tgt := 103) dX12_cross_84 rfl dX12_cross_85 (by decide) rfl (fun hc => ?_) (fun hc => ?_)
        · replace hf := (if_pos hc).symm.trans hf
          refine V_iinc (ls' := [some _, some _, some _, some _, some _, some _, none]) (pc := 103) dX12_cross_103 rfl (Nat.le_of_ble_eq_true rfl) (congrArg _ ic_1) rfl rfl ?_
          refine V_goto (pc := 106) (tgt := 35) dX12_cross_106 (by decide) ?_
          exact V_wk (ih _ _ _ _ _ _ _ hf K1 K2) ⟨rfl, ⟨rfl, ⟨rfl, ⟨rfl, ⟨rfl, trivial⟩⟩⟩⟩⟩
        · replace hf := (if_neg hc).symm.trans hf
          cases hf
          exact V_wk (K1 _ rfl) ⟨rfl, ⟨rfl, ⟨rfl, trivial⟩⟩⟩
      obtain ⟨b9, hb9, hq8⟩ := bnd hq8
      have KTb9 : b9 = true → V g mX12_cross (d + 5) 0 0 n (RT tw dr sk tl ff) q2 L 78 [some (.ref 73), some (.int y1), some (.int y2), some (.int y3), some (.int y4)] [] P := fun hc => by
        replace hq8 := (if_pos hc).symm.trans hq8
        refine V_lconst (pc := 78) dX12_cross_78 lc_0 rfl ?_
        cases hq8
        exact V_wk Kq8 ⟨rfl, ⟨rfl, ⟨rfl, ⟨rfl, ⟨rfl, trivial⟩⟩⟩⟩⟩
      have KFb9 : ¬ b9 = true → V g mX12_cross (d + 5) 0 0 n (RT tw dr sk tl ff) q2 L 64 [some (.ref 73), some (.int y1), some (.int y2), some (.int y3), some (.int y4)] [] P := fun hc => by
        replace hq8 := (if_neg hc).symm.trans hq8
        refine V_aload_n (pc := 64) dX12_cross_64 rfl rfl rfl ?_
        refine V_iload_n (pc := 65) dX12_cross_65 rfl rfl rfl ?_
        obtain ⟨q11, hq11, hq8⟩ := bnd hq8
        refine V_cVl (md' := mX12_shadowOf) (pc := 66) dX12_cross_66 mlX12_480 mVX12_shadowOf (tX12_shadowOf hG hn hq11) rfl (by omega) (congrArg Prod.fst sh_73) rfl (Nat.le_of_ble_eq_true rfl) rfl ?_
        refine V_aload_n (pc := 69) dX12_cross_69 rfl rfl rfl ?_
        refine V_iload_n (pc := 70) dX12_cross_70 rfl rfl rfl ?_
        obtain ⟨q12, hq12, hq8⟩ := bnd hq8
        refine V_cVl (md' := mX12_shadowOf) (pc := 71) dX12_cross_71 mlX12_480 mVX12_shadowOf (tX12_shadowOf hG hn hq12) rfl (by omega) (congrArg Prod.fst sh_73) rfl (Nat.le_of_ble_eq_true rfl) rfl ?_
        refine V_land (pc := 74) dX12_cross_74 rfl ?_
        refine V_goto (pc := 75) (tgt := 79) dX12_cross_75 (by decide) ?_
        cases hq8
        exact V_wk Kq8 ⟨rfl, ⟨rfl, ⟨rfl, ⟨rfl, ⟨rfl, trivial⟩⟩⟩⟩⟩
      refine V_if_eq (pc := 53) (tgt := 78) dX12_cross_53 (by decide) rfl (fun hc => ?_) (fun hc => ?_)
      · replace hb9 := (if_pos hc).symm.trans hb9
        cases hb9
        exact KTb9 rfl
      · replace hb9 := (if_neg hc).symm.trans hb9
        refine V_aload_n (pc := 56) dX12_cross_56 rfl rfl rfl ?_
        refine V_iload_n (pc := 57) dX12_cross_57 rfl rfl rfl ?_
        obtain ⟨q10, hq10, hb9⟩ := bnd hb9
        refine V_cVz (md' := mX12_isOpen) (pc := 58) dX12_cross_58 mlX12_487 mVX12_isOpen (tX12_isOpen hG hn hq10) rfl (by omega) (congrArg Prod.fst sh_73) rfl (Nat.le_of_ble_eq_true rfl) rfl ?_
        refine V_if_eq (pc := 61) (tgt := 78) dX12_cross_61 (by decide) rfl (fun hc => ?_) (fun hc => ?_)
        · replace hb9 := (if_pos hc).symm.trans hb9
          cases hb9
          exact KTb9 rfl
        · replace hb9 := (if_neg hc).symm.trans hb9
          cases hb9
          exact KFb9 (nbt rfl)
noncomputable def fX12_cross (v1 : Int32) (v2 : Int32) (v3 : Int32) (I : HI) (L : HL) : Option (Int32 × HI) :=
  Option.bind (
    if (b2i (fX12_isDoor v1 I)) = 0 then
      some true
    else
      if (b2i (fX12_isDoor v2 I)) = 0 then
        some true
      else
        if v1 = v2 then
          some true
        else
          if (b2i (fX12_isIn v3 (0 : Int32) (1 : Int32))) = 0 then
            some true
          else
            some false
  ) fun b1 =>
  if b1 = true then
    some ((-1 : Int32), I)
  else
    Option.bind (fX12_cross_35 FUEL v1 v2 v3 (0 : Int32) I L) fun q13 => match q13 with
    | .inl a14 =>
      if v3 = 0 then
        some (a14.1, a14.2.2)
      else
        Option.bind (fX12_leastOf a14.2.1) fun q16 =>
        some (q16, a14.2.2)
    | .inr b15 =>
      some (b15.1, b15.2)
set_option maxRecDepth 100000 in
set_option maxHeartbeats 4000000 in
theorem tX12_cross {g : GG} {n d : Nat} {tw dr sk tl ff : Nat} (hG : RG tw dr sk tl ff) (hn : 116 ≤ n) {v1 : Int32} {v2 : Int32} {v3 : Int32} {I : HI} {L : HL} {res : Int32 × HI} (hf : fX12_cross v1 v2 v3 I L = some res) : CT g mX12_cross (d + 5) 0 0 n (RT tw dr sk tl ff) I L [.ref 73, .int v1, .int v2, .int v3] (PoI n (RT tw dr sk tl ff) res.1 res.2 L) := by
  refine CT.of rfl (Nat.le_of_ble_eq_true rfl) ?_
  show V g mX12_cross (d + 5) 0 0 n (RT tw dr sk tl ff) I L 0 [some (.ref 73), some (.int v1), some (.int v2), some (.int v3)] [] (PoI n (RT tw dr sk tl ff) res.1 res.2 L)
  refine V_aload_n (pc := 0) dX12_cross_0 rfl rfl rfl ?_
  refine V_iload_n (pc := 1) dX12_cross_1 rfl rfl rfl ?_
  refine V_cVz (md' := mX12_isDoor) (pc := 2) dX12_cross_2 mlX12_502 mVX12_isDoor (tX12_isDoor hG hn rfl) rfl (by omega) (congrArg Prod.fst sh_73) rfl (Nat.le_of_ble_eq_true rfl) rfl ?_
  obtain ⟨b1, hb1, hf⟩ := bnd hf
  have KTb1 : b1 = true → V g mX12_cross (d + 5) 0 0 n (RT tw dr sk tl ff) I L 30 [some (.ref 73), some (.int v1), some (.int v2), some (.int v3)] [] (PoI n (RT tw dr sk tl ff) res.1 res.2 L) := fun hc => by
    replace hf := (if_pos hc).symm.trans hf
    refine V_iconst (pc := 30) dX12_cross_30 ic_m1 rfl ?_
    cases hf
    exact V_iret (pc := 31) dX12_cross_31 rfl PoI_mk
  have KFb1 : ¬ b1 = true → V g mX12_cross (d + 5) 0 0 n (RT tw dr sk tl ff) I L 32 [some (.ref 73), some (.int v1), some (.int v2), some (.int v3)] [] (PoI n (RT tw dr sk tl ff) res.1 res.2 L) := fun hc => by
    replace hf := (if_neg hc).symm.trans hf
    refine V_iconst (pc := 32) dX12_cross_32 ic_0 rfl ?_
    refine V_istore (ls' := [some _, some _, some _, some _, some _]) (pc := 33) dX12_cross_33 (Nat.le_of_ble_eq_true rfl) rfl rfl ?_
    obtain ⟨q13, hq13, hf⟩ := bnd hf
    refine V_wk (lX12_cross_35 hG hn FUEL _ _ _ _ _ _ _ hq13 (fun a14 ha14 => ?_) (fun b15 hb15 => ?_)) ⟨rfl, ⟨rfl, ⟨rfl, ⟨rfl, ⟨rfl, trivial⟩⟩⟩⟩⟩
    · subst ha14
      refine V_iload_n (pc := 88) dX12_cross_88 rfl rfl rfl ?_
      refine V_if_ne (pc := 89) (tgt := 97) dX12_cross_89 (by decide) rfl (fun hc => ?_) (fun hc => ?_)
      · replace hf := (if_neg hc).symm.trans hf
        refine V_lload (pc := 97) dX12_cross_97 rfl rfl ?_
        obtain ⟨q16, hq16, hf⟩ := bnd hf
        refine V_cSi (md' := mX12_leastOf) (pc := 99) dX12_cross_99 mlX12_534 mSX12_leastOf (tX12_leastOf hq16) rfl rfl (Nat.le_of_ble_eq_true rfl) rfl ?_
        cases hf
        exact V_iret (pc := 102) dX12_cross_102 rfl PoI_mk
      · replace hf := (if_pos hc).symm.trans hf
        refine V_iload (pc := 92) dX12_cross_92 rfl rfl ?_
        refine V_goto (pc := 94) (tgt := 102) dX12_cross_94 (by decide) ?_
        cases hf
        exact V_iret (pc := 102) dX12_cross_102 rfl PoI_mk
    · subst hb15
      cases hf
      exact PoI_mk
  refine V_if_eq (pc := 5) (tgt := 30) dX12_cross_5 (by decide) rfl (fun hc => ?_) (fun hc => ?_)
  · replace hb1 := (if_pos hc).symm.trans hb1
    cases hb1
    exact KTb1 rfl
  · replace hb1 := (if_neg hc).symm.trans hb1
    refine V_aload_n (pc := 8) dX12_cross_8 rfl rfl rfl ?_
    refine V_iload_n (pc := 9) dX12_cross_9 rfl rfl rfl ?_
    refine V_cVz (md' := mX12_isDoor) (pc := 10) dX12_cross_10 mlX12_502 mVX12_isDoor (tX12_isDoor hG hn rfl) rfl (by omega) (congrArg Prod.fst sh_73) rfl (Nat.le_of_ble_eq_true rfl) rfl ?_
    refine V_if_eq (pc := 13) (tgt := 30) dX12_cross_13 (by decide) rfl (fun hc => ?_) (fun hc => ?_)
    · replace hb1 := (if_pos hc).symm.trans hb1
      cases hb1
      exact KTb1 rfl
    · replace hb1 := (if_neg hc).symm.trans hb1
      refine V_iload_n (pc := 16) dX12_cross_16 rfl rfl rfl ?_
      refine V_iload_n (pc := 17) dX12_cross_17 rfl rfl rfl ?_
      refine V_icmp_eq (pc := 18) (tgt := 30) dX12_cross_18 (by decide) rfl (fun hc => ?_) (fun hc => ?_)
      · replace hb1 := (if_pos hc).symm.trans hb1
        cases hb1
        exact KTb1 rfl
      · replace hb1 := (if_neg hc).symm.trans hb1
        refine V_iload_n (pc := 21) dX12_cross_21 rfl rfl rfl ?_
        refine V_iconst (pc := 22) dX12_cross_22 ic_0 rfl ?_
        refine V_iconst (pc := 23) dX12_cross_23 ic_1 rfl ?_
        refine V_cSz (md' := mX12_isIn) (pc := 24) dX12_cross_24 mlX12_436 mSX12_isIn (tX12_isIn rfl) rfl rfl (Nat.le_of_ble_eq_true rfl) rfl ?_
        refine V_if_ne (pc := 27) (tgt := 32) dX12_cross_27 (by decide) rfl (fun hc => ?_) (fun hc => ?_)
        · replace hb1 := (if_neg hc).symm.trans hb1
          cases hb1
          exact KFb1 (nbt rfl)
        · replace hb1 := (if_pos hc).symm.trans hb1
          cases hb1
          exact KTb1 rfl
/-! ShadowDoorsModel.join -/
noncomputable def fX12_join_32 : Nat → Int32 → Int32 → Int32 → Int32 → HI → Option (HI)
  | 0, _, _, _, _, _ => none
  | fu + 1, y3, y4, y5, y6, I =>
    if ((I 73 52) * (I 73 53)) ≤ y6 then
      some I
    else
      if inb y6 64 = true then
        Option.bind (
          if (I 105 y6.toNatClampNeg) = y3 then
            some true
          else
            if inb y6 64 = true then
              if (I 105 y6.toNatClampNeg) = y4 then
                some true
              else
                some false
            else none
        ) fun b5 =>
        if b5 = true then
          if inb y6 64 = true then
            let I8 : HI := up2 I 105 y6.toNatClampNeg y5
            fX12_join_32 fu y3 y4 y5 (y6 + (1 : Int32)) I8
          else none
        else
          fX12_join_32 fu y3 y4 y5 (y6 + (1 : Int32)) I
      else none
set_option maxRecDepth 100000 in
set_option maxHeartbeats 4000000 in
theorem lX12_join_32 {g : GG} {n d : Nat} {tw dr sk tl ff : Nat} (hG : RG tw dr sk tl ff) (hn : 116 ≤ n) {P : PP} : ∀ (fu : Nat) (y3 : Int32) (y4 : Int32) (y5 : Int32) (y6 : Int32) (I : HI) (L : HL) (res : HI), fX12_join_32 fu y3 y4 y5 y6 I = some res → P none n (RT tw dr sk tl ff) res L → V g mX12_join (d + 1) 0 0 n (RT tw dr sk tl ff) I L 32 [some (.ref 73), none, none, some (.int y3), some (.int y4), some (.int y5), some (.int y6)] [] P := by
  intro fu
  induction fu with
  | zero => intro y3 y4 y5 y6 I L res hf; cases (show none = some res from hf)
  | succ fu ih =>
    intro y3 y4 y5 y6 I L res hf K
    refine V_iload (pc := 32) dX12_join_32 rfl rfl ?_
    refine V_aload_n (pc := 34) dX12_join_34 rfl rfl rfl ?_
    refine V_getI (pc := 35) dX12_join_35 flX12_90 rfl (by omega) (congrArg Prod.fst sh_73) rfl ?_
    refine V_aload_n (pc := 38) dX12_join_38 rfl rfl rfl ?_
    refine V_getI (pc := 39) dX12_join_39 flX12_93 rfl (by omega) (congrArg Prod.fst sh_73) rfl ?_
    refine V_imul (pc := 42) dX12_join_42 rfl ?_
    refine V_icmp_ge (pc := 43) (tgt := 84) dX12_join_43 (by decide) rfl (fun hc => ?_) (fun hc => ?_)
    · replace hf := (if_pos hc).symm.trans hf
      cases hf
      exact V_vret (pc := 84) dX12_join_84 rfl K
    · replace hf := (if_neg hc).symm.trans hf
      refine V_aload_n (pc := 46) dX12_join_46 rfl rfl rfl ?_
      refine V_getR (pc := 47) dX12_join_47 flX12_114 rfl (by omega) (congrArg Prod.fst sh_73) rt_73_78 rfl ?_
      refine V_iload (pc := 50) dX12_join_50 rfl rfl ?_
      obtain ⟨hc4, hf⟩ := pif hf
      refine V_iald (pc := 52) dX12_join_52 (by omega) sh_105 hc4 rfl ?_
      refine V_iload_n (pc := 53) dX12_join_53 rfl rfl rfl ?_
      obtain ⟨b5, hb5, hf⟩ := bnd hf
      have KTb5 : b5 = true → V g mX12_join (d + 1) 0 0 n (RT tw dr sk tl ff) I L 69 [some (.ref 73), none, none, some (.int y3), some (.int y4), some (.int y5), some (.int y6)] [] P := fun hc => by
        replace hf := (if_pos hc).symm.trans hf
        refine V_aload_n (pc := 69) dX12_join_69 rfl rfl rfl ?_
        refine V_getR (pc := 70) dX12_join_70 flX12_114 rfl (by omega) (congrArg Prod.fst sh_73) rt_73_78 rfl ?_
        refine V_iload (pc := 73) dX12_join_73 rfl rfl ?_
        refine V_iload (pc := 75) dX12_join_75 rfl rfl ?_
        obtain ⟨hc7, hf⟩ := pif hf
        let I8 : HI := up2 I 105 y6.toNatClampNeg y5
        refine V_iast (pc := 77) dX12_join_77 (by omega) sh_105 hc7 rfl ?_
        refine V_iinc (ls' := [some _, none, none, some _, some _, some _, some _]) (pc := 78) dX12_join_78 rfl (Nat.le_of_ble_eq_true rfl) (congrArg _ ic_1) rfl rfl ?_
        refine V_goto (pc := 81) (tgt := 32) dX12_join_81 (by decide) ?_
        exact V_wk (ih _ _ _ _ _ _ _ hf K) ⟨rfl, ⟨rfl, ⟨rfl, ⟨rfl, ⟨rfl, trivial⟩⟩⟩⟩⟩
      have KFb5 : ¬ b5 = true → V g mX12_join (d + 1) 0 0 n (RT tw dr sk tl ff) I L 78 [some (.ref 73), none, none, some (.int y3), some (.int y4), some (.int y5), some (.int y6)] [] P := fun hc => by
        replace hf := (if_neg hc).symm.trans hf
        refine V_iinc (ls' := [some _, none, none, some _, some _, some _, some _]) (pc := 78) dX12_join_78 rfl (Nat.le_of_ble_eq_true rfl) (congrArg _ ic_1) rfl rfl ?_
        refine V_goto (pc := 81) (tgt := 32) dX12_join_81 (by decide) ?_
        exact V_wk (ih _ _ _ _ _ _ _ hf K) ⟨rfl, ⟨rfl, ⟨rfl, ⟨rfl, ⟨rfl, trivial⟩⟩⟩⟩⟩
      refine V_icmp_eq (pc := 54) (tgt := 69) dX12_join_54 (by decide) rfl (fun hc => ?_) (fun hc => ?_)
      · replace hb5 := (if_pos hc).symm.trans hb5
        cases hb5
        exact KTb5 rfl
      · replace hb5 := (if_neg hc).symm.trans hb5
        refine V_aload_n (pc := 57) dX12_join_57 rfl rfl rfl ?_
        refine V_getR (pc := 58) dX12_join_58 flX12_114 rfl (by omega) (congrArg Prod.fst sh_73) rt_73_78 rfl ?_
        refine V_iload (pc := 61) dX12_join_61 rfl rfl ?_
        obtain ⟨hc6, hb5⟩ := pif hb5
        refine V_iald (pc := 63) dX12_join_63 (by omega) sh_105 hc6 rfl ?_
        refine V_iload (pc := 64) dX12_join_64 rfl rfl ?_
        refine V_icmp_ne (pc := 66) (tgt := 78) dX12_join_66 (by decide) rfl (fun hc => ?_) (fun hc => ?_)
        · replace hb5 := (if_neg hc).symm.trans hb5
          cases hb5
          exact KFb5 (nbt rfl)
        · replace hb5 := (if_pos hc).symm.trans hb5
          cases hb5
          exact KTb5 rfl
noncomputable def fX12_join (v1 : Int32) (v2 : Int32) (I : HI) : Option (HI) :=
  if inb v1 64 = true then
    if inb v2 64 = true then
      Option.bind (
        if (I 105 v2.toNatClampNeg) ≤ (I 105 v1.toNatClampNeg) then
          some (I 105 v2.toNatClampNeg)
        else
          some (I 105 v1.toNatClampNeg)
      ) fun q3 =>
      Option.bind (fX12_join_32 FUEL (I 105 v1.toNatClampNeg) (I 105 v2.toNatClampNeg) q3 (0 : Int32) I) fun q9 =>
      some q9
    else none
  else none
set_option maxRecDepth 100000 in
set_option maxHeartbeats 4000000 in
theorem tX12_join {g : GG} {n d : Nat} {tw dr sk tl ff : Nat} (hG : RG tw dr sk tl ff) (hn : 116 ≤ n) {v1 : Int32} {v2 : Int32} {I : HI} {L : HL} {res : HI} (hf : fX12_join v1 v2 I = some res) : CT g mX12_join (d + 1) 0 0 n (RT tw dr sk tl ff) I L [.ref 73, .int v1, .int v2] (PoV n (RT tw dr sk tl ff) res L) := by
  refine CT.of rfl (Nat.le_of_ble_eq_true rfl) ?_
  show V g mX12_join (d + 1) 0 0 n (RT tw dr sk tl ff) I L 0 [some (.ref 73), some (.int v1), some (.int v2)] [] (PoV n (RT tw dr sk tl ff) res L)
  refine V_aload_n (pc := 0) dX12_join_0 rfl rfl rfl ?_
  refine V_getR (pc := 1) dX12_join_1 flX12_114 rfl (by omega) (congrArg Prod.fst sh_73) rt_73_78 rfl ?_
  refine V_iload_n (pc := 4) dX12_join_4 rfl rfl rfl ?_
  obtain ⟨hc1, hf⟩ := pif hf
  refine V_iald (pc := 5) dX12_join_5 (by omega) sh_105 hc1 rfl ?_
  refine V_istore_n (ls' := [some _, some _, some _, some _]) (pc := 6) dX12_join_6 rfl (Nat.le_of_ble_eq_true rfl) rfl rfl ?_
  refine V_aload_n (pc := 7) dX12_join_7 rfl rfl rfl ?_
  refine V_getR (pc := 8) dX12_join_8 flX12_114 rfl (by omega) (congrArg Prod.fst sh_73) rt_73_78 rfl ?_
  refine V_iload_n (pc := 11) dX12_join_11 rfl rfl rfl ?_
  obtain ⟨hc2, hf⟩ := pif hf
  refine V_iald (pc := 12) dX12_join_12 (by omega) sh_105 hc2 rfl ?_
  refine V_istore (ls' := [some _, some _, some _, some _, some _]) (pc := 13) dX12_join_13 (Nat.le_of_ble_eq_true rfl) rfl rfl ?_
  refine V_iload_n (pc := 15) dX12_join_15 rfl rfl rfl ?_
  refine V_iload (pc := 16) dX12_join_16 rfl rfl ?_
  obtain ⟨q3, hq3, hf⟩ := bnd hf
  have Kq3 : V g mX12_join (d + 1) 0 0 n (RT tw dr sk tl ff) I L 27 [some (.ref 73), none, none, some (.int (I 105 v1.toNatClampNeg)), some (.int (I 105 v2.toNatClampNeg))] [.int q3] (PoV n (RT tw dr sk tl ff) res L) := by
    refine V_istore (ls' := [some _, none, none, some _, some _, some _]) (pc := 27) dX12_join_27 (Nat.le_of_ble_eq_true rfl) rfl rfl ?_
    refine V_iconst (pc := 29) dX12_join_29 ic_0 rfl ?_
    refine V_istore (ls' := [some _, none, none, some _, some _, some _, some _]) (pc := 30) dX12_join_30 (Nat.le_of_ble_eq_true rfl) rfl rfl ?_
    obtain ⟨q9, hq9, hf⟩ := bnd hf
    refine V_wk (lX12_join_32 hG hn FUEL _ _ _ _ _ _ _ hq9 ?_) ⟨rfl, ⟨rfl, ⟨rfl, ⟨rfl, ⟨rfl, trivial⟩⟩⟩⟩⟩
    cases hf
    exact PoV_mk
  refine V_icmp_ge (pc := 18) (tgt := 25) dX12_join_18 (by decide) rfl (fun hc => ?_) (fun hc => ?_)
  · replace hq3 := (if_pos hc).symm.trans hq3
    refine V_iload (pc := 25) dX12_join_25 rfl rfl ?_
    cases hq3
    exact V_wk Kq3 ⟨rfl, ⟨rfl, ⟨rfl, trivial⟩⟩⟩
  · replace hq3 := (if_neg hc).symm.trans hq3
    refine V_iload_n (pc := 21) dX12_join_21 rfl rfl rfl ?_
    refine V_goto (pc := 22) (tgt := 27) dX12_join_22 (by decide) ?_
    cases hq3
    exact V_wk Kq3 ⟨rfl, ⟨rfl, ⟨rfl, trivial⟩⟩⟩
/-! ShadowDoorsModel.layRooms -/
noncomputable def fX12_layRooms_11 : Nat → Int32 → HI → HL → Option (HI)
  | 0, _, _, _ => none
  | fu + 1, y2, I, L =>
    if ((I 73 52) * (I 73 53)) ≤ y2 then
      some I
    else
      if (b2i (fX12_has (L 73 44) y2)) = 0 then
        if inb y2 64 = true then
          let I4 : HI := up2 I 105 y2.toNatClampNeg y2
          fX12_layRooms_11 fu (y2 + (1 : Int32)) I4 L
        else none
      else
        if inb y2 64 = true then
          let I6 : HI := up2 I 105 y2.toNatClampNeg (-1 : Int32)
          fX12_layRooms_11 fu (y2 + (1 : Int32)) I6 L
        else none
set_option maxRecDepth 100000 in
set_option maxHeartbeats 4000000 in
theorem lX12_layRooms_11 {g : GG} {n d : Nat} {tw dr sk tl ff : Nat} (hG : RG tw dr sk tl ff) (hn : 116 ≤ n) {P : PP} : ∀ (fu : Nat) (y2 : Int32) (I : HI) (L : HL) (res : HI), fX12_layRooms_11 fu y2 I L = some res → V g mX12_layRooms (d + 6) 0 0 n (RT tw dr sk tl ff) res L 52 [some (.ref 73)] [] P → V g mX12_layRooms (d + 6) 0 0 n (RT tw dr sk tl ff) I L 11 [some (.ref 73), none, some (.int y2)] [] P := by
  intro fu
  induction fu with
  | zero => intro y2 I L res hf; cases (show none = some res from hf)
  | succ fu ih =>
    intro y2 I L res hf K
    refine V_iload_n (pc := 11) dX12_layRooms_11 rfl rfl rfl ?_
    refine V_aload_n (pc := 12) dX12_layRooms_12 rfl rfl rfl ?_
    refine V_getI (pc := 13) dX12_layRooms_13 flX12_90 rfl (by omega) (congrArg Prod.fst sh_73) rfl ?_
    refine V_aload_n (pc := 16) dX12_layRooms_16 rfl rfl rfl ?_
    refine V_getI (pc := 17) dX12_layRooms_17 flX12_93 rfl (by omega) (congrArg Prod.fst sh_73) rfl ?_
    refine V_imul (pc := 20) dX12_layRooms_20 rfl ?_
    refine V_icmp_ge (pc := 21) (tgt := 52) dX12_layRooms_21 (by decide) rfl (fun hc => ?_) (fun hc => ?_)
    · replace hf := (if_pos hc).symm.trans hf
      cases hf
      exact V_wk K ⟨rfl, trivial⟩
    · replace hf := (if_neg hc).symm.trans hf
      refine V_aload_n (pc := 24) dX12_layRooms_24 rfl rfl rfl ?_
      refine V_getR (pc := 25) dX12_layRooms_25 flX12_114 rfl (by omega) (congrArg Prod.fst sh_73) rt_73_78 rfl ?_
      refine V_iload_n (pc := 28) dX12_layRooms_28 rfl rfl rfl ?_
      refine V_aload_n (pc := 29) dX12_layRooms_29 rfl rfl rfl ?_
      refine V_getL (pc := 30) dX12_layRooms_30 flX12_403 rfl (by omega) (congrArg Prod.fst sh_73) rfl ?_
      refine V_iload_n (pc := 33) dX12_layRooms_33 rfl rfl rfl ?_
      refine V_cSz (md' := mX12_has) (pc := 34) dX12_layRooms_34 mlX12_330 mSX12_has (tX12_has rfl) rfl rfl (Nat.le_of_ble_eq_true rfl) rfl ?_
      refine V_if_eq (pc := 37) (tgt := 44) dX12_layRooms_37 (by decide) rfl (fun hc => ?_) (fun hc => ?_)
      · replace hf := (if_pos hc).symm.trans hf
        refine V_iload_n (pc := 44) dX12_layRooms_44 rfl rfl rfl ?_
        obtain ⟨hc3, hf⟩ := pif hf
        let I4 : HI := up2 I 105 y2.toNatClampNeg y2
        refine V_iast (pc := 45) dX12_layRooms_45 (by omega) sh_105 hc3 rfl ?_
        refine V_iinc (ls' := [some _, none, some _]) (pc := 46) dX12_layRooms_46 rfl (Nat.le_of_ble_eq_true rfl) (congrArg _ ic_1) rfl rfl ?_
        refine V_goto (pc := 49) (tgt := 11) dX12_layRooms_49 (by decide) ?_
        exact V_wk (ih _ _ _ _ hf K) ⟨rfl, ⟨rfl, trivial⟩⟩
      · replace hf := (if_neg hc).symm.trans hf
        refine V_iconst (pc := 40) dX12_layRooms_40 ic_m1 rfl ?_
        refine V_goto (pc := 41) (tgt := 45) dX12_layRooms_41 (by decide) ?_
        obtain ⟨hc5, hf⟩ := pif hf
        let I6 : HI := up2 I 105 y2.toNatClampNeg (-1 : Int32)
        refine V_iast (pc := 45) dX12_layRooms_45 (by omega) sh_105 hc5 rfl ?_
        refine V_iinc (ls' := [some _, none, some _]) (pc := 46) dX12_layRooms_46 rfl (Nat.le_of_ble_eq_true rfl) (congrArg _ ic_1) rfl rfl ?_
        refine V_goto (pc := 49) (tgt := 11) dX12_layRooms_49 (by decide) ?_
        exact V_wk (ih _ _ _ _ hf K) ⟨rfl, ⟨rfl, trivial⟩⟩
noncomputable def fX12_layRooms_69 : Nat → Int32 → Int32 → HI → HL → Option (HI)
  | 0, _, _, _, _ => none
  | fu + 1, y2, y3, I, L =>
    if y2 ≤ y3 then
      some I
    else
      Option.bind (
        if (b2i (fX12_has (L 73 44) y2)) = 0 then
          Option.bind (fX12_nextTo y2 I L) fun q9 =>
          if (b2i (fX12_has q9 y3)) = 0 then
            some true
          else
            some false
        else
          some true
      ) fun b8 =>
      if b8 = true then
        fX12_layRooms_69 fu y2 (y3 + (1 : Int32)) I L
      else
        Option.bind (fX12_join y2 y3 I) fun q10 =>
        fX12_layRooms_69 fu y2 (y3 + (1 : Int32)) q10 L
set_option maxRecDepth 100000 in
set_option maxHeartbeats 4000000 in
theorem lX12_layRooms_69 {g : GG} {n d : Nat} {tw dr sk tl ff : Nat} (hG : RG tw dr sk tl ff) (hn : 116 ≤ n) {P : PP} : ∀ (fu : Nat) (y2 : Int32) (y3 : Int32) (I : HI) (L : HL) (res : HI), fX12_layRooms_69 fu y2 y3 I L = some res → V g mX12_layRooms (d + 6) 0 0 n (RT tw dr sk tl ff) res L 109 [some (.ref 73), none, some (.int y2)] [] P → V g mX12_layRooms (d + 6) 0 0 n (RT tw dr sk tl ff) I L 69 [some (.ref 73), none, some (.int y2), some (.int y3)] [] P := by
  intro fu
  induction fu with
  | zero => intro y2 y3 I L res hf; cases (show none = some res from hf)
  | succ fu ih =>
    intro y2 y3 I L res hf K
    refine V_iload_n (pc := 69) dX12_layRooms_69 rfl rfl rfl ?_
    refine V_iload_n (pc := 70) dX12_layRooms_70 rfl rfl rfl ?_
    refine V_icmp_ge (pc := 71) (tgt := 109) dX12_layRooms_71 (by decide) rfl (fun hc => ?_) (fun hc => ?_)
    · replace hf := (if_pos hc).symm.trans hf
      cases hf
      exact V_wk K ⟨rfl, ⟨rfl, trivial⟩⟩
    · replace hf := (if_neg hc).symm.trans hf
      refine V_aload_n (pc := 74) dX12_layRooms_74 rfl rfl rfl ?_
      refine V_getL (pc := 75) dX12_layRooms_75 flX12_403 rfl (by omega) (congrArg Prod.fst sh_73) rfl ?_
      refine V_iload_n (pc := 78) dX12_layRooms_78 rfl rfl rfl ?_
      refine V_cSz (md' := mX12_has) (pc := 79) dX12_layRooms_79 mlX12_330 mSX12_has (tX12_has rfl) rfl rfl (Nat.le_of_ble_eq_true rfl) rfl ?_
      obtain ⟨b8, hb8, hf⟩ := bnd hf
      have KTb8 : b8 = true → V g mX12_layRooms (d + 6) 0 0 n (RT tw dr sk tl ff) I L 103 [some (.ref 73), none, some (.int y2), some (.int y3)] [] P := fun hc => by
        replace hf := (if_pos hc).symm.trans hf
        refine V_iinc (ls' := [some _, none, some _, some _]) (pc := 103) dX12_layRooms_103 rfl (Nat.le_of_ble_eq_true rfl) (congrArg _ ic_1) rfl rfl ?_
        refine V_goto (pc := 106) (tgt := 69) dX12_layRooms_106 (by decide) ?_
        exact V_wk (ih _ _ _ _ _ hf K) ⟨rfl, ⟨rfl, ⟨rfl, trivial⟩⟩⟩
      have KFb8 : ¬ b8 = true → V g mX12_layRooms (d + 6) 0 0 n (RT tw dr sk tl ff) I L 97 [some (.ref 73), none, some (.int y2), some (.int y3)] [] P := fun hc => by
        replace hf := (if_neg hc).symm.trans hf
        refine V_aload_n (pc := 97) dX12_layRooms_97 rfl rfl rfl ?_
        refine V_iload_n (pc := 98) dX12_layRooms_98 rfl rfl rfl ?_
        refine V_iload_n (pc := 99) dX12_layRooms_99 rfl rfl rfl ?_
        obtain ⟨q10, hq10, hf⟩ := bnd hf
        refine V_cVv (md' := mX12_join) (pc := 100) dX12_layRooms_100 mlX12_543 mVX12_join (tX12_join hG hn hq10) rfl (by omega) (congrArg Prod.fst sh_73) rfl (Nat.le_of_ble_eq_true rfl) rfl ?_
        refine V_iinc (ls' := [some _, none, some _, some _]) (pc := 103) dX12_layRooms_103 rfl (Nat.le_of_ble_eq_true rfl) (congrArg _ ic_1) rfl rfl ?_
        refine V_goto (pc := 106) (tgt := 69) dX12_layRooms_106 (by decide) ?_
        exact V_wk (ih _ _ _ _ _ hf K) ⟨rfl, ⟨rfl, ⟨rfl, trivial⟩⟩⟩
      refine V_if_ne (pc := 82) (tgt := 103) dX12_layRooms_82 (by decide) rfl (fun hc => ?_) (fun hc => ?_)
      · replace hb8 := (if_neg hc).symm.trans hb8
        cases hb8
        exact KTb8 rfl
      · replace hb8 := (if_pos hc).symm.trans hb8
        refine V_aload_n (pc := 85) dX12_layRooms_85 rfl rfl rfl ?_
        refine V_iload_n (pc := 86) dX12_layRooms_86 rfl rfl rfl ?_
        obtain ⟨q9, hq9, hb8⟩ := bnd hb8
        refine V_cVl (md' := mX12_nextTo) (pc := 87) dX12_layRooms_87 mlX12_484 mVX12_nextTo (tX12_nextTo hG hn hq9) rfl (by omega) (congrArg Prod.fst sh_73) rfl (Nat.le_of_ble_eq_true rfl) rfl ?_
        refine V_iload_n (pc := 90) dX12_layRooms_90 rfl rfl rfl ?_
        refine V_cSz (md' := mX12_has) (pc := 91) dX12_layRooms_91 mlX12_330 mSX12_has (tX12_has rfl) rfl rfl (Nat.le_of_ble_eq_true rfl) rfl ?_
        refine V_if_eq (pc := 94) (tgt := 103) dX12_layRooms_94 (by decide) rfl (fun hc => ?_) (fun hc => ?_)
        · replace hb8 := (if_pos hc).symm.trans hb8
          cases hb8
          exact KTb8 rfl
        · replace hb8 := (if_neg hc).symm.trans hb8
          cases hb8
          exact KFb8 (nbt rfl)
noncomputable def fX12_layRooms_54 : Nat → Int32 → HI → HL → Option (HI)
  | 0, _, _, _ => none
  | fu + 1, y2, I, L =>
    if ((I 73 52) * (I 73 53)) ≤ y2 then
      some I
    else
      Option.bind (fX12_layRooms_69 FUEL y2 (0 : Int32) I L) fun q11 =>
      fX12_layRooms_54 fu (y2 + (1 : Int32)) q11 L
set_option maxRecDepth 100000 in
set_option maxHeartbeats 4000000 in
theorem lX12_layRooms_54 {g : GG} {n d : Nat} {tw dr sk tl ff : Nat} (hG : RG tw dr sk tl ff) (hn : 116 ≤ n) {P : PP} : ∀ (fu : Nat) (y2 : Int32) (I : HI) (L : HL) (res : HI), fX12_layRooms_54 fu y2 I L = some res → V g mX12_layRooms (d + 6) 0 0 n (RT tw dr sk tl ff) res L 115 [some (.ref 73)] [] P → V g mX12_layRooms (d + 6) 0 0 n (RT tw dr sk tl ff) I L 54 [some (.ref 73), none, some (.int y2)] [] P := by
  intro fu
  induction fu with
  | zero => intro y2 I L res hf; cases (show none = some res from hf)
  | succ fu ih =>
    intro y2 I L res hf K
    refine V_iload_n (pc := 54) dX12_layRooms_54 rfl rfl rfl ?_
    refine V_aload_n (pc := 55) dX12_layRooms_55 rfl rfl rfl ?_
    refine V_getI (pc := 56) dX12_layRooms_56 flX12_90 rfl (by omega) (congrArg Prod.fst sh_73) rfl ?_
    refine V_aload_n (pc := 59) dX12_layRooms_59 rfl rfl rfl ?_
    refine V_getI (pc := 60) dX12_layRooms_60 flX12_93 rfl (by omega) (congrArg Prod.fst sh_73) rfl ?_
    refine V_imul (pc := 63) dX12_layRooms_63 rfl ?_
    refine V_icmp_ge (pc := 64) (tgt := 115) dX12_layRooms_64 (by decide) rfl (fun hc => ?_) (fun hc => ?_)
    · replace hf := (if_pos hc).symm.trans hf
      cases hf
      exact V_wk K ⟨rfl, trivial⟩
    · replace hf := (if_neg hc).symm.trans hf
      refine V_iconst (pc := 67) dX12_layRooms_67 ic_0 rfl ?_
      refine V_istore_n (ls' := [some _, none, some _, some _]) (pc := 68) dX12_layRooms_68 rfl (Nat.le_of_ble_eq_true rfl) rfl rfl ?_
      obtain ⟨q11, hq11, hf⟩ := bnd hf
      refine V_wk (lX12_layRooms_69 hG hn FUEL _ _ _ _ _ hq11 ?_) ⟨rfl, ⟨rfl, ⟨rfl, trivial⟩⟩⟩
      refine V_iinc (ls' := [some _, none, some _]) (pc := 109) dX12_layRooms_109 rfl (Nat.le_of_ble_eq_true rfl) (congrArg _ ic_1) rfl rfl ?_
      refine V_goto (pc := 112) (tgt := 54) dX12_layRooms_112 (by decide) ?_
      exact V_wk (ih _ _ _ _ hf K) ⟨rfl, ⟨rfl, trivial⟩⟩
noncomputable def fX12_layRooms_138 : Nat → Int32 → Int32 → HI → HL → Option (HI)
  | 0, _, _, _, _ => none
  | fu + 1, y2, y3, I, L =>
    if ((I 73 52) * (I 73 53)) ≤ y3 then
      some I
    else
      if inb y2 8 = true then
        if (b2i (fX12_has (L 100 y2.toNatClampNeg) y3)) = 0 then
          fX12_layRooms_138 fu y2 (y3 + (1 : Int32)) I L
        else
          if inb y2 8 = true then
            Option.bind (fX12_join (I 91 y2.toNatClampNeg) y3 I) fun q16 =>
            fX12_layRooms_138 fu y2 (y3 + (1 : Int32)) q16 L
          else none
      else none
set_option maxRecDepth 100000 in
set_option maxHeartbeats 4000000 in
theorem lX12_layRooms_138 {g : GG} {n d : Nat} {tw dr sk tl ff : Nat} (hG : RG tw dr sk tl ff) (hn : 116 ≤ n) {P : PP} : ∀ (fu : Nat) (y2 : Int32) (y3 : Int32) (I : HI) (L : HL) (res : HI), fX12_layRooms_138 fu y2 y3 I L = some res → V g mX12_layRooms (d + 6) 0 0 n (RT tw dr sk tl ff) res L 181 [some (.ref 73), none, some (.int y2)] [] P → V g mX12_layRooms (d + 6) 0 0 n (RT tw dr sk tl ff) I L 138 [some (.ref 73), none, some (.int y2), some (.int y3)] [] P := by
  intro fu
  induction fu with
  | zero => intro y2 y3 I L res hf; cases (show none = some res from hf)
  | succ fu ih =>
    intro y2 y3 I L res hf K
    refine V_iload_n (pc := 138) dX12_layRooms_138 rfl rfl rfl ?_
    refine V_aload_n (pc := 139) dX12_layRooms_139 rfl rfl rfl ?_
    refine V_getI (pc := 140) dX12_layRooms_140 flX12_90 rfl (by omega) (congrArg Prod.fst sh_73) rfl ?_
    refine V_aload_n (pc := 143) dX12_layRooms_143 rfl rfl rfl ?_
    refine V_getI (pc := 144) dX12_layRooms_144 flX12_93 rfl (by omega) (congrArg Prod.fst sh_73) rfl ?_
    refine V_imul (pc := 147) dX12_layRooms_147 rfl ?_
    refine V_icmp_ge (pc := 148) (tgt := 181) dX12_layRooms_148 (by decide) rfl (fun hc => ?_) (fun hc => ?_)
    · replace hf := (if_pos hc).symm.trans hf
      cases hf
      exact V_wk K ⟨rfl, ⟨rfl, trivial⟩⟩
    · replace hf := (if_neg hc).symm.trans hf
      refine V_aload_n (pc := 151) dX12_layRooms_151 rfl rfl rfl ?_
      refine V_getR (pc := 152) dX12_layRooms_152 flX12_99 rfl (by omega) (congrArg Prod.fst sh_73) rt_73_70 rfl ?_
      refine V_iload_n (pc := 155) dX12_layRooms_155 rfl rfl rfl ?_
      obtain ⟨hc14, hf⟩ := pif hf
      refine V_lald (pc := 156) dX12_layRooms_156 (by omega) sh_100 hc14 rfl ?_
      refine V_iload_n (pc := 157) dX12_layRooms_157 rfl rfl rfl ?_
      refine V_cSz (md' := mX12_has) (pc := 158) dX12_layRooms_158 mlX12_330 mSX12_has (tX12_has rfl) rfl rfl (Nat.le_of_ble_eq_true rfl) rfl ?_
      refine V_if_eq (pc := 161) (tgt := 175) dX12_layRooms_161 (by decide) rfl (fun hc => ?_) (fun hc => ?_)
      · replace hf := (if_pos hc).symm.trans hf
        refine V_iinc (ls' := [some _, none, some _, some _]) (pc := 175) dX12_layRooms_175 rfl (Nat.le_of_ble_eq_true rfl) (congrArg _ ic_1) rfl rfl ?_
        refine V_goto (pc := 178) (tgt := 138) dX12_layRooms_178 (by decide) ?_
        exact V_wk (ih _ _ _ _ _ hf K) ⟨rfl, ⟨rfl, ⟨rfl, trivial⟩⟩⟩
      · replace hf := (if_neg hc).symm.trans hf
        refine V_aload_n (pc := 164) dX12_layRooms_164 rfl rfl rfl ?_
        refine V_aload_n (pc := 165) dX12_layRooms_165 rfl rfl rfl ?_
        refine V_getR (pc := 166) dX12_layRooms_166 flX12_66 rfl (by omega) (congrArg Prod.fst sh_73) rt_73_33 rfl ?_
        refine V_iload_n (pc := 169) dX12_layRooms_169 rfl rfl rfl ?_
        obtain ⟨hc15, hf⟩ := pif hf
        refine V_iald (pc := 170) dX12_layRooms_170 (by omega) sh_91 hc15 rfl ?_
        refine V_iload_n (pc := 171) dX12_layRooms_171 rfl rfl rfl ?_
        obtain ⟨q16, hq16, hf⟩ := bnd hf
        refine V_cVv (md' := mX12_join) (pc := 172) dX12_layRooms_172 mlX12_543 mVX12_join (tX12_join hG hn hq16) rfl (by omega) (congrArg Prod.fst sh_73) rfl (Nat.le_of_ble_eq_true rfl) rfl ?_
        refine V_iinc (ls' := [some _, none, some _, some _]) (pc := 175) dX12_layRooms_175 rfl (Nat.le_of_ble_eq_true rfl) (congrArg _ ic_1) rfl rfl ?_
        refine V_goto (pc := 178) (tgt := 138) dX12_layRooms_178 (by decide) ?_
        exact V_wk (ih _ _ _ _ _ hf K) ⟨rfl, ⟨rfl, ⟨rfl, trivial⟩⟩⟩
noncomputable def fX12_layRooms_117 : Nat → Int32 → HI → HL → Option (HI)
  | 0, _, _, _ => none
  | fu + 1, y2, I, L =>
    if (I 73 55) ≤ y2 then
      some I
    else
      Option.bind (fX12_isOpen y2 I) fun q13 =>
      if (b2i q13) = 0 then
        fX12_layRooms_117 fu (y2 + (1 : Int32)) I L
      else
        Option.bind (fX12_layRooms_138 FUEL y2 (0 : Int32) I L) fun q17 =>
        fX12_layRooms_117 fu (y2 + (1 : Int32)) q17 L
set_option maxRecDepth 100000 in
set_option maxHeartbeats 4000000 in
theorem lX12_layRooms_117 {g : GG} {n d : Nat} {tw dr sk tl ff : Nat} (hG : RG tw dr sk tl ff) (hn : 116 ≤ n) {P : PP} : ∀ (fu : Nat) (y2 : Int32) (I : HI) (L : HL) (res : HI), fX12_layRooms_117 fu y2 I L = some res → P none n (RT tw dr sk tl ff) res L → V g mX12_layRooms (d + 6) 0 0 n (RT tw dr sk tl ff) I L 117 [some (.ref 73), none, some (.int y2)] [] P := by
  intro fu
  induction fu with
  | zero => intro y2 I L res hf; cases (show none = some res from hf)
  | succ fu ih =>
    intro y2 I L res hf K
    refine V_iload_n (pc := 117) dX12_layRooms_117 rfl rfl rfl ?_
    refine V_aload_n (pc := 118) dX12_layRooms_118 rfl rfl rfl ?_
    refine V_getI (pc := 119) dX12_layRooms_119 flX12_409 rfl (by omega) (congrArg Prod.fst sh_73) rfl ?_
    refine V_icmp_ge (pc := 122) (tgt := 187) dX12_layRooms_122 (by decide) rfl (fun hc => ?_) (fun hc => ?_)
    · replace hf := (if_pos hc).symm.trans hf
      cases hf
      exact V_vret (pc := 187) dX12_layRooms_187 rfl K
    · replace hf := (if_neg hc).symm.trans hf
      refine V_aload_n (pc := 125) dX12_layRooms_125 rfl rfl rfl ?_
      refine V_iload_n (pc := 126) dX12_layRooms_126 rfl rfl rfl ?_
      obtain ⟨q13, hq13, hf⟩ := bnd hf
      refine V_cVz (md' := mX12_isOpen) (pc := 127) dX12_layRooms_127 mlX12_487 mVX12_isOpen (tX12_isOpen hG hn hq13) rfl (by omega) (congrArg Prod.fst sh_73) rfl (Nat.le_of_ble_eq_true rfl) rfl ?_
      refine V_if_ne (pc := 130) (tgt := 136) dX12_layRooms_130 (by decide) rfl (fun hc => ?_) (fun hc => ?_)
      · replace hf := (if_neg hc).symm.trans hf
        refine V_iconst (pc := 136) dX12_layRooms_136 ic_0 rfl ?_
        refine V_istore_n (ls' := [some _, none, some _, some _]) (pc := 137) dX12_layRooms_137 rfl (Nat.le_of_ble_eq_true rfl) rfl rfl ?_
        obtain ⟨q17, hq17, hf⟩ := bnd hf
        refine V_wk (lX12_layRooms_138 hG hn FUEL _ _ _ _ _ hq17 ?_) ⟨rfl, ⟨rfl, ⟨rfl, trivial⟩⟩⟩
        refine V_iinc (ls' := [some _, none, some _]) (pc := 181) dX12_layRooms_181 rfl (Nat.le_of_ble_eq_true rfl) (congrArg _ ic_1) rfl rfl ?_
        refine V_goto (pc := 184) (tgt := 117) dX12_layRooms_184 (by decide) ?_
        exact V_wk (ih _ _ _ _ hf K) ⟨rfl, ⟨rfl, trivial⟩⟩
      · replace hf := (if_pos hc).symm.trans hf
        refine V_goto (pc := 133) (tgt := 181) dX12_layRooms_133 (by decide) ?_
        refine V_iinc (ls' := [some _, none, some _]) (pc := 181) dX12_layRooms_181 rfl (Nat.le_of_ble_eq_true rfl) (congrArg _ ic_1) rfl rfl ?_
        refine V_goto (pc := 184) (tgt := 117) dX12_layRooms_184 (by decide) ?_
        exact V_wk (ih _ _ _ _ hf K) ⟨rfl, ⟨rfl, trivial⟩⟩
noncomputable def fX12_layRooms (v1 : Int32) (I : HI) (L : HL) : Option (HI × HL) :=
  Option.bind (fX12_load v1 I) fun q1 =>
  Option.bind (fX12_layShadows  q1 L) fun q2 =>
  Option.bind (fX12_layRooms_11 FUEL (0 : Int32) q2.1 q2.2) fun q7 =>
  Option.bind (fX12_layRooms_54 FUEL (0 : Int32) q7 q2.2) fun q12 =>
  Option.bind (fX12_layRooms_117 FUEL (0 : Int32) q12 q2.2) fun q18 =>
  some (q18, q2.2)
set_option maxRecDepth 100000 in
set_option maxHeartbeats 4000000 in
theorem tX12_layRooms {g : GG} {n d : Nat} {tw dr sk tl ff : Nat} (hG : RG tw dr sk tl ff) (hn : 116 ≤ n) {v1 : Int32} {I : HI} {L : HL} {res : HI × HL} (hf : fX12_layRooms v1 I L = some res) : CT g mX12_layRooms (d + 6) 0 0 n (RT tw dr sk tl ff) I L [.ref 73, .int v1] (PoV n (RT tw dr sk tl ff) res.1 res.2) := by
  refine CT.of rfl (Nat.le_of_ble_eq_true rfl) ?_
  show V g mX12_layRooms (d + 6) 0 0 n (RT tw dr sk tl ff) I L 0 [some (.ref 73), some (.int v1)] [] (PoV n (RT tw dr sk tl ff) res.1 res.2)
  refine V_aload_n (pc := 0) dX12_layRooms_0 rfl rfl rfl ?_
  refine V_iload_n (pc := 1) dX12_layRooms_1 rfl rfl rfl ?_
  obtain ⟨q1, hq1, hf⟩ := bnd hf
  refine V_cVv (md' := mX12_load) (pc := 2) dX12_layRooms_2 mlX12_505 mVX12_load (tX12_load hG hn hq1) rfl (by omega) (congrArg Prod.fst sh_73) rfl (Nat.le_of_ble_eq_true rfl) rfl ?_
  refine V_aload_n (pc := 5) dX12_layRooms_5 rfl rfl rfl ?_
  obtain ⟨q2, hq2, hf⟩ := bnd hf
  refine V_cVv (md' := mX12_layShadows) (pc := 6) dX12_layRooms_6 mlX12_490 mVX12_layShadows (tX12_layShadows hG hn hq2) rfl (by omega) (congrArg Prod.fst sh_73) rfl (Nat.le_of_ble_eq_true rfl) rfl ?_
  refine V_iconst (pc := 9) dX12_layRooms_9 ic_0 rfl ?_
  refine V_istore_n (ls' := [some _, some _, some _]) (pc := 10) dX12_layRooms_10 rfl (Nat.le_of_ble_eq_true rfl) rfl rfl ?_
  obtain ⟨q7, hq7, hf⟩ := bnd hf
  refine V_wk (lX12_layRooms_11 hG hn FUEL _ _ _ _ hq7 ?_) ⟨rfl, ⟨rfl, trivial⟩⟩
  refine V_iconst (pc := 52) dX12_layRooms_52 ic_0 rfl ?_
  refine V_istore_n (ls' := [some _, none, some _]) (pc := 53) dX12_layRooms_53 rfl (Nat.le_of_ble_eq_true rfl) rfl rfl ?_
  obtain ⟨q12, hq12, hf⟩ := bnd hf
  refine V_wk (lX12_layRooms_54 hG hn FUEL _ _ _ _ hq12 ?_) ⟨rfl, ⟨rfl, trivial⟩⟩
  refine V_iconst (pc := 115) dX12_layRooms_115 ic_0 rfl ?_
  refine V_istore_n (ls' := [some _, none, some _]) (pc := 116) dX12_layRooms_116 rfl (Nat.le_of_ble_eq_true rfl) rfl rfl ?_
  obtain ⟨q18, hq18, hf⟩ := bnd hf
  refine V_wk (lX12_layRooms_117 hG hn FUEL _ _ _ _ hq18 ?_) ⟨rfl, ⟨rfl, trivial⟩⟩
  cases hf
  exact PoV_mk
/-! ShadowDoorsModel.rooms -/
noncomputable def fX12_rooms_18 : Nat → Int32 → Int32 → HI → HL → Option (Int32)
  | 0, _, _, _, _ => none
  | fu + 1, y2, y3, I, L =>
    if ((I 73 52) * (I 73 53)) ≤ y3 then
      some y2
    else
      if inb y3 64 = true then
        Option.bind (
          if (I 105 y3.toNatClampNeg) = y3 then
            some true
          else
            some false
        ) fun q3 =>
        let x4 : Int32 := (y2 + (fX12_truth (b2i q3)))
        fX12_rooms_18 fu x4 (y3 + (1 : Int32)) I L
      else none
set_option maxRecDepth 100000 in
set_option maxHeartbeats 4000000 in
theorem lX12_rooms_18 {g : GG} {n d : Nat} {tw dr sk tl ff : Nat} (hG : RG tw dr sk tl ff) (hn : 116 ≤ n) {P : PP} : ∀ (fu : Nat) (y2 : Int32) (y3 : Int32) (I : HI) (L : HL) (res : Int32), fX12_rooms_18 fu y2 y3 I L = some res → P (some (.int res)) n (RT tw dr sk tl ff) I L → V g mX12_rooms (d + 7) 0 0 n (RT tw dr sk tl ff) I L 18 [some (.ref 73), none, some (.int y2), some (.int y3)] [] P := by
  intro fu
  induction fu with
  | zero => intro y2 y3 I L res hf; cases (show none = some res from hf)
  | succ fu ih =>
    intro y2 y3 I L res hf K
    refine V_iload_n (pc := 18) dX12_rooms_18 rfl rfl rfl ?_
    refine V_aload_n (pc := 19) dX12_rooms_19 rfl rfl rfl ?_
    refine V_getI (pc := 20) dX12_rooms_20 flX12_90 rfl (by omega) (congrArg Prod.fst sh_73) rfl ?_
    refine V_aload_n (pc := 23) dX12_rooms_23 rfl rfl rfl ?_
    refine V_getI (pc := 24) dX12_rooms_24 flX12_93 rfl (by omega) (congrArg Prod.fst sh_73) rfl ?_
    refine V_imul (pc := 27) dX12_rooms_27 rfl ?_
    refine V_icmp_ge (pc := 28) (tgt := 58) dX12_rooms_28 (by decide) rfl (fun hc => ?_) (fun hc => ?_)
    · replace hf := (if_pos hc).symm.trans hf
      refine V_iload_n (pc := 58) dX12_rooms_58 rfl rfl rfl ?_
      cases hf
      exact V_iret (pc := 59) dX12_rooms_59 rfl K
    · replace hf := (if_neg hc).symm.trans hf
      refine V_iload_n (pc := 31) dX12_rooms_31 rfl rfl rfl ?_
      refine V_aload_n (pc := 32) dX12_rooms_32 rfl rfl rfl ?_
      refine V_getR (pc := 33) dX12_rooms_33 flX12_114 rfl (by omega) (congrArg Prod.fst sh_73) rt_73_78 rfl ?_
      refine V_iload_n (pc := 36) dX12_rooms_36 rfl rfl rfl ?_
      obtain ⟨hc2, hf⟩ := pif hf
      refine V_iald (pc := 37) dX12_rooms_37 (by omega) sh_105 hc2 rfl ?_
      refine V_iload_n (pc := 38) dX12_rooms_38 rfl rfl rfl ?_
      obtain ⟨q3, hq3, hf⟩ := bnd hf
      have Kq3 : V g mX12_rooms (d + 7) 0 0 n (RT tw dr sk tl ff) I L 47 [some (.ref 73), none, none, some (.int y3)] [.int (b2i q3), .int y2] P := by
        refine V_cSi (md' := mX12_truth) (pc := 47) dX12_rooms_47 mlX12_313 mSX12_truth (tX12_truth rfl) rfl rfl (Nat.le_of_ble_eq_true rfl) rfl ?_
        refine V_iadd (pc := 50) dX12_rooms_50 rfl ?_
        let x4 : Int32 := (y2 + (fX12_truth (b2i q3)))
        refine V_istore_n (ls' := [some _, none, some _, some _]) (pc := 51) dX12_rooms_51 rfl (Nat.le_of_ble_eq_true rfl) rfl rfl ?_
        refine V_iinc (ls' := [some _, none, some _, some _]) (pc := 52) dX12_rooms_52 rfl (Nat.le_of_ble_eq_true rfl) (congrArg _ ic_1) rfl rfl ?_
        refine V_goto (pc := 55) (tgt := 18) dX12_rooms_55 (by decide) ?_
        exact V_wk (ih _ _ _ _ _ hf K) ⟨rfl, ⟨rfl, ⟨rfl, trivial⟩⟩⟩
      refine V_icmp_ne (pc := 39) (tgt := 46) dX12_rooms_39 (by decide) rfl (fun hc => ?_) (fun hc => ?_)
      · replace hq3 := (if_neg hc).symm.trans hq3
        refine V_iconst (pc := 46) dX12_rooms_46 ic_0 rfl ?_
        cases hq3
        exact V_wk Kq3 ⟨rfl, ⟨rfl, trivial⟩⟩
      · replace hq3 := (if_pos hc).symm.trans hq3
        refine V_iconst (pc := 42) dX12_rooms_42 ic_1 rfl ?_
        refine V_goto (pc := 43) (tgt := 47) dX12_rooms_43 (by decide) ?_
        cases hq3
        exact V_wk Kq3 ⟨rfl, ⟨rfl, trivial⟩⟩
noncomputable def fX12_rooms (v1 : Int32) (I : HI) (L : HL) : Option (Int32 × HI × HL) :=
  if (b2i (fX12_isFar v1)) = 0 then
    some ((-1 : Int32), I, L)
  else
    Option.bind (fX12_layRooms v1 I L) fun q1 =>
    Option.bind (fX12_rooms_18 FUEL (0 : Int32) (0 : Int32) q1.1 q1.2) fun q5 =>
    some (q5, q1.1, q1.2)
set_option maxRecDepth 100000 in
set_option maxHeartbeats 4000000 in
theorem tX12_rooms {g : GG} {n d : Nat} {tw dr sk tl ff : Nat} (hG : RG tw dr sk tl ff) (hn : 116 ≤ n) {v1 : Int32} {I : HI} {L : HL} {res : Int32 × HI × HL} (hf : fX12_rooms v1 I L = some res) : CT g mX12_rooms (d + 7) 0 0 n (RT tw dr sk tl ff) I L [.ref 73, .int v1] (PoI n (RT tw dr sk tl ff) res.1 res.2.1 res.2.2) := by
  refine CT.of rfl (Nat.le_of_ble_eq_true rfl) ?_
  show V g mX12_rooms (d + 7) 0 0 n (RT tw dr sk tl ff) I L 0 [some (.ref 73), some (.int v1)] [] (PoI n (RT tw dr sk tl ff) res.1 res.2.1 res.2.2)
  refine V_iload_n (pc := 0) dX12_rooms_0 rfl rfl rfl ?_
  refine V_cSz (md' := mX12_isFar) (pc := 1) dX12_rooms_1 mlX12_514 mSX12_isFar (tX12_isFar rfl) rfl rfl (Nat.le_of_ble_eq_true rfl) rfl ?_
  refine V_if_ne (pc := 4) (tgt := 9) dX12_rooms_4 (by decide) rfl (fun hc => ?_) (fun hc => ?_)
  · replace hf := (if_neg hc).symm.trans hf
    refine V_aload_n (pc := 9) dX12_rooms_9 rfl rfl rfl ?_
    refine V_iload_n (pc := 10) dX12_rooms_10 rfl rfl rfl ?_
    obtain ⟨q1, hq1, hf⟩ := bnd hf
    refine V_cVv (md' := mX12_layRooms) (pc := 11) dX12_rooms_11 mlX12_546 mVX12_layRooms (tX12_layRooms hG hn hq1) rfl (by omega) (congrArg Prod.fst sh_73) rfl (Nat.le_of_ble_eq_true rfl) rfl ?_
    refine V_iconst (pc := 14) dX12_rooms_14 ic_0 rfl ?_
    refine V_istore_n (ls' := [some _, some _, some _]) (pc := 15) dX12_rooms_15 rfl (Nat.le_of_ble_eq_true rfl) rfl rfl ?_
    refine V_iconst (pc := 16) dX12_rooms_16 ic_0 rfl ?_
    refine V_istore_n (ls' := [some _, some _, some _, some _]) (pc := 17) dX12_rooms_17 rfl (Nat.le_of_ble_eq_true rfl) rfl rfl ?_
    obtain ⟨q5, hq5, hf⟩ := bnd hf
    refine V_wk (lX12_rooms_18 hG hn FUEL _ _ _ _ _ hq5 ?_) ⟨rfl, ⟨rfl, ⟨rfl, trivial⟩⟩⟩
    cases hf
    exact PoI_mk
  · replace hf := (if_pos hc).symm.trans hf
    refine V_iconst (pc := 7) dX12_rooms_7 ic_m1 rfl ?_
    cases hf
    exact V_iret (pc := 8) dX12_rooms_8 rfl PoI_mk
/-! ShadowDoorsModel.hears -/
noncomputable def fX12_hears (v1 : Int32) (v2 : Int32) (v3 : Int32) (I : HI) (L : HL) : Option (Int32 × HI × HL) :=
  Option.bind (
    if (b2i (fX12_isFree v1 I L)) = 0 then
      some true
    else
      if (b2i (fX12_isFree v2 I L)) = 0 then
        some true
      else
        if (b2i (fX12_isFar v3)) = 0 then
          some true
        else
          some false
  ) fun b1 =>
  if b1 = true then
    some ((-1 : Int32), I, L)
  else
    Option.bind (fX12_layRooms v3 I L) fun q2 =>
    if inb v1 64 = true then
      if inb v2 64 = true then
        Option.bind (
          if (q2.1 105 v1.toNatClampNeg) = (q2.1 105 v2.toNatClampNeg) then
            some true
          else
            some false
        ) fun q5 =>
        some ((fX12_truth (b2i q5)), q2.1, q2.2)
      else none
    else none
set_option maxRecDepth 100000 in
set_option maxHeartbeats 4000000 in
theorem tX12_hears {g : GG} {n d : Nat} {tw dr sk tl ff : Nat} (hG : RG tw dr sk tl ff) (hn : 116 ≤ n) {v1 : Int32} {v2 : Int32} {v3 : Int32} {I : HI} {L : HL} {res : Int32 × HI × HL} (hf : fX12_hears v1 v2 v3 I L = some res) : CT g mX12_hears (d + 7) 0 0 n (RT tw dr sk tl ff) I L [.ref 73, .int v1, .int v2, .int v3] (PoI n (RT tw dr sk tl ff) res.1 res.2.1 res.2.2) := by
  refine CT.of rfl (Nat.le_of_ble_eq_true rfl) ?_
  show V g mX12_hears (d + 7) 0 0 n (RT tw dr sk tl ff) I L 0 [some (.ref 73), some (.int v1), some (.int v2), some (.int v3)] [] (PoI n (RT tw dr sk tl ff) res.1 res.2.1 res.2.2)
  refine V_aload_n (pc := 0) dX12_hears_0 rfl rfl rfl ?_
  refine V_iload_n (pc := 1) dX12_hears_1 rfl rfl rfl ?_
  refine V_cVz (md' := mX12_isFree) (pc := 2) dX12_hears_2 mlX12_518 mVX12_isFree (tX12_isFree hG hn rfl) rfl (by omega) (congrArg Prod.fst sh_73) rfl (Nat.le_of_ble_eq_true rfl) rfl ?_
  obtain ⟨b1, hb1, hf⟩ := bnd hf
  have KTb1 : b1 = true → V g mX12_hears (d + 7) 0 0 n (RT tw dr sk tl ff) I L 23 [some (.ref 73), some (.int v1), some (.int v2), some (.int v3)] [] (PoI n (RT tw dr sk tl ff) res.1 res.2.1 res.2.2) := fun hc => by
    replace hf := (if_pos hc).symm.trans hf
    refine V_iconst (pc := 23) dX12_hears_23 ic_m1 rfl ?_
    cases hf
    exact V_iret (pc := 24) dX12_hears_24 rfl PoI_mk
  have KFb1 : ¬ b1 = true → V g mX12_hears (d + 7) 0 0 n (RT tw dr sk tl ff) I L 25 [some (.ref 73), some (.int v1), some (.int v2), some (.int v3)] [] (PoI n (RT tw dr sk tl ff) res.1 res.2.1 res.2.2) := fun hc => by
    replace hf := (if_neg hc).symm.trans hf
    refine V_aload_n (pc := 25) dX12_hears_25 rfl rfl rfl ?_
    refine V_iload_n (pc := 26) dX12_hears_26 rfl rfl rfl ?_
    obtain ⟨q2, hq2, hf⟩ := bnd hf
    refine V_cVv (md' := mX12_layRooms) (pc := 27) dX12_hears_27 mlX12_546 mVX12_layRooms (tX12_layRooms hG hn hq2) rfl (by omega) (congrArg Prod.fst sh_73) rfl (Nat.le_of_ble_eq_true rfl) rfl ?_
    refine V_aload_n (pc := 30) dX12_hears_30 rfl rfl rfl ?_
    refine V_getR (pc := 31) dX12_hears_31 flX12_114 rfl (by omega) (congrArg Prod.fst sh_73) rt_73_78 rfl ?_
    refine V_iload_n (pc := 34) dX12_hears_34 rfl rfl rfl ?_
    obtain ⟨hc3, hf⟩ := pif hf
    refine V_iald (pc := 35) dX12_hears_35 (by omega) sh_105 hc3 rfl ?_
    refine V_aload_n (pc := 36) dX12_hears_36 rfl rfl rfl ?_
    refine V_getR (pc := 37) dX12_hears_37 flX12_114 rfl (by omega) (congrArg Prod.fst sh_73) rt_73_78 rfl ?_
    refine V_iload_n (pc := 40) dX12_hears_40 rfl rfl rfl ?_
    obtain ⟨hc4, hf⟩ := pif hf
    refine V_iald (pc := 41) dX12_hears_41 (by omega) sh_105 hc4 rfl ?_
    obtain ⟨q5, hq5, hf⟩ := bnd hf
    have Kq5 : V g mX12_hears (d + 7) 0 0 n (RT tw dr sk tl ff) q2.1 q2.2 50 [] [.int (b2i q5)] (PoI n (RT tw dr sk tl ff) res.1 res.2.1 res.2.2) := by
      refine V_cSi (md' := mX12_truth) (pc := 50) dX12_hears_50 mlX12_313 mSX12_truth (tX12_truth rfl) rfl rfl (Nat.le_of_ble_eq_true rfl) rfl ?_
      cases hf
      exact V_iret (pc := 53) dX12_hears_53 rfl PoI_mk
    refine V_icmp_ne (pc := 42) (tgt := 49) dX12_hears_42 (by decide) rfl (fun hc => ?_) (fun hc => ?_)
    · replace hq5 := (if_neg hc).symm.trans hq5
      refine V_iconst (pc := 49) dX12_hears_49 ic_0 rfl ?_
      cases hq5
      exact V_wk Kq5 trivial
    · replace hq5 := (if_pos hc).symm.trans hq5
      refine V_iconst (pc := 45) dX12_hears_45 ic_1 rfl ?_
      refine V_goto (pc := 46) (tgt := 50) dX12_hears_46 (by decide) ?_
      cases hq5
      exact V_wk Kq5 trivial
  refine V_if_eq (pc := 5) (tgt := 23) dX12_hears_5 (by decide) rfl (fun hc => ?_) (fun hc => ?_)
  · replace hb1 := (if_pos hc).symm.trans hb1
    cases hb1
    exact KTb1 rfl
  · replace hb1 := (if_neg hc).symm.trans hb1
    refine V_aload_n (pc := 8) dX12_hears_8 rfl rfl rfl ?_
    refine V_iload_n (pc := 9) dX12_hears_9 rfl rfl rfl ?_
    refine V_cVz (md' := mX12_isFree) (pc := 10) dX12_hears_10 mlX12_518 mVX12_isFree (tX12_isFree hG hn rfl) rfl (by omega) (congrArg Prod.fst sh_73) rfl (Nat.le_of_ble_eq_true rfl) rfl ?_
    refine V_if_eq (pc := 13) (tgt := 23) dX12_hears_13 (by decide) rfl (fun hc => ?_) (fun hc => ?_)
    · replace hb1 := (if_pos hc).symm.trans hb1
      cases hb1
      exact KTb1 rfl
    · replace hb1 := (if_neg hc).symm.trans hb1
      refine V_iload_n (pc := 16) dX12_hears_16 rfl rfl rfl ?_
      refine V_cSz (md' := mX12_isFar) (pc := 17) dX12_hears_17 mlX12_514 mSX12_isFar (tX12_isFar rfl) rfl rfl (Nat.le_of_ble_eq_true rfl) rfl ?_
      refine V_if_ne (pc := 20) (tgt := 25) dX12_hears_20 (by decide) rfl (fun hc => ?_) (fun hc => ?_)
      · replace hb1 := (if_neg hc).symm.trans hb1
        cases hb1
        exact KFb1 (nbt rfl)
      · replace hb1 := (if_pos hc).symm.trans hb1
        cases hb1
        exact KTb1 rfl
/-! ShadowDoorsModel.comes -/
noncomputable def fX12_comes (v1 : Int32) (v2 : Int32) (v3 : Int32) (v4 : Int32) (I : HI) (L : HL) : Option (Bool × HI × HL) :=
  Option.bind (fX12_layHours v3 v4 I L) fun q1 =>
  Option.bind (fX12_reachOf v1 v4 q1.1 q1.2) fun q2 =>
  some ((fX12_has q2 v2), q1.1, q1.2)
set_option maxRecDepth 100000 in
set_option maxHeartbeats 4000000 in
theorem tX12_comes {g : GG} {n d : Nat} {tw dr sk tl ff : Nat} (hG : RG tw dr sk tl ff) (hn : 116 ≤ n) {v1 : Int32} {v2 : Int32} {v3 : Int32} {v4 : Int32} {I : HI} {L : HL} {res : Bool × HI × HL} (hf : fX12_comes v1 v2 v3 v4 I L = some res) : CT g mX12_comes (d + 8) 0 0 n (RT tw dr sk tl ff) I L [.ref 73, .int v1, .int v2, .int v3, .int v4] (PoB n (RT tw dr sk tl ff) res.1 res.2.1 res.2.2) := by
  refine CT.of rfl (Nat.le_of_ble_eq_true rfl) ?_
  show V g mX12_comes (d + 8) 0 0 n (RT tw dr sk tl ff) I L 0 [some (.ref 73), some (.int v1), some (.int v2), some (.int v3), some (.int v4)] [] (PoB n (RT tw dr sk tl ff) res.1 res.2.1 res.2.2)
  refine V_aload_n (pc := 0) dX12_comes_0 rfl rfl rfl ?_
  refine V_iload_n (pc := 1) dX12_comes_1 rfl rfl rfl ?_
  refine V_iload (pc := 2) dX12_comes_2 rfl rfl ?_
  obtain ⟨q1, hq1, hf⟩ := bnd hf
  refine V_cVv (md' := mX12_layHours) (pc := 4) dX12_comes_4 mlX12_527 mVX12_layHours (tX12_layHours hG hn hq1) rfl (by omega) (congrArg Prod.fst sh_73) rfl (Nat.le_of_ble_eq_true rfl) rfl ?_
  refine V_aload_n (pc := 7) dX12_comes_7 rfl rfl rfl ?_
  refine V_iload_n (pc := 8) dX12_comes_8 rfl rfl rfl ?_
  refine V_iload (pc := 9) dX12_comes_9 rfl rfl ?_
  obtain ⟨q2, hq2, hf⟩ := bnd hf
  refine V_cVl (md' := mX12_reachOf) (pc := 11) dX12_comes_11 mlX12_537 mVX12_reachOf (tX12_reachOf hG hn hq2) rfl (by omega) (congrArg Prod.fst sh_73) rfl (Nat.le_of_ble_eq_true rfl) rfl ?_
  refine V_iload_n (pc := 14) dX12_comes_14 rfl rfl rfl ?_
  refine V_cSz (md' := mX12_has) (pc := 15) dX12_comes_15 mlX12_330 mSX12_has (tX12_has rfl) rfl rfl (Nat.le_of_ble_eq_true rfl) rfl ?_
  cases hf
  exact V_zretE (pc := 18) dX12_comes_18 rfl rfl PoB_mk
/-! ShadowDoorsModel.isAsked -/
noncomputable def fX12_isAsked (v1 : Int32) (v2 : Int32) (v3 : Int32) (I : HI) (L : HL) : Bool :=
  tbn (
    if (b2i (fX12_isFree v1 I L)) = 0 then
      true
    else
      if (b2i (fX12_isFree v2 I L)) = 0 then
        true
      else
        if (b2i (fX12_isIn v3 (1 : Int32) (24 : Int32))) = 0 then
          true
        else
          false
  ) fun b1 =>
  if b1 = true then
    false
  else
    true
set_option maxRecDepth 100000 in
set_option maxHeartbeats 4000000 in
theorem tX12_isAsked {g : GG} {n d : Nat} {tw dr sk tl ff : Nat} (hG : RG tw dr sk tl ff) (hn : 116 ≤ n) {v1 : Int32} {v2 : Int32} {v3 : Int32} {I : HI} {L : HL} {res : Bool} (hf : fX12_isAsked v1 v2 v3 I L = res) : CT g mX12_isAsked (d + 3) 0 0 n (RT tw dr sk tl ff) I L [.ref 73, .int v1, .int v2, .int v3] (PoB n (RT tw dr sk tl ff) res I L) := by
  refine CT.of rfl (Nat.le_of_ble_eq_true rfl) ?_
  show V g mX12_isAsked (d + 3) 0 0 n (RT tw dr sk tl ff) I L 0 [some (.ref 73), some (.int v1), some (.int v2), some (.int v3)] [] (PoB n (RT tw dr sk tl ff) res I L)
  refine V_aload_n (pc := 0) dX12_isAsked_0 rfl rfl rfl ?_
  refine V_iload_n (pc := 1) dX12_isAsked_1 rfl rfl rfl ?_
  refine V_cVz (md' := mX12_isFree) (pc := 2) dX12_isAsked_2 mlX12_518 mVX12_isFree (tX12_isFree hG hn rfl) rfl (by omega) (congrArg Prod.fst sh_73) rfl (Nat.le_of_ble_eq_true rfl) rfl ?_
  obtain ⟨b1, hb1, hf⟩ := tbd hf
  have KTb1 : b1 = true → V g mX12_isAsked (d + 3) 0 0 n (RT tw dr sk tl ff) I L 30 [some (.ref 73), some (.int v1), some (.int v2), some (.int v3)] [] (PoB n (RT tw dr sk tl ff) res I L) := fun hc => by
    replace hf := (if_pos hc).symm.trans hf
    refine V_iconst (pc := 30) dX12_isAsked_30 ic_0 rfl ?_
    cases hf
    exact V_zretE (pc := 31) dX12_isAsked_31 rfl (show (0 : Int32) = b2i false from rfl) PoB_mk
  have KFb1 : ¬ b1 = true → V g mX12_isAsked (d + 3) 0 0 n (RT tw dr sk tl ff) I L 26 [some (.ref 73), some (.int v1), some (.int v2), some (.int v3)] [] (PoB n (RT tw dr sk tl ff) res I L) := fun hc => by
    replace hf := (if_neg hc).symm.trans hf
    refine V_iconst (pc := 26) dX12_isAsked_26 ic_1 rfl ?_
    refine V_goto (pc := 27) (tgt := 31) dX12_isAsked_27 (by decide) ?_
    cases hf
    exact V_zretE (pc := 31) dX12_isAsked_31 rfl (show (1 : Int32) = b2i true from rfl) PoB_mk
  refine V_if_eq (pc := 5) (tgt := 30) dX12_isAsked_5 (by decide) rfl (fun hc => ?_) (fun hc => ?_)
  · replace hb1 := (if_pos hc).symm.trans hb1
    cases hb1
    exact KTb1 rfl
  · replace hb1 := (if_neg hc).symm.trans hb1
    refine V_aload_n (pc := 8) dX12_isAsked_8 rfl rfl rfl ?_
    refine V_iload_n (pc := 9) dX12_isAsked_9 rfl rfl rfl ?_
    refine V_cVz (md' := mX12_isFree) (pc := 10) dX12_isAsked_10 mlX12_518 mVX12_isFree (tX12_isFree hG hn rfl) rfl (by omega) (congrArg Prod.fst sh_73) rfl (Nat.le_of_ble_eq_true rfl) rfl ?_
    refine V_if_eq (pc := 13) (tgt := 30) dX12_isAsked_13 (by decide) rfl (fun hc => ?_) (fun hc => ?_)
    · replace hb1 := (if_pos hc).symm.trans hb1
      cases hb1
      exact KTb1 rfl
    · replace hb1 := (if_neg hc).symm.trans hb1
      refine V_iload_n (pc := 16) dX12_isAsked_16 rfl rfl rfl ?_
      refine V_iconst (pc := 17) dX12_isAsked_17 ic_1 rfl ?_
      refine V_bipush (pc := 18) dX12_isAsked_18 bp_24 rfl ?_
      refine V_cSz (md' := mX12_isIn) (pc := 20) dX12_isAsked_20 mlX12_436 mSX12_isIn (tX12_isIn rfl) rfl rfl (Nat.le_of_ble_eq_true rfl) rfl ?_
      refine V_if_eq (pc := 23) (tgt := 30) dX12_isAsked_23 (by decide) rfl (fun hc => ?_) (fun hc => ?_)
      · replace hb1 := (if_pos hc).symm.trans hb1
        cases hb1
        exact KTb1 rfl
      · replace hb1 := (if_neg hc).symm.trans hb1
        cases hb1
        exact KFb1 (nbt rfl)
/-! ShadowDoorsModel.keeps -/
noncomputable def fX12_keeps (v1 : Int32) (v2 : Int32) (v3 : Int32) (v4 : Int32) (I : HI) (L : HL) : Option (Bool × HI × HL) :=
  Option.bind (fX12_load (0 : Int32) I) fun q1 =>
  let I2 : HI := up2 q1 73 66 ((q1 73 66) ||| v4)
  if inb (8 : Int32) 10 = true then
    Option.bind (fX12_comes v1 v2 (I2 99 (8 : Int32).toNatClampNeg) v3 I2 L) fun q4 =>
    if (b2i q4.1) = 0 then
      some (true, q4.2.1, q4.2.2)
    else
      some (false, q4.2.1, q4.2.2)
  else none
set_option maxRecDepth 100000 in
set_option maxHeartbeats 4000000 in
theorem tX12_keeps {g : GG} {n d : Nat} {tw dr sk tl ff : Nat} (hG : RG tw dr sk tl ff) (hn : 116 ≤ n) {v1 : Int32} {v2 : Int32} {v3 : Int32} {v4 : Int32} {I : HI} {L : HL} {res : Bool × HI × HL} (hf : fX12_keeps v1 v2 v3 v4 I L = some res) : CT g mX12_keeps (d + 9) 0 0 n (RT tw dr sk tl ff) I L [.ref 73, .int v1, .int v2, .int v3, .int v4] (PoB n (RT tw dr sk tl ff) res.1 res.2.1 res.2.2) := by
  refine CT.of rfl (Nat.le_of_ble_eq_true rfl) ?_
  show V g mX12_keeps (d + 9) 0 0 n (RT tw dr sk tl ff) I L 0 [some (.ref 73), some (.int v1), some (.int v2), some (.int v3), some (.int v4)] [] (PoB n (RT tw dr sk tl ff) res.1 res.2.1 res.2.2)
  refine V_aload_n (pc := 0) dX12_keeps_0 rfl rfl rfl ?_
  refine V_iconst (pc := 1) dX12_keeps_1 ic_0 rfl ?_
  obtain ⟨q1, hq1, hf⟩ := bnd hf
  refine V_cVv (md' := mX12_load) (pc := 2) dX12_keeps_2 mlX12_505 mVX12_load (tX12_load hG hn hq1) rfl (by omega) (congrArg Prod.fst sh_73) rfl (Nat.le_of_ble_eq_true rfl) rfl ?_
  refine V_aload_n (pc := 5) dX12_keeps_5 rfl rfl rfl ?_
  refine V_dup (pc := 6) dX12_keeps_6 rfl rfl ?_
  refine V_getI (pc := 7) dX12_keeps_7 flX12_446 rfl (by omega) (congrArg Prod.fst sh_73) rfl ?_
  refine V_iload (pc := 10) dX12_keeps_10 rfl rfl ?_
  refine V_ior (pc := 12) dX12_keeps_12 rfl ?_
  let I2 : HI := up2 q1 73 66 ((q1 73 66) ||| v4)
  refine V_putI (pc := 13) dX12_keeps_13 flX12_446 rfl rfl (by omega) (congrArg Prod.fst sh_73) rfl ?_
  refine V_aload_n (pc := 16) dX12_keeps_16 rfl rfl rfl ?_
  refine V_iload_n (pc := 17) dX12_keeps_17 rfl rfl rfl ?_
  refine V_iload_n (pc := 18) dX12_keeps_18 rfl rfl rfl ?_
  refine V_aload_n (pc := 19) dX12_keeps_19 rfl rfl rfl ?_
  refine V_getR (pc := 20) dX12_keeps_20 flX12_96 rfl (by omega) (congrArg Prod.fst sh_73) rt_73_63 rfl ?_
  refine V_bipush (pc := 23) dX12_keeps_23 bp_8 rfl ?_
  obtain ⟨hc3, hf⟩ := pif hf
  refine V_iald (pc := 25) dX12_keeps_25 (by omega) sh_99 hc3 rfl ?_
  refine V_iload_n (pc := 26) dX12_keeps_26 rfl rfl rfl ?_
  obtain ⟨q4, hq4, hf⟩ := bnd hf
  refine V_cVz (md' := mX12_comes) (pc := 27) dX12_keeps_27 mlX12_549 mVX12_comes (tX12_comes hG hn hq4) rfl (by omega) (congrArg Prod.fst sh_73) rfl (Nat.le_of_ble_eq_true rfl) rfl ?_
  refine V_if_ne (pc := 30) (tgt := 37) dX12_keeps_30 (by decide) rfl (fun hc => ?_) (fun hc => ?_)
  · replace hf := (if_neg hc).symm.trans hf
    refine V_iconst (pc := 37) dX12_keeps_37 ic_0 rfl ?_
    cases hf
    exact V_zretE (pc := 38) dX12_keeps_38 rfl (show (0 : Int32) = b2i false from rfl) PoB_mk
  · replace hf := (if_pos hc).symm.trans hf
    refine V_iconst (pc := 33) dX12_keeps_33 ic_1 rfl ?_
    refine V_goto (pc := 34) (tgt := 38) dX12_keeps_34 (by decide) ?_
    cases hf
    exact V_zretE (pc := 38) dX12_keeps_38 rfl (show (1 : Int32) = b2i true from rfl) PoB_mk
/-! ShadowDoorsModel.keep -/
noncomputable def fX12_keep_34 : Nat → Int32 → Int32 → Int32 → Int32 → Int32 → Int32 → HI → HL → Option ((HI × HL) ⊕ (Int32 × HI × HL))
  | 0, _, _, _, _, _, _, _, _ => none
  | fu + 1, y1, y2, y3, y4, y5, y6, I, L =>
    if ((1 : Int32) <<< ((I 73 55) &&& 31)) ≤ y6 then
      some (.inl (I, L))
    else
      Option.bind (fX12_members y6.toInt64) fun q2 =>
      if q2 = y5 then
        Option.bind (fX12_keeps y1 y2 y3 y6 I L) fun q3 =>
        if (b2i q3.1) = 0 then
          fX12_keep_34 fu y1 y2 y3 y4 y5 (y6 + (1 : Int32)) q3.2.1 q3.2.2
        else
          if y4 = 0 then
            some (.inr (y5, q3.2.1, q3.2.2))
          else
            some (.inr (y6, q3.2.1, q3.2.2))
      else
        fX12_keep_34 fu y1 y2 y3 y4 y5 (y6 + (1 : Int32)) I L
set_option maxRecDepth 100000 in
set_option maxHeartbeats 4000000 in
theorem lX12_keep_34 {g : GG} {n d : Nat} {tw dr sk tl ff : Nat} (hG : RG tw dr sk tl ff) (hn : 116 ≤ n) {P : PP} : ∀ (fu : Nat) (y1 : Int32) (y2 : Int32) (y3 : Int32) (y4 : Int32) (y5 : Int32) (y6 : Int32) (I : HI) (L : HL) (res : (HI × HL) ⊕ (Int32 × HI × HL)), fX12_keep_34 fu y1 y2 y3 y4 y5 y6 I L = some res → (∀ a, res = .inl a → V g mX12_keep (d + 10) 0 0 n (RT tw dr sk tl ff) a.1 a.2 87 [some (.ref 73), some (.int y1), some (.int y2), some (.int y3), some (.int y4), some (.int y5)] [] P) → (∀ b, res = .inr b → P (some (.int b.1)) n (RT tw dr sk tl ff) b.2.1 b.2.2) → V g mX12_keep (d + 10) 0 0 n (RT tw dr sk tl ff) I L 34 [some (.ref 73), some (.int y1), some (.int y2), some (.int y3), some (.int y4), some (.int y5), some (.int y6)] [] P := by
  intro fu
  induction fu with
  | zero => intro y1 y2 y3 y4 y5 y6 I L res hf; cases (show none = some res from hf)
  | succ fu ih =>
    intro y1 y2 y3 y4 y5 y6 I L res hf K1 K2
    refine V_iload (pc := 34) dX12_keep_34 rfl rfl ?_
    refine V_iconst (pc := 36) dX12_keep_36 ic_1 rfl ?_
    refine V_aload_n (pc := 37) dX12_keep_37 rfl rfl rfl ?_
    refine V_getI (pc := 38) dX12_keep_38 flX12_409 rfl (by omega) (congrArg Prod.fst sh_73) rfl ?_
    refine V_ishl (pc := 41) dX12_keep_41 rfl ?_
    refine V_icmp_ge (pc := 42) (tgt := 87) dX12_keep_42 (by decide) rfl (fun hc => ?_) (fun hc => ?_)
    · replace hf := (if_pos hc).symm.trans hf
      cases hf
      exact V_wk (K1 _ rfl) ⟨rfl, ⟨rfl, ⟨rfl, ⟨rfl, ⟨rfl, ⟨rfl, trivial⟩⟩⟩⟩⟩⟩
    · replace hf := (if_neg hc).symm.trans hf
      refine V_iload (pc := 45) dX12_keep_45 rfl rfl ?_
      refine V_i2l (pc := 47) dX12_keep_47 rfl ?_
      obtain ⟨q2, hq2, hf⟩ := bnd hf
      refine V_cSi (md' := mX12_members) (pc := 48) dX12_keep_48 mlX12_540 mSX12_members (tX12_members hq2) rfl rfl (Nat.le_of_ble_eq_true rfl) rfl ?_
      refine V_iload (pc := 51) dX12_keep_51 rfl rfl ?_
      refine V_icmp_ne (pc := 53) (tgt := 81) dX12_keep_53 (by decide) rfl (fun hc => ?_) (fun hc => ?_)
      · replace hf := (if_neg hc).symm.trans hf
        refine V_iinc (ls' := [some _, some _, some _, some _, some _, some _, some _]) (pc := 81) dX12_keep_81 rfl (Nat.le_of_ble_eq_true rfl) (congrArg _ ic_1) rfl rfl ?_
        refine V_goto (pc := 84) (tgt := 34) dX12_keep_84 (by decide) ?_
        exact V_wk (ih _ _ _ _ _ _ _ _ _ hf K1 K2) ⟨rfl, ⟨rfl, ⟨rfl, ⟨rfl, ⟨rfl, ⟨rfl, ⟨rfl, trivial⟩⟩⟩⟩⟩⟩⟩
      · replace hf := (if_pos hc).symm.trans hf
        refine V_aload_n (pc := 56) dX12_keep_56 rfl rfl rfl ?_
        refine V_iload_n (pc := 57) dX12_keep_57 rfl rfl rfl ?_
        refine V_iload_n (pc := 58) dX12_keep_58 rfl rfl rfl ?_
        refine V_iload_n (pc := 59) dX12_keep_59 rfl rfl rfl ?_
        refine V_iload (pc := 60) dX12_keep_60 rfl rfl ?_
        obtain ⟨q3, hq3, hf⟩ := bnd hf
        refine V_cVz (md' := mX12_keeps) (pc := 62) dX12_keep_62 mlX12_556 mVX12_keeps (tX12_keeps hG hn hq3) rfl (by omega) (congrArg Prod.fst sh_73) rfl (Nat.le_of_ble_eq_true rfl) rfl ?_
        refine V_if_eq (pc := 65) (tgt := 81) dX12_keep_65 (by decide) rfl (fun hc => ?_) (fun hc => ?_)
        · replace hf := (if_pos hc).symm.trans hf
          refine V_iinc (ls' := [some _, some _, some _, some _, some _, some _, some _]) (pc := 81) dX12_keep_81 rfl (Nat.le_of_ble_eq_true rfl) (congrArg _ ic_1) rfl rfl ?_
          refine V_goto (pc := 84) (tgt := 34) dX12_keep_84 (by decide) ?_
          exact V_wk (ih _ _ _ _ _ _ _ _ _ hf K1 K2) ⟨rfl, ⟨rfl, ⟨rfl, ⟨rfl, ⟨rfl, ⟨rfl, ⟨rfl, trivial⟩⟩⟩⟩⟩⟩⟩
        · replace hf := (if_neg hc).symm.trans hf
          refine V_iload (pc := 68) dX12_keep_68 rfl rfl ?_
          refine V_if_ne (pc := 70) (tgt := 78) dX12_keep_70 (by decide) rfl (fun hc => ?_) (fun hc => ?_)
          · replace hf := (if_neg hc).symm.trans hf
            refine V_iload (pc := 78) dX12_keep_78 rfl rfl ?_
            cases hf
            exact V_iret (pc := 80) dX12_keep_80 rfl (K2 _ rfl)
          · replace hf := (if_pos hc).symm.trans hf
            refine V_iload (pc := 73) dX12_keep_73 rfl rfl ?_
            refine V_goto (pc := 75) (tgt := 80) dX12_keep_75 (by decide) ?_
            cases hf
            exact V_iret (pc := 80) dX12_keep_80 rfl (K2 _ rfl)
noncomputable def fX12_keep_25 : Nat → Int32 → Int32 → Int32 → Int32 → Int32 → HI → HL → Option ((Int32 × Int32 × HI × HL) ⊕ (Int32 × HI × HL))
  | 0, _, _, _, _, _, _, _ => none
  | fu + 1, y1, y2, y3, y4, y5, I, L =>
    if (3 : Int32) < y5 then
      some (.inr ((-1 : Int32), I, L))
    else
      Option.bind (fX12_keep_34 FUEL y1 y2 y3 y4 y5 (0 : Int32) I L) fun q4 => match q4 with
      | .inl a5 =>
        fX12_keep_25 fu y1 y2 y3 y4 (y5 + (1 : Int32)) a5.1 a5.2
      | .inr b6 =>
        some (.inr (b6.1, b6.2.1, b6.2.2))
set_option maxRecDepth 100000 in
set_option maxHeartbeats 4000000 in
theorem lX12_keep_25 {g : GG} {n d : Nat} {tw dr sk tl ff : Nat} (hG : RG tw dr sk tl ff) (hn : 116 ≤ n) {P : PP} : ∀ (fu : Nat) (y1 : Int32) (y2 : Int32) (y3 : Int32) (y4 : Int32) (y5 : Int32) (I : HI) (L : HL) (res : (Int32 × Int32 × HI × HL) ⊕ (Int32 × HI × HL)), fX12_keep_25 fu y1 y2 y3 y4 y5 I L = some res → (∀ a, res = .inl a → V g mX12_keep (d + 10) 0 0 n (RT tw dr sk tl ff) a.2.2.1 a.2.2.2 68 [none, none, none, none, some (.int y4), some (.int a.1), some (.int a.2.1)] [] P) → (∀ b, res = .inr b → P (some (.int b.1)) n (RT tw dr sk tl ff) b.2.1 b.2.2) → V g mX12_keep (d + 10) 0 0 n (RT tw dr sk tl ff) I L 25 [some (.ref 73), some (.int y1), some (.int y2), some (.int y3), some (.int y4), some (.int y5)] [] P := by
  intro fu
  induction fu with
  | zero => intro y1 y2 y3 y4 y5 I L res hf; cases (show none = some res from hf)
  | succ fu ih =>
    intro y1 y2 y3 y4 y5 I L res hf K1 K2
    refine V_iload (pc := 25) dX12_keep_25 rfl rfl ?_
    refine V_iconst (pc := 27) dX12_keep_27 ic_3 rfl ?_
    refine V_icmp_gt (pc := 28) (tgt := 93) dX12_keep_28 (by decide) rfl (fun hc => ?_) (fun hc => ?_)
    · replace hf := (if_pos hc).symm.trans hf
      refine V_iconst (pc := 93) dX12_keep_93 ic_m1 rfl ?_
      cases hf
      exact V_iret (pc := 94) dX12_keep_94 rfl (K2 _ rfl)
    · replace hf := (if_neg hc).symm.trans hf
      refine V_iconst (pc := 31) dX12_keep_31 ic_0 rfl ?_
      refine V_istore (ls' := [some _, some _, some _, some _, some _, some _, some _]) (pc := 32) dX12_keep_32 (Nat.le_of_ble_eq_true rfl) rfl rfl ?_
      obtain ⟨q4, hq4, hf⟩ := bnd hf
      refine V_wk (lX12_keep_34 hG hn FUEL _ _ _ _ _ _ _ _ _ hq4 (fun a5 ha5 => ?_) (fun b6 hb6 => ?_)) ⟨rfl, ⟨rfl, ⟨rfl, ⟨rfl, ⟨rfl, ⟨rfl, ⟨rfl, trivial⟩⟩⟩⟩⟩⟩⟩
      · subst ha5
        refine V_iinc (ls' := [some _, some _, some _, some _, some _, some _]) (pc := 87) dX12_keep_87 rfl (Nat.le_of_ble_eq_true rfl) (congrArg _ ic_1) rfl rfl ?_
        refine V_goto (pc := 90) (tgt := 25) dX12_keep_90 (by decide) ?_
        exact V_wk (ih _ _ _ _ _ _ _ _ hf K1 K2) ⟨rfl, ⟨rfl, ⟨rfl, ⟨rfl, ⟨rfl, ⟨rfl, trivial⟩⟩⟩⟩⟩⟩
      · subst hb6
        cases hf
        exact (K2 _ rfl)
noncomputable def fX12_keep (v1 : Int32) (v2 : Int32) (v3 : Int32) (v4 : Int32) (I : HI) (L : HL) : Option (Int32 × HI × HL) :=
  Option.bind (
    if (b2i (fX12_isAsked v1 v2 v3 I L)) = 0 then
      some true
    else
      if (b2i (fX12_isIn v4 (0 : Int32) (1 : Int32))) = 0 then
        some true
      else
        some false
  ) fun b1 =>
  if b1 = true then
    some ((-1 : Int32), I, L)
  else
    Option.bind (fX12_keep_25 FUEL v1 v2 v3 v4 (0 : Int32) I L) fun q7 => match q7 with
    | .inl a8 =>
      if v4 = 0 then
        some (a8.1, a8.2.2.1, a8.2.2.2)
      else
        some (a8.2.1, a8.2.2.1, a8.2.2.2)
    | .inr b9 =>
      some (b9.1, b9.2.1, b9.2.2)
set_option maxRecDepth 100000 in
set_option maxHeartbeats 4000000 in
theorem tX12_keep {g : GG} {n d : Nat} {tw dr sk tl ff : Nat} (hG : RG tw dr sk tl ff) (hn : 116 ≤ n) {v1 : Int32} {v2 : Int32} {v3 : Int32} {v4 : Int32} {I : HI} {L : HL} {res : Int32 × HI × HL} (hf : fX12_keep v1 v2 v3 v4 I L = some res) : CT g mX12_keep (d + 10) 0 0 n (RT tw dr sk tl ff) I L [.ref 73, .int v1, .int v2, .int v3, .int v4] (PoI n (RT tw dr sk tl ff) res.1 res.2.1 res.2.2) := by
  refine CT.of rfl (Nat.le_of_ble_eq_true rfl) ?_
  show V g mX12_keep (d + 10) 0 0 n (RT tw dr sk tl ff) I L 0 [some (.ref 73), some (.int v1), some (.int v2), some (.int v3), some (.int v4)] [] (PoI n (RT tw dr sk tl ff) res.1 res.2.1 res.2.2)
  refine V_aload_n (pc := 0) dX12_keep_0 rfl rfl rfl ?_
  refine V_iload_n (pc := 1) dX12_keep_1 rfl rfl rfl ?_
  refine V_iload_n (pc := 2) dX12_keep_2 rfl rfl rfl ?_
  refine V_iload_n (pc := 3) dX12_keep_3 rfl rfl rfl ?_
  refine V_cVz (md' := mX12_isAsked) (pc := 4) dX12_keep_4 mlX12_553 mVX12_isAsked (tX12_isAsked hG hn rfl) rfl (by omega) (congrArg Prod.fst sh_73) rfl (Nat.le_of_ble_eq_true rfl) rfl ?_
  obtain ⟨b1, hb1, hf⟩ := bnd hf
  have KTb1 : b1 = true → V g mX12_keep (d + 10) 0 0 n (RT tw dr sk tl ff) I L 20 [some (.ref 73), some (.int v1), some (.int v2), some (.int v3), some (.int v4)] [] (PoI n (RT tw dr sk tl ff) res.1 res.2.1 res.2.2) := fun hc => by
    replace hf := (if_pos hc).symm.trans hf
    refine V_iconst (pc := 20) dX12_keep_20 ic_m1 rfl ?_
    cases hf
    exact V_iret (pc := 21) dX12_keep_21 rfl PoI_mk
  have KFb1 : ¬ b1 = true → V g mX12_keep (d + 10) 0 0 n (RT tw dr sk tl ff) I L 22 [some (.ref 73), some (.int v1), some (.int v2), some (.int v3), some (.int v4)] [] (PoI n (RT tw dr sk tl ff) res.1 res.2.1 res.2.2) := fun hc => by
    replace hf := (if_neg hc).symm.trans hf
    refine V_iconst (pc := 22) dX12_keep_22 ic_0 rfl ?_
    refine V_istore (ls' := [some _, some _, some _, some _, some _, some _]) (pc := 23) dX12_keep_23 (Nat.le_of_ble_eq_true rfl) rfl rfl ?_
    obtain ⟨q7, hq7, hf⟩ := bnd hf
    refine V_wk (lX12_keep_25 hG hn FUEL _ _ _ _ _ _ _ _ hq7 (fun a8 ha8 => ?_) (fun b9 hb9 => ?_)) ⟨rfl, ⟨rfl, ⟨rfl, ⟨rfl, ⟨rfl, ⟨rfl, trivial⟩⟩⟩⟩⟩⟩
    · subst ha8
      refine V_iload (pc := 68) dX12_keep_68 rfl rfl ?_
      refine V_if_ne (pc := 70) (tgt := 78) dX12_keep_70 (by decide) rfl (fun hc => ?_) (fun hc => ?_)
      · replace hf := (if_neg hc).symm.trans hf
        refine V_iload (pc := 78) dX12_keep_78 rfl rfl ?_
        cases hf
        exact V_iret (pc := 80) dX12_keep_80 rfl PoI_mk
      · replace hf := (if_pos hc).symm.trans hf
        refine V_iload (pc := 73) dX12_keep_73 rfl rfl ?_
        refine V_goto (pc := 75) (tgt := 80) dX12_keep_75 (by decide) ?_
        cases hf
        exact V_iret (pc := 80) dX12_keep_80 rfl PoI_mk
    · subst hb9
      cases hf
      exact PoI_mk
  refine V_if_eq (pc := 7) (tgt := 20) dX12_keep_7 (by decide) rfl (fun hc => ?_) (fun hc => ?_)
  · replace hb1 := (if_pos hc).symm.trans hb1
    cases hb1
    exact KTb1 rfl
  · replace hb1 := (if_neg hc).symm.trans hb1
    refine V_iload (pc := 10) dX12_keep_10 rfl rfl ?_
    refine V_iconst (pc := 12) dX12_keep_12 ic_0 rfl ?_
    refine V_iconst (pc := 13) dX12_keep_13 ic_1 rfl ?_
    refine V_cSz (md' := mX12_isIn) (pc := 14) dX12_keep_14 mlX12_436 mSX12_isIn (tX12_isIn rfl) rfl rfl (Nat.le_of_ble_eq_true rfl) rfl ?_
    refine V_if_ne (pc := 17) (tgt := 22) dX12_keep_17 (by decide) rfl (fun hc => ?_) (fun hc => ?_)
    · replace hb1 := (if_neg hc).symm.trans hb1
      cases hb1
      exact KFb1 (nbt rfl)
    · replace hb1 := (if_pos hc).symm.trans hb1
      cases hb1
      exact KTb1 rfl
/-! ShadowDoorsModel.frees -/
noncomputable def fX12_frees (v1 : Int32) (v2 : Int32) (v3 : Int32) (v4 : Int32) (I : HI) (L : HL) : Option (Bool × HI × HL) :=
  Option.bind (fX12_load (0 : Int32) I) fun q1 =>
  let I2 : HI := up2 q1 73 68 v4
  if inb (8 : Int32) 10 = true then
    Option.bind (fX12_comes v1 v2 (I2 99 (8 : Int32).toNatClampNeg) v3 I2 L) fun q4 =>
    some (q4.1, q4.2.1, q4.2.2)
  else none
set_option maxRecDepth 100000 in
set_option maxHeartbeats 4000000 in
theorem tX12_frees {g : GG} {n d : Nat} {tw dr sk tl ff : Nat} (hG : RG tw dr sk tl ff) (hn : 116 ≤ n) {v1 : Int32} {v2 : Int32} {v3 : Int32} {v4 : Int32} {I : HI} {L : HL} {res : Bool × HI × HL} (hf : fX12_frees v1 v2 v3 v4 I L = some res) : CT g mX12_frees (d + 9) 0 0 n (RT tw dr sk tl ff) I L [.ref 73, .int v1, .int v2, .int v3, .int v4] (PoB n (RT tw dr sk tl ff) res.1 res.2.1 res.2.2) := by
  refine CT.of rfl (Nat.le_of_ble_eq_true rfl) ?_
  show V g mX12_frees (d + 9) 0 0 n (RT tw dr sk tl ff) I L 0 [some (.ref 73), some (.int v1), some (.int v2), some (.int v3), some (.int v4)] [] (PoB n (RT tw dr sk tl ff) res.1 res.2.1 res.2.2)
  refine V_aload_n (pc := 0) dX12_frees_0 rfl rfl rfl ?_
  refine V_iconst (pc := 1) dX12_frees_1 ic_0 rfl ?_
  obtain ⟨q1, hq1, hf⟩ := bnd hf
  refine V_cVv (md' := mX12_load) (pc := 2) dX12_frees_2 mlX12_505 mVX12_load (tX12_load hG hn hq1) rfl (by omega) (congrArg Prod.fst sh_73) rfl (Nat.le_of_ble_eq_true rfl) rfl ?_
  refine V_aload_n (pc := 5) dX12_frees_5 rfl rfl rfl ?_
  refine V_iload (pc := 6) dX12_frees_6 rfl rfl ?_
  let I2 : HI := up2 q1 73 68 v4
  refine V_putI (pc := 8) dX12_frees_8 flX12_452 rfl rfl (by omega) (congrArg Prod.fst sh_73) rfl ?_
  refine V_aload_n (pc := 11) dX12_frees_11 rfl rfl rfl ?_
  refine V_iload_n (pc := 12) dX12_frees_12 rfl rfl rfl ?_
  refine V_iload_n (pc := 13) dX12_frees_13 rfl rfl rfl ?_
  refine V_aload_n (pc := 14) dX12_frees_14 rfl rfl rfl ?_
  refine V_getR (pc := 15) dX12_frees_15 flX12_96 rfl (by omega) (congrArg Prod.fst sh_73) rt_73_63 rfl ?_
  refine V_bipush (pc := 18) dX12_frees_18 bp_8 rfl ?_
  obtain ⟨hc3, hf⟩ := pif hf
  refine V_iald (pc := 20) dX12_frees_20 (by omega) sh_99 hc3 rfl ?_
  refine V_iload_n (pc := 21) dX12_frees_21 rfl rfl rfl ?_
  obtain ⟨q4, hq4, hf⟩ := bnd hf
  refine V_cVz (md' := mX12_comes) (pc := 22) dX12_frees_22 mlX12_549 mVX12_comes (tX12_comes hG hn hq4) rfl (by omega) (congrArg Prod.fst sh_73) rfl (Nat.le_of_ble_eq_true rfl) rfl ?_
  cases hf
  exact V_zretE (pc := 25) dX12_frees_25 rfl rfl PoB_mk
/-! ShadowDoorsModel.free -/
noncomputable def fX12_free_37 : Nat → Int32 → Int32 → Int32 → Int32 → Int32 → Int32 → HI → HL → Option ((HI × HL) ⊕ (Int32 × HI × HL))
  | 0, _, _, _, _, _, _, _, _ => none
  | fu + 1, y1, y2, y3, y4, y5, y6, I, L =>
    if ((1 : Int32) <<< ((I 73 56) &&& 31)) ≤ y6 then
      some (.inl (I, L))
    else
      Option.bind (fX12_members y6.toInt64) fun q2 =>
      if q2 = y5 then
        Option.bind (fX12_frees y1 y2 y3 y6 I L) fun q3 =>
        if (b2i q3.1) = 0 then
          fX12_free_37 fu y1 y2 y3 y4 y5 (y6 + (1 : Int32)) q3.2.1 q3.2.2
        else
          if y4 = 0 then
            some (.inr (y5, q3.2.1, q3.2.2))
          else
            some (.inr (y6, q3.2.1, q3.2.2))
      else
        fX12_free_37 fu y1 y2 y3 y4 y5 (y6 + (1 : Int32)) I L
set_option maxRecDepth 100000 in
set_option maxHeartbeats 4000000 in
theorem lX12_free_37 {g : GG} {n d : Nat} {tw dr sk tl ff : Nat} (hG : RG tw dr sk tl ff) (hn : 116 ≤ n) {P : PP} : ∀ (fu : Nat) (y1 : Int32) (y2 : Int32) (y3 : Int32) (y4 : Int32) (y5 : Int32) (y6 : Int32) (I : HI) (L : HL) (res : (HI × HL) ⊕ (Int32 × HI × HL)), fX12_free_37 fu y1 y2 y3 y4 y5 y6 I L = some res → (∀ a, res = .inl a → V g mX12_free (d + 10) 0 0 n (RT tw dr sk tl ff) a.1 a.2 90 [some (.ref 73), some (.int y1), some (.int y2), some (.int y3), some (.int y4), some (.int y5)] [] P) → (∀ b, res = .inr b → P (some (.int b.1)) n (RT tw dr sk tl ff) b.2.1 b.2.2) → V g mX12_free (d + 10) 0 0 n (RT tw dr sk tl ff) I L 37 [some (.ref 73), some (.int y1), some (.int y2), some (.int y3), some (.int y4), some (.int y5), some (.int y6)] [] P := by
  intro fu
  induction fu with
  | zero => intro y1 y2 y3 y4 y5 y6 I L res hf; cases (show none = some res from hf)
  | succ fu ih =>
    intro y1 y2 y3 y4 y5 y6 I L res hf K1 K2
    refine V_iload (pc := 37) dX12_free_37 rfl rfl ?_
    refine V_iconst (pc := 39) dX12_free_39 ic_1 rfl ?_
    refine V_aload_n (pc := 40) dX12_free_40 rfl rfl rfl ?_
    refine V_getI (pc := 41) dX12_free_41 flX12_412 rfl (by omega) (congrArg Prod.fst sh_73) rfl ?_
    refine V_ishl (pc := 44) dX12_free_44 rfl ?_
    refine V_icmp_ge (pc := 45) (tgt := 90) dX12_free_45 (by decide) rfl (fun hc => ?_) (fun hc => ?_)
    · replace hf := (if_pos hc).symm.trans hf
      cases hf
      exact V_wk (K1 _ rfl) ⟨rfl, ⟨rfl, ⟨rfl, ⟨rfl, ⟨rfl, ⟨rfl, trivial⟩⟩⟩⟩⟩⟩
    · replace hf := (if_neg hc).symm.trans hf
      refine V_iload (pc := 48) dX12_free_48 rfl rfl ?_
      refine V_i2l (pc := 50) dX12_free_50 rfl ?_
      obtain ⟨q2, hq2, hf⟩ := bnd hf
      refine V_cSi (md' := mX12_members) (pc := 51) dX12_free_51 mlX12_540 mSX12_members (tX12_members hq2) rfl rfl (Nat.le_of_ble_eq_true rfl) rfl ?_
      refine V_iload (pc := 54) dX12_free_54 rfl rfl ?_
      refine V_icmp_ne (pc := 56) (tgt := 84) dX12_free_56 (by decide) rfl (fun hc => ?_) (fun hc => ?_)
      · replace hf := (if_neg hc).symm.trans hf
        refine V_iinc (ls' := [some _, some _, some _, some _, some _, some _, some _]) (pc := 84) dX12_free_84 rfl (Nat.le_of_ble_eq_true rfl) (congrArg _ ic_1) rfl rfl ?_
        refine V_goto (pc := 87) (tgt := 37) dX12_free_87 (by decide) ?_
        exact V_wk (ih _ _ _ _ _ _ _ _ _ hf K1 K2) ⟨rfl, ⟨rfl, ⟨rfl, ⟨rfl, ⟨rfl, ⟨rfl, ⟨rfl, trivial⟩⟩⟩⟩⟩⟩⟩
      · replace hf := (if_pos hc).symm.trans hf
        refine V_aload_n (pc := 59) dX12_free_59 rfl rfl rfl ?_
        refine V_iload_n (pc := 60) dX12_free_60 rfl rfl rfl ?_
        refine V_iload_n (pc := 61) dX12_free_61 rfl rfl rfl ?_
        refine V_iload_n (pc := 62) dX12_free_62 rfl rfl rfl ?_
        refine V_iload (pc := 63) dX12_free_63 rfl rfl ?_
        obtain ⟨q3, hq3, hf⟩ := bnd hf
        refine V_cVz (md' := mX12_frees) (pc := 65) dX12_free_65 mlX12_559 mVX12_frees (tX12_frees hG hn hq3) rfl (by omega) (congrArg Prod.fst sh_73) rfl (Nat.le_of_ble_eq_true rfl) rfl ?_
        refine V_if_eq (pc := 68) (tgt := 84) dX12_free_68 (by decide) rfl (fun hc => ?_) (fun hc => ?_)
        · replace hf := (if_pos hc).symm.trans hf
          refine V_iinc (ls' := [some _, some _, some _, some _, some _, some _, some _]) (pc := 84) dX12_free_84 rfl (Nat.le_of_ble_eq_true rfl) (congrArg _ ic_1) rfl rfl ?_
          refine V_goto (pc := 87) (tgt := 37) dX12_free_87 (by decide) ?_
          exact V_wk (ih _ _ _ _ _ _ _ _ _ hf K1 K2) ⟨rfl, ⟨rfl, ⟨rfl, ⟨rfl, ⟨rfl, ⟨rfl, ⟨rfl, trivial⟩⟩⟩⟩⟩⟩⟩
        · replace hf := (if_neg hc).symm.trans hf
          refine V_iload (pc := 71) dX12_free_71 rfl rfl ?_
          refine V_if_ne (pc := 73) (tgt := 81) dX12_free_73 (by decide) rfl (fun hc => ?_) (fun hc => ?_)
          · replace hf := (if_neg hc).symm.trans hf
            refine V_iload (pc := 81) dX12_free_81 rfl rfl ?_
            cases hf
            exact V_iret (pc := 83) dX12_free_83 rfl (K2 _ rfl)
          · replace hf := (if_pos hc).symm.trans hf
            refine V_iload (pc := 76) dX12_free_76 rfl rfl ?_
            refine V_goto (pc := 78) (tgt := 83) dX12_free_78 (by decide) ?_
            cases hf
            exact V_iret (pc := 83) dX12_free_83 rfl (K2 _ rfl)
noncomputable def fX12_free_25 : Nat → Int32 → Int32 → Int32 → Int32 → Int32 → HI → HL → Option ((Int32 × Int32 × HI × HL) ⊕ (Int32 × HI × HL))
  | 0, _, _, _, _, _, _, _ => none
  | fu + 1, y1, y2, y3, y4, y5, I, L =>
    if (I 73 56) < y5 then
      some (.inr ((-1 : Int32), I, L))
    else
      Option.bind (fX12_free_37 FUEL y1 y2 y3 y4 y5 (0 : Int32) I L) fun q4 => match q4 with
      | .inl a5 =>
        fX12_free_25 fu y1 y2 y3 y4 (y5 + (1 : Int32)) a5.1 a5.2
      | .inr b6 =>
        some (.inr (b6.1, b6.2.1, b6.2.2))
set_option maxRecDepth 100000 in
set_option maxHeartbeats 4000000 in
theorem lX12_free_25 {g : GG} {n d : Nat} {tw dr sk tl ff : Nat} (hG : RG tw dr sk tl ff) (hn : 116 ≤ n) {P : PP} : ∀ (fu : Nat) (y1 : Int32) (y2 : Int32) (y3 : Int32) (y4 : Int32) (y5 : Int32) (I : HI) (L : HL) (res : (Int32 × Int32 × HI × HL) ⊕ (Int32 × HI × HL)), fX12_free_25 fu y1 y2 y3 y4 y5 I L = some res → (∀ a, res = .inl a → V g mX12_free (d + 10) 0 0 n (RT tw dr sk tl ff) a.2.2.1 a.2.2.2 71 [none, none, none, none, some (.int y4), some (.int a.1), some (.int a.2.1)] [] P) → (∀ b, res = .inr b → P (some (.int b.1)) n (RT tw dr sk tl ff) b.2.1 b.2.2) → V g mX12_free (d + 10) 0 0 n (RT tw dr sk tl ff) I L 25 [some (.ref 73), some (.int y1), some (.int y2), some (.int y3), some (.int y4), some (.int y5)] [] P := by
  intro fu
  induction fu with
  | zero => intro y1 y2 y3 y4 y5 I L res hf; cases (show none = some res from hf)
  | succ fu ih =>
    intro y1 y2 y3 y4 y5 I L res hf K1 K2
    refine V_iload (pc := 25) dX12_free_25 rfl rfl ?_
    refine V_aload_n (pc := 27) dX12_free_27 rfl rfl rfl ?_
    refine V_getI (pc := 28) dX12_free_28 flX12_412 rfl (by omega) (congrArg Prod.fst sh_73) rfl ?_
    refine V_icmp_gt (pc := 31) (tgt := 96) dX12_free_31 (by decide) rfl (fun hc => ?_) (fun hc => ?_)
    · replace hf := (if_pos hc).symm.trans hf
      refine V_iconst (pc := 96) dX12_free_96 ic_m1 rfl ?_
      cases hf
      exact V_iret (pc := 97) dX12_free_97 rfl (K2 _ rfl)
    · replace hf := (if_neg hc).symm.trans hf
      refine V_iconst (pc := 34) dX12_free_34 ic_0 rfl ?_
      refine V_istore (ls' := [some _, some _, some _, some _, some _, some _, some _]) (pc := 35) dX12_free_35 (Nat.le_of_ble_eq_true rfl) rfl rfl ?_
      obtain ⟨q4, hq4, hf⟩ := bnd hf
      refine V_wk (lX12_free_37 hG hn FUEL _ _ _ _ _ _ _ _ _ hq4 (fun a5 ha5 => ?_) (fun b6 hb6 => ?_)) ⟨rfl, ⟨rfl, ⟨rfl, ⟨rfl, ⟨rfl, ⟨rfl, ⟨rfl, trivial⟩⟩⟩⟩⟩⟩⟩
      · subst ha5
        refine V_iinc (ls' := [some _, some _, some _, some _, some _, some _]) (pc := 90) dX12_free_90 rfl (Nat.le_of_ble_eq_true rfl) (congrArg _ ic_1) rfl rfl ?_
        refine V_goto (pc := 93) (tgt := 25) dX12_free_93 (by decide) ?_
        exact V_wk (ih _ _ _ _ _ _ _ _ hf K1 K2) ⟨rfl, ⟨rfl, ⟨rfl, ⟨rfl, ⟨rfl, ⟨rfl, trivial⟩⟩⟩⟩⟩⟩
      · subst hb6
        cases hf
        exact (K2 _ rfl)
noncomputable def fX12_free (v1 : Int32) (v2 : Int32) (v3 : Int32) (v4 : Int32) (I : HI) (L : HL) : Option (Int32 × HI × HL) :=
  Option.bind (
    if (b2i (fX12_isAsked v1 v2 v3 I L)) = 0 then
      some true
    else
      if (b2i (fX12_isIn v4 (0 : Int32) (1 : Int32))) = 0 then
        some true
      else
        some false
  ) fun b1 =>
  if b1 = true then
    some ((-1 : Int32), I, L)
  else
    Option.bind (fX12_free_25 FUEL v1 v2 v3 v4 (0 : Int32) I L) fun q7 => match q7 with
    | .inl a8 =>
      if v4 = 0 then
        some (a8.1, a8.2.2.1, a8.2.2.2)
      else
        some (a8.2.1, a8.2.2.1, a8.2.2.2)
    | .inr b9 =>
      some (b9.1, b9.2.1, b9.2.2)
set_option maxRecDepth 100000 in
set_option maxHeartbeats 4000000 in
theorem tX12_free {g : GG} {n d : Nat} {tw dr sk tl ff : Nat} (hG : RG tw dr sk tl ff) (hn : 116 ≤ n) {v1 : Int32} {v2 : Int32} {v3 : Int32} {v4 : Int32} {I : HI} {L : HL} {res : Int32 × HI × HL} (hf : fX12_free v1 v2 v3 v4 I L = some res) : CT g mX12_free (d + 10) 0 0 n (RT tw dr sk tl ff) I L [.ref 73, .int v1, .int v2, .int v3, .int v4] (PoI n (RT tw dr sk tl ff) res.1 res.2.1 res.2.2) := by
  refine CT.of rfl (Nat.le_of_ble_eq_true rfl) ?_
  show V g mX12_free (d + 10) 0 0 n (RT tw dr sk tl ff) I L 0 [some (.ref 73), some (.int v1), some (.int v2), some (.int v3), some (.int v4)] [] (PoI n (RT tw dr sk tl ff) res.1 res.2.1 res.2.2)
  refine V_aload_n (pc := 0) dX12_free_0 rfl rfl rfl ?_
  refine V_iload_n (pc := 1) dX12_free_1 rfl rfl rfl ?_
  refine V_iload_n (pc := 2) dX12_free_2 rfl rfl rfl ?_
  refine V_iload_n (pc := 3) dX12_free_3 rfl rfl rfl ?_
  refine V_cVz (md' := mX12_isAsked) (pc := 4) dX12_free_4 mlX12_553 mVX12_isAsked (tX12_isAsked hG hn rfl) rfl (by omega) (congrArg Prod.fst sh_73) rfl (Nat.le_of_ble_eq_true rfl) rfl ?_
  obtain ⟨b1, hb1, hf⟩ := bnd hf
  have KTb1 : b1 = true → V g mX12_free (d + 10) 0 0 n (RT tw dr sk tl ff) I L 20 [some (.ref 73), some (.int v1), some (.int v2), some (.int v3), some (.int v4)] [] (PoI n (RT tw dr sk tl ff) res.1 res.2.1 res.2.2) := fun hc => by
    replace hf := (if_pos hc).symm.trans hf
    refine V_iconst (pc := 20) dX12_free_20 ic_m1 rfl ?_
    cases hf
    exact V_iret (pc := 21) dX12_free_21 rfl PoI_mk
  have KFb1 : ¬ b1 = true → V g mX12_free (d + 10) 0 0 n (RT tw dr sk tl ff) I L 22 [some (.ref 73), some (.int v1), some (.int v2), some (.int v3), some (.int v4)] [] (PoI n (RT tw dr sk tl ff) res.1 res.2.1 res.2.2) := fun hc => by
    replace hf := (if_neg hc).symm.trans hf
    refine V_iconst (pc := 22) dX12_free_22 ic_0 rfl ?_
    refine V_istore (ls' := [some _, some _, some _, some _, some _, some _]) (pc := 23) dX12_free_23 (Nat.le_of_ble_eq_true rfl) rfl rfl ?_
    obtain ⟨q7, hq7, hf⟩ := bnd hf
    refine V_wk (lX12_free_25 hG hn FUEL _ _ _ _ _ _ _ _ hq7 (fun a8 ha8 => ?_) (fun b9 hb9 => ?_)) ⟨rfl, ⟨rfl, ⟨rfl, ⟨rfl, ⟨rfl, ⟨rfl, trivial⟩⟩⟩⟩⟩⟩
    · subst ha8
      refine V_iload (pc := 71) dX12_free_71 rfl rfl ?_
      refine V_if_ne (pc := 73) (tgt := 81) dX12_free_73 (by decide) rfl (fun hc => ?_) (fun hc => ?_)
      · replace hf := (if_neg hc).symm.trans hf
        refine V_iload (pc := 81) dX12_free_81 rfl rfl ?_
        cases hf
        exact V_iret (pc := 83) dX12_free_83 rfl PoI_mk
      · replace hf := (if_pos hc).symm.trans hf
        refine V_iload (pc := 76) dX12_free_76 rfl rfl ?_
        refine V_goto (pc := 78) (tgt := 83) dX12_free_78 (by decide) ?_
        cases hf
        exact V_iret (pc := 83) dX12_free_83 rfl PoI_mk
    · subst hb9
      cases hf
      exact PoI_mk
  refine V_if_eq (pc := 7) (tgt := 20) dX12_free_7 (by decide) rfl (fun hc => ?_) (fun hc => ?_)
  · replace hb1 := (if_pos hc).symm.trans hb1
    cases hb1
    exact KTb1 rfl
  · replace hb1 := (if_neg hc).symm.trans hb1
    refine V_iload (pc := 10) dX12_free_10 rfl rfl ?_
    refine V_iconst (pc := 12) dX12_free_12 ic_0 rfl ?_
    refine V_iconst (pc := 13) dX12_free_13 ic_1 rfl ?_
    refine V_cSz (md' := mX12_isIn) (pc := 14) dX12_free_14 mlX12_436 mSX12_isIn (tX12_isIn rfl) rfl rfl (Nat.le_of_ble_eq_true rfl) rfl ?_
    refine V_if_ne (pc := 17) (tgt := 22) dX12_free_17 (by decide) rfl (fun hc => ?_) (fun hc => ?_)
    · replace hb1 := (if_neg hc).symm.trans hb1
      cases hb1
      exact KFb1 (nbt rfl)
    · replace hb1 := (if_pos hc).symm.trans hb1
      cases hb1
      exact KTb1 rfl
