/-! ShadowDoors.undo -/
noncomputable def fX11_undo (I : HI) (L : HL) : Option (Bool × HI) :=
  obn (fX0_stepBack  I) fun q1 =>
  if (b2i q1.1) = 0 then
    some (false, q1.2)
  else
    Option.bind (fX0_current  q1.2 L) fun q2 =>
    Option.bind (fX4_unpack q2 q1.2) fun q3 =>
    some (true, q3)
set_option maxRecDepth 100000 in
set_option maxHeartbeats 4000000 in
theorem tX11_undo {g : GG} {n d : Nat} {tw dr sk tl ff : Nat} (hG : RG tw dr sk tl ff) (hn : 116 ≤ n) {I : HI} {L : HL} {res : Bool × HI} (hf : fX11_undo I L = some res) : CT g mX11_undo (d + 2) 0 0 n (RT tw dr sk tl ff) I L [.ref 0] (PoB n (RT tw dr sk tl ff) res.1 res.2 L) := by
  refine CT.of rfl (Nat.le_of_ble_eq_true rfl) ?_
  show V g mX11_undo (d + 2) 0 0 n (RT tw dr sk tl ff) I L 0 [some (.ref 0)] [] (PoB n (RT tw dr sk tl ff) res.1 res.2 L)
  refine V_aload_n (pc := 0) dX11_undo_0 rfl rfl rfl ?_
  refine V_getR (pc := 1) dX11_undo_1 flX11_51 rfl (by omega) (congrArg Prod.fst sh_0) rt_0_6 rfl ?_
  obtain ⟨q1, hq1, hf⟩ := obd hf
  refine V_cVz (md' := mX0_stepBack) (pc := 4) dX11_undo_4 mlX11_213 mVX0_stepBack (tX0_stepBack rA_RT (by omega) hq1) rfl (by omega) (congrArg Prod.fst sh_54) rfl (Nat.le_of_ble_eq_true rfl) rfl ?_
  refine V_if_ne (pc := 7) (tgt := 12) dX11_undo_7 (by decide) rfl (fun hc => ?_) (fun hc => ?_)
  · replace hf := (if_neg hc).symm.trans hf
    refine V_aload_n (pc := 12) dX11_undo_12 rfl rfl rfl ?_
    refine V_getR (pc := 13) dX11_undo_13 flX11_40 rfl (by omega) (congrArg Prod.fst sh_0) rt_0_5 rfl ?_
    refine V_aload_n (pc := 16) dX11_undo_16 rfl rfl rfl ?_
    refine V_getR (pc := 17) dX11_undo_17 flX11_51 rfl (by omega) (congrArg Prod.fst sh_0) rt_0_6 rfl ?_
    obtain ⟨q2, hq2, hf⟩ := bnd hf
    refine V_cVl (md' := mX0_current) (pc := 20) dX11_undo_20 mlX11_217 mVX0_current (tX0_current rA_RT (by omega) hq2) rfl (by omega) (congrArg Prod.fst sh_54) rfl (Nat.le_of_ble_eq_true rfl) rfl ?_
    obtain ⟨q3, hq3, hf⟩ := bnd hf
    refine V_cVv (md' := mX4_unpack) (pc := 23) dX11_undo_23 mlX11_220 mVX4_unpack (tX4_unpack rN_RT (by omega) hq3) rfl (by omega) (congrArg Prod.fst sh_52) rfl (Nat.le_of_ble_eq_true rfl) rfl ?_
    refine V_iconst (pc := 26) dX11_undo_26 ic_1 rfl ?_
    cases hf
    exact V_zretE (pc := 27) dX11_undo_27 rfl (show (1 : Int32) = b2i true from rfl) PoB_mk
  · replace hf := (if_pos hc).symm.trans hf
    refine V_iconst (pc := 10) dX11_undo_10 ic_0 rfl ?_
    cases hf
    exact V_zretE (pc := 11) dX11_undo_11 rfl (show (0 : Int32) = b2i false from rfl) PoB_mk
/-! ShadowDoors.redo -/
noncomputable def fX11_redo (I : HI) (L : HL) : Option (Bool × HI) :=
  obn (fX0_stepOn  I) fun q1 =>
  if (b2i q1.1) = 0 then
    some (false, q1.2)
  else
    Option.bind (fX0_current  q1.2 L) fun q2 =>
    Option.bind (fX4_unpack q2 q1.2) fun q3 =>
    some (true, q3)
set_option maxRecDepth 100000 in
set_option maxHeartbeats 4000000 in
theorem tX11_redo {g : GG} {n d : Nat} {tw dr sk tl ff : Nat} (hG : RG tw dr sk tl ff) (hn : 116 ≤ n) {I : HI} {L : HL} {res : Bool × HI} (hf : fX11_redo I L = some res) : CT g mX11_redo (d + 2) 0 0 n (RT tw dr sk tl ff) I L [.ref 0] (PoB n (RT tw dr sk tl ff) res.1 res.2 L) := by
  refine CT.of rfl (Nat.le_of_ble_eq_true rfl) ?_
  show V g mX11_redo (d + 2) 0 0 n (RT tw dr sk tl ff) I L 0 [some (.ref 0)] [] (PoB n (RT tw dr sk tl ff) res.1 res.2 L)
  refine V_aload_n (pc := 0) dX11_redo_0 rfl rfl rfl ?_
  refine V_getR (pc := 1) dX11_redo_1 flX11_51 rfl (by omega) (congrArg Prod.fst sh_0) rt_0_6 rfl ?_
  obtain ⟨q1, hq1, hf⟩ := obd hf
  refine V_cVz (md' := mX0_stepOn) (pc := 4) dX11_redo_4 mlX11_223 mVX0_stepOn (tX0_stepOn rA_RT (by omega) hq1) rfl (by omega) (congrArg Prod.fst sh_54) rfl (Nat.le_of_ble_eq_true rfl) rfl ?_
  refine V_if_ne (pc := 7) (tgt := 12) dX11_redo_7 (by decide) rfl (fun hc => ?_) (fun hc => ?_)
  · replace hf := (if_neg hc).symm.trans hf
    refine V_aload_n (pc := 12) dX11_redo_12 rfl rfl rfl ?_
    refine V_getR (pc := 13) dX11_redo_13 flX11_40 rfl (by omega) (congrArg Prod.fst sh_0) rt_0_5 rfl ?_
    refine V_aload_n (pc := 16) dX11_redo_16 rfl rfl rfl ?_
    refine V_getR (pc := 17) dX11_redo_17 flX11_51 rfl (by omega) (congrArg Prod.fst sh_0) rt_0_6 rfl ?_
    obtain ⟨q2, hq2, hf⟩ := bnd hf
    refine V_cVl (md' := mX0_current) (pc := 20) dX11_redo_20 mlX11_217 mVX0_current (tX0_current rA_RT (by omega) hq2) rfl (by omega) (congrArg Prod.fst sh_54) rfl (Nat.le_of_ble_eq_true rfl) rfl ?_
    obtain ⟨q3, hq3, hf⟩ := bnd hf
    refine V_cVv (md' := mX4_unpack) (pc := 23) dX11_redo_23 mlX11_220 mVX4_unpack (tX4_unpack rN_RT (by omega) hq3) rfl (by omega) (congrArg Prod.fst sh_52) rfl (Nat.le_of_ble_eq_true rfl) rfl ?_
    refine V_iconst (pc := 26) dX11_redo_26 ic_1 rfl ?_
    cases hf
    exact V_zretE (pc := 27) dX11_redo_27 rfl (show (1 : Int32) = b2i true from rfl) PoB_mk
  · replace hf := (if_pos hc).symm.trans hf
    refine V_iconst (pc := 10) dX11_redo_10 ic_0 rfl ?_
    cases hf
    exact V_zretE (pc := 11) dX11_redo_11 rfl (show (0 : Int32) = b2i false from rfl) PoB_mk
/-! ShadowDoors.soonest -/
noncomputable def fX11_soonest (tw : Nat) (sk : Nat) (v1 : Int32) (v2 : Int32) (I : HI) (L : HL) : Option (Int32 × HI × HL) :=
  obn (fX10_forget  I) fun q1 =>
  Option.bind (
    if (b2i (fX5_canStand tw v1 q1 L)) = 0 then
      some true
    else
      if (b2i (fX5_canStand tw v2 q1 L)) = 0 then
        some true
      else
        some false
  ) fun b2 =>
  if b2 = true then
    some ((-1 : Int32), q1, L)
  else
    Option.bind (fX7_aimAt  q1 L) fun q3 =>
    Option.bind (fX10_layWay sk v1 v2 q3.1 q3.2) fun q4 =>
    some (q4.1, q4.2.1, q4.2.2)
set_option maxRecDepth 100000 in
set_option maxHeartbeats 4000000 in
theorem tX11_soonest {g : GG} {n d : Nat} {tw dr sk tl ff : Nat} (hG : RG tw dr sk tl ff) (hn : 116 ≤ n) {v1 : Int32} {v2 : Int32} {I : HI} {L : HL} {res : Int32 × HI × HL} (hf : fX11_soonest tw sk v1 v2 I L = some res) : CT g mX11_soonest (d + 7) 0 0 n (RT tw dr sk tl ff) I L [.ref 0, .int v1, .int v2] (PoI n (RT tw dr sk tl ff) res.1 res.2.1 res.2.2) := by
  refine CT.of rfl (Nat.le_of_ble_eq_true rfl) ?_
  show V g mX11_soonest (d + 7) 0 0 n (RT tw dr sk tl ff) I L 0 [some (.ref 0), some (.int v1), some (.int v2)] [] (PoI n (RT tw dr sk tl ff) res.1 res.2.1 res.2.2)
  refine V_aload_n (pc := 0) dX11_soonest_0 rfl rfl rfl ?_
  refine V_getR (pc := 1) dX11_soonest_1 flX11_79 rfl (by omega) (congrArg Prod.fst sh_0) rt_0_10 rfl ?_
  obtain ⟨q1, hq1, hf⟩ := obd hf
  refine V_cVv (md' := mX10_forget) (pc := 4) dX11_soonest_4 mlX11_108 mVX10_forget (tX10_forget hG hn hq1) rfl (by omega) (congrArg Prod.fst sh_61) rfl (Nat.le_of_ble_eq_true rfl) rfl ?_
  refine V_aload_n (pc := 7) dX11_soonest_7 rfl rfl rfl ?_
  refine V_getR (pc := 8) dX11_soonest_8 flX11_16 rfl (by omega) (congrArg Prod.fst sh_0) rt_0_3 rfl ?_
  refine V_iload_n (pc := 11) dX11_soonest_11 rfl rfl rfl ?_
  refine V_cVz (md' := mX5_canStand) (pc := 12) dX11_soonest_12 mlX11_195 mVX5_canStand (tX5_canStand hG.1 (rQ_RT hG.1) (by omega) rfl) rfl (by omega) (congrArg Prod.fst (shQ hG.1)) rfl (Nat.le_of_ble_eq_true rfl) rfl ?_
  obtain ⟨b2, hb2, hf⟩ := bnd hf
  have KTb2 : b2 = true → V g mX11_soonest (d + 7) 0 0 n (RT tw dr sk tl ff) q1 L 29 [some (.ref 0), some (.int v1), some (.int v2)] [] (PoI n (RT tw dr sk tl ff) res.1 res.2.1 res.2.2) := fun hc => by
    replace hf := (if_pos hc).symm.trans hf
    refine V_iconst (pc := 29) dX11_soonest_29 ic_m1 rfl ?_
    cases hf
    exact V_iret (pc := 30) dX11_soonest_30 rfl PoI_mk
  have KFb2 : ¬ b2 = true → V g mX11_soonest (d + 7) 0 0 n (RT tw dr sk tl ff) q1 L 31 [some (.ref 0), some (.int v1), some (.int v2)] [] (PoI n (RT tw dr sk tl ff) res.1 res.2.1 res.2.2) := fun hc => by
    replace hf := (if_neg hc).symm.trans hf
    refine V_aload_n (pc := 31) dX11_soonest_31 rfl rfl rfl ?_
    refine V_getR (pc := 32) dX11_soonest_32 flX11_70 rfl (by omega) (congrArg Prod.fst sh_0) rt_0_9 rfl ?_
    refine V_aload_n (pc := 35) dX11_soonest_35 rfl rfl rfl ?_
    refine V_getR (pc := 36) dX11_soonest_36 flX11_40 rfl (by omega) (congrArg Prod.fst sh_0) rt_0_5 rfl ?_
    obtain ⟨q3, hq3, hf⟩ := bnd hf
    refine V_cVv (md' := mX7_aimAt) (pc := 39) dX11_soonest_39 mlX11_183 mVX7_aimAt (tX7_aimAt hG hn hq3) rfl (by omega) (congrArg Prod.fst sh_57) rfl (Nat.le_of_ble_eq_true rfl) rfl ?_
    refine V_aload_n (pc := 42) dX11_soonest_42 rfl rfl rfl ?_
    refine V_getR (pc := 43) dX11_soonest_43 flX11_79 rfl (by omega) (congrArg Prod.fst sh_0) rt_0_10 rfl ?_
    refine V_iload_n (pc := 46) dX11_soonest_46 rfl rfl rfl ?_
    refine V_iload_n (pc := 47) dX11_soonest_47 rfl rfl rfl ?_
    obtain ⟨q4, hq4, hf⟩ := bnd hf
    refine V_cVi (md' := mX10_layWay) (pc := 48) dX11_soonest_48 mlX11_226 mVX10_layWay (tX10_layWay hG hn hq4) rfl (by omega) (congrArg Prod.fst sh_61) rfl (Nat.le_of_ble_eq_true rfl) rfl ?_
    cases hf
    exact V_iret (pc := 51) dX11_soonest_51 rfl PoI_mk
  refine V_if_eq (pc := 15) (tgt := 29) dX11_soonest_15 (by decide) rfl (fun hc => ?_) (fun hc => ?_)
  · replace hb2 := (if_pos hc).symm.trans hb2
    cases hb2
    exact KTb2 rfl
  · replace hb2 := (if_neg hc).symm.trans hb2
    refine V_aload_n (pc := 18) dX11_soonest_18 rfl rfl rfl ?_
    refine V_getR (pc := 19) dX11_soonest_19 flX11_16 rfl (by omega) (congrArg Prod.fst sh_0) rt_0_3 rfl ?_
    refine V_iload_n (pc := 22) dX11_soonest_22 rfl rfl rfl ?_
    refine V_cVz (md' := mX5_canStand) (pc := 23) dX11_soonest_23 mlX11_195 mVX5_canStand (tX5_canStand hG.1 (rQ_RT hG.1) (by omega) rfl) rfl (by omega) (congrArg Prod.fst (shQ hG.1)) rfl (Nat.le_of_ble_eq_true rfl) rfl ?_
    refine V_if_ne (pc := 26) (tgt := 31) dX11_soonest_26 (by decide) rfl (fun hc => ?_) (fun hc => ?_)
    · replace hb2 := (if_neg hc).symm.trans hb2
      cases hb2
      exact KFb2 (nbt rfl)
    · replace hb2 := (if_pos hc).symm.trans hb2
      cases hb2
      exact KTb2 rfl
/-! ShadowDoors.reach -/
noncomputable def fX11_reach (tw : Nat) (sk : Nat) (v1 : Int32) (v2 : Int32) (I : HI) (L : HL) : Option (Int64 × HI × HL) :=
  Option.bind (
    if (b2i (fX5_canStand tw v1 I L)) = 0 then
      some true
    else
      if (b2i (fX11_isAhead v2)) = 0 then
        some true
      else
        some false
  ) fun b1 =>
  if b1 = true then
    some ((0 : Int64), I, L)
  else
    Option.bind (fX7_aimAt  I L) fun q2 =>
    Option.bind (fX10_goOn sk ((1 : Int64) <<< (v1.toInt64 &&& 63)) v2 q2.1 q2.2) fun q3 =>
    some (q3.1, q3.2.1, q3.2.2)
set_option maxRecDepth 100000 in
set_option maxHeartbeats 4000000 in
theorem tX11_reach {g : GG} {n d : Nat} {tw dr sk tl ff : Nat} (hG : RG tw dr sk tl ff) (hn : 116 ≤ n) {v1 : Int32} {v2 : Int32} {I : HI} {L : HL} {res : Int64 × HI × HL} (hf : fX11_reach tw sk v1 v2 I L = some res) : CT g mX11_reach (d + 7) 0 0 n (RT tw dr sk tl ff) I L [.ref 0, .int v1, .int v2] (PoL n (RT tw dr sk tl ff) res.1 res.2.1 res.2.2) := by
  refine CT.of rfl (Nat.le_of_ble_eq_true rfl) ?_
  show V g mX11_reach (d + 7) 0 0 n (RT tw dr sk tl ff) I L 0 [some (.ref 0), some (.int v1), some (.int v2)] [] (PoL n (RT tw dr sk tl ff) res.1 res.2.1 res.2.2)
  refine V_aload_n (pc := 0) dX11_reach_0 rfl rfl rfl ?_
  refine V_getR (pc := 1) dX11_reach_1 flX11_16 rfl (by omega) (congrArg Prod.fst sh_0) rt_0_3 rfl ?_
  refine V_iload_n (pc := 4) dX11_reach_4 rfl rfl rfl ?_
  refine V_cVz (md' := mX5_canStand) (pc := 5) dX11_reach_5 mlX11_195 mVX5_canStand (tX5_canStand hG.1 (rQ_RT hG.1) (by omega) rfl) rfl (by omega) (congrArg Prod.fst (shQ hG.1)) rfl (Nat.le_of_ble_eq_true rfl) rfl ?_
  obtain ⟨b1, hb1, hf⟩ := bnd hf
  have KTb1 : b1 = true → V g mX11_reach (d + 7) 0 0 n (RT tw dr sk tl ff) I L 18 [some (.ref 0), some (.int v1), some (.int v2)] [] (PoL n (RT tw dr sk tl ff) res.1 res.2.1 res.2.2) := fun hc => by
    replace hf := (if_pos hc).symm.trans hf
    refine V_lconst (pc := 18) dX11_reach_18 lc_0 rfl ?_
    cases hf
    exact V_lret (pc := 19) dX11_reach_19 rfl PoL_mk
  have KFb1 : ¬ b1 = true → V g mX11_reach (d + 7) 0 0 n (RT tw dr sk tl ff) I L 20 [some (.ref 0), some (.int v1), some (.int v2)] [] (PoL n (RT tw dr sk tl ff) res.1 res.2.1 res.2.2) := fun hc => by
    replace hf := (if_neg hc).symm.trans hf
    refine V_aload_n (pc := 20) dX11_reach_20 rfl rfl rfl ?_
    refine V_getR (pc := 21) dX11_reach_21 flX11_70 rfl (by omega) (congrArg Prod.fst sh_0) rt_0_9 rfl ?_
    refine V_aload_n (pc := 24) dX11_reach_24 rfl rfl rfl ?_
    refine V_getR (pc := 25) dX11_reach_25 flX11_40 rfl (by omega) (congrArg Prod.fst sh_0) rt_0_5 rfl ?_
    obtain ⟨q2, hq2, hf⟩ := bnd hf
    refine V_cVv (md' := mX7_aimAt) (pc := 28) dX11_reach_28 mlX11_183 mVX7_aimAt (tX7_aimAt hG hn hq2) rfl (by omega) (congrArg Prod.fst sh_57) rfl (Nat.le_of_ble_eq_true rfl) rfl ?_
    refine V_aload_n (pc := 31) dX11_reach_31 rfl rfl rfl ?_
    refine V_getR (pc := 32) dX11_reach_32 flX11_79 rfl (by omega) (congrArg Prod.fst sh_0) rt_0_10 rfl ?_
    refine V_lconst (pc := 35) dX11_reach_35 lc_1 rfl ?_
    refine V_iload_n (pc := 36) dX11_reach_36 rfl rfl rfl ?_
    refine V_lshl (pc := 37) dX11_reach_37 rfl ?_
    refine V_iload_n (pc := 38) dX11_reach_38 rfl rfl rfl ?_
    obtain ⟨q3, hq3, hf⟩ := bnd hf
    refine V_cVl (md' := mX10_goOn) (pc := 39) dX11_reach_39 mlX11_230 mVX10_goOn (tX10_goOn hG hn hq3) rfl (by omega) (congrArg Prod.fst sh_61) rfl (Nat.le_of_ble_eq_true rfl) rfl ?_
    cases hf
    exact V_lret (pc := 42) dX11_reach_42 rfl PoL_mk
  refine V_if_eq (pc := 8) (tgt := 18) dX11_reach_8 (by decide) rfl (fun hc => ?_) (fun hc => ?_)
  · replace hb1 := (if_pos hc).symm.trans hb1
    cases hb1
    exact KTb1 rfl
  · replace hb1 := (if_neg hc).symm.trans hb1
    refine V_iload_n (pc := 11) dX11_reach_11 rfl rfl rfl ?_
    refine V_cSz (md' := mX11_isAhead) (pc := 12) dX11_reach_12 mlX11_166 mSX11_isAhead (tX11_isAhead rfl) rfl rfl (Nat.le_of_ble_eq_true rfl) rfl ?_
    refine V_if_ne (pc := 15) (tgt := 20) dX11_reach_15 (by decide) rfl (fun hc => ?_) (fun hc => ?_)
    · replace hb1 := (if_neg hc).symm.trans hb1
      cases hb1
      exact KFb1 (nbt rfl)
    · replace hb1 := (if_pos hc).symm.trans hb1
      cases hb1
      exact KTb1 rfl
/-! ShadowDoors.isChoice -/
noncomputable def fX11_isChoice (v1 : Int32) : Bool :=
  tbn (
    if v1 = 0 then
      true
    else
      if v1 = (1 : Int32) then
        true
      else
        false
  ) fun b1 =>
  if b1 = true then
    true
  else
    false
set_option maxRecDepth 100000 in
set_option maxHeartbeats 4000000 in
theorem tX11_isChoice {g : GG} {n d : Nat} {r : HR}  {v1 : Int32} {I : HI} {L : HL} {res : Bool} (hf : fX11_isChoice v1 = res) : CT g mX11_isChoice (d + 1) 0 0 n r I L [.int v1] (PoB n r res I L) := by
  refine CT.of rfl (Nat.le_of_ble_eq_true rfl) ?_
  show V g mX11_isChoice (d + 1) 0 0 n r I L 0 [some (.int v1)] [] (PoB n r res I L)
  refine V_iload_n (pc := 0) dX11_isChoice_0 rfl rfl rfl ?_
  obtain ⟨b1, hb1, hf⟩ := tbd hf
  have KTb1 : b1 = true → V g mX11_isChoice (d + 1) 0 0 n r I L 9 [some (.int v1)] [] (PoB n r res I L) := fun hc => by
    replace hf := (if_pos hc).symm.trans hf
    refine V_iconst (pc := 9) dX11_isChoice_9 ic_1 rfl ?_
    refine V_goto (pc := 10) (tgt := 14) dX11_isChoice_10 (by decide) ?_
    cases hf
    exact V_zretE (pc := 14) dX11_isChoice_14 rfl (show (1 : Int32) = b2i true from rfl) PoB_mk
  have KFb1 : ¬ b1 = true → V g mX11_isChoice (d + 1) 0 0 n r I L 13 [some (.int v1)] [] (PoB n r res I L) := fun hc => by
    replace hf := (if_neg hc).symm.trans hf
    refine V_iconst (pc := 13) dX11_isChoice_13 ic_0 rfl ?_
    cases hf
    exact V_zretE (pc := 14) dX11_isChoice_14 rfl (show (0 : Int32) = b2i false from rfl) PoB_mk
  refine V_if_eq (pc := 1) (tgt := 9) dX11_isChoice_1 (by decide) rfl (fun hc => ?_) (fun hc => ?_)
  · replace hb1 := (if_pos hc).symm.trans hb1
    cases hb1
    exact KTb1 rfl
  · replace hb1 := (if_neg hc).symm.trans hb1
    refine V_iload_n (pc := 4) dX11_isChoice_4 rfl rfl rfl ?_
    refine V_iconst (pc := 5) dX11_isChoice_5 ic_1 rfl ?_
    refine V_icmp_ne (pc := 6) (tgt := 13) dX11_isChoice_6 (by decide) rfl (fun hc => ?_) (fun hc => ?_)
    · replace hb1 := (if_neg hc).symm.trans hb1
      cases hb1
      exact KFb1 (nbt rfl)
    · replace hb1 := (if_pos hc).symm.trans hb1
      cases hb1
      exact KTb1 rfl
/-! ShadowDoors.meet -/
noncomputable def fX11_meet (tw : Nat) (sk : Nat) (v1 : Int32) (v2 : Int32) (v3 : Int32) (I : HI) (L : HL) : Option (Int32 × HI × HL) :=
  Option.bind (
    if (b2i (fX8_has (tw + 13) v1 I)) = 0 then
      some true
    else
      if (b2i (fX8_has (tw + 13) v2 I)) = 0 then
        some true
      else
        if v1 = v2 then
          some true
        else
          if (b2i (fX11_isChoice v3)) = 0 then
            some true
          else
            some false
  ) fun b1 =>
  if b1 = true then
    some ((-1 : Int32), I, L)
  else
    Option.bind (fX7_aimAt  I L) fun q2 =>
    if inb v1 4 = true then
      if inb v2 4 = true then
        Option.bind (fX10_bringTogether sk (q2.1 53 v1.toNatClampNeg) (q2.1 53 v2.toNatClampNeg) q2.1 q2.2) fun q5 =>
        if (b2i q5.1) = 0 then
          some ((-1 : Int32), q5.2.1, q5.2.2)
        else
          if v3 = 0 then
            some ((q5.2.1 61 3), q5.2.1, q5.2.2)
          else
            some ((q5.2.1 61 4), q5.2.1, q5.2.2)
      else none
    else none
set_option maxRecDepth 100000 in
set_option maxHeartbeats 4000000 in
theorem tX11_meet {g : GG} {n d : Nat} {tw dr sk tl ff : Nat} (hG : RG tw dr sk tl ff) (hn : 116 ≤ n) {v1 : Int32} {v2 : Int32} {v3 : Int32} {I : HI} {L : HL} {res : Int32 × HI × HL} (hf : fX11_meet tw sk v1 v2 v3 I L = some res) : CT g mX11_meet (d + 7) 0 0 n (RT tw dr sk tl ff) I L [.ref 0, .int v1, .int v2, .int v3] (PoI n (RT tw dr sk tl ff) res.1 res.2.1 res.2.2) := by
  refine CT.of rfl (Nat.le_of_ble_eq_true rfl) ?_
  show V g mX11_meet (d + 7) 0 0 n (RT tw dr sk tl ff) I L 0 [some (.ref 0), some (.int v1), some (.int v2), some (.int v3)] [] (PoI n (RT tw dr sk tl ff) res.1 res.2.1 res.2.2)
  refine V_aload_n (pc := 0) dX11_meet_0 rfl rfl rfl ?_
  refine V_getR (pc := 1) dX11_meet_1 flX11_16 rfl (by omega) (congrArg Prod.fst sh_0) rt_0_3 rfl ?_
  refine V_getR (pc := 4) dX11_meet_4 flX11_157 rfl (by omega) (congrArg Prod.fst (shQ hG.1)) (rQ_8 (rQ_RT hG.1)) rfl ?_
  refine V_iload_n (pc := 7) dX11_meet_7 rfl rfl rfl ?_
  refine V_cVz (md' := mX8_has) (pc := 8) dX11_meet_8 mlX11_126 mVX8_has (tX8_has (qT_8 hG.1) (rQ_s8 (rQ_RT hG.1)) (by omega) rfl) rfl (by omega) (congrArg Prod.fst (shT (qT_8 hG.1))) rfl (Nat.le_of_ble_eq_true rfl) rfl ?_
  obtain ⟨b1, hb1, hf⟩ := bnd hf
  have KTb1 : b1 = true → V g mX11_meet (d + 7) 0 0 n (RT tw dr sk tl ff) I L 40 [some (.ref 0), some (.int v1), some (.int v2), some (.int v3)] [] (PoI n (RT tw dr sk tl ff) res.1 res.2.1 res.2.2) := fun hc => by
    replace hf := (if_pos hc).symm.trans hf
    refine V_iconst (pc := 40) dX11_meet_40 ic_m1 rfl ?_
    cases hf
    exact V_iret (pc := 41) dX11_meet_41 rfl PoI_mk
  have KFb1 : ¬ b1 = true → V g mX11_meet (d + 7) 0 0 n (RT tw dr sk tl ff) I L 42 [some (.ref 0), some (.int v1), some (.int v2), some (.int v3)] [] (PoI n (RT tw dr sk tl ff) res.1 res.2.1 res.2.2) := fun hc => by
    replace hf := (if_neg hc).symm.trans hf
    refine V_aload_n (pc := 42) dX11_meet_42 rfl rfl rfl ?_
    refine V_getR (pc := 43) dX11_meet_43 flX11_70 rfl (by omega) (congrArg Prod.fst sh_0) rt_0_9 rfl ?_
    refine V_aload_n (pc := 46) dX11_meet_46 rfl rfl rfl ?_
    refine V_getR (pc := 47) dX11_meet_47 flX11_40 rfl (by omega) (congrArg Prod.fst sh_0) rt_0_5 rfl ?_
    obtain ⟨q2, hq2, hf⟩ := bnd hf
    refine V_cVv (md' := mX7_aimAt) (pc := 50) dX11_meet_50 mlX11_183 mVX7_aimAt (tX7_aimAt hG hn hq2) rfl (by omega) (congrArg Prod.fst sh_57) rfl (Nat.le_of_ble_eq_true rfl) rfl ?_
    refine V_aload_n (pc := 53) dX11_meet_53 rfl rfl rfl ?_
    refine V_getR (pc := 54) dX11_meet_54 flX11_79 rfl (by omega) (congrArg Prod.fst sh_0) rt_0_10 rfl ?_
    refine V_aload_n (pc := 57) dX11_meet_57 rfl rfl rfl ?_
    refine V_getR (pc := 58) dX11_meet_58 flX11_40 rfl (by omega) (congrArg Prod.fst sh_0) rt_0_5 rfl ?_
    refine V_getR (pc := 61) dX11_meet_61 flX11_160 rfl (by omega) (congrArg Prod.fst sh_52) rt_52_0 rfl ?_
    refine V_iload_n (pc := 64) dX11_meet_64 rfl rfl rfl ?_
    obtain ⟨hc3, hf⟩ := pif hf
    refine V_iald (pc := 65) dX11_meet_65 (by omega) sh_53 hc3 rfl ?_
    refine V_aload_n (pc := 66) dX11_meet_66 rfl rfl rfl ?_
    refine V_getR (pc := 67) dX11_meet_67 flX11_40 rfl (by omega) (congrArg Prod.fst sh_0) rt_0_5 rfl ?_
    refine V_getR (pc := 70) dX11_meet_70 flX11_160 rfl (by omega) (congrArg Prod.fst sh_52) rt_52_0 rfl ?_
    refine V_iload_n (pc := 73) dX11_meet_73 rfl rfl rfl ?_
    obtain ⟨hc4, hf⟩ := pif hf
    refine V_iald (pc := 74) dX11_meet_74 (by omega) sh_53 hc4 rfl ?_
    obtain ⟨q5, hq5, hf⟩ := bnd hf
    refine V_cVz (md' := mX10_bringTogether) (pc := 75) dX11_meet_75 mlX11_237 mVX10_bringTogether (tX10_bringTogether hG hn hq5) rfl (by omega) (congrArg Prod.fst sh_61) rfl (Nat.le_of_ble_eq_true rfl) rfl ?_
    refine V_if_ne (pc := 78) (tgt := 83) dX11_meet_78 (by decide) rfl (fun hc => ?_) (fun hc => ?_)
    · replace hf := (if_neg hc).symm.trans hf
      refine V_iload_n (pc := 83) dX11_meet_83 rfl rfl rfl ?_
      refine V_if_ne (pc := 84) (tgt := 97) dX11_meet_84 (by decide) rfl (fun hc => ?_) (fun hc => ?_)
      · replace hf := (if_neg hc).symm.trans hf
        refine V_aload_n (pc := 97) dX11_meet_97 rfl rfl rfl ?_
        refine V_getR (pc := 98) dX11_meet_98 flX11_79 rfl (by omega) (congrArg Prod.fst sh_0) rt_0_10 rfl ?_
        refine V_getI (pc := 101) dX11_meet_101 flX11_243 rfl (by omega) (congrArg Prod.fst sh_61) rfl ?_
        cases hf
        exact V_iret (pc := 104) dX11_meet_104 rfl PoI_mk
      · replace hf := (if_pos hc).symm.trans hf
        refine V_aload_n (pc := 87) dX11_meet_87 rfl rfl rfl ?_
        refine V_getR (pc := 88) dX11_meet_88 flX11_79 rfl (by omega) (congrArg Prod.fst sh_0) rt_0_10 rfl ?_
        refine V_getI (pc := 91) dX11_meet_91 flX11_240 rfl (by omega) (congrArg Prod.fst sh_61) rfl ?_
        refine V_goto (pc := 94) (tgt := 104) dX11_meet_94 (by decide) ?_
        cases hf
        exact V_iret (pc := 104) dX11_meet_104 rfl PoI_mk
    · replace hf := (if_pos hc).symm.trans hf
      refine V_iconst (pc := 81) dX11_meet_81 ic_m1 rfl ?_
      cases hf
      exact V_iret (pc := 82) dX11_meet_82 rfl PoI_mk
  refine V_if_eq (pc := 11) (tgt := 40) dX11_meet_11 (by decide) rfl (fun hc => ?_) (fun hc => ?_)
  · replace hb1 := (if_pos hc).symm.trans hb1
    cases hb1
    exact KTb1 rfl
  · replace hb1 := (if_neg hc).symm.trans hb1
    refine V_aload_n (pc := 14) dX11_meet_14 rfl rfl rfl ?_
    refine V_getR (pc := 15) dX11_meet_15 flX11_16 rfl (by omega) (congrArg Prod.fst sh_0) rt_0_3 rfl ?_
    refine V_getR (pc := 18) dX11_meet_18 flX11_157 rfl (by omega) (congrArg Prod.fst (shQ hG.1)) (rQ_8 (rQ_RT hG.1)) rfl ?_
    refine V_iload_n (pc := 21) dX11_meet_21 rfl rfl rfl ?_
    refine V_cVz (md' := mX8_has) (pc := 22) dX11_meet_22 mlX11_126 mVX8_has (tX8_has (qT_8 hG.1) (rQ_s8 (rQ_RT hG.1)) (by omega) rfl) rfl (by omega) (congrArg Prod.fst (shT (qT_8 hG.1))) rfl (Nat.le_of_ble_eq_true rfl) rfl ?_
    refine V_if_eq (pc := 25) (tgt := 40) dX11_meet_25 (by decide) rfl (fun hc => ?_) (fun hc => ?_)
    · replace hb1 := (if_pos hc).symm.trans hb1
      cases hb1
      exact KTb1 rfl
    · replace hb1 := (if_neg hc).symm.trans hb1
      refine V_iload_n (pc := 28) dX11_meet_28 rfl rfl rfl ?_
      refine V_iload_n (pc := 29) dX11_meet_29 rfl rfl rfl ?_
      refine V_icmp_eq (pc := 30) (tgt := 40) dX11_meet_30 (by decide) rfl (fun hc => ?_) (fun hc => ?_)
      · replace hb1 := (if_pos hc).symm.trans hb1
        cases hb1
        exact KTb1 rfl
      · replace hb1 := (if_neg hc).symm.trans hb1
        refine V_iload_n (pc := 33) dX11_meet_33 rfl rfl rfl ?_
        refine V_cSz (md' := mX11_isChoice) (pc := 34) dX11_meet_34 mlX11_234 mSX11_isChoice (tX11_isChoice rfl) rfl rfl (Nat.le_of_ble_eq_true rfl) rfl ?_
        refine V_if_ne (pc := 37) (tgt := 42) dX11_meet_37 (by decide) rfl (fun hc => ?_) (fun hc => ?_)
        · replace hb1 := (if_neg hc).symm.trans hb1
          cases hb1
          exact KFb1 (nbt rfl)
        · replace hb1 := (if_pos hc).symm.trans hb1
          cases hb1
          exact KTb1 rfl
/-! ShadowDoors.barred -/
noncomputable def fX11_barred (tw : Nat) (sk : Nat) (v1 : Int32) (v2 : Int32) (I : HI) (L : HL) : Option (Int64 × HI × HL) :=
  Option.bind (
    if (b2i (fX5_canStand tw v1 I L)) = 0 then
      some true
    else
      if (b2i (fX11_isAhead v2)) = 0 then
        some true
      else
        some false
  ) fun b1 =>
  if b1 = true then
    some ((0 : Int64), I, L)
  else
    Option.bind (fX7_aimAt  I L) fun q2 =>
    Option.bind (fX10_comeFrom sk ((1 : Int64) <<< (v1.toInt64 &&& 63)) v2 q2.1 q2.2) fun q3 =>
    some (((q2.2 tw 4) &&& (q3.1 ^^^ (-1 : Int64))), q3.2.1, q3.2.2)
set_option maxRecDepth 100000 in
set_option maxHeartbeats 4000000 in
theorem tX11_barred {g : GG} {n d : Nat} {tw dr sk tl ff : Nat} (hG : RG tw dr sk tl ff) (hn : 116 ≤ n) {v1 : Int32} {v2 : Int32} {I : HI} {L : HL} {res : Int64 × HI × HL} (hf : fX11_barred tw sk v1 v2 I L = some res) : CT g mX11_barred (d + 7) 0 0 n (RT tw dr sk tl ff) I L [.ref 0, .int v1, .int v2] (PoL n (RT tw dr sk tl ff) res.1 res.2.1 res.2.2) := by
  refine CT.of rfl (Nat.le_of_ble_eq_true rfl) ?_
  show V g mX11_barred (d + 7) 0 0 n (RT tw dr sk tl ff) I L 0 [some (.ref 0), some (.int v1), some (.int v2)] [] (PoL n (RT tw dr sk tl ff) res.1 res.2.1 res.2.2)
  refine V_aload_n (pc := 0) dX11_barred_0 rfl rfl rfl ?_
  refine V_getR (pc := 1) dX11_barred_1 flX11_16 rfl (by omega) (congrArg Prod.fst sh_0) rt_0_3 rfl ?_
  refine V_iload_n (pc := 4) dX11_barred_4 rfl rfl rfl ?_
  refine V_cVz (md' := mX5_canStand) (pc := 5) dX11_barred_5 mlX11_195 mVX5_canStand (tX5_canStand hG.1 (rQ_RT hG.1) (by omega) rfl) rfl (by omega) (congrArg Prod.fst (shQ hG.1)) rfl (Nat.le_of_ble_eq_true rfl) rfl ?_
  obtain ⟨b1, hb1, hf⟩ := bnd hf
  have KTb1 : b1 = true → V g mX11_barred (d + 7) 0 0 n (RT tw dr sk tl ff) I L 18 [some (.ref 0), some (.int v1), some (.int v2)] [] (PoL n (RT tw dr sk tl ff) res.1 res.2.1 res.2.2) := fun hc => by
    replace hf := (if_pos hc).symm.trans hf
    refine V_lconst (pc := 18) dX11_barred_18 lc_0 rfl ?_
    cases hf
    exact V_lret (pc := 19) dX11_barred_19 rfl PoL_mk
  have KFb1 : ¬ b1 = true → V g mX11_barred (d + 7) 0 0 n (RT tw dr sk tl ff) I L 20 [some (.ref 0), some (.int v1), some (.int v2)] [] (PoL n (RT tw dr sk tl ff) res.1 res.2.1 res.2.2) := fun hc => by
    replace hf := (if_neg hc).symm.trans hf
    refine V_aload_n (pc := 20) dX11_barred_20 rfl rfl rfl ?_
    refine V_getR (pc := 21) dX11_barred_21 flX11_70 rfl (by omega) (congrArg Prod.fst sh_0) rt_0_9 rfl ?_
    refine V_aload_n (pc := 24) dX11_barred_24 rfl rfl rfl ?_
    refine V_getR (pc := 25) dX11_barred_25 flX11_40 rfl (by omega) (congrArg Prod.fst sh_0) rt_0_5 rfl ?_
    obtain ⟨q2, hq2, hf⟩ := bnd hf
    refine V_cVv (md' := mX7_aimAt) (pc := 28) dX11_barred_28 mlX11_183 mVX7_aimAt (tX7_aimAt hG hn hq2) rfl (by omega) (congrArg Prod.fst sh_57) rfl (Nat.le_of_ble_eq_true rfl) rfl ?_
    refine V_aload_n (pc := 31) dX11_barred_31 rfl rfl rfl ?_
    refine V_getR (pc := 32) dX11_barred_32 flX11_16 rfl (by omega) (congrArg Prod.fst sh_0) rt_0_3 rfl ?_
    refine V_getL (pc := 35) dX11_barred_35 flX11_246 rfl (by omega) (congrArg Prod.fst (shQ hG.1)) rfl ?_
    refine V_aload_n (pc := 38) dX11_barred_38 rfl rfl rfl ?_
    refine V_getR (pc := 39) dX11_barred_39 flX11_79 rfl (by omega) (congrArg Prod.fst sh_0) rt_0_10 rfl ?_
    refine V_lconst (pc := 42) dX11_barred_42 lc_1 rfl ?_
    refine V_iload_n (pc := 43) dX11_barred_43 rfl rfl rfl ?_
    refine V_lshl (pc := 44) dX11_barred_44 rfl ?_
    refine V_iload_n (pc := 45) dX11_barred_45 rfl rfl rfl ?_
    obtain ⟨q3, hq3, hf⟩ := bnd hf
    refine V_cVl (md' := mX10_comeFrom) (pc := 46) dX11_barred_46 mlX11_250 mVX10_comeFrom (tX10_comeFrom hG hn hq3) rfl (by omega) (congrArg Prod.fst sh_61) rfl (Nat.le_of_ble_eq_true rfl) rfl ?_
    refine V_ldc2 (pc := 49) dX11_barred_49 klX11_253 rfl ?_
    refine V_lxor (pc := 52) dX11_barred_52 rfl ?_
    refine V_land (pc := 53) dX11_barred_53 rfl ?_
    cases hf
    exact V_lret (pc := 54) dX11_barred_54 rfl PoL_mk
  refine V_if_eq (pc := 8) (tgt := 18) dX11_barred_8 (by decide) rfl (fun hc => ?_) (fun hc => ?_)
  · replace hb1 := (if_pos hc).symm.trans hb1
    cases hb1
    exact KTb1 rfl
  · replace hb1 := (if_neg hc).symm.trans hb1
    refine V_iload_n (pc := 11) dX11_barred_11 rfl rfl rfl ?_
    refine V_cSz (md' := mX11_isAhead) (pc := 12) dX11_barred_12 mlX11_166 mSX11_isAhead (tX11_isAhead rfl) rfl rfl (Nat.le_of_ble_eq_true rfl) rfl ?_
    refine V_if_ne (pc := 15) (tgt := 20) dX11_barred_15 (by decide) rfl (fun hc => ?_) (fun hc => ?_)
    · replace hb1 := (if_neg hc).symm.trans hb1
      cases hb1
      exact KFb1 (nbt rfl)
    · replace hb1 := (if_pos hc).symm.trans hb1
      cases hb1
      exact KTb1 rfl
/-! ShadowDoors.longest -/
noncomputable def fX11_longest_42 (tw : Nat) (sk : Nat) : Nat → Int32 → Int32 → Int32 → Int32 → Int32 → HI → HL → Option (Int32 × Int32 × HI × HL)
  | 0, _, _, _, _, _, _, _ => none
  | fu + 1, y1, y2, y3, y4, y5, I, L =>
    if (24 : Int32) ≤ y5 then
      some (y3, y4, I, L)
    else
      Option.bind (fX7_shadowOf sk y1 y5 I L) fun q3 =>
      let x4 : Int32 := (fJ13_bitCount_95d88 q3.1)
      if x4 ≤ y4 then
        fX11_longest_42 tw sk fu y1 y2 y3 y4 (y5 + (1 : Int32)) q3.2.1 q3.2.2
      else
        fX11_longest_42 tw sk fu y1 y2 y5 x4 (y5 + (1 : Int32)) q3.2.1 q3.2.2
set_option maxRecDepth 100000 in
set_option maxHeartbeats 4000000 in
theorem lX11_longest_42 {g : GG} {n d : Nat} {tw dr sk tl ff : Nat} (hG : RG tw dr sk tl ff) (hn : 116 ≤ n) {P : PP} : ∀ (fu : Nat) (y1 : Int32) (y2 : Int32) (y3 : Int32) (y4 : Int32) (y5 : Int32) (I : HI) (L : HL) (res : Int32 × Int32 × HI × HL), fX11_longest_42 tw sk fu y1 y2 y3 y4 y5 I L = some res → V g mX11_longest (d + 6) 0 0 n (RT tw dr sk tl ff) res.2.2.1 res.2.2.2 84 [none, none, some (.int y2), some (.int res.1), some (.int res.2.1)] [] P → V g mX11_longest (d + 6) 0 0 n (RT tw dr sk tl ff) I L 42 [some (.ref 0), some (.int y1), some (.int y2), some (.int y3), some (.int y4), some (.int y5)] [] P := by
  intro fu
  induction fu with
  | zero => intro y1 y2 y3 y4 y5 I L res hf; cases (show none = some res from hf)
  | succ fu ih =>
    intro y1 y2 y3 y4 y5 I L res hf K
    refine V_iload (pc := 42) dX11_longest_42 rfl rfl ?_
    refine V_bipush (pc := 44) dX11_longest_44 bp_24 rfl ?_
    refine V_icmp_ge (pc := 46) (tgt := 84) dX11_longest_46 (by decide) rfl (fun hc => ?_) (fun hc => ?_)
    · replace hf := (if_pos hc).symm.trans hf
      cases hf
      exact V_wk K ⟨rfl, ⟨rfl, ⟨rfl, trivial⟩⟩⟩
    · replace hf := (if_neg hc).symm.trans hf
      refine V_aload_n (pc := 49) dX11_longest_49 rfl rfl rfl ?_
      refine V_getR (pc := 50) dX11_longest_50 flX11_70 rfl (by omega) (congrArg Prod.fst sh_0) rt_0_9 rfl ?_
      refine V_iload_n (pc := 53) dX11_longest_53 rfl rfl rfl ?_
      refine V_iload (pc := 54) dX11_longest_54 rfl rfl ?_
      obtain ⟨q3, hq3, hf⟩ := bnd hf
      refine V_cVl (md' := mX7_shadowOf) (pc := 56) dX11_longest_56 mlX11_187 mVX7_shadowOf (tX7_shadowOf hG hn hq3) rfl (by omega) (congrArg Prod.fst sh_57) rfl (Nat.le_of_ble_eq_true rfl) rfl ?_
      refine V_cSi (md' := mJ13_bitCount_95d88) (pc := 59) dX11_longest_59 mlX11_255 mSJ13_bitCount_95d88 (tJ13_bitCount_95d88 rfl) rfl rfl (Nat.le_of_ble_eq_true rfl) rfl ?_
      let x4 : Int32 := (fJ13_bitCount_95d88 q3.1)
      refine V_istore (ls' := [some _, some _, some _, some _, some _, some _, some _]) (pc := 62) dX11_longest_62 (Nat.le_of_ble_eq_true rfl) rfl rfl ?_
      refine V_iload (pc := 64) dX11_longest_64 rfl rfl ?_
      refine V_iload (pc := 66) dX11_longest_66 rfl rfl ?_
      refine V_icmp_le (pc := 68) (tgt := 78) dX11_longest_68 (by decide) rfl (fun hc => ?_) (fun hc => ?_)
      · replace hf := (if_pos hc).symm.trans hf
        refine V_iinc (ls' := [some _, some _, some _, some _, some _, some _, some _]) (pc := 78) dX11_longest_78 rfl (Nat.le_of_ble_eq_true rfl) (congrArg _ ic_1) rfl rfl ?_
        refine V_goto (pc := 81) (tgt := 42) dX11_longest_81 (by decide) ?_
        exact V_wk (ih _ _ _ _ _ _ _ _ hf K) ⟨rfl, ⟨rfl, ⟨rfl, ⟨rfl, ⟨rfl, ⟨rfl, trivial⟩⟩⟩⟩⟩⟩
      · replace hf := (if_neg hc).symm.trans hf
        refine V_iload (pc := 71) dX11_longest_71 rfl rfl ?_
        refine V_istore (ls' := [some _, some _, some _, some _, some _, some _, some _]) (pc := 73) dX11_longest_73 (Nat.le_of_ble_eq_true rfl) rfl rfl ?_
        refine V_iload (pc := 75) dX11_longest_75 rfl rfl ?_
        refine V_istore_n (ls' := [some _, some _, some _, some _, some _, some _, some _]) (pc := 77) dX11_longest_77 rfl (Nat.le_of_ble_eq_true rfl) rfl rfl ?_
        refine V_iinc (ls' := [some _, some _, some _, some _, some _, some _, some _]) (pc := 78) dX11_longest_78 rfl (Nat.le_of_ble_eq_true rfl) (congrArg _ ic_1) rfl rfl ?_
        refine V_goto (pc := 81) (tgt := 42) dX11_longest_81 (by decide) ?_
        exact V_wk (ih _ _ _ _ _ _ _ _ hf K) ⟨rfl, ⟨rfl, ⟨rfl, ⟨rfl, ⟨rfl, ⟨rfl, trivial⟩⟩⟩⟩⟩⟩
noncomputable def fX11_longest (tw : Nat) (sk : Nat) (v1 : Int32) (v2 : Int32) (I : HI) (L : HL) : Option (Int32 × HI × HL) :=
  Option.bind (
    if (b2i (fX8_has (tw + 1) v1 I)) = 0 then
      some true
    else
      if (b2i (fX11_isChoice v2)) = 0 then
        some true
      else
        some false
  ) fun b1 =>
  if b1 = true then
    some ((-1 : Int32), I, L)
  else
    Option.bind (fX7_aimAt  I L) fun q2 =>
    Option.bind (fX11_longest_42 tw sk FUEL v1 v2 (0 : Int32) (0 : Int32) (0 : Int32) q2.1 q2.2) fun q5 =>
    if v2 = 0 then
      some (q5.1, q5.2.2.1, q5.2.2.2)
    else
      some (q5.2.1, q5.2.2.1, q5.2.2.2)
set_option maxRecDepth 100000 in
set_option maxHeartbeats 4000000 in
theorem tX11_longest {g : GG} {n d : Nat} {tw dr sk tl ff : Nat} (hG : RG tw dr sk tl ff) (hn : 116 ≤ n) {v1 : Int32} {v2 : Int32} {I : HI} {L : HL} {res : Int32 × HI × HL} (hf : fX11_longest tw sk v1 v2 I L = some res) : CT g mX11_longest (d + 6) 0 0 n (RT tw dr sk tl ff) I L [.ref 0, .int v1, .int v2] (PoI n (RT tw dr sk tl ff) res.1 res.2.1 res.2.2) := by
  refine CT.of rfl (Nat.le_of_ble_eq_true rfl) ?_
  show V g mX11_longest (d + 6) 0 0 n (RT tw dr sk tl ff) I L 0 [some (.ref 0), some (.int v1), some (.int v2)] [] (PoI n (RT tw dr sk tl ff) res.1 res.2.1 res.2.2)
  refine V_aload_n (pc := 0) dX11_longest_0 rfl rfl rfl ?_
  refine V_getR (pc := 1) dX11_longest_1 flX11_16 rfl (by omega) (congrArg Prod.fst sh_0) rt_0_3 rfl ?_
  refine V_getR (pc := 4) dX11_longest_4 flX11_111 rfl (by omega) (congrArg Prod.fst (shQ hG.1)) (rQ_6 (rQ_RT hG.1)) rfl ?_
  refine V_iload_n (pc := 7) dX11_longest_7 rfl rfl rfl ?_
  refine V_cVz (md' := mX8_has) (pc := 8) dX11_longest_8 mlX11_126 mVX8_has (tX8_has (qT_6 hG.1) (rQ_s6 (rQ_RT hG.1)) (by omega) rfl) rfl (by omega) (congrArg Prod.fst (shT (qT_6 hG.1))) rfl (Nat.le_of_ble_eq_true rfl) rfl ?_
  obtain ⟨b1, hb1, hf⟩ := bnd hf
  have KTb1 : b1 = true → V g mX11_longest (d + 6) 0 0 n (RT tw dr sk tl ff) I L 21 [some (.ref 0), some (.int v1), some (.int v2)] [] (PoI n (RT tw dr sk tl ff) res.1 res.2.1 res.2.2) := fun hc => by
    replace hf := (if_pos hc).symm.trans hf
    refine V_iconst (pc := 21) dX11_longest_21 ic_m1 rfl ?_
    cases hf
    exact V_iret (pc := 22) dX11_longest_22 rfl PoI_mk
  have KFb1 : ¬ b1 = true → V g mX11_longest (d + 6) 0 0 n (RT tw dr sk tl ff) I L 23 [some (.ref 0), some (.int v1), some (.int v2)] [] (PoI n (RT tw dr sk tl ff) res.1 res.2.1 res.2.2) := fun hc => by
    replace hf := (if_neg hc).symm.trans hf
    refine V_aload_n (pc := 23) dX11_longest_23 rfl rfl rfl ?_
    refine V_getR (pc := 24) dX11_longest_24 flX11_70 rfl (by omega) (congrArg Prod.fst sh_0) rt_0_9 rfl ?_
    refine V_aload_n (pc := 27) dX11_longest_27 rfl rfl rfl ?_
    refine V_getR (pc := 28) dX11_longest_28 flX11_40 rfl (by omega) (congrArg Prod.fst sh_0) rt_0_5 rfl ?_
    obtain ⟨q2, hq2, hf⟩ := bnd hf
    refine V_cVv (md' := mX7_aimAt) (pc := 31) dX11_longest_31 mlX11_183 mVX7_aimAt (tX7_aimAt hG hn hq2) rfl (by omega) (congrArg Prod.fst sh_57) rfl (Nat.le_of_ble_eq_true rfl) rfl ?_
    refine V_iconst (pc := 34) dX11_longest_34 ic_0 rfl ?_
    refine V_istore_n (ls' := [some _, some _, some _, some _]) (pc := 35) dX11_longest_35 rfl (Nat.le_of_ble_eq_true rfl) rfl rfl ?_
    refine V_iconst (pc := 36) dX11_longest_36 ic_0 rfl ?_
    refine V_istore (ls' := [some _, some _, some _, some _, some _]) (pc := 37) dX11_longest_37 (Nat.le_of_ble_eq_true rfl) rfl rfl ?_
    refine V_iconst (pc := 39) dX11_longest_39 ic_0 rfl ?_
    refine V_istore (ls' := [some _, some _, some _, some _, some _, some _]) (pc := 40) dX11_longest_40 (Nat.le_of_ble_eq_true rfl) rfl rfl ?_
    obtain ⟨q5, hq5, hf⟩ := bnd hf
    refine V_wk (lX11_longest_42 hG hn FUEL _ _ _ _ _ _ _ _ hq5 ?_) ⟨rfl, ⟨rfl, ⟨rfl, ⟨rfl, ⟨rfl, ⟨rfl, trivial⟩⟩⟩⟩⟩⟩
    refine V_iload_n (pc := 84) dX11_longest_84 rfl rfl rfl ?_
    refine V_if_ne (pc := 85) (tgt := 92) dX11_longest_85 (by decide) rfl (fun hc => ?_) (fun hc => ?_)
    · replace hf := (if_neg hc).symm.trans hf
      refine V_iload (pc := 92) dX11_longest_92 rfl rfl ?_
      cases hf
      exact V_iret (pc := 94) dX11_longest_94 rfl PoI_mk
    · replace hf := (if_pos hc).symm.trans hf
      refine V_iload_n (pc := 88) dX11_longest_88 rfl rfl rfl ?_
      refine V_goto (pc := 89) (tgt := 94) dX11_longest_89 (by decide) ?_
      cases hf
      exact V_iret (pc := 94) dX11_longest_94 rfl PoI_mk
  refine V_if_eq (pc := 11) (tgt := 21) dX11_longest_11 (by decide) rfl (fun hc => ?_) (fun hc => ?_)
  · replace hb1 := (if_pos hc).symm.trans hb1
    cases hb1
    exact KTb1 rfl
  · replace hb1 := (if_neg hc).symm.trans hb1
    refine V_iload_n (pc := 14) dX11_longest_14 rfl rfl rfl ?_
    refine V_cSz (md' := mX11_isChoice) (pc := 15) dX11_longest_15 mlX11_234 mSX11_isChoice (tX11_isChoice rfl) rfl rfl (Nat.le_of_ble_eq_true rfl) rfl ?_
    refine V_if_ne (pc := 18) (tgt := 23) dX11_longest_18 (by decide) rfl (fun hc => ?_) (fun hc => ?_)
    · replace hb1 := (if_neg hc).symm.trans hb1
      cases hb1
      exact KFb1 (nbt rfl)
    · replace hb1 := (if_pos hc).symm.trans hb1
      cases hb1
      exact KTb1 rfl
/-! ShadowDoors.cross -/
noncomputable def fX11_cross_56 (tw : Nat) (sk : Nat) : Nat → Int32 → Int32 → Int32 → Int32 → HI → HL → Option ((Int32 × Int64 × HI × HL) ⊕ (Int32 × HI × HL))
  | 0, _, _, _, _, _, _ => none
  | fu + 1, y1, y2, y3, y4, I, L =>
    if (48 : Int32) < y4 then
      some (.inr ((-1 : Int32), I, L))
    else
      Option.bind (fX7_openIn sk y4 I L) fun q3 =>
      Option.bind (
        if (b2i (fX11_isBit q3.1 y1)) = 0 then
          some true
        else
          if (b2i (fX11_isBit q3.1 y2)) = 0 then
            some true
          else
            some false
      ) fun b4 =>
      if b4 = true then
        fX11_cross_56 tw sk fu y1 y2 y3 (y4 + (1 : Int32)) q3.2.1 q3.2.2
      else
        Option.bind (fX7_shadowOf sk y1 y4 q3.2.1 q3.2.2) fun q5 =>
        Option.bind (fX7_shadowOf sk y2 y4 q5.2.1 q5.2.2) fun q6 =>
        if (q5.1 &&& q6.1) = (0 : Int64) then
          fX11_cross_56 tw sk fu y1 y2 y3 (y4 + (1 : Int32)) q6.2.1 q6.2.2
        else
          some (.inl (y4, (q5.1 &&& q6.1), q6.2.1, q6.2.2))
set_option maxRecDepth 100000 in
set_option maxHeartbeats 4000000 in
theorem lX11_cross_56 {g : GG} {n d : Nat} {tw dr sk tl ff : Nat} (hG : RG tw dr sk tl ff) (hn : 116 ≤ n) {P : PP} : ∀ (fu : Nat) (y1 : Int32) (y2 : Int32) (y3 : Int32) (y4 : Int32) (I : HI) (L : HL) (res : (Int32 × Int64 × HI × HL) ⊕ (Int32 × HI × HL)), fX11_cross_56 tw sk fu y1 y2 y3 y4 I L = some res → (∀ a, res = .inl a → V g mX11_cross (d + 6) 0 0 n (RT tw dr sk tl ff) a.2.2.1 a.2.2.2 122 [none, none, none, some (.int y3), some (.int a.1), none, some (.long a.2.1)] [] P) → (∀ b, res = .inr b → P (some (.int b.1)) n (RT tw dr sk tl ff) b.2.1 b.2.2) → V g mX11_cross (d + 6) 0 0 n (RT tw dr sk tl ff) I L 56 [some (.ref 0), some (.int y1), some (.int y2), some (.int y3), some (.int y4)] [] P := by
  intro fu
  induction fu with
  | zero => intro y1 y2 y3 y4 I L res hf; cases (show none = some res from hf)
  | succ fu ih =>
    intro y1 y2 y3 y4 I L res hf K1 K2
    refine V_iload (pc := 56) dX11_cross_56 rfl rfl ?_
    refine V_bipush (pc := 58) dX11_cross_58 bp_48 rfl ?_
    refine V_icmp_gt (pc := 60) (tgt := 143) dX11_cross_60 (by decide) rfl (fun hc => ?_) (fun hc => ?_)
    · replace hf := (if_pos hc).symm.trans hf
      refine V_iconst (pc := 143) dX11_cross_143 ic_m1 rfl ?_
      cases hf
      exact V_iret (pc := 144) dX11_cross_144 rfl (K2 _ rfl)
    · replace hf := (if_neg hc).symm.trans hf
      refine V_aload_n (pc := 63) dX11_cross_63 rfl rfl rfl ?_
      refine V_getR (pc := 64) dX11_cross_64 flX11_70 rfl (by omega) (congrArg Prod.fst sh_0) rt_0_9 rfl ?_
      refine V_iload (pc := 67) dX11_cross_67 rfl rfl ?_
      obtain ⟨q3, hq3, hf⟩ := bnd hf
      refine V_cVi (md' := mX7_openIn) (pc := 69) dX11_cross_69 mlX11_191 mVX7_openIn (tX7_openIn hG hn hq3) rfl (by omega) (congrArg Prod.fst sh_57) rfl (Nat.le_of_ble_eq_true rfl) rfl ?_
      refine V_istore (ls' := [some _, some _, some _, some _, some _, some _]) (pc := 72) dX11_cross_72 (Nat.le_of_ble_eq_true rfl) rfl rfl ?_
      refine V_iload (pc := 74) dX11_cross_74 rfl rfl ?_
      refine V_iload_n (pc := 76) dX11_cross_76 rfl rfl rfl ?_
      refine V_cSz (md' := mX11_isBit) (pc := 77) dX11_cross_77 mlX11_148 mSX11_isBit (tX11_isBit rfl) rfl rfl (Nat.le_of_ble_eq_true rfl) rfl ?_
      obtain ⟨b4, hb4, hf⟩ := bnd hf
      have KTb4 : b4 = true → V g mX11_cross (d + 6) 0 0 n (RT tw dr sk tl ff) q3.2.1 q3.2.2 137 [some (.ref 0), some (.int y1), some (.int y2), some (.int y3), some (.int y4), some (.int q3.1)] [] P := fun hc => by
        replace hf := (if_pos hc).symm.trans hf
        refine V_iinc (ls' := [some _, some _, some _, some _, some _, some _]) (pc := 137) dX11_cross_137 rfl (Nat.le_of_ble_eq_true rfl) (congrArg _ ic_1) rfl rfl ?_
        refine V_goto (pc := 140) (tgt := 56) dX11_cross_140 (by decide) ?_
        exact V_wk (ih _ _ _ _ _ _ _ hf K1 K2) ⟨rfl, ⟨rfl, ⟨rfl, ⟨rfl, ⟨rfl, trivial⟩⟩⟩⟩⟩
      have KFb4 : ¬ b4 = true → V g mX11_cross (d + 6) 0 0 n (RT tw dr sk tl ff) q3.2.1 q3.2.2 92 [some (.ref 0), some (.int y1), some (.int y2), some (.int y3), some (.int y4), some (.int q3.1)] [] P := fun hc => by
        replace hf := (if_neg hc).symm.trans hf
        refine V_aload_n (pc := 92) dX11_cross_92 rfl rfl rfl ?_
        refine V_getR (pc := 93) dX11_cross_93 flX11_70 rfl (by omega) (congrArg Prod.fst sh_0) rt_0_9 rfl ?_
        refine V_iload_n (pc := 96) dX11_cross_96 rfl rfl rfl ?_
        refine V_iload (pc := 97) dX11_cross_97 rfl rfl ?_
        obtain ⟨q5, hq5, hf⟩ := bnd hf
        refine V_cVl (md' := mX7_shadowOf) (pc := 99) dX11_cross_99 mlX11_187 mVX7_shadowOf (tX7_shadowOf hG hn hq5) rfl (by omega) (congrArg Prod.fst sh_57) rfl (Nat.le_of_ble_eq_true rfl) rfl ?_
        refine V_aload_n (pc := 102) dX11_cross_102 rfl rfl rfl ?_
        refine V_getR (pc := 103) dX11_cross_103 flX11_70 rfl (by omega) (congrArg Prod.fst sh_0) rt_0_9 rfl ?_
        refine V_iload_n (pc := 106) dX11_cross_106 rfl rfl rfl ?_
        refine V_iload (pc := 107) dX11_cross_107 rfl rfl ?_
        obtain ⟨q6, hq6, hf⟩ := bnd hf
        refine V_cVl (md' := mX7_shadowOf) (pc := 109) dX11_cross_109 mlX11_187 mVX7_shadowOf (tX7_shadowOf hG hn hq6) rfl (by omega) (congrArg Prod.fst sh_57) rfl (Nat.le_of_ble_eq_true rfl) rfl ?_
        refine V_land (pc := 112) dX11_cross_112 rfl ?_
        refine V_lstore (ls' := [some _, some _, some _, some _, some _, some _, some _, none]) (pc := 113) dX11_cross_113 (Nat.le_of_ble_eq_true rfl) rfl rfl ?_
        refine V_lload (pc := 115) dX11_cross_115 rfl rfl ?_
        refine V_lconst (pc := 117) dX11_cross_117 lc_0 rfl ?_
        refine V_lc_eq (pc := 118) (tgt := 137) dX11_cross_118 rfl dX11_cross_119 (by decide) rfl (fun hc => ?_) (fun hc => ?_)
        · replace hf := (if_pos hc).symm.trans hf
          refine V_iinc (ls' := [some _, some _, some _, some _, some _, some _, some _, none]) (pc := 137) dX11_cross_137 rfl (Nat.le_of_ble_eq_true rfl) (congrArg _ ic_1) rfl rfl ?_
          refine V_goto (pc := 140) (tgt := 56) dX11_cross_140 (by decide) ?_
          exact V_wk (ih _ _ _ _ _ _ _ hf K1 K2) ⟨rfl, ⟨rfl, ⟨rfl, ⟨rfl, ⟨rfl, trivial⟩⟩⟩⟩⟩
        · replace hf := (if_neg hc).symm.trans hf
          cases hf
          exact V_wk (K1 _ rfl) ⟨rfl, ⟨rfl, ⟨rfl, trivial⟩⟩⟩
      refine V_if_eq (pc := 80) (tgt := 137) dX11_cross_80 (by decide) rfl (fun hc => ?_) (fun hc => ?_)
      · replace hb4 := (if_pos hc).symm.trans hb4
        cases hb4
        exact KTb4 rfl
      · replace hb4 := (if_neg hc).symm.trans hb4
        refine V_iload (pc := 83) dX11_cross_83 rfl rfl ?_
        refine V_iload_n (pc := 85) dX11_cross_85 rfl rfl rfl ?_
        refine V_cSz (md' := mX11_isBit) (pc := 86) dX11_cross_86 mlX11_148 mSX11_isBit (tX11_isBit rfl) rfl rfl (Nat.le_of_ble_eq_true rfl) rfl ?_
        refine V_if_eq (pc := 89) (tgt := 137) dX11_cross_89 (by decide) rfl (fun hc => ?_) (fun hc => ?_)
        · replace hb4 := (if_pos hc).symm.trans hb4
          cases hb4
          exact KTb4 rfl
        · replace hb4 := (if_neg hc).symm.trans hb4
          cases hb4
          exact KFb4 (nbt rfl)
noncomputable def fX11_cross (tw : Nat) (sk : Nat) (v1 : Int32) (v2 : Int32) (v3 : Int32) (I : HI) (L : HL) : Option (Int32 × HI × HL) :=
  Option.bind (
    if (b2i (fX8_has (tw + 1) v1 I)) = 0 then
      some true
    else
      if (b2i (fX8_has (tw + 1) v2 I)) = 0 then
        some true
      else
        if v1 = v2 then
          some true
        else
          if (b2i (fX11_isChoice v3)) = 0 then
            some true
          else
            some false
  ) fun b1 =>
  if b1 = true then
    some ((-1 : Int32), I, L)
  else
    Option.bind (fX7_aimAt  I L) fun q2 =>
    Option.bind (fX11_cross_56 tw sk FUEL v1 v2 v3 (0 : Int32) q2.1 q2.2) fun q7 => match q7 with
    | .inl a8 =>
      if v3 = 0 then
        some (a8.1, a8.2.2.1, a8.2.2.2)
      else
        some ((fJ13_numberOfTrailingZeros_95d88 a8.2.1), a8.2.2.1, a8.2.2.2)
    | .inr b9 =>
      some (b9.1, b9.2.1, b9.2.2)
set_option maxRecDepth 100000 in
set_option maxHeartbeats 4000000 in
theorem tX11_cross {g : GG} {n d : Nat} {tw dr sk tl ff : Nat} (hG : RG tw dr sk tl ff) (hn : 116 ≤ n) {v1 : Int32} {v2 : Int32} {v3 : Int32} {I : HI} {L : HL} {res : Int32 × HI × HL} (hf : fX11_cross tw sk v1 v2 v3 I L = some res) : CT g mX11_cross (d + 6) 0 0 n (RT tw dr sk tl ff) I L [.ref 0, .int v1, .int v2, .int v3] (PoI n (RT tw dr sk tl ff) res.1 res.2.1 res.2.2) := by
  refine CT.of rfl (Nat.le_of_ble_eq_true rfl) ?_
  show V g mX11_cross (d + 6) 0 0 n (RT tw dr sk tl ff) I L 0 [some (.ref 0), some (.int v1), some (.int v2), some (.int v3)] [] (PoI n (RT tw dr sk tl ff) res.1 res.2.1 res.2.2)
  refine V_aload_n (pc := 0) dX11_cross_0 rfl rfl rfl ?_
  refine V_getR (pc := 1) dX11_cross_1 flX11_16 rfl (by omega) (congrArg Prod.fst sh_0) rt_0_3 rfl ?_
  refine V_getR (pc := 4) dX11_cross_4 flX11_111 rfl (by omega) (congrArg Prod.fst (shQ hG.1)) (rQ_6 (rQ_RT hG.1)) rfl ?_
  refine V_iload_n (pc := 7) dX11_cross_7 rfl rfl rfl ?_
  refine V_cVz (md' := mX8_has) (pc := 8) dX11_cross_8 mlX11_126 mVX8_has (tX8_has (qT_6 hG.1) (rQ_s6 (rQ_RT hG.1)) (by omega) rfl) rfl (by omega) (congrArg Prod.fst (shT (qT_6 hG.1))) rfl (Nat.le_of_ble_eq_true rfl) rfl ?_
  obtain ⟨b1, hb1, hf⟩ := bnd hf
  have KTb1 : b1 = true → V g mX11_cross (d + 6) 0 0 n (RT tw dr sk tl ff) I L 40 [some (.ref 0), some (.int v1), some (.int v2), some (.int v3)] [] (PoI n (RT tw dr sk tl ff) res.1 res.2.1 res.2.2) := fun hc => by
    replace hf := (if_pos hc).symm.trans hf
    refine V_iconst (pc := 40) dX11_cross_40 ic_m1 rfl ?_
    cases hf
    exact V_iret (pc := 41) dX11_cross_41 rfl PoI_mk
  have KFb1 : ¬ b1 = true → V g mX11_cross (d + 6) 0 0 n (RT tw dr sk tl ff) I L 42 [some (.ref 0), some (.int v1), some (.int v2), some (.int v3)] [] (PoI n (RT tw dr sk tl ff) res.1 res.2.1 res.2.2) := fun hc => by
    replace hf := (if_neg hc).symm.trans hf
    refine V_aload_n (pc := 42) dX11_cross_42 rfl rfl rfl ?_
    refine V_getR (pc := 43) dX11_cross_43 flX11_70 rfl (by omega) (congrArg Prod.fst sh_0) rt_0_9 rfl ?_
    refine V_aload_n (pc := 46) dX11_cross_46 rfl rfl rfl ?_
    refine V_getR (pc := 47) dX11_cross_47 flX11_40 rfl (by omega) (congrArg Prod.fst sh_0) rt_0_5 rfl ?_
    obtain ⟨q2, hq2, hf⟩ := bnd hf
    refine V_cVv (md' := mX7_aimAt) (pc := 50) dX11_cross_50 mlX11_183 mVX7_aimAt (tX7_aimAt hG hn hq2) rfl (by omega) (congrArg Prod.fst sh_57) rfl (Nat.le_of_ble_eq_true rfl) rfl ?_
    refine V_iconst (pc := 53) dX11_cross_53 ic_0 rfl ?_
    refine V_istore (ls' := [some _, some _, some _, some _, some _]) (pc := 54) dX11_cross_54 (Nat.le_of_ble_eq_true rfl) rfl rfl ?_
    obtain ⟨q7, hq7, hf⟩ := bnd hf
    refine V_wk (lX11_cross_56 hG hn FUEL _ _ _ _ _ _ _ hq7 (fun a8 ha8 => ?_) (fun b9 hb9 => ?_)) ⟨rfl, ⟨rfl, ⟨rfl, ⟨rfl, ⟨rfl, trivial⟩⟩⟩⟩⟩
    · subst ha8
      refine V_iload_n (pc := 122) dX11_cross_122 rfl rfl rfl ?_
      refine V_if_ne (pc := 123) (tgt := 131) dX11_cross_123 (by decide) rfl (fun hc => ?_) (fun hc => ?_)
      · replace hf := (if_neg hc).symm.trans hf
        refine V_lload (pc := 131) dX11_cross_131 rfl rfl ?_
        refine V_cSi (md' := mJ13_numberOfTrailingZeros_95d88) (pc := 133) dX11_cross_133 mlX11_261 mSJ13_numberOfTrailingZeros_95d88 (tJ13_numberOfTrailingZeros_95d88 rfl) rfl rfl (Nat.le_of_ble_eq_true rfl) rfl ?_
        cases hf
        exact V_iret (pc := 136) dX11_cross_136 rfl PoI_mk
      · replace hf := (if_pos hc).symm.trans hf
        refine V_iload (pc := 126) dX11_cross_126 rfl rfl ?_
        refine V_goto (pc := 128) (tgt := 136) dX11_cross_128 (by decide) ?_
        cases hf
        exact V_iret (pc := 136) dX11_cross_136 rfl PoI_mk
    · subst hb9
      cases hf
      exact PoI_mk
  refine V_if_eq (pc := 11) (tgt := 40) dX11_cross_11 (by decide) rfl (fun hc => ?_) (fun hc => ?_)
  · replace hb1 := (if_pos hc).symm.trans hb1
    cases hb1
    exact KTb1 rfl
  · replace hb1 := (if_neg hc).symm.trans hb1
    refine V_aload_n (pc := 14) dX11_cross_14 rfl rfl rfl ?_
    refine V_getR (pc := 15) dX11_cross_15 flX11_16 rfl (by omega) (congrArg Prod.fst sh_0) rt_0_3 rfl ?_
    refine V_getR (pc := 18) dX11_cross_18 flX11_111 rfl (by omega) (congrArg Prod.fst (shQ hG.1)) (rQ_6 (rQ_RT hG.1)) rfl ?_
    refine V_iload_n (pc := 21) dX11_cross_21 rfl rfl rfl ?_
    refine V_cVz (md' := mX8_has) (pc := 22) dX11_cross_22 mlX11_126 mVX8_has (tX8_has (qT_6 hG.1) (rQ_s6 (rQ_RT hG.1)) (by omega) rfl) rfl (by omega) (congrArg Prod.fst (shT (qT_6 hG.1))) rfl (Nat.le_of_ble_eq_true rfl) rfl ?_
    refine V_if_eq (pc := 25) (tgt := 40) dX11_cross_25 (by decide) rfl (fun hc => ?_) (fun hc => ?_)
    · replace hb1 := (if_pos hc).symm.trans hb1
      cases hb1
      exact KTb1 rfl
    · replace hb1 := (if_neg hc).symm.trans hb1
      refine V_iload_n (pc := 28) dX11_cross_28 rfl rfl rfl ?_
      refine V_iload_n (pc := 29) dX11_cross_29 rfl rfl rfl ?_
      refine V_icmp_eq (pc := 30) (tgt := 40) dX11_cross_30 (by decide) rfl (fun hc => ?_) (fun hc => ?_)
      · replace hb1 := (if_pos hc).symm.trans hb1
        cases hb1
        exact KTb1 rfl
      · replace hb1 := (if_neg hc).symm.trans hb1
        refine V_iload_n (pc := 33) dX11_cross_33 rfl rfl rfl ?_
        refine V_cSz (md' := mX11_isChoice) (pc := 34) dX11_cross_34 mlX11_234 mSX11_isChoice (tX11_isChoice rfl) rfl rfl (Nat.le_of_ble_eq_true rfl) rfl ?_
        refine V_if_ne (pc := 37) (tgt := 42) dX11_cross_37 (by decide) rfl (fun hc => ?_) (fun hc => ?_)
        · replace hb1 := (if_neg hc).symm.trans hb1
          cases hb1
          exact KFb1 (nbt rfl)
        · replace hb1 := (if_pos hc).symm.trans hb1
          cases hb1
          exact KTb1 rfl
/-! ShadowDoors.rooms -/
noncomputable def fX11_rooms (sk : Nat) (v1 : Int32) (I : HI) (L : HL) : Option (Int32 × HI × HL) :=
  if (b2i (fX11_isAhead v1)) = 0 then
    some ((-1 : Int32), I, L)
  else
    Option.bind (fX7_aimAt  I L) fun q1 =>
    Option.bind (fX10_countJoined sk v1 q1.1 q1.2) fun q2 =>
    some (q2.1, q2.2.1, q2.2.2)
set_option maxRecDepth 100000 in
set_option maxHeartbeats 4000000 in
theorem tX11_rooms {g : GG} {n d : Nat} {tw dr sk tl ff : Nat} (hG : RG tw dr sk tl ff) (hn : 116 ≤ n) {v1 : Int32} {I : HI} {L : HL} {res : Int32 × HI × HL} (hf : fX11_rooms sk v1 I L = some res) : CT g mX11_rooms (d + 8) 0 0 n (RT tw dr sk tl ff) I L [.ref 0, .int v1] (PoI n (RT tw dr sk tl ff) res.1 res.2.1 res.2.2) := by
  refine CT.of rfl (Nat.le_of_ble_eq_true rfl) ?_
  show V g mX11_rooms (d + 8) 0 0 n (RT tw dr sk tl ff) I L 0 [some (.ref 0), some (.int v1)] [] (PoI n (RT tw dr sk tl ff) res.1 res.2.1 res.2.2)
  refine V_iload_n (pc := 0) dX11_rooms_0 rfl rfl rfl ?_
  refine V_cSz (md' := mX11_isAhead) (pc := 1) dX11_rooms_1 mlX11_166 mSX11_isAhead (tX11_isAhead rfl) rfl rfl (Nat.le_of_ble_eq_true rfl) rfl ?_
  refine V_if_ne (pc := 4) (tgt := 9) dX11_rooms_4 (by decide) rfl (fun hc => ?_) (fun hc => ?_)
  · replace hf := (if_neg hc).symm.trans hf
    refine V_aload_n (pc := 9) dX11_rooms_9 rfl rfl rfl ?_
    refine V_getR (pc := 10) dX11_rooms_10 flX11_70 rfl (by omega) (congrArg Prod.fst sh_0) rt_0_9 rfl ?_
    refine V_aload_n (pc := 13) dX11_rooms_13 rfl rfl rfl ?_
    refine V_getR (pc := 14) dX11_rooms_14 flX11_40 rfl (by omega) (congrArg Prod.fst sh_0) rt_0_5 rfl ?_
    obtain ⟨q1, hq1, hf⟩ := bnd hf
    refine V_cVv (md' := mX7_aimAt) (pc := 17) dX11_rooms_17 mlX11_183 mVX7_aimAt (tX7_aimAt hG hn hq1) rfl (by omega) (congrArg Prod.fst sh_57) rfl (Nat.le_of_ble_eq_true rfl) rfl ?_
    refine V_aload_n (pc := 20) dX11_rooms_20 rfl rfl rfl ?_
    refine V_getR (pc := 21) dX11_rooms_21 flX11_79 rfl (by omega) (congrArg Prod.fst sh_0) rt_0_10 rfl ?_
    refine V_iload_n (pc := 24) dX11_rooms_24 rfl rfl rfl ?_
    obtain ⟨q2, hq2, hf⟩ := bnd hf
    refine V_cVi (md' := mX10_countJoined) (pc := 25) dX11_rooms_25 mlX11_264 mVX10_countJoined (tX10_countJoined hG hn hq2) rfl (by omega) (congrArg Prod.fst sh_61) rfl (Nat.le_of_ble_eq_true rfl) rfl ?_
    cases hf
    exact V_iret (pc := 28) dX11_rooms_28 rfl PoI_mk
  · replace hf := (if_pos hc).symm.trans hf
    refine V_iconst (pc := 7) dX11_rooms_7 ic_m1 rfl ?_
    cases hf
    exact V_iret (pc := 8) dX11_rooms_8 rfl PoI_mk
/-! ShadowDoors.hears -/
noncomputable def fX11_hears (tw : Nat) (sk : Nat) (v1 : Int32) (v2 : Int32) (v3 : Int32) (I : HI) (L : HL) : Option (Int32 × HI × HL) :=
  Option.bind (
    if (b2i (fX5_canStand tw v1 I L)) = 0 then
      some true
    else
      if (b2i (fX5_canStand tw v2 I L)) = 0 then
        some true
      else
        if (b2i (fX11_isAhead v3)) = 0 then
          some true
        else
          some false
  ) fun b1 =>
  if b1 = true then
    some ((-1 : Int32), I, L)
  else
    Option.bind (fX7_aimAt  I L) fun q2 =>
    Option.bind (fX10_joinedWith sk ((1 : Int64) <<< (v1.toInt64 &&& 63)) v3 q2.1 q2.2) fun q3 =>
    if ((q3.1.toUInt64 >>> (v2.toInt64.toUInt64 &&& Int64.toUInt64 63)).toInt64 &&& (1 : Int64)) = (0 : Int64) then
      some ((0 : Int32), q3.2.1, q3.2.2)
    else
      some ((1 : Int32), q3.2.1, q3.2.2)
set_option maxRecDepth 100000 in
set_option maxHeartbeats 4000000 in
theorem tX11_hears {g : GG} {n d : Nat} {tw dr sk tl ff : Nat} (hG : RG tw dr sk tl ff) (hn : 116 ≤ n) {v1 : Int32} {v2 : Int32} {v3 : Int32} {I : HI} {L : HL} {res : Int32 × HI × HL} (hf : fX11_hears tw sk v1 v2 v3 I L = some res) : CT g mX11_hears (d + 7) 0 0 n (RT tw dr sk tl ff) I L [.ref 0, .int v1, .int v2, .int v3] (PoI n (RT tw dr sk tl ff) res.1 res.2.1 res.2.2) := by
  refine CT.of rfl (Nat.le_of_ble_eq_true rfl) ?_
  show V g mX11_hears (d + 7) 0 0 n (RT tw dr sk tl ff) I L 0 [some (.ref 0), some (.int v1), some (.int v2), some (.int v3)] [] (PoI n (RT tw dr sk tl ff) res.1 res.2.1 res.2.2)
  refine V_aload_n (pc := 0) dX11_hears_0 rfl rfl rfl ?_
  refine V_getR (pc := 1) dX11_hears_1 flX11_16 rfl (by omega) (congrArg Prod.fst sh_0) rt_0_3 rfl ?_
  refine V_iload_n (pc := 4) dX11_hears_4 rfl rfl rfl ?_
  refine V_cVz (md' := mX5_canStand) (pc := 5) dX11_hears_5 mlX11_195 mVX5_canStand (tX5_canStand hG.1 (rQ_RT hG.1) (by omega) rfl) rfl (by omega) (congrArg Prod.fst (shQ hG.1)) rfl (Nat.le_of_ble_eq_true rfl) rfl ?_
  obtain ⟨b1, hb1, hf⟩ := bnd hf
  have KTb1 : b1 = true → V g mX11_hears (d + 7) 0 0 n (RT tw dr sk tl ff) I L 29 [some (.ref 0), some (.int v1), some (.int v2), some (.int v3)] [] (PoI n (RT tw dr sk tl ff) res.1 res.2.1 res.2.2) := fun hc => by
    replace hf := (if_pos hc).symm.trans hf
    refine V_iconst (pc := 29) dX11_hears_29 ic_m1 rfl ?_
    cases hf
    exact V_iret (pc := 30) dX11_hears_30 rfl PoI_mk
  have KFb1 : ¬ b1 = true → V g mX11_hears (d + 7) 0 0 n (RT tw dr sk tl ff) I L 31 [some (.ref 0), some (.int v1), some (.int v2), some (.int v3)] [] (PoI n (RT tw dr sk tl ff) res.1 res.2.1 res.2.2) := fun hc => by
    replace hf := (if_neg hc).symm.trans hf
    refine V_aload_n (pc := 31) dX11_hears_31 rfl rfl rfl ?_
    refine V_getR (pc := 32) dX11_hears_32 flX11_70 rfl (by omega) (congrArg Prod.fst sh_0) rt_0_9 rfl ?_
    refine V_aload_n (pc := 35) dX11_hears_35 rfl rfl rfl ?_
    refine V_getR (pc := 36) dX11_hears_36 flX11_40 rfl (by omega) (congrArg Prod.fst sh_0) rt_0_5 rfl ?_
    obtain ⟨q2, hq2, hf⟩ := bnd hf
    refine V_cVv (md' := mX7_aimAt) (pc := 39) dX11_hears_39 mlX11_183 mVX7_aimAt (tX7_aimAt hG hn hq2) rfl (by omega) (congrArg Prod.fst sh_57) rfl (Nat.le_of_ble_eq_true rfl) rfl ?_
    refine V_aload_n (pc := 42) dX11_hears_42 rfl rfl rfl ?_
    refine V_getR (pc := 43) dX11_hears_43 flX11_79 rfl (by omega) (congrArg Prod.fst sh_0) rt_0_10 rfl ?_
    refine V_lconst (pc := 46) dX11_hears_46 lc_1 rfl ?_
    refine V_iload_n (pc := 47) dX11_hears_47 rfl rfl rfl ?_
    refine V_lshl (pc := 48) dX11_hears_48 rfl ?_
    refine V_iload_n (pc := 49) dX11_hears_49 rfl rfl rfl ?_
    obtain ⟨q3, hq3, hf⟩ := bnd hf
    refine V_cVl (md' := mX10_joinedWith) (pc := 50) dX11_hears_50 mlX11_267 mVX10_joinedWith (tX10_joinedWith hG hn hq3) rfl (by omega) (congrArg Prod.fst sh_61) rfl (Nat.le_of_ble_eq_true rfl) rfl ?_
    refine V_iload_n (pc := 53) dX11_hears_53 rfl rfl rfl ?_
    refine V_lushr (pc := 54) dX11_hears_54 rfl ?_
    refine V_lconst (pc := 55) dX11_hears_55 lc_1 rfl ?_
    refine V_land (pc := 56) dX11_hears_56 rfl ?_
    refine V_lconst (pc := 57) dX11_hears_57 lc_0 rfl ?_
    refine V_lc_eq (pc := 58) (tgt := 66) dX11_hears_58 rfl dX11_hears_59 (by decide) rfl (fun hc => ?_) (fun hc => ?_)
    · replace hf := (if_pos hc).symm.trans hf
      refine V_iconst (pc := 66) dX11_hears_66 ic_0 rfl ?_
      cases hf
      exact V_iret (pc := 67) dX11_hears_67 rfl PoI_mk
    · replace hf := (if_neg hc).symm.trans hf
      refine V_iconst (pc := 62) dX11_hears_62 ic_1 rfl ?_
      refine V_goto (pc := 63) (tgt := 67) dX11_hears_63 (by decide) ?_
      cases hf
      exact V_iret (pc := 67) dX11_hears_67 rfl PoI_mk
  refine V_if_eq (pc := 8) (tgt := 29) dX11_hears_8 (by decide) rfl (fun hc => ?_) (fun hc => ?_)
  · replace hb1 := (if_pos hc).symm.trans hb1
    cases hb1
    exact KTb1 rfl
  · replace hb1 := (if_neg hc).symm.trans hb1
    refine V_aload_n (pc := 11) dX11_hears_11 rfl rfl rfl ?_
    refine V_getR (pc := 12) dX11_hears_12 flX11_16 rfl (by omega) (congrArg Prod.fst sh_0) rt_0_3 rfl ?_
    refine V_iload_n (pc := 15) dX11_hears_15 rfl rfl rfl ?_
    refine V_cVz (md' := mX5_canStand) (pc := 16) dX11_hears_16 mlX11_195 mVX5_canStand (tX5_canStand hG.1 (rQ_RT hG.1) (by omega) rfl) rfl (by omega) (congrArg Prod.fst (shQ hG.1)) rfl (Nat.le_of_ble_eq_true rfl) rfl ?_
    refine V_if_eq (pc := 19) (tgt := 29) dX11_hears_19 (by decide) rfl (fun hc => ?_) (fun hc => ?_)
    · replace hb1 := (if_pos hc).symm.trans hb1
      cases hb1
      exact KTb1 rfl
    · replace hb1 := (if_neg hc).symm.trans hb1
      refine V_iload_n (pc := 22) dX11_hears_22 rfl rfl rfl ?_
      refine V_cSz (md' := mX11_isAhead) (pc := 23) dX11_hears_23 mlX11_166 mSX11_isAhead (tX11_isAhead rfl) rfl rfl (Nat.le_of_ble_eq_true rfl) rfl ?_
      refine V_if_ne (pc := 26) (tgt := 31) dX11_hears_26 (by decide) rfl (fun hc => ?_) (fun hc => ?_)
      · replace hb1 := (if_neg hc).symm.trans hb1
        cases hb1
        exact KFb1 (nbt rfl)
      · replace hb1 := (if_pos hc).symm.trans hb1
        cases hb1
        exact KTb1 rfl
/-! ShadowDoors.isJourney -/
noncomputable def fX11_isJourney (tw : Nat) (v1 : Int32) (v2 : Int32) (v3 : Int32) (v4 : Int32) (I : HI) (L : HL) : Bool :=
  tbn (
    if (b2i (fX5_canStand tw v1 I L)) = 0 then
      true
    else
      if (b2i (fX5_canStand tw v2 I L)) = 0 then
        true
      else
        if v3 < (1 : Int32) then
          true
        else
          if v4 < v3 then
            true
          else
            false
  ) fun b1 =>
  if b1 = true then
    false
  else
    true
set_option maxRecDepth 100000 in
set_option maxHeartbeats 4000000 in
theorem tX11_isJourney {g : GG} {n d : Nat} {tw dr sk tl ff : Nat} (hG : RG tw dr sk tl ff) (hn : 116 ≤ n) {v1 : Int32} {v2 : Int32} {v3 : Int32} {v4 : Int32} {I : HI} {L : HL} {res : Bool} (hf : fX11_isJourney tw v1 v2 v3 v4 I L = res) : CT g mX11_isJourney (d + 2) 0 0 n (RT tw dr sk tl ff) I L [.ref 0, .int v1, .int v2, .int v3, .int v4] (PoB n (RT tw dr sk tl ff) res I L) := by
  refine CT.of rfl (Nat.le_of_ble_eq_true rfl) ?_
  show V g mX11_isJourney (d + 2) 0 0 n (RT tw dr sk tl ff) I L 0 [some (.ref 0), some (.int v1), some (.int v2), some (.int v3), some (.int v4)] [] (PoB n (RT tw dr sk tl ff) res I L)
  refine V_aload_n (pc := 0) dX11_isJourney_0 rfl rfl rfl ?_
  refine V_getR (pc := 1) dX11_isJourney_1 flX11_16 rfl (by omega) (congrArg Prod.fst sh_0) rt_0_3 rfl ?_
  refine V_iload_n (pc := 4) dX11_isJourney_4 rfl rfl rfl ?_
  refine V_cVz (md' := mX5_canStand) (pc := 5) dX11_isJourney_5 mlX11_195 mVX5_canStand (tX5_canStand hG.1 (rQ_RT hG.1) (by omega) rfl) rfl (by omega) (congrArg Prod.fst (shQ hG.1)) rfl (Nat.le_of_ble_eq_true rfl) rfl ?_
  obtain ⟨b1, hb1, hf⟩ := tbd hf
  have KTb1 : b1 = true → V g mX11_isJourney (d + 2) 0 0 n (RT tw dr sk tl ff) I L 37 [some (.ref 0), some (.int v1), some (.int v2), some (.int v3), some (.int v4)] [] (PoB n (RT tw dr sk tl ff) res I L) := fun hc => by
    replace hf := (if_pos hc).symm.trans hf
    refine V_iconst (pc := 37) dX11_isJourney_37 ic_0 rfl ?_
    cases hf
    exact V_zretE (pc := 38) dX11_isJourney_38 rfl (show (0 : Int32) = b2i false from rfl) PoB_mk
  have KFb1 : ¬ b1 = true → V g mX11_isJourney (d + 2) 0 0 n (RT tw dr sk tl ff) I L 33 [some (.ref 0), some (.int v1), some (.int v2), some (.int v3), some (.int v4)] [] (PoB n (RT tw dr sk tl ff) res I L) := fun hc => by
    replace hf := (if_neg hc).symm.trans hf
    refine V_iconst (pc := 33) dX11_isJourney_33 ic_1 rfl ?_
    refine V_goto (pc := 34) (tgt := 38) dX11_isJourney_34 (by decide) ?_
    cases hf
    exact V_zretE (pc := 38) dX11_isJourney_38 rfl (show (1 : Int32) = b2i true from rfl) PoB_mk
  refine V_if_eq (pc := 8) (tgt := 37) dX11_isJourney_8 (by decide) rfl (fun hc => ?_) (fun hc => ?_)
  · replace hb1 := (if_pos hc).symm.trans hb1
    cases hb1
    exact KTb1 rfl
  · replace hb1 := (if_neg hc).symm.trans hb1
    refine V_aload_n (pc := 11) dX11_isJourney_11 rfl rfl rfl ?_
    refine V_getR (pc := 12) dX11_isJourney_12 flX11_16 rfl (by omega) (congrArg Prod.fst sh_0) rt_0_3 rfl ?_
    refine V_iload_n (pc := 15) dX11_isJourney_15 rfl rfl rfl ?_
    refine V_cVz (md' := mX5_canStand) (pc := 16) dX11_isJourney_16 mlX11_195 mVX5_canStand (tX5_canStand hG.1 (rQ_RT hG.1) (by omega) rfl) rfl (by omega) (congrArg Prod.fst (shQ hG.1)) rfl (Nat.le_of_ble_eq_true rfl) rfl ?_
    refine V_if_eq (pc := 19) (tgt := 37) dX11_isJourney_19 (by decide) rfl (fun hc => ?_) (fun hc => ?_)
    · replace hb1 := (if_pos hc).symm.trans hb1
      cases hb1
      exact KTb1 rfl
    · replace hb1 := (if_neg hc).symm.trans hb1
      refine V_iload_n (pc := 22) dX11_isJourney_22 rfl rfl rfl ?_
      refine V_iconst (pc := 23) dX11_isJourney_23 ic_1 rfl ?_
      refine V_icmp_lt (pc := 24) (tgt := 37) dX11_isJourney_24 (by decide) rfl (fun hc => ?_) (fun hc => ?_)
      · replace hb1 := (if_pos hc).symm.trans hb1
        cases hb1
        exact KTb1 rfl
      · replace hb1 := (if_neg hc).symm.trans hb1
        refine V_iload_n (pc := 27) dX11_isJourney_27 rfl rfl rfl ?_
        refine V_iload (pc := 28) dX11_isJourney_28 rfl rfl ?_
        refine V_icmp_gt (pc := 30) (tgt := 37) dX11_isJourney_30 (by decide) rfl (fun hc => ?_) (fun hc => ?_)
        · replace hb1 := (if_pos hc).symm.trans hb1
          cases hb1
          exact KTb1 rfl
        · replace hb1 := (if_neg hc).symm.trans hb1
          cases hb1
          exact KFb1 (nbt rfl)
/-! ShadowDoors.toldAs -/
noncomputable def fX11_toldAs (v1 : Int32) (v2 : Int32) : Int32 :=
  if v1 = (-1 : Int32) then
    (-1 : Int32)
  else
    if v2 = 0 then
      (fJ6_bitCount_0f7a4 v1)
    else
      v1
set_option maxRecDepth 100000 in
set_option maxHeartbeats 4000000 in
theorem tX11_toldAs {g : GG} {n d : Nat} {r : HR}  {v1 : Int32} {v2 : Int32} {I : HI} {L : HL} {res : Int32} (hf : fX11_toldAs v1 v2 = res) : CT g mX11_toldAs (d + 2) 0 0 n r I L [.int v1, .int v2] (PoI n r res I L) := by
  refine CT.of rfl (Nat.le_of_ble_eq_true rfl) ?_
  show V g mX11_toldAs (d + 2) 0 0 n r I L 0 [some (.int v1), some (.int v2)] [] (PoI n r res I L)
  refine V_iload_n (pc := 0) dX11_toldAs_0 rfl rfl rfl ?_
  refine V_iconst (pc := 1) dX11_toldAs_1 ic_m1 rfl ?_
  refine V_icmp_ne (pc := 2) (tgt := 7) dX11_toldAs_2 (by decide) rfl (fun hc => ?_) (fun hc => ?_)
  · replace hf := (if_neg hc).symm.trans hf
    refine V_iload_n (pc := 7) dX11_toldAs_7 rfl rfl rfl ?_
    refine V_if_ne (pc := 8) (tgt := 18) dX11_toldAs_8 (by decide) rfl (fun hc => ?_) (fun hc => ?_)
    · replace hf := (if_neg hc).symm.trans hf
      refine V_iload_n (pc := 18) dX11_toldAs_18 rfl rfl rfl ?_
      cases hf
      exact V_iret (pc := 19) dX11_toldAs_19 rfl PoI_mk
    · replace hf := (if_pos hc).symm.trans hf
      refine V_iload_n (pc := 11) dX11_toldAs_11 rfl rfl rfl ?_
      refine V_cSi (md' := mJ6_bitCount_0f7a4) (pc := 12) dX11_toldAs_12 mlX11_352 mSJ6_bitCount_0f7a4 (tJ6_bitCount_0f7a4 rfl) rfl rfl (Nat.le_of_ble_eq_true rfl) rfl ?_
      refine V_goto (pc := 15) (tgt := 19) dX11_toldAs_15 (by decide) ?_
      cases hf
      exact V_iret (pc := 19) dX11_toldAs_19 rfl PoI_mk
  · replace hf := (if_pos hc).symm.trans hf
    refine V_iconst (pc := 5) dX11_toldAs_5 ic_m1 rfl ?_
    cases hf
    exact V_iret (pc := 6) dX11_toldAs_6 rfl PoI_mk
/-! ShadowDoors.keep -/
noncomputable def fX11_keep (tw : Nat) (sk : Nat) (v1 : Int32) (v2 : Int32) (v3 : Int32) (v4 : Int32) (I : HI) (L : HL) : Option (Int32 × HI × HL) :=
  Option.bind (
    if (b2i (fX11_isJourney tw v1 v2 v3 (24 : Int32) I L)) = 0 then
      some true
    else
      if (b2i (fX11_isChoice v4)) = 0 then
        some true
      else
        some false
  ) fun b1 =>
  if b1 = true then
    some ((-1 : Int32), I, L)
  else
    Option.bind (fX7_aimAt  I L) fun q2 =>
    Option.bind (fX10_fewestShut sk v1 v2 v3 q2.1 q2.2) fun q3 =>
    some ((fX11_toldAs q3.1 v4), q3.2.1, q3.2.2)
set_option maxRecDepth 100000 in
set_option maxHeartbeats 4000000 in
theorem tX11_keep {g : GG} {n d : Nat} {tw dr sk tl ff : Nat} (hG : RG tw dr sk tl ff) (hn : 116 ≤ n) {v1 : Int32} {v2 : Int32} {v3 : Int32} {v4 : Int32} {I : HI} {L : HL} {res : Int32 × HI × HL} (hf : fX11_keep tw sk v1 v2 v3 v4 I L = some res) : CT g mX11_keep (d + 8) 0 0 n (RT tw dr sk tl ff) I L [.ref 0, .int v1, .int v2, .int v3, .int v4] (PoI n (RT tw dr sk tl ff) res.1 res.2.1 res.2.2) := by
  refine CT.of rfl (Nat.le_of_ble_eq_true rfl) ?_
  show V g mX11_keep (d + 8) 0 0 n (RT tw dr sk tl ff) I L 0 [some (.ref 0), some (.int v1), some (.int v2), some (.int v3), some (.int v4)] [] (PoI n (RT tw dr sk tl ff) res.1 res.2.1 res.2.2)
  refine V_aload_n (pc := 0) dX11_keep_0 rfl rfl rfl ?_
  refine V_iload_n (pc := 1) dX11_keep_1 rfl rfl rfl ?_
  refine V_iload_n (pc := 2) dX11_keep_2 rfl rfl rfl ?_
  refine V_iload_n (pc := 3) dX11_keep_3 rfl rfl rfl ?_
  refine V_bipush (pc := 4) dX11_keep_4 bp_24 rfl ?_
  refine V_cVz (md' := mX11_isJourney) (pc := 6) dX11_keep_6 mlX11_270 mVX11_isJourney (tX11_isJourney hG hn rfl) rfl (by omega) (congrArg Prod.fst sh_0) rfl (Nat.le_of_ble_eq_true rfl) rfl ?_
  obtain ⟨b1, hb1, hf⟩ := bnd hf
  have KTb1 : b1 = true → V g mX11_keep (d + 8) 0 0 n (RT tw dr sk tl ff) I L 20 [some (.ref 0), some (.int v1), some (.int v2), some (.int v3), some (.int v4)] [] (PoI n (RT tw dr sk tl ff) res.1 res.2.1 res.2.2) := fun hc => by
    replace hf := (if_pos hc).symm.trans hf
    refine V_iconst (pc := 20) dX11_keep_20 ic_m1 rfl ?_
    cases hf
    exact V_iret (pc := 21) dX11_keep_21 rfl PoI_mk
  have KFb1 : ¬ b1 = true → V g mX11_keep (d + 8) 0 0 n (RT tw dr sk tl ff) I L 22 [some (.ref 0), some (.int v1), some (.int v2), some (.int v3), some (.int v4)] [] (PoI n (RT tw dr sk tl ff) res.1 res.2.1 res.2.2) := fun hc => by
    replace hf := (if_neg hc).symm.trans hf
    refine V_aload_n (pc := 22) dX11_keep_22 rfl rfl rfl ?_
    refine V_getR (pc := 23) dX11_keep_23 flX11_70 rfl (by omega) (congrArg Prod.fst sh_0) rt_0_9 rfl ?_
    refine V_aload_n (pc := 26) dX11_keep_26 rfl rfl rfl ?_
    refine V_getR (pc := 27) dX11_keep_27 flX11_40 rfl (by omega) (congrArg Prod.fst sh_0) rt_0_5 rfl ?_
    obtain ⟨q2, hq2, hf⟩ := bnd hf
    refine V_cVv (md' := mX7_aimAt) (pc := 30) dX11_keep_30 mlX11_183 mVX7_aimAt (tX7_aimAt hG hn hq2) rfl (by omega) (congrArg Prod.fst sh_57) rfl (Nat.le_of_ble_eq_true rfl) rfl ?_
    refine V_aload_n (pc := 33) dX11_keep_33 rfl rfl rfl ?_
    refine V_getR (pc := 34) dX11_keep_34 flX11_79 rfl (by omega) (congrArg Prod.fst sh_0) rt_0_10 rfl ?_
    refine V_iload_n (pc := 37) dX11_keep_37 rfl rfl rfl ?_
    refine V_iload_n (pc := 38) dX11_keep_38 rfl rfl rfl ?_
    refine V_iload_n (pc := 39) dX11_keep_39 rfl rfl rfl ?_
    obtain ⟨q3, hq3, hf⟩ := bnd hf
    refine V_cVi (md' := mX10_fewestShut) (pc := 40) dX11_keep_40 mlX11_274 mVX10_fewestShut (tX10_fewestShut hG hn hq3) rfl (by omega) (congrArg Prod.fst sh_61) rfl (Nat.le_of_ble_eq_true rfl) rfl ?_
    refine V_iload (pc := 43) dX11_keep_43 rfl rfl ?_
    refine V_cSi (md' := mX11_toldAs) (pc := 45) dX11_keep_45 mlX11_277 mSX11_toldAs (tX11_toldAs rfl) rfl rfl (Nat.le_of_ble_eq_true rfl) rfl ?_
    cases hf
    exact V_iret (pc := 48) dX11_keep_48 rfl PoI_mk
  refine V_if_eq (pc := 9) (tgt := 20) dX11_keep_9 (by decide) rfl (fun hc => ?_) (fun hc => ?_)
  · replace hb1 := (if_pos hc).symm.trans hb1
    cases hb1
    exact KTb1 rfl
  · replace hb1 := (if_neg hc).symm.trans hb1
    refine V_iload (pc := 12) dX11_keep_12 rfl rfl ?_
    refine V_cSz (md' := mX11_isChoice) (pc := 14) dX11_keep_14 mlX11_234 mSX11_isChoice (tX11_isChoice rfl) rfl rfl (Nat.le_of_ble_eq_true rfl) rfl ?_
    refine V_if_ne (pc := 17) (tgt := 22) dX11_keep_17 (by decide) rfl (fun hc => ?_) (fun hc => ?_)
    · replace hb1 := (if_neg hc).symm.trans hb1
      cases hb1
      exact KFb1 (nbt rfl)
    · replace hb1 := (if_pos hc).symm.trans hb1
      cases hb1
      exact KTb1 rfl
/-! ShadowDoors.free -/
noncomputable def fX11_free (tw : Nat) (sk : Nat) (v1 : Int32) (v2 : Int32) (v3 : Int32) (v4 : Int32) (I : HI) (L : HL) : Option (Int32 × HI × HL) :=
  Option.bind (
    if (b2i (fX11_isJourney tw v1 v2 v3 (24 : Int32) I L)) = 0 then
      some true
    else
      if (b2i (fX11_isChoice v4)) = 0 then
        some true
      else
        some false
  ) fun b1 =>
  if b1 = true then
    some ((-1 : Int32), I, L)
  else
    Option.bind (fX7_aimAt  I L) fun q2 =>
    Option.bind (fX10_fewestLit sk v1 v2 v3 q2.1 q2.2) fun q3 =>
    some ((fX11_toldAs q3.1 v4), q3.2.1, q3.2.2)
set_option maxRecDepth 100000 in
set_option maxHeartbeats 4000000 in
theorem tX11_free {g : GG} {n d : Nat} {tw dr sk tl ff : Nat} (hG : RG tw dr sk tl ff) (hn : 116 ≤ n) {v1 : Int32} {v2 : Int32} {v3 : Int32} {v4 : Int32} {I : HI} {L : HL} {res : Int32 × HI × HL} (hf : fX11_free tw sk v1 v2 v3 v4 I L = some res) : CT g mX11_free (d + 8) 0 0 n (RT tw dr sk tl ff) I L [.ref 0, .int v1, .int v2, .int v3, .int v4] (PoI n (RT tw dr sk tl ff) res.1 res.2.1 res.2.2) := by
  refine CT.of rfl (Nat.le_of_ble_eq_true rfl) ?_
  show V g mX11_free (d + 8) 0 0 n (RT tw dr sk tl ff) I L 0 [some (.ref 0), some (.int v1), some (.int v2), some (.int v3), some (.int v4)] [] (PoI n (RT tw dr sk tl ff) res.1 res.2.1 res.2.2)
  refine V_aload_n (pc := 0) dX11_free_0 rfl rfl rfl ?_
  refine V_iload_n (pc := 1) dX11_free_1 rfl rfl rfl ?_
  refine V_iload_n (pc := 2) dX11_free_2 rfl rfl rfl ?_
  refine V_iload_n (pc := 3) dX11_free_3 rfl rfl rfl ?_
  refine V_bipush (pc := 4) dX11_free_4 bp_24 rfl ?_
  refine V_cVz (md' := mX11_isJourney) (pc := 6) dX11_free_6 mlX11_270 mVX11_isJourney (tX11_isJourney hG hn rfl) rfl (by omega) (congrArg Prod.fst sh_0) rfl (Nat.le_of_ble_eq_true rfl) rfl ?_
  obtain ⟨b1, hb1, hf⟩ := bnd hf
  have KTb1 : b1 = true → V g mX11_free (d + 8) 0 0 n (RT tw dr sk tl ff) I L 20 [some (.ref 0), some (.int v1), some (.int v2), some (.int v3), some (.int v4)] [] (PoI n (RT tw dr sk tl ff) res.1 res.2.1 res.2.2) := fun hc => by
    replace hf := (if_pos hc).symm.trans hf
    refine V_iconst (pc := 20) dX11_free_20 ic_m1 rfl ?_
    cases hf
    exact V_iret (pc := 21) dX11_free_21 rfl PoI_mk
  have KFb1 : ¬ b1 = true → V g mX11_free (d + 8) 0 0 n (RT tw dr sk tl ff) I L 22 [some (.ref 0), some (.int v1), some (.int v2), some (.int v3), some (.int v4)] [] (PoI n (RT tw dr sk tl ff) res.1 res.2.1 res.2.2) := fun hc => by
    replace hf := (if_neg hc).symm.trans hf
    refine V_aload_n (pc := 22) dX11_free_22 rfl rfl rfl ?_
    refine V_getR (pc := 23) dX11_free_23 flX11_70 rfl (by omega) (congrArg Prod.fst sh_0) rt_0_9 rfl ?_
    refine V_aload_n (pc := 26) dX11_free_26 rfl rfl rfl ?_
    refine V_getR (pc := 27) dX11_free_27 flX11_40 rfl (by omega) (congrArg Prod.fst sh_0) rt_0_5 rfl ?_
    obtain ⟨q2, hq2, hf⟩ := bnd hf
    refine V_cVv (md' := mX7_aimAt) (pc := 30) dX11_free_30 mlX11_183 mVX7_aimAt (tX7_aimAt hG hn hq2) rfl (by omega) (congrArg Prod.fst sh_57) rfl (Nat.le_of_ble_eq_true rfl) rfl ?_
    refine V_aload_n (pc := 33) dX11_free_33 rfl rfl rfl ?_
    refine V_getR (pc := 34) dX11_free_34 flX11_79 rfl (by omega) (congrArg Prod.fst sh_0) rt_0_10 rfl ?_
    refine V_iload_n (pc := 37) dX11_free_37 rfl rfl rfl ?_
    refine V_iload_n (pc := 38) dX11_free_38 rfl rfl rfl ?_
    refine V_iload_n (pc := 39) dX11_free_39 rfl rfl rfl ?_
    obtain ⟨q3, hq3, hf⟩ := bnd hf
    refine V_cVi (md' := mX10_fewestLit) (pc := 40) dX11_free_40 mlX11_280 mVX10_fewestLit (tX10_fewestLit hG hn hq3) rfl (by omega) (congrArg Prod.fst sh_61) rfl (Nat.le_of_ble_eq_true rfl) rfl ?_
    refine V_iload (pc := 43) dX11_free_43 rfl rfl ?_
    refine V_cSi (md' := mX11_toldAs) (pc := 45) dX11_free_45 mlX11_277 mSX11_toldAs (tX11_toldAs rfl) rfl rfl (Nat.le_of_ble_eq_true rfl) rfl ?_
    cases hf
    exact V_iret (pc := 48) dX11_free_48 rfl PoI_mk
  refine V_if_eq (pc := 9) (tgt := 20) dX11_free_9 (by decide) rfl (fun hc => ?_) (fun hc => ?_)
  · replace hb1 := (if_pos hc).symm.trans hb1
    cases hb1
    exact KTb1 rfl
  · replace hb1 := (if_neg hc).symm.trans hb1
    refine V_iload (pc := 12) dX11_free_12 rfl rfl ?_
    refine V_cSz (md' := mX11_isChoice) (pc := 14) dX11_free_14 mlX11_234 mSX11_isChoice (tX11_isChoice rfl) rfl rfl (Nat.le_of_ble_eq_true rfl) rfl ?_
    refine V_if_ne (pc := 17) (tgt := 22) dX11_free_17 (by decide) rfl (fun hc => ?_) (fun hc => ?_)
    · replace hb1 := (if_neg hc).symm.trans hb1
      cases hb1
      exact KFb1 (nbt rfl)
    · replace hb1 := (if_pos hc).symm.trans hb1
      cases hb1
      exact KTb1 rfl
/-! ShadowDoors.surest -/
noncomputable def fX11_surest (tw : Nat) (sk : Nat) (v1 : Int32) (v2 : Int32) (v3 : Int32) (v4 : Int32) (I : HI) (L : HL) : Option (Int64 × HI × HL) :=
  Option.bind (
    if (b2i (fX11_isJourney tw v1 v2 v3 (8 : Int32) I L)) = 0 then
      some true
    else
      if (b2i (fX11_isChoice v4)) = 0 then
        some true
      else
        some false
  ) fun b1 =>
  if b1 = true then
    some ((-1 : Int64), I, L)
  else
    Option.bind (fX7_aimAt  I L) fun q2 =>
    Option.bind (fX10_weighOdds sk v1 v2 v3 q2.1 q2.2) fun q3 =>
    if v4 = 0 then
      some ((q3.2 61 5), q3.1, q3.2)
    else
      some ((q3.2 61 6), q3.1, q3.2)
set_option maxRecDepth 100000 in
set_option maxHeartbeats 4000000 in
theorem tX11_surest {g : GG} {n d : Nat} {tw dr sk tl ff : Nat} (hG : RG tw dr sk tl ff) (hn : 116 ≤ n) {v1 : Int32} {v2 : Int32} {v3 : Int32} {v4 : Int32} {I : HI} {L : HL} {res : Int64 × HI × HL} (hf : fX11_surest tw sk v1 v2 v3 v4 I L = some res) : CT g mX11_surest (d + 8) 0 0 n (RT tw dr sk tl ff) I L [.ref 0, .int v1, .int v2, .int v3, .int v4] (PoL n (RT tw dr sk tl ff) res.1 res.2.1 res.2.2) := by
  refine CT.of rfl (Nat.le_of_ble_eq_true rfl) ?_
  show V g mX11_surest (d + 8) 0 0 n (RT tw dr sk tl ff) I L 0 [some (.ref 0), some (.int v1), some (.int v2), some (.int v3), some (.int v4)] [] (PoL n (RT tw dr sk tl ff) res.1 res.2.1 res.2.2)
  refine V_aload_n (pc := 0) dX11_surest_0 rfl rfl rfl ?_
  refine V_iload_n (pc := 1) dX11_surest_1 rfl rfl rfl ?_
  refine V_iload_n (pc := 2) dX11_surest_2 rfl rfl rfl ?_
  refine V_iload_n (pc := 3) dX11_surest_3 rfl rfl rfl ?_
  refine V_bipush (pc := 4) dX11_surest_4 bp_8 rfl ?_
  refine V_cVz (md' := mX11_isJourney) (pc := 6) dX11_surest_6 mlX11_270 mVX11_isJourney (tX11_isJourney hG hn rfl) rfl (by omega) (congrArg Prod.fst sh_0) rfl (Nat.le_of_ble_eq_true rfl) rfl ?_
  obtain ⟨b1, hb1, hf⟩ := bnd hf
  have KTb1 : b1 = true → V g mX11_surest (d + 8) 0 0 n (RT tw dr sk tl ff) I L 20 [some (.ref 0), some (.int v1), some (.int v2), some (.int v3), some (.int v4)] [] (PoL n (RT tw dr sk tl ff) res.1 res.2.1 res.2.2) := fun hc => by
    replace hf := (if_pos hc).symm.trans hf
    refine V_ldc2 (pc := 20) dX11_surest_20 klX11_253 rfl ?_
    cases hf
    exact V_lret (pc := 23) dX11_surest_23 rfl PoL_mk
  have KFb1 : ¬ b1 = true → V g mX11_surest (d + 8) 0 0 n (RT tw dr sk tl ff) I L 24 [some (.ref 0), some (.int v1), some (.int v2), some (.int v3), some (.int v4)] [] (PoL n (RT tw dr sk tl ff) res.1 res.2.1 res.2.2) := fun hc => by
    replace hf := (if_neg hc).symm.trans hf
    refine V_aload_n (pc := 24) dX11_surest_24 rfl rfl rfl ?_
    refine V_getR (pc := 25) dX11_surest_25 flX11_70 rfl (by omega) (congrArg Prod.fst sh_0) rt_0_9 rfl ?_
    refine V_aload_n (pc := 28) dX11_surest_28 rfl rfl rfl ?_
    refine V_getR (pc := 29) dX11_surest_29 flX11_40 rfl (by omega) (congrArg Prod.fst sh_0) rt_0_5 rfl ?_
    obtain ⟨q2, hq2, hf⟩ := bnd hf
    refine V_cVv (md' := mX7_aimAt) (pc := 32) dX11_surest_32 mlX11_183 mVX7_aimAt (tX7_aimAt hG hn hq2) rfl (by omega) (congrArg Prod.fst sh_57) rfl (Nat.le_of_ble_eq_true rfl) rfl ?_
    refine V_aload_n (pc := 35) dX11_surest_35 rfl rfl rfl ?_
    refine V_getR (pc := 36) dX11_surest_36 flX11_79 rfl (by omega) (congrArg Prod.fst sh_0) rt_0_10 rfl ?_
    refine V_iload_n (pc := 39) dX11_surest_39 rfl rfl rfl ?_
    refine V_iload_n (pc := 40) dX11_surest_40 rfl rfl rfl ?_
    refine V_iload_n (pc := 41) dX11_surest_41 rfl rfl rfl ?_
    obtain ⟨q3, hq3, hf⟩ := bnd hf
    refine V_cVv (md' := mX10_weighOdds) (pc := 42) dX11_surest_42 mlX11_283 mVX10_weighOdds (tX10_weighOdds hG hn hq3) rfl (by omega) (congrArg Prod.fst sh_61) rfl (Nat.le_of_ble_eq_true rfl) rfl ?_
    refine V_iload (pc := 45) dX11_surest_45 rfl rfl ?_
    refine V_if_ne (pc := 47) (tgt := 60) dX11_surest_47 (by decide) rfl (fun hc => ?_) (fun hc => ?_)
    · replace hf := (if_neg hc).symm.trans hf
      refine V_aload_n (pc := 60) dX11_surest_60 rfl rfl rfl ?_
      refine V_getR (pc := 61) dX11_surest_61 flX11_79 rfl (by omega) (congrArg Prod.fst sh_0) rt_0_10 rfl ?_
      refine V_getL (pc := 64) dX11_surest_64 flX11_290 rfl (by omega) (congrArg Prod.fst sh_61) rfl ?_
      cases hf
      exact V_lret (pc := 67) dX11_surest_67 rfl PoL_mk
    · replace hf := (if_pos hc).symm.trans hf
      refine V_aload_n (pc := 50) dX11_surest_50 rfl rfl rfl ?_
      refine V_getR (pc := 51) dX11_surest_51 flX11_79 rfl (by omega) (congrArg Prod.fst sh_0) rt_0_10 rfl ?_
      refine V_getL (pc := 54) dX11_surest_54 flX11_287 rfl (by omega) (congrArg Prod.fst sh_61) rfl ?_
      refine V_goto (pc := 57) (tgt := 67) dX11_surest_57 (by decide) ?_
      cases hf
      exact V_lret (pc := 67) dX11_surest_67 rfl PoL_mk
  refine V_if_eq (pc := 9) (tgt := 20) dX11_surest_9 (by decide) rfl (fun hc => ?_) (fun hc => ?_)
  · replace hb1 := (if_pos hc).symm.trans hb1
    cases hb1
    exact KTb1 rfl
  · replace hb1 := (if_neg hc).symm.trans hb1
    refine V_iload (pc := 12) dX11_surest_12 rfl rfl ?_
    refine V_cSz (md' := mX11_isChoice) (pc := 14) dX11_surest_14 mlX11_234 mSX11_isChoice (tX11_isChoice rfl) rfl rfl (Nat.le_of_ble_eq_true rfl) rfl ?_
    refine V_if_ne (pc := 17) (tgt := 24) dX11_surest_17 (by decide) rfl (fun hc => ?_) (fun hc => ?_)
    · replace hb1 := (if_neg hc).symm.trans hb1
      cases hb1
      exact KFb1 (nbt rfl)
    · replace hb1 := (if_pos hc).symm.trans hb1
      cases hb1
      exact KTb1 rfl
/-! ShadowDoors.dates -/
noncomputable def fX11_dates (tw : Nat) (sk : Nat) (v1 : Int32) (v2 : Int32) (v3 : Int32) (v4 : Int32) (I : HI) (L : HL) : Option (Int32 × HI × HL) :=
  if (b2i (fX11_isJourney tw v1 v2 v3 (24 : Int32) I L)) = 0 then
    some ((-1 : Int32), I, L)
  else
    Option.bind (
      if v4 < 0 then
        some true
      else
        if v4 ≤ (2 : Int32) then
          some false
        else
          some true
    ) fun b1 =>
    if b1 = true then
      some ((-1 : Int32), I, L)
    else
      Option.bind (fX7_aimAt  I L) fun q2 =>
      Option.bind (fX10_countDates sk v1 v2 v3 v4 q2.1 q2.2) fun q3 =>
      some (q3.1, q3.2.1, q3.2.2)
set_option maxRecDepth 100000 in
set_option maxHeartbeats 4000000 in
theorem tX11_dates {g : GG} {n d : Nat} {tw dr sk tl ff : Nat} (hG : RG tw dr sk tl ff) (hn : 116 ≤ n) {v1 : Int32} {v2 : Int32} {v3 : Int32} {v4 : Int32} {I : HI} {L : HL} {res : Int32 × HI × HL} (hf : fX11_dates tw sk v1 v2 v3 v4 I L = some res) : CT g mX11_dates (d + 8) 0 0 n (RT tw dr sk tl ff) I L [.ref 0, .int v1, .int v2, .int v3, .int v4] (PoI n (RT tw dr sk tl ff) res.1 res.2.1 res.2.2) := by
  refine CT.of rfl (Nat.le_of_ble_eq_true rfl) ?_
  show V g mX11_dates (d + 8) 0 0 n (RT tw dr sk tl ff) I L 0 [some (.ref 0), some (.int v1), some (.int v2), some (.int v3), some (.int v4)] [] (PoI n (RT tw dr sk tl ff) res.1 res.2.1 res.2.2)
  refine V_aload_n (pc := 0) dX11_dates_0 rfl rfl rfl ?_
  refine V_iload_n (pc := 1) dX11_dates_1 rfl rfl rfl ?_
  refine V_iload_n (pc := 2) dX11_dates_2 rfl rfl rfl ?_
  refine V_iload_n (pc := 3) dX11_dates_3 rfl rfl rfl ?_
  refine V_bipush (pc := 4) dX11_dates_4 bp_24 rfl ?_
  refine V_cVz (md' := mX11_isJourney) (pc := 6) dX11_dates_6 mlX11_270 mVX11_isJourney (tX11_isJourney hG hn rfl) rfl (by omega) (congrArg Prod.fst sh_0) rfl (Nat.le_of_ble_eq_true rfl) rfl ?_
  refine V_if_ne (pc := 9) (tgt := 14) dX11_dates_9 (by decide) rfl (fun hc => ?_) (fun hc => ?_)
  · replace hf := (if_neg hc).symm.trans hf
    refine V_iload (pc := 14) dX11_dates_14 rfl rfl ?_
    obtain ⟨b1, hb1, hf⟩ := bnd hf
    have KTb1 : b1 = true → V g mX11_dates (d + 8) 0 0 n (RT tw dr sk tl ff) I L 25 [some (.ref 0), some (.int v1), some (.int v2), some (.int v3), some (.int v4)] [] (PoI n (RT tw dr sk tl ff) res.1 res.2.1 res.2.2) := fun hc => by
      replace hf := (if_pos hc).symm.trans hf
      refine V_iconst (pc := 25) dX11_dates_25 ic_m1 rfl ?_
      cases hf
      exact V_iret (pc := 26) dX11_dates_26 rfl PoI_mk
    have KFb1 : ¬ b1 = true → V g mX11_dates (d + 8) 0 0 n (RT tw dr sk tl ff) I L 27 [some (.ref 0), some (.int v1), some (.int v2), some (.int v3), some (.int v4)] [] (PoI n (RT tw dr sk tl ff) res.1 res.2.1 res.2.2) := fun hc => by
      replace hf := (if_neg hc).symm.trans hf
      refine V_aload_n (pc := 27) dX11_dates_27 rfl rfl rfl ?_
      refine V_getR (pc := 28) dX11_dates_28 flX11_70 rfl (by omega) (congrArg Prod.fst sh_0) rt_0_9 rfl ?_
      refine V_aload_n (pc := 31) dX11_dates_31 rfl rfl rfl ?_
      refine V_getR (pc := 32) dX11_dates_32 flX11_40 rfl (by omega) (congrArg Prod.fst sh_0) rt_0_5 rfl ?_
      obtain ⟨q2, hq2, hf⟩ := bnd hf
      refine V_cVv (md' := mX7_aimAt) (pc := 35) dX11_dates_35 mlX11_183 mVX7_aimAt (tX7_aimAt hG hn hq2) rfl (by omega) (congrArg Prod.fst sh_57) rfl (Nat.le_of_ble_eq_true rfl) rfl ?_
      refine V_aload_n (pc := 38) dX11_dates_38 rfl rfl rfl ?_
      refine V_getR (pc := 39) dX11_dates_39 flX11_79 rfl (by omega) (congrArg Prod.fst sh_0) rt_0_10 rfl ?_
      refine V_iload_n (pc := 42) dX11_dates_42 rfl rfl rfl ?_
      refine V_iload_n (pc := 43) dX11_dates_43 rfl rfl rfl ?_
      refine V_iload_n (pc := 44) dX11_dates_44 rfl rfl rfl ?_
      refine V_iload (pc := 45) dX11_dates_45 rfl rfl ?_
      obtain ⟨q3, hq3, hf⟩ := bnd hf
      refine V_cVi (md' := mX10_countDates) (pc := 47) dX11_dates_47 mlX11_293 mVX10_countDates (tX10_countDates hG hn hq3) rfl (by omega) (congrArg Prod.fst sh_61) rfl (Nat.le_of_ble_eq_true rfl) rfl ?_
      cases hf
      exact V_iret (pc := 50) dX11_dates_50 rfl PoI_mk
    refine V_if_lt (pc := 16) (tgt := 25) dX11_dates_16 (by decide) rfl (fun hc => ?_) (fun hc => ?_)
    · replace hb1 := (if_pos hc).symm.trans hb1
      cases hb1
      exact KTb1 rfl
    · replace hb1 := (if_neg hc).symm.trans hb1
      refine V_iload (pc := 19) dX11_dates_19 rfl rfl ?_
      refine V_iconst (pc := 21) dX11_dates_21 ic_2 rfl ?_
      refine V_icmp_le (pc := 22) (tgt := 27) dX11_dates_22 (by decide) rfl (fun hc => ?_) (fun hc => ?_)
      · replace hb1 := (if_pos hc).symm.trans hb1
        cases hb1
        exact KFb1 (nbt rfl)
      · replace hb1 := (if_neg hc).symm.trans hb1
        cases hb1
        exact KTb1 rfl
  · replace hf := (if_pos hc).symm.trans hf
    refine V_iconst (pc := 12) dX11_dates_12 ic_m1 rfl ?_
    cases hf
    exact V_iret (pc := 13) dX11_dates_13 rfl PoI_mk
/-! ShadowDoors.lies -/
noncomputable def fX11_lies (v1 : Int32) (I : HI) : Option (Int32) :=
  Option.bind (
    if v1 < 0 then
      some true
    else
      if (I 61 2) ≤ v1 then
        some true
      else
        some false
  ) fun b1 =>
  if b1 = true then
    some (-1 : Int32)
  else
    if inb v1 48 = true then
      some (I 62 v1.toNatClampNeg)
    else none
set_option maxRecDepth 100000 in
set_option maxHeartbeats 4000000 in
theorem tX11_lies {g : GG} {n d : Nat} {tw dr sk tl ff : Nat} (hG : RG tw dr sk tl ff) (hn : 116 ≤ n) {v1 : Int32} {I : HI} {L : HL} {res : Int32} (hf : fX11_lies v1 I = some res) : CT g mX11_lies (d + 1) 0 0 n (RT tw dr sk tl ff) I L [.ref 0, .int v1] (PoI n (RT tw dr sk tl ff) res I L) := by
  refine CT.of rfl (Nat.le_of_ble_eq_true rfl) ?_
  show V g mX11_lies (d + 1) 0 0 n (RT tw dr sk tl ff) I L 0 [some (.ref 0), some (.int v1)] [] (PoI n (RT tw dr sk tl ff) res I L)
  refine V_iload_n (pc := 0) dX11_lies_0 rfl rfl rfl ?_
  obtain ⟨b1, hb1, hf⟩ := bnd hf
  have KTb1 : b1 = true → V g mX11_lies (d + 1) 0 0 n (RT tw dr sk tl ff) I L 27 [some (.ref 0), some (.int v1)] [] (PoI n (RT tw dr sk tl ff) res I L) := fun hc => by
    replace hf := (if_pos hc).symm.trans hf
    refine V_iconst (pc := 27) dX11_lies_27 ic_m1 rfl ?_
    cases hf
    exact V_iret (pc := 28) dX11_lies_28 rfl PoI_mk
  have KFb1 : ¬ b1 = true → V g mX11_lies (d + 1) 0 0 n (RT tw dr sk tl ff) I L 15 [some (.ref 0), some (.int v1)] [] (PoI n (RT tw dr sk tl ff) res I L) := fun hc => by
    replace hf := (if_neg hc).symm.trans hf
    refine V_aload_n (pc := 15) dX11_lies_15 rfl rfl rfl ?_
    refine V_getR (pc := 16) dX11_lies_16 flX11_79 rfl (by omega) (congrArg Prod.fst sh_0) rt_0_10 rfl ?_
    refine V_getR (pc := 19) dX11_lies_19 flX11_300 rfl (by omega) (congrArg Prod.fst sh_61) rt_61_1 rfl ?_
    refine V_iload_n (pc := 22) dX11_lies_22 rfl rfl rfl ?_
    obtain ⟨hc2, hf⟩ := pif hf
    refine V_iald (pc := 23) dX11_lies_23 (by omega) sh_62 hc2 rfl ?_
    refine V_goto (pc := 24) (tgt := 28) dX11_lies_24 (by decide) ?_
    cases hf
    exact V_iret (pc := 28) dX11_lies_28 rfl PoI_mk
  refine V_if_lt (pc := 1) (tgt := 27) dX11_lies_1 (by decide) rfl (fun hc => ?_) (fun hc => ?_)
  · replace hb1 := (if_pos hc).symm.trans hb1
    cases hb1
    exact KTb1 rfl
  · replace hb1 := (if_neg hc).symm.trans hb1
    refine V_iload_n (pc := 4) dX11_lies_4 rfl rfl rfl ?_
    refine V_aload_n (pc := 5) dX11_lies_5 rfl rfl rfl ?_
    refine V_getR (pc := 6) dX11_lies_6 flX11_79 rfl (by omega) (congrArg Prod.fst sh_0) rt_0_10 rfl ?_
    refine V_getI (pc := 9) dX11_lies_9 flX11_297 rfl (by omega) (congrArg Prod.fst sh_61) rfl ?_
    refine V_icmp_ge (pc := 12) (tgt := 27) dX11_lies_12 (by decide) rfl (fun hc => ?_) (fun hc => ?_)
    · replace hb1 := (if_pos hc).symm.trans hb1
      cases hb1
      exact KTb1 rfl
    · replace hb1 := (if_neg hc).symm.trans hb1
      cases hb1
      exact KFb1 (nbt rfl)
/-! ShadowDoors.look -/
noncomputable def fX11_look (tw : Nat) (v1 : Int32) (v2 : Int32) (v3 : Int32) (I : HI) (L : HL) : Option (Int32 × HI) :=
  Option.bind (
    if v1 < 0 then
      some true
    else
      if (24 : Int32) ≤ v1 then
        some true
      else
        if (b2i (fX5_canStand tw v2 I L)) = 0 then
          some true
        else
          some false
  ) fun b1 =>
  if b1 = true then
    some ((-1 : Int32), I)
  else
    Option.bind (fX3_tell v1 v2 v3 I) fun q2 =>
    some (q2.1, q2.2)
set_option maxRecDepth 100000 in
set_option maxHeartbeats 4000000 in
theorem tX11_look {g : GG} {n d : Nat} {tw dr sk tl ff : Nat} (hG : RG tw dr sk tl ff) (hn : 116 ≤ n) {v1 : Int32} {v2 : Int32} {v3 : Int32} {I : HI} {L : HL} {res : Int32 × HI} (hf : fX11_look tw v1 v2 v3 I L = some res) : CT g mX11_look (d + 2) 0 0 n (RT tw dr sk tl ff) I L [.ref 0, .int v1, .int v2, .int v3] (PoI n (RT tw dr sk tl ff) res.1 res.2 L) := by
  refine CT.of rfl (Nat.le_of_ble_eq_true rfl) ?_
  show V g mX11_look (d + 2) 0 0 n (RT tw dr sk tl ff) I L 0 [some (.ref 0), some (.int v1), some (.int v2), some (.int v3)] [] (PoI n (RT tw dr sk tl ff) res.1 res.2 L)
  refine V_iload_n (pc := 0) dX11_look_0 rfl rfl rfl ?_
  obtain ⟨b1, hb1, hf⟩ := bnd hf
  have KTb1 : b1 = true → V g mX11_look (d + 2) 0 0 n (RT tw dr sk tl ff) I L 21 [some (.ref 0), some (.int v1), some (.int v2), some (.int v3)] [] (PoI n (RT tw dr sk tl ff) res.1 res.2 L) := fun hc => by
    replace hf := (if_pos hc).symm.trans hf
    refine V_iconst (pc := 21) dX11_look_21 ic_m1 rfl ?_
    cases hf
    exact V_iret (pc := 22) dX11_look_22 rfl PoI_mk
  have KFb1 : ¬ b1 = true → V g mX11_look (d + 2) 0 0 n (RT tw dr sk tl ff) I L 23 [some (.ref 0), some (.int v1), some (.int v2), some (.int v3)] [] (PoI n (RT tw dr sk tl ff) res.1 res.2 L) := fun hc => by
    replace hf := (if_neg hc).symm.trans hf
    refine V_aload_n (pc := 23) dX11_look_23 rfl rfl rfl ?_
    refine V_getR (pc := 24) dX11_look_24 flX11_86 rfl (by omega) (congrArg Prod.fst sh_0) rt_0_11 rfl ?_
    refine V_iload_n (pc := 27) dX11_look_27 rfl rfl rfl ?_
    refine V_iload_n (pc := 28) dX11_look_28 rfl rfl rfl ?_
    refine V_iload_n (pc := 29) dX11_look_29 rfl rfl rfl ?_
    obtain ⟨q2, hq2, hf⟩ := bnd hf
    refine V_cVi (md' := mX3_tell) (pc := 30) dX11_look_30 mlX11_303 mVX3_tell (tX3_tell hG hn hq2) rfl (by omega) (congrArg Prod.fst sh_66) rfl (Nat.le_of_ble_eq_true rfl) rfl ?_
    cases hf
    exact V_iret (pc := 33) dX11_look_33 rfl PoI_mk
  refine V_if_lt (pc := 1) (tgt := 21) dX11_look_1 (by decide) rfl (fun hc => ?_) (fun hc => ?_)
  · replace hb1 := (if_pos hc).symm.trans hb1
    cases hb1
    exact KTb1 rfl
  · replace hb1 := (if_neg hc).symm.trans hb1
    refine V_iload_n (pc := 4) dX11_look_4 rfl rfl rfl ?_
    refine V_bipush (pc := 5) dX11_look_5 bp_24 rfl ?_
    refine V_icmp_ge (pc := 7) (tgt := 21) dX11_look_7 (by decide) rfl (fun hc => ?_) (fun hc => ?_)
    · replace hb1 := (if_pos hc).symm.trans hb1
      cases hb1
      exact KTb1 rfl
    · replace hb1 := (if_neg hc).symm.trans hb1
      refine V_aload_n (pc := 10) dX11_look_10 rfl rfl rfl ?_
      refine V_getR (pc := 11) dX11_look_11 flX11_16 rfl (by omega) (congrArg Prod.fst sh_0) rt_0_3 rfl ?_
      refine V_iload_n (pc := 14) dX11_look_14 rfl rfl rfl ?_
      refine V_cVz (md' := mX5_canStand) (pc := 15) dX11_look_15 mlX11_195 mVX5_canStand (tX5_canStand hG.1 (rQ_RT hG.1) (by omega) rfl) rfl (by omega) (congrArg Prod.fst (shQ hG.1)) rfl (Nat.le_of_ble_eq_true rfl) rfl ?_
      refine V_if_ne (pc := 18) (tgt := 23) dX11_look_18 (by decide) rfl (fun hc => ?_) (fun hc => ?_)
      · replace hb1 := (if_neg hc).symm.trans hb1
        cases hb1
        exact KFb1 (nbt rfl)
      · replace hb1 := (if_pos hc).symm.trans hb1
        cases hb1
        exact KTb1 rfl
/-! ShadowDoors.untell -/
noncomputable def fX11_untell (v1 : Int32) (I : HI) : Option (Bool × HI) :=
  Option.bind (fX3_takeBack v1 I) fun q1 =>
  some (q1.1, q1.2)
set_option maxRecDepth 100000 in
set_option maxHeartbeats 4000000 in
theorem tX11_untell {g : GG} {n d : Nat} {tw dr sk tl ff : Nat} (hG : RG tw dr sk tl ff) (hn : 116 ≤ n) {v1 : Int32} {I : HI} {L : HL} {res : Bool × HI} (hf : fX11_untell v1 I = some res) : CT g mX11_untell (d + 3) 0 0 n (RT tw dr sk tl ff) I L [.ref 0, .int v1] (PoB n (RT tw dr sk tl ff) res.1 res.2 L) := by
  refine CT.of rfl (Nat.le_of_ble_eq_true rfl) ?_
  show V g mX11_untell (d + 3) 0 0 n (RT tw dr sk tl ff) I L 0 [some (.ref 0), some (.int v1)] [] (PoB n (RT tw dr sk tl ff) res.1 res.2 L)
  refine V_aload_n (pc := 0) dX11_untell_0 rfl rfl rfl ?_
  refine V_getR (pc := 1) dX11_untell_1 flX11_86 rfl (by omega) (congrArg Prod.fst sh_0) rt_0_11 rfl ?_
  refine V_iload_n (pc := 4) dX11_untell_4 rfl rfl rfl ?_
  obtain ⟨q1, hq1, hf⟩ := bnd hf
  refine V_cVz (md' := mX3_takeBack) (pc := 5) dX11_untell_5 mlX11_307 mVX3_takeBack (tX3_takeBack hG hn hq1) rfl (by omega) (congrArg Prod.fst sh_66) rfl (Nat.le_of_ble_eq_true rfl) rfl ?_
  cases hf
  exact V_zretE (pc := 8) dX11_untell_8 rfl rfl PoB_mk
/-! ShadowDoors.later -/
noncomputable def fX11_later (v1 : Int32) (I : HI) : Int32 × HI :=
  tbn (
    if v1 < 0 then
      true
    else
      if (1000 : Int32) < v1 then
        true
      else
        if ((I 66 1) + v1) ≤ (100000 : Int32) then
          false
        else
          true
  ) fun b1 =>
  if b1 = true then
    ((-1 : Int32), I)
  else
    let I2 : HI := up2 I 66 1 ((I 66 1) + v1)
    ((I2 66 1), I2)
set_option maxRecDepth 100000 in
set_option maxHeartbeats 4000000 in
theorem tX11_later {g : GG} {n d : Nat} {tw dr sk tl ff : Nat} (hG : RG tw dr sk tl ff) (hn : 116 ≤ n) {v1 : Int32} {I : HI} {L : HL} {res : Int32 × HI} (hf : fX11_later v1 I = res) : CT g mX11_later (d + 1) 0 0 n (RT tw dr sk tl ff) I L [.ref 0, .int v1] (PoI n (RT tw dr sk tl ff) res.1 res.2 L) := by
  refine CT.of rfl (Nat.le_of_ble_eq_true rfl) ?_
  show V g mX11_later (d + 1) 0 0 n (RT tw dr sk tl ff) I L 0 [some (.ref 0), some (.int v1)] [] (PoI n (RT tw dr sk tl ff) res.1 res.2 L)
  refine V_iload_n (pc := 0) dX11_later_0 rfl rfl rfl ?_
  obtain ⟨b1, hb1, hf⟩ := tbd hf
  have KTb1 : b1 = true → V g mX11_later (d + 1) 0 0 n (RT tw dr sk tl ff) I L 26 [some (.ref 0), some (.int v1)] [] (PoI n (RT tw dr sk tl ff) res.1 res.2 L) := fun hc => by
    replace hf := (if_pos hc).symm.trans hf
    refine V_iconst (pc := 26) dX11_later_26 ic_m1 rfl ?_
    cases hf
    exact V_iret (pc := 27) dX11_later_27 rfl PoI_mk
  have KFb1 : ¬ b1 = true → V g mX11_later (d + 1) 0 0 n (RT tw dr sk tl ff) I L 28 [some (.ref 0), some (.int v1)] [] (PoI n (RT tw dr sk tl ff) res.1 res.2 L) := fun hc => by
    replace hf := (if_neg hc).symm.trans hf
    refine V_aload_n (pc := 28) dX11_later_28 rfl rfl rfl ?_
    refine V_getR (pc := 29) dX11_later_29 flX11_86 rfl (by omega) (congrArg Prod.fst sh_0) rt_0_11 rfl ?_
    refine V_dup (pc := 32) dX11_later_32 rfl rfl ?_
    refine V_getI (pc := 33) dX11_later_33 flX11_310 rfl (by omega) (congrArg Prod.fst sh_66) rfl ?_
    refine V_iload_n (pc := 36) dX11_later_36 rfl rfl rfl ?_
    refine V_iadd (pc := 37) dX11_later_37 rfl ?_
    let I2 : HI := up2 I 66 1 ((I 66 1) + v1)
    refine V_putI (pc := 38) dX11_later_38 flX11_310 rfl rfl (by omega) (congrArg Prod.fst sh_66) rfl ?_
    refine V_aload_n (pc := 41) dX11_later_41 rfl rfl rfl ?_
    refine V_getR (pc := 42) dX11_later_42 flX11_86 rfl (by omega) (congrArg Prod.fst sh_0) rt_0_11 rfl ?_
    refine V_getI (pc := 45) dX11_later_45 flX11_310 rfl (by omega) (congrArg Prod.fst sh_66) rfl ?_
    cases hf
    exact V_iret (pc := 48) dX11_later_48 rfl PoI_mk
  refine V_if_lt (pc := 1) (tgt := 26) dX11_later_1 (by decide) rfl (fun hc => ?_) (fun hc => ?_)
  · replace hb1 := (if_pos hc).symm.trans hb1
    cases hb1
    exact KTb1 rfl
  · replace hb1 := (if_neg hc).symm.trans hb1
    refine V_iload_n (pc := 4) dX11_later_4 rfl rfl rfl ?_
    refine V_sipush (pc := 5) dX11_later_5 sp_1000 rfl ?_
    refine V_icmp_gt (pc := 8) (tgt := 26) dX11_later_8 (by decide) rfl (fun hc => ?_) (fun hc => ?_)
    · replace hb1 := (if_pos hc).symm.trans hb1
      cases hb1
      exact KTb1 rfl
    · replace hb1 := (if_neg hc).symm.trans hb1
      refine V_aload_n (pc := 11) dX11_later_11 rfl rfl rfl ?_
      refine V_getR (pc := 12) dX11_later_12 flX11_86 rfl (by omega) (congrArg Prod.fst sh_0) rt_0_11 rfl ?_
      refine V_getI (pc := 15) dX11_later_15 flX11_310 rfl (by omega) (congrArg Prod.fst sh_66) rfl ?_
      refine V_iload_n (pc := 18) dX11_later_18 rfl rfl rfl ?_
      refine V_iadd (pc := 19) dX11_later_19 rfl ?_
      refine V_ldcw (pc := 20) dX11_later_20 kcX11_313 rfl ?_
      refine V_icmp_le (pc := 23) (tgt := 28) dX11_later_23 (by decide) rfl (fun hc => ?_) (fun hc => ?_)
      · replace hb1 := (if_pos hc).symm.trans hb1
        cases hb1
        exact KFb1 (nbt rfl)
      · replace hb1 := (if_neg hc).symm.trans hb1
        cases hb1
        exact KTb1 rfl
/-! ShadowDoors.fit -/
noncomputable def fX11_fit (tw : Nat) (v1 : Int32) (I : HI) (L : HL) : Option (Int32 × HI × HL) :=
  Option.bind (fX3_findFitting tw v1 I L) fun q1 =>
  some (q1.1, q1.2.1, q1.2.2)
set_option maxRecDepth 100000 in
set_option maxHeartbeats 4000000 in
theorem tX11_fit {g : GG} {n d : Nat} {tw dr sk tl ff : Nat} (hG : RG tw dr sk tl ff) (hn : 116 ≤ n) {v1 : Int32} {I : HI} {L : HL} {res : Int32 × HI × HL} (hf : fX11_fit tw v1 I L = some res) : CT g mX11_fit (d + 6) 0 0 n (RT tw dr sk tl ff) I L [.ref 0, .int v1] (PoI n (RT tw dr sk tl ff) res.1 res.2.1 res.2.2) := by
  refine CT.of rfl (Nat.le_of_ble_eq_true rfl) ?_
  show V g mX11_fit (d + 6) 0 0 n (RT tw dr sk tl ff) I L 0 [some (.ref 0), some (.int v1)] [] (PoI n (RT tw dr sk tl ff) res.1 res.2.1 res.2.2)
  refine V_aload_n (pc := 0) dX11_fit_0 rfl rfl rfl ?_
  refine V_getR (pc := 1) dX11_fit_1 flX11_86 rfl (by omega) (congrArg Prod.fst sh_0) rt_0_11 rfl ?_
  refine V_aload_n (pc := 4) dX11_fit_4 rfl rfl rfl ?_
  refine V_getR (pc := 5) dX11_fit_5 flX11_16 rfl (by omega) (congrArg Prod.fst sh_0) rt_0_3 rfl ?_
  refine V_iload_n (pc := 8) dX11_fit_8 rfl rfl rfl ?_
  obtain ⟨q1, hq1, hf⟩ := bnd hf
  refine V_cVi (md' := mX3_findFitting) (pc := 9) dX11_fit_9 mlX11_314 mVX3_findFitting (tX3_findFitting hG hn hG.1 hq1) rfl (by omega) (congrArg Prod.fst sh_66) rfl (Nat.le_of_ble_eq_true rfl) rfl ?_
  cases hf
  exact V_iret (pc := 12) dX11_fit_12 rfl PoI_mk
/-! ShadowDoors.places -/
noncomputable def fX11_places (tw : Nat) (v1 : Int32) (I : HI) (L : HL) : Option (Int64 × HI × HL) :=
  Option.bind (fX3_findFitting tw v1 I L) fun q1 =>
  Option.bind (fX3_fittingCells  q1.2.2) fun q2 =>
  some (q2, q1.2.1, q1.2.2)
set_option maxRecDepth 100000 in
set_option maxHeartbeats 4000000 in
theorem tX11_places {g : GG} {n d : Nat} {tw dr sk tl ff : Nat} (hG : RG tw dr sk tl ff) (hn : 116 ≤ n) {v1 : Int32} {I : HI} {L : HL} {res : Int64 × HI × HL} (hf : fX11_places tw v1 I L = some res) : CT g mX11_places (d + 6) 0 0 n (RT tw dr sk tl ff) I L [.ref 0, .int v1] (PoL n (RT tw dr sk tl ff) res.1 res.2.1 res.2.2) := by
  refine CT.of rfl (Nat.le_of_ble_eq_true rfl) ?_
  show V g mX11_places (d + 6) 0 0 n (RT tw dr sk tl ff) I L 0 [some (.ref 0), some (.int v1)] [] (PoL n (RT tw dr sk tl ff) res.1 res.2.1 res.2.2)
  refine V_aload_n (pc := 0) dX11_places_0 rfl rfl rfl ?_
  refine V_getR (pc := 1) dX11_places_1 flX11_86 rfl (by omega) (congrArg Prod.fst sh_0) rt_0_11 rfl ?_
  refine V_aload_n (pc := 4) dX11_places_4 rfl rfl rfl ?_
  refine V_getR (pc := 5) dX11_places_5 flX11_16 rfl (by omega) (congrArg Prod.fst sh_0) rt_0_3 rfl ?_
  refine V_iload_n (pc := 8) dX11_places_8 rfl rfl rfl ?_
  obtain ⟨q1, hq1, hf⟩ := bnd hf
  refine V_cVi (md' := mX3_findFitting) (pc := 9) dX11_places_9 mlX11_314 mVX3_findFitting (tX3_findFitting hG hn hG.1 hq1) rfl (by omega) (congrArg Prod.fst sh_66) rfl (Nat.le_of_ble_eq_true rfl) rfl ?_
  refine V_pop (pc := 12) dX11_places_12 rfl rfl ?_
  refine V_aload_n (pc := 13) dX11_places_13 rfl rfl rfl ?_
  refine V_getR (pc := 14) dX11_places_14 flX11_86 rfl (by omega) (congrArg Prod.fst sh_0) rt_0_11 rfl ?_
  obtain ⟨q2, hq2, hf⟩ := bnd hf
  refine V_cVl (md' := mX3_fittingCells) (pc := 17) dX11_places_17 mlX11_318 mVX3_fittingCells (tX3_fittingCells hG hn hq2) rfl (by omega) (congrArg Prod.fst sh_66) rfl (Nat.le_of_ble_eq_true rfl) rfl ?_
  cases hf
  exact V_lret (pc := 20) dX11_places_20 rfl PoL_mk
/-! ShadowDoors.heights -/
noncomputable def fX11_heights (tw : Nat) (v1 : Int32) (I : HI) (L : HL) : Option (Int32 × HI × HL) :=
  Option.bind (fX3_findFitting tw v1 I L) fun q1 =>
  Option.bind (fX3_fittingHeights  q1.2.2) fun q2 =>
  some (q2, q1.2.1, q1.2.2)
set_option maxRecDepth 100000 in
set_option maxHeartbeats 4000000 in
theorem tX11_heights {g : GG} {n d : Nat} {tw dr sk tl ff : Nat} (hG : RG tw dr sk tl ff) (hn : 116 ≤ n) {v1 : Int32} {I : HI} {L : HL} {res : Int32 × HI × HL} (hf : fX11_heights tw v1 I L = some res) : CT g mX11_heights (d + 6) 0 0 n (RT tw dr sk tl ff) I L [.ref 0, .int v1] (PoI n (RT tw dr sk tl ff) res.1 res.2.1 res.2.2) := by
  refine CT.of rfl (Nat.le_of_ble_eq_true rfl) ?_
  show V g mX11_heights (d + 6) 0 0 n (RT tw dr sk tl ff) I L 0 [some (.ref 0), some (.int v1)] [] (PoI n (RT tw dr sk tl ff) res.1 res.2.1 res.2.2)
  refine V_aload_n (pc := 0) dX11_heights_0 rfl rfl rfl ?_
  refine V_getR (pc := 1) dX11_heights_1 flX11_86 rfl (by omega) (congrArg Prod.fst sh_0) rt_0_11 rfl ?_
  refine V_aload_n (pc := 4) dX11_heights_4 rfl rfl rfl ?_
  refine V_getR (pc := 5) dX11_heights_5 flX11_16 rfl (by omega) (congrArg Prod.fst sh_0) rt_0_3 rfl ?_
  refine V_iload_n (pc := 8) dX11_heights_8 rfl rfl rfl ?_
  obtain ⟨q1, hq1, hf⟩ := bnd hf
  refine V_cVi (md' := mX3_findFitting) (pc := 9) dX11_heights_9 mlX11_314 mVX3_findFitting (tX3_findFitting hG hn hG.1 hq1) rfl (by omega) (congrArg Prod.fst sh_66) rfl (Nat.le_of_ble_eq_true rfl) rfl ?_
  refine V_pop (pc := 12) dX11_heights_12 rfl rfl ?_
  refine V_aload_n (pc := 13) dX11_heights_13 rfl rfl rfl ?_
  refine V_getR (pc := 14) dX11_heights_14 flX11_86 rfl (by omega) (congrArg Prod.fst sh_0) rt_0_11 rfl ?_
  obtain ⟨q2, hq2, hf⟩ := bnd hf
  refine V_cVi (md' := mX3_fittingHeights) (pc := 17) dX11_heights_17 mlX11_321 mVX3_fittingHeights (tX3_fittingHeights hG hn hq2) rfl (by omega) (congrArg Prod.fst sh_66) rfl (Nat.le_of_ble_eq_true rfl) rfl ?_
  cases hf
  exact V_iret (pc := 20) dX11_heights_20 rfl PoI_mk
/-! ShadowDoors.ask -/
noncomputable def fX11_ask (tw : Nat) (v1 : Int32) (v2 : Int32) (I : HI) (L : HL) : Option (Int32 × HI × HL) :=
  if (b2i (fX11_isChoice v1)) = 0 then
    some ((-1 : Int32), I, L)
  else
    Option.bind (fX3_findFitting tw v2 I L) fun q1 =>
    if q1.1 = 0 then
      some ((-1 : Int32), q1.2.1, q1.2.2)
    else
      Option.bind (fX3_findQuestion tw q1.2.1 q1.2.2) fun q2 =>
      if v1 = 0 then
        some ((q2 66 2), q2, q1.2.2)
      else
        some ((q2 66 3), q2, q1.2.2)
set_option maxRecDepth 100000 in
set_option maxHeartbeats 4000000 in
theorem tX11_ask {g : GG} {n d : Nat} {tw dr sk tl ff : Nat} (hG : RG tw dr sk tl ff) (hn : 116 ≤ n) {v1 : Int32} {v2 : Int32} {I : HI} {L : HL} {res : Int32 × HI × HL} (hf : fX11_ask tw v1 v2 I L = some res) : CT g mX11_ask (d + 6) 0 0 n (RT tw dr sk tl ff) I L [.ref 0, .int v1, .int v2] (PoI n (RT tw dr sk tl ff) res.1 res.2.1 res.2.2) := by
  refine CT.of rfl (Nat.le_of_ble_eq_true rfl) ?_
  show V g mX11_ask (d + 6) 0 0 n (RT tw dr sk tl ff) I L 0 [some (.ref 0), some (.int v1), some (.int v2)] [] (PoI n (RT tw dr sk tl ff) res.1 res.2.1 res.2.2)
  refine V_iload_n (pc := 0) dX11_ask_0 rfl rfl rfl ?_
  refine V_cSz (md' := mX11_isChoice) (pc := 1) dX11_ask_1 mlX11_234 mSX11_isChoice (tX11_isChoice rfl) rfl rfl (Nat.le_of_ble_eq_true rfl) rfl ?_
  refine V_if_eq (pc := 4) (tgt := 22) dX11_ask_4 (by decide) rfl (fun hc => ?_) (fun hc => ?_)
  · replace hf := (if_pos hc).symm.trans hf
    refine V_iconst (pc := 22) dX11_ask_22 ic_m1 rfl ?_
    cases hf
    exact V_iret (pc := 23) dX11_ask_23 rfl PoI_mk
  · replace hf := (if_neg hc).symm.trans hf
    refine V_aload_n (pc := 7) dX11_ask_7 rfl rfl rfl ?_
    refine V_getR (pc := 8) dX11_ask_8 flX11_86 rfl (by omega) (congrArg Prod.fst sh_0) rt_0_11 rfl ?_
    refine V_aload_n (pc := 11) dX11_ask_11 rfl rfl rfl ?_
    refine V_getR (pc := 12) dX11_ask_12 flX11_16 rfl (by omega) (congrArg Prod.fst sh_0) rt_0_3 rfl ?_
    refine V_iload_n (pc := 15) dX11_ask_15 rfl rfl rfl ?_
    obtain ⟨q1, hq1, hf⟩ := bnd hf
    refine V_cVi (md' := mX3_findFitting) (pc := 16) dX11_ask_16 mlX11_314 mVX3_findFitting (tX3_findFitting hG hn hG.1 hq1) rfl (by omega) (congrArg Prod.fst sh_66) rfl (Nat.le_of_ble_eq_true rfl) rfl ?_
    refine V_if_ne (pc := 19) (tgt := 24) dX11_ask_19 (by decide) rfl (fun hc => ?_) (fun hc => ?_)
    · replace hf := (if_neg hc).symm.trans hf
      refine V_aload_n (pc := 24) dX11_ask_24 rfl rfl rfl ?_
      refine V_getR (pc := 25) dX11_ask_25 flX11_86 rfl (by omega) (congrArg Prod.fst sh_0) rt_0_11 rfl ?_
      refine V_aload_n (pc := 28) dX11_ask_28 rfl rfl rfl ?_
      refine V_getR (pc := 29) dX11_ask_29 flX11_16 rfl (by omega) (congrArg Prod.fst sh_0) rt_0_3 rfl ?_
      obtain ⟨q2, hq2, hf⟩ := bnd hf
      refine V_cVv (md' := mX3_findQuestion) (pc := 32) dX11_ask_32 mlX11_324 mVX3_findQuestion (tX3_findQuestion hG hn hG.1 hq2) rfl (by omega) (congrArg Prod.fst sh_66) rfl (Nat.le_of_ble_eq_true rfl) rfl ?_
      refine V_iload_n (pc := 35) dX11_ask_35 rfl rfl rfl ?_
      refine V_if_ne (pc := 36) (tgt := 49) dX11_ask_36 (by decide) rfl (fun hc => ?_) (fun hc => ?_)
      · replace hf := (if_neg hc).symm.trans hf
        refine V_aload_n (pc := 49) dX11_ask_49 rfl rfl rfl ?_
        refine V_getR (pc := 50) dX11_ask_50 flX11_86 rfl (by omega) (congrArg Prod.fst sh_0) rt_0_11 rfl ?_
        refine V_getI (pc := 53) dX11_ask_53 flX11_330 rfl (by omega) (congrArg Prod.fst sh_66) rfl ?_
        cases hf
        exact V_iret (pc := 56) dX11_ask_56 rfl PoI_mk
      · replace hf := (if_pos hc).symm.trans hf
        refine V_aload_n (pc := 39) dX11_ask_39 rfl rfl rfl ?_
        refine V_getR (pc := 40) dX11_ask_40 flX11_86 rfl (by omega) (congrArg Prod.fst sh_0) rt_0_11 rfl ?_
        refine V_getI (pc := 43) dX11_ask_43 flX11_327 rfl (by omega) (congrArg Prod.fst sh_66) rfl ?_
        refine V_goto (pc := 46) (tgt := 56) dX11_ask_46 (by decide) ?_
        cases hf
        exact V_iret (pc := 56) dX11_ask_56 rfl PoI_mk
    · replace hf := (if_pos hc).symm.trans hf
      refine V_iconst (pc := 22) dX11_ask_22 ic_m1 rfl ?_
      cases hf
      exact V_iret (pc := 23) dX11_ask_23 rfl PoI_mk
/-! ShadowDoors.image -/
noncomputable def fX11_image (v1 : Int32) (I : HI) (L : HL) : Option (Int32 × HI × HL) :=
  Option.bind (
    if v1 < 0 then
      some true
    else
      if v1 < (Int32.ofNat 3) then
        some false
      else
        some true
  ) fun b1 =>
  if b1 = true then
    some ((-1 : Int32), I, L)
  else
    Option.bind (fX4_packed  I) fun q2 =>
    if inb v1 3 = true then
      let L4 : HL := up2 L 56 v1.toNatClampNeg q2
      let I5 : HI := up2 I 0 8 ((I 0 8) ||| ((1 : Int32) <<< (v1 &&& 31)))
      some ((I5 52 5), I5, L4)
    else none
set_option maxRecDepth 100000 in
set_option maxHeartbeats 4000000 in
theorem tX11_image {g : GG} {n d : Nat} {tw dr sk tl ff : Nat} (hG : RG tw dr sk tl ff) (hn : 116 ≤ n) {v1 : Int32} {I : HI} {L : HL} {res : Int32 × HI × HL} (hf : fX11_image v1 I L = some res) : CT g mX11_image (d + 2) 0 0 n (RT tw dr sk tl ff) I L [.ref 0, .int v1] (PoI n (RT tw dr sk tl ff) res.1 res.2.1 res.2.2) := by
  refine CT.of rfl (Nat.le_of_ble_eq_true rfl) ?_
  show V g mX11_image (d + 2) 0 0 n (RT tw dr sk tl ff) I L 0 [some (.ref 0), some (.int v1)] [] (PoI n (RT tw dr sk tl ff) res.1 res.2.1 res.2.2)
  refine V_iload_n (pc := 0) dX11_image_0 rfl rfl rfl ?_
  obtain ⟨b1, hb1, hf⟩ := bnd hf
  have KTb1 : b1 = true → V g mX11_image (d + 2) 0 0 n (RT tw dr sk tl ff) I L 13 [some (.ref 0), some (.int v1)] [] (PoI n (RT tw dr sk tl ff) res.1 res.2.1 res.2.2) := fun hc => by
    replace hf := (if_pos hc).symm.trans hf
    refine V_iconst (pc := 13) dX11_image_13 ic_m1 rfl ?_
    cases hf
    exact V_iret (pc := 14) dX11_image_14 rfl PoI_mk
  have KFb1 : ¬ b1 = true → V g mX11_image (d + 2) 0 0 n (RT tw dr sk tl ff) I L 15 [some (.ref 0), some (.int v1)] [] (PoI n (RT tw dr sk tl ff) res.1 res.2.1 res.2.2) := fun hc => by
    replace hf := (if_neg hc).symm.trans hf
    refine V_aload_n (pc := 15) dX11_image_15 rfl rfl rfl ?_
    refine V_getR (pc := 16) dX11_image_16 flX11_62 rfl (by omega) (congrArg Prod.fst sh_0) rt_0_7 rfl ?_
    refine V_iload_n (pc := 19) dX11_image_19 rfl rfl rfl ?_
    refine V_aload_n (pc := 20) dX11_image_20 rfl rfl rfl ?_
    refine V_getR (pc := 21) dX11_image_21 flX11_40 rfl (by omega) (congrArg Prod.fst sh_0) rt_0_5 rfl ?_
    obtain ⟨q2, hq2, hf⟩ := bnd hf
    refine V_cVl (md' := mX4_packed) (pc := 24) dX11_image_24 mlX11_55 mVX4_packed (tX4_packed rN_RT (by omega) hq2) rfl (by omega) (congrArg Prod.fst sh_52) rfl (Nat.le_of_ble_eq_true rfl) rfl ?_
    obtain ⟨hc3, hf⟩ := pif hf
    let L4 : HL := up2 L 56 v1.toNatClampNeg q2
    refine V_last (pc := 27) dX11_image_27 (by omega) sh_56 hc3 rfl ?_
    refine V_aload_n (pc := 28) dX11_image_28 rfl rfl rfl ?_
    refine V_dup (pc := 29) dX11_image_29 rfl rfl ?_
    refine V_getI (pc := 30) dX11_image_30 flX11_102 rfl (by omega) (congrArg Prod.fst sh_0) rfl ?_
    refine V_iconst (pc := 33) dX11_image_33 ic_1 rfl ?_
    refine V_iload_n (pc := 34) dX11_image_34 rfl rfl rfl ?_
    refine V_ishl (pc := 35) dX11_image_35 rfl ?_
    refine V_ior (pc := 36) dX11_image_36 rfl ?_
    let I5 : HI := up2 I 0 8 ((I 0 8) ||| ((1 : Int32) <<< (v1 &&& 31)))
    refine V_putI (pc := 37) dX11_image_37 flX11_102 rfl rfl (by omega) (congrArg Prod.fst sh_0) rfl ?_
    refine V_aload_n (pc := 40) dX11_image_40 rfl rfl rfl ?_
    refine V_getR (pc := 41) dX11_image_41 flX11_40 rfl (by omega) (congrArg Prod.fst sh_0) rt_0_5 rfl ?_
    refine V_getI (pc := 44) dX11_image_44 flX11_170 rfl (by omega) (congrArg Prod.fst sh_52) rfl ?_
    cases hf
    exact V_iret (pc := 47) dX11_image_47 rfl PoI_mk
  refine V_if_lt (pc := 1) (tgt := 13) dX11_image_1 (by decide) rfl (fun hc => ?_) (fun hc => ?_)
  · replace hb1 := (if_pos hc).symm.trans hb1
    cases hb1
    exact KTb1 rfl
  · replace hb1 := (if_neg hc).symm.trans hb1
    refine V_iload_n (pc := 4) dX11_image_4 rfl rfl rfl ?_
    refine V_aload_n (pc := 5) dX11_image_5 rfl rfl rfl ?_
    refine V_getR (pc := 6) dX11_image_6 flX11_62 rfl (by omega) (congrArg Prod.fst sh_0) rt_0_7 rfl ?_
    refine V_alen (pc := 9) dX11_image_9 (by omega) sh_56 (by decide) rfl ?_
    refine V_icmp_lt (pc := 10) (tgt := 15) dX11_image_10 (by decide) rfl (fun hc => ?_) (fun hc => ?_)
    · replace hb1 := (if_pos hc).symm.trans hb1
      cases hb1
      exact KFb1 (nbt rfl)
    · replace hb1 := (if_neg hc).symm.trans hb1
      cases hb1
      exact KTb1 rfl
/-! ShadowDoors.back -/
noncomputable def fX11_back (v1 : Int32) (I : HI) (L : HL) : Option (Int32 × HI × HL) :=
  Option.bind (
    if v1 < 0 then
      some true
    else
      if (Int32.ofNat 3) ≤ v1 then
        some true
      else
        if (b2i (fX11_isBit (I 0 8) v1)) = 0 then
          some true
        else
          some false
  ) fun b1 =>
  if b1 = true then
    some ((-1 : Int32), I, L)
  else
    if inb v1 3 = true then
      Option.bind (fX4_unpack (L 56 v1.toNatClampNeg) I) fun q3 =>
      if inb v1 3 = true then
        Option.bind (fX0_begin (L 56 v1.toNatClampNeg) q3 L) fun q5 =>
        some ((q5.1 52 5), q5.1, q5.2)
      else none
    else none
set_option maxRecDepth 100000 in
set_option maxHeartbeats 4000000 in
theorem tX11_back {g : GG} {n d : Nat} {tw dr sk tl ff : Nat} (hG : RG tw dr sk tl ff) (hn : 116 ≤ n) {v1 : Int32} {I : HI} {L : HL} {res : Int32 × HI × HL} (hf : fX11_back v1 I L = some res) : CT g mX11_back (d + 2) 0 0 n (RT tw dr sk tl ff) I L [.ref 0, .int v1] (PoI n (RT tw dr sk tl ff) res.1 res.2.1 res.2.2) := by
  refine CT.of rfl (Nat.le_of_ble_eq_true rfl) ?_
  show V g mX11_back (d + 2) 0 0 n (RT tw dr sk tl ff) I L 0 [some (.ref 0), some (.int v1)] [] (PoI n (RT tw dr sk tl ff) res.1 res.2.1 res.2.2)
  refine V_iload_n (pc := 0) dX11_back_0 rfl rfl rfl ?_
  obtain ⟨b1, hb1, hf⟩ := bnd hf
  have KTb1 : b1 = true → V g mX11_back (d + 2) 0 0 n (RT tw dr sk tl ff) I L 24 [some (.ref 0), some (.int v1)] [] (PoI n (RT tw dr sk tl ff) res.1 res.2.1 res.2.2) := fun hc => by
    replace hf := (if_pos hc).symm.trans hf
    refine V_iconst (pc := 24) dX11_back_24 ic_m1 rfl ?_
    cases hf
    exact V_iret (pc := 25) dX11_back_25 rfl PoI_mk
  have KFb1 : ¬ b1 = true → V g mX11_back (d + 2) 0 0 n (RT tw dr sk tl ff) I L 26 [some (.ref 0), some (.int v1)] [] (PoI n (RT tw dr sk tl ff) res.1 res.2.1 res.2.2) := fun hc => by
    replace hf := (if_neg hc).symm.trans hf
    refine V_aload_n (pc := 26) dX11_back_26 rfl rfl rfl ?_
    refine V_getR (pc := 27) dX11_back_27 flX11_40 rfl (by omega) (congrArg Prod.fst sh_0) rt_0_5 rfl ?_
    refine V_aload_n (pc := 30) dX11_back_30 rfl rfl rfl ?_
    refine V_getR (pc := 31) dX11_back_31 flX11_62 rfl (by omega) (congrArg Prod.fst sh_0) rt_0_7 rfl ?_
    refine V_iload_n (pc := 34) dX11_back_34 rfl rfl rfl ?_
    obtain ⟨hc2, hf⟩ := pif hf
    refine V_lald (pc := 35) dX11_back_35 (by omega) sh_56 hc2 rfl ?_
    obtain ⟨q3, hq3, hf⟩ := bnd hf
    refine V_cVv (md' := mX4_unpack) (pc := 36) dX11_back_36 mlX11_220 mVX4_unpack (tX4_unpack rN_RT (by omega) hq3) rfl (by omega) (congrArg Prod.fst sh_52) rfl (Nat.le_of_ble_eq_true rfl) rfl ?_
    refine V_aload_n (pc := 39) dX11_back_39 rfl rfl rfl ?_
    refine V_getR (pc := 40) dX11_back_40 flX11_51 rfl (by omega) (congrArg Prod.fst sh_0) rt_0_6 rfl ?_
    refine V_aload_n (pc := 43) dX11_back_43 rfl rfl rfl ?_
    refine V_getR (pc := 44) dX11_back_44 flX11_62 rfl (by omega) (congrArg Prod.fst sh_0) rt_0_7 rfl ?_
    refine V_iload_n (pc := 47) dX11_back_47 rfl rfl rfl ?_
    obtain ⟨hc4, hf⟩ := pif hf
    refine V_lald (pc := 48) dX11_back_48 (by omega) sh_56 hc4 rfl ?_
    obtain ⟨q5, hq5, hf⟩ := bnd hf
    refine V_cVv (md' := mX0_begin) (pc := 49) dX11_back_49 mlX11_59 mVX0_begin (tX0_begin rA_RT (by omega) hq5) rfl (by omega) (congrArg Prod.fst sh_54) rfl (Nat.le_of_ble_eq_true rfl) rfl ?_
    refine V_aload_n (pc := 52) dX11_back_52 rfl rfl rfl ?_
    refine V_getR (pc := 53) dX11_back_53 flX11_40 rfl (by omega) (congrArg Prod.fst sh_0) rt_0_5 rfl ?_
    refine V_getI (pc := 56) dX11_back_56 flX11_170 rfl (by omega) (congrArg Prod.fst sh_52) rfl ?_
    cases hf
    exact V_iret (pc := 59) dX11_back_59 rfl PoI_mk
  refine V_if_lt (pc := 1) (tgt := 24) dX11_back_1 (by decide) rfl (fun hc => ?_) (fun hc => ?_)
  · replace hb1 := (if_pos hc).symm.trans hb1
    cases hb1
    exact KTb1 rfl
  · replace hb1 := (if_neg hc).symm.trans hb1
    refine V_iload_n (pc := 4) dX11_back_4 rfl rfl rfl ?_
    refine V_aload_n (pc := 5) dX11_back_5 rfl rfl rfl ?_
    refine V_getR (pc := 6) dX11_back_6 flX11_62 rfl (by omega) (congrArg Prod.fst sh_0) rt_0_7 rfl ?_
    refine V_alen (pc := 9) dX11_back_9 (by omega) sh_56 (by decide) rfl ?_
    refine V_icmp_ge (pc := 10) (tgt := 24) dX11_back_10 (by decide) rfl (fun hc => ?_) (fun hc => ?_)
    · replace hb1 := (if_pos hc).symm.trans hb1
      cases hb1
      exact KTb1 rfl
    · replace hb1 := (if_neg hc).symm.trans hb1
      refine V_aload_n (pc := 13) dX11_back_13 rfl rfl rfl ?_
      refine V_getI (pc := 14) dX11_back_14 flX11_102 rfl (by omega) (congrArg Prod.fst sh_0) rfl ?_
      refine V_iload_n (pc := 17) dX11_back_17 rfl rfl rfl ?_
      refine V_cSz (md' := mX11_isBit) (pc := 18) dX11_back_18 mlX11_148 mSX11_isBit (tX11_isBit rfl) rfl rfl (Nat.le_of_ble_eq_true rfl) rfl ?_
      refine V_if_ne (pc := 21) (tgt := 26) dX11_back_21 (by decide) rfl (fun hc => ?_) (fun hc => ?_)
      · replace hb1 := (if_neg hc).symm.trans hb1
        cases hb1
        exact KFb1 (nbt rfl)
      · replace hb1 := (if_pos hc).symm.trans hb1
        cases hb1
        exact KTb1 rfl
/-! ShadowDoors.about -/
noncomputable def fX11_about (tw : Nat) (v1 : Int32) (I : HI) (L : HL) : Int32 :=
  if v1 = (0 : Int32) then
    (I (tw + 1) 0)
  else
    if v1 = (1 : Int32) then
      (I (tw + 7) 0)
    else
      if v1 = (2 : Int32) then
        (I (tw + 13) 0)
      else
        if v1 = (3 : Int32) then
          (fJ13_bitCount_95d88 (L tw 3))
        else
          if v1 = (4 : Int32) then
            (I tw 0)
          else
            if v1 = (5 : Int32) then
              (I tw 1)
            else
              if v1 = (6 : Int32) then
                (fX4_hourOfDay  I)
              else
                if v1 = (7 : Int32) then
                  ((I 52 5) / (24 : Int32))
                else
                  if v1 = (8 : Int32) then
                    (I 52 5)
                  else
                    if v1 = (9 : Int32) then
                      if (I 52 4) = 0 then
                        (0 : Int32)
                      else
                        (1 : Int32)
                    else
                      if v1 = (10 : Int32) then
                        (I 54 1)
                      else
                        if v1 = (11 : Int32) then
                          ((I 54 2) - (I 54 1))
                        else
                          if v1 = (12 : Int32) then
                            (I 66 0)
                          else
                            if v1 = (13 : Int32) then
                              (I 66 1)
                            else
                              if v1 = (14 : Int32) then
                                (I 0 1)
                              else
                                if v1 = (15 : Int32) then
                                  (I (tw + 19) 3)
                                else
                                  if v1 = (16 : Int32) then
                                    (I 61 2)
                                  else
                                    (-1 : Int32)
set_option maxRecDepth 100000 in
set_option maxHeartbeats 4000000 in
theorem tX11_about {g : GG} {n d : Nat} {tw dr sk tl ff : Nat} (hG : RG tw dr sk tl ff) (hn : 116 ≤ n) {v1 : Int32} {I : HI} {L : HL} {res : Int32} (hf : fX11_about tw v1 I L = res) : CT g mX11_about (d + 2) 0 0 n (RT tw dr sk tl ff) I L [.ref 0, .int v1] (PoI n (RT tw dr sk tl ff) res I L) := by
  refine CT.of rfl (Nat.le_of_ble_eq_true rfl) ?_
  show V g mX11_about (d + 2) 0 0 n (RT tw dr sk tl ff) I L 0 [some (.ref 0), some (.int v1)] [] (PoI n (RT tw dr sk tl ff) res I L)
  refine V_iload_n (pc := 0) dX11_about_0 rfl rfl rfl ?_
  by_cases hc1 : v1 = (0 : Int32)
  · replace hf := (if_pos hc1).symm.trans hf
    refine V_tsIn (pc := 1) (tgt := 84) dX11_about_1 (by rw [hc1]; decide) (by rw [hc1]; decide) (by rw [hc1]; first | done | rfl) (by decide) ?_
    refine V_aload_n (pc := 84) dX11_about_84 rfl rfl rfl ?_
    refine V_getR (pc := 85) dX11_about_85 flX11_16 rfl (by omega) (congrArg Prod.fst sh_0) rt_0_3 rfl ?_
    refine V_getR (pc := 88) dX11_about_88 flX11_111 rfl (by omega) (congrArg Prod.fst (shQ hG.1)) (rQ_6 (rQ_RT hG.1)) rfl ?_
    refine V_getI (pc := 91) dX11_about_91 flX11_115 rfl (by omega) (congrArg Prod.fst (shT (qT_6 hG.1))) rfl ?_
    cases hf
    exact V_iret (pc := 94) dX11_about_94 rfl PoI_mk
  · replace hf := (if_neg hc1).symm.trans hf
    by_cases hc2 : v1 = (1 : Int32)
    · replace hf := (if_pos hc2).symm.trans hf
      refine V_tsIn (pc := 1) (tgt := 95) dX11_about_1 (by rw [hc2]; decide) (by rw [hc2]; decide) (by rw [hc2]; first | done | rfl) (by decide) ?_
      refine V_aload_n (pc := 95) dX11_about_95 rfl rfl rfl ?_
      refine V_getR (pc := 96) dX11_about_96 flX11_16 rfl (by omega) (congrArg Prod.fst sh_0) rt_0_3 rfl ?_
      refine V_getR (pc := 99) dX11_about_99 flX11_151 rfl (by omega) (congrArg Prod.fst (shQ hG.1)) (rQ_7 (rQ_RT hG.1)) rfl ?_
      refine V_getI (pc := 102) dX11_about_102 flX11_115 rfl (by omega) (congrArg Prod.fst (shT (qT_7 hG.1))) rfl ?_
      cases hf
      exact V_iret (pc := 105) dX11_about_105 rfl PoI_mk
    · replace hf := (if_neg hc2).symm.trans hf
      by_cases hc3 : v1 = (2 : Int32)
      · replace hf := (if_pos hc3).symm.trans hf
        refine V_tsIn (pc := 1) (tgt := 106) dX11_about_1 (by rw [hc3]; decide) (by rw [hc3]; decide) (by rw [hc3]; first | done | rfl) (by decide) ?_
        refine V_aload_n (pc := 106) dX11_about_106 rfl rfl rfl ?_
        refine V_getR (pc := 107) dX11_about_107 flX11_16 rfl (by omega) (congrArg Prod.fst sh_0) rt_0_3 rfl ?_
        refine V_getR (pc := 110) dX11_about_110 flX11_157 rfl (by omega) (congrArg Prod.fst (shQ hG.1)) (rQ_8 (rQ_RT hG.1)) rfl ?_
        refine V_getI (pc := 113) dX11_about_113 flX11_115 rfl (by omega) (congrArg Prod.fst (shT (qT_8 hG.1))) rfl ?_
        cases hf
        exact V_iret (pc := 116) dX11_about_116 rfl PoI_mk
      · replace hf := (if_neg hc3).symm.trans hf
        by_cases hc4 : v1 = (3 : Int32)
        · replace hf := (if_pos hc4).symm.trans hf
          refine V_tsIn (pc := 1) (tgt := 117) dX11_about_1 (by rw [hc4]; decide) (by rw [hc4]; decide) (by rw [hc4]; first | done | rfl) (by decide) ?_
          refine V_aload_n (pc := 117) dX11_about_117 rfl rfl rfl ?_
          refine V_getR (pc := 118) dX11_about_118 flX11_16 rfl (by omega) (congrArg Prod.fst sh_0) rt_0_3 rfl ?_
          refine V_getL (pc := 121) dX11_about_121 flX11_333 rfl (by omega) (congrArg Prod.fst (shQ hG.1)) rfl ?_
          refine V_cSi (md' := mJ13_bitCount_95d88) (pc := 124) dX11_about_124 mlX11_255 mSJ13_bitCount_95d88 (tJ13_bitCount_95d88 rfl) rfl rfl (Nat.le_of_ble_eq_true rfl) rfl ?_
          cases hf
          exact V_iret (pc := 127) dX11_about_127 rfl PoI_mk
        · replace hf := (if_neg hc4).symm.trans hf
          by_cases hc5 : v1 = (4 : Int32)
          · replace hf := (if_pos hc5).symm.trans hf
            refine V_tsIn (pc := 1) (tgt := 128) dX11_about_1 (by rw [hc5]; decide) (by rw [hc5]; decide) (by rw [hc5]; first | done | rfl) (by decide) ?_
            refine V_aload_n (pc := 128) dX11_about_128 rfl rfl rfl ?_
            refine V_getR (pc := 129) dX11_about_129 flX11_16 rfl (by omega) (congrArg Prod.fst sh_0) rt_0_3 rfl ?_
            refine V_getI (pc := 132) dX11_about_132 flX11_336 rfl (by omega) (congrArg Prod.fst (shQ hG.1)) rfl ?_
            cases hf
            exact V_iret (pc := 135) dX11_about_135 rfl PoI_mk
          · replace hf := (if_neg hc5).symm.trans hf
            by_cases hc6 : v1 = (5 : Int32)
            · replace hf := (if_pos hc6).symm.trans hf
              refine V_tsIn (pc := 1) (tgt := 136) dX11_about_1 (by rw [hc6]; decide) (by rw [hc6]; decide) (by rw [hc6]; first | done | rfl) (by decide) ?_
              refine V_aload_n (pc := 136) dX11_about_136 rfl rfl rfl ?_
              refine V_getR (pc := 137) dX11_about_137 flX11_16 rfl (by omega) (congrArg Prod.fst sh_0) rt_0_3 rfl ?_
              refine V_getI (pc := 140) dX11_about_140 flX11_339 rfl (by omega) (congrArg Prod.fst (shQ hG.1)) rfl ?_
              cases hf
              exact V_iret (pc := 143) dX11_about_143 rfl PoI_mk
            · replace hf := (if_neg hc6).symm.trans hf
              by_cases hc7 : v1 = (6 : Int32)
              · replace hf := (if_pos hc7).symm.trans hf
                refine V_tsIn (pc := 1) (tgt := 144) dX11_about_1 (by rw [hc7]; decide) (by rw [hc7]; decide) (by rw [hc7]; first | done | rfl) (by decide) ?_
                refine V_aload_n (pc := 144) dX11_about_144 rfl rfl rfl ?_
                refine V_getR (pc := 145) dX11_about_145 flX11_40 rfl (by omega) (congrArg Prod.fst sh_0) rt_0_5 rfl ?_
                refine V_cVi (md' := mX4_hourOfDay) (pc := 148) dX11_about_148 mlX11_137 mVX4_hourOfDay (tX4_hourOfDay rN_RT (by omega) rfl) rfl (by omega) (congrArg Prod.fst sh_52) rfl (Nat.le_of_ble_eq_true rfl) rfl ?_
                cases hf
                exact V_iret (pc := 151) dX11_about_151 rfl PoI_mk
              · replace hf := (if_neg hc7).symm.trans hf
                by_cases hc8 : v1 = (7 : Int32)
                · replace hf := (if_pos hc8).symm.trans hf
                  refine V_tsIn (pc := 1) (tgt := 152) dX11_about_1 (by rw [hc8]; decide) (by rw [hc8]; decide) (by rw [hc8]; first | done | rfl) (by decide) ?_
                  refine V_aload_n (pc := 152) dX11_about_152 rfl rfl rfl ?_
                  refine V_getR (pc := 153) dX11_about_153 flX11_40 rfl (by omega) (congrArg Prod.fst sh_0) rt_0_5 rfl ?_
                  refine V_getI (pc := 156) dX11_about_156 flX11_170 rfl (by omega) (congrArg Prod.fst sh_52) rfl ?_
                  refine V_bipush (pc := 159) dX11_about_159 bp_24 rfl ?_
                  refine V_idiv (pc := 161) dX11_about_161 (by decide) rfl ?_
                  cases hf
                  exact V_iret (pc := 162) dX11_about_162 rfl PoI_mk
                · replace hf := (if_neg hc8).symm.trans hf
                  by_cases hc9 : v1 = (8 : Int32)
                  · replace hf := (if_pos hc9).symm.trans hf
                    refine V_tsIn (pc := 1) (tgt := 163) dX11_about_1 (by rw [hc9]; decide) (by rw [hc9]; decide) (by rw [hc9]; first | done | rfl) (by decide) ?_
                    refine V_aload_n (pc := 163) dX11_about_163 rfl rfl rfl ?_
                    refine V_getR (pc := 164) dX11_about_164 flX11_40 rfl (by omega) (congrArg Prod.fst sh_0) rt_0_5 rfl ?_
                    refine V_getI (pc := 167) dX11_about_167 flX11_170 rfl (by omega) (congrArg Prod.fst sh_52) rfl ?_
                    cases hf
                    exact V_iret (pc := 170) dX11_about_170 rfl PoI_mk
                  · replace hf := (if_neg hc9).symm.trans hf
                    by_cases hc10 : v1 = (9 : Int32)
                    · replace hf := (if_pos hc10).symm.trans hf
                      refine V_tsIn (pc := 1) (tgt := 171) dX11_about_1 (by rw [hc10]; decide) (by rw [hc10]; decide) (by rw [hc10]; first | done | rfl) (by decide) ?_
                      refine V_aload_n (pc := 171) dX11_about_171 rfl rfl rfl ?_
                      refine V_getR (pc := 172) dX11_about_172 flX11_40 rfl (by omega) (congrArg Prod.fst sh_0) rt_0_5 rfl ?_
                      refine V_getI (pc := 175) dX11_about_175 flX11_209 rfl (by omega) (congrArg Prod.fst sh_52) rfl ?_
                      refine V_if_eq (pc := 178) (tgt := 185) dX11_about_178 (by decide) rfl (fun hc => ?_) (fun hc => ?_)
                      · replace hf := (if_pos hc).symm.trans hf
                        refine V_iconst (pc := 185) dX11_about_185 ic_0 rfl ?_
                        cases hf
                        exact V_iret (pc := 186) dX11_about_186 rfl PoI_mk
                      · replace hf := (if_neg hc).symm.trans hf
                        refine V_iconst (pc := 181) dX11_about_181 ic_1 rfl ?_
                        refine V_goto (pc := 182) (tgt := 186) dX11_about_182 (by decide) ?_
                        cases hf
                        exact V_iret (pc := 186) dX11_about_186 rfl PoI_mk
                    · replace hf := (if_neg hc10).symm.trans hf
                      by_cases hc11 : v1 = (10 : Int32)
                      · replace hf := (if_pos hc11).symm.trans hf
                        refine V_tsIn (pc := 1) (tgt := 187) dX11_about_1 (by rw [hc11]; decide) (by rw [hc11]; decide) (by rw [hc11]; first | done | rfl) (by decide) ?_
                        refine V_aload_n (pc := 187) dX11_about_187 rfl rfl rfl ?_
                        refine V_getR (pc := 188) dX11_about_188 flX11_51 rfl (by omega) (congrArg Prod.fst sh_0) rt_0_6 rfl ?_
                        refine V_getI (pc := 191) dX11_about_191 flX11_342 rfl (by omega) (congrArg Prod.fst sh_54) rfl ?_
                        cases hf
                        exact V_iret (pc := 194) dX11_about_194 rfl PoI_mk
                      · replace hf := (if_neg hc11).symm.trans hf
                        by_cases hc12 : v1 = (11 : Int32)
                        · replace hf := (if_pos hc12).symm.trans hf
                          refine V_tsIn (pc := 1) (tgt := 195) dX11_about_1 (by rw [hc12]; decide) (by rw [hc12]; decide) (by rw [hc12]; first | done | rfl) (by decide) ?_
                          refine V_aload_n (pc := 195) dX11_about_195 rfl rfl rfl ?_
                          refine V_getR (pc := 196) dX11_about_196 flX11_51 rfl (by omega) (congrArg Prod.fst sh_0) rt_0_6 rfl ?_
                          refine V_getI (pc := 199) dX11_about_199 flX11_345 rfl (by omega) (congrArg Prod.fst sh_54) rfl ?_
                          refine V_aload_n (pc := 202) dX11_about_202 rfl rfl rfl ?_
                          refine V_getR (pc := 203) dX11_about_203 flX11_51 rfl (by omega) (congrArg Prod.fst sh_0) rt_0_6 rfl ?_
                          refine V_getI (pc := 206) dX11_about_206 flX11_342 rfl (by omega) (congrArg Prod.fst sh_54) rfl ?_
                          refine V_isub (pc := 209) dX11_about_209 rfl ?_
                          cases hf
                          exact V_iret (pc := 210) dX11_about_210 rfl PoI_mk
                        · replace hf := (if_neg hc12).symm.trans hf
                          by_cases hc13 : v1 = (12 : Int32)
                          · replace hf := (if_pos hc13).symm.trans hf
                            refine V_tsIn (pc := 1) (tgt := 211) dX11_about_1 (by rw [hc13]; decide) (by rw [hc13]; decide) (by rw [hc13]; first | done | rfl) (by decide) ?_
                            refine V_aload_n (pc := 211) dX11_about_211 rfl rfl rfl ?_
                            refine V_getR (pc := 212) dX11_about_212 flX11_86 rfl (by omega) (congrArg Prod.fst sh_0) rt_0_11 rfl ?_
                            refine V_getI (pc := 215) dX11_about_215 flX11_348 rfl (by omega) (congrArg Prod.fst sh_66) rfl ?_
                            cases hf
                            exact V_iret (pc := 218) dX11_about_218 rfl PoI_mk
                          · replace hf := (if_neg hc13).symm.trans hf
                            by_cases hc14 : v1 = (13 : Int32)
                            · replace hf := (if_pos hc14).symm.trans hf
                              refine V_tsIn (pc := 1) (tgt := 219) dX11_about_1 (by rw [hc14]; decide) (by rw [hc14]; decide) (by rw [hc14]; first | done | rfl) (by decide) ?_
                              refine V_aload_n (pc := 219) dX11_about_219 rfl rfl rfl ?_
                              refine V_getR (pc := 220) dX11_about_220 flX11_86 rfl (by omega) (congrArg Prod.fst sh_0) rt_0_11 rfl ?_
                              refine V_getI (pc := 223) dX11_about_223 flX11_310 rfl (by omega) (congrArg Prod.fst sh_66) rfl ?_
                              cases hf
                              exact V_iret (pc := 226) dX11_about_226 rfl PoI_mk
                            · replace hf := (if_neg hc14).symm.trans hf
                              by_cases hc15 : v1 = (14 : Int32)
                              · replace hf := (if_pos hc15).symm.trans hf
                                refine V_tsIn (pc := 1) (tgt := 227) dX11_about_1 (by rw [hc15]; decide) (by rw [hc15]; decide) (by rw [hc15]; first | done | rfl) (by decide) ?_
                                refine V_aload_n (pc := 227) dX11_about_227 rfl rfl rfl ?_
                                refine V_getI (pc := 228) dX11_about_228 flX11_90 rfl (by omega) (congrArg Prod.fst sh_0) rfl ?_
                                cases hf
                                exact V_iret (pc := 231) dX11_about_231 rfl PoI_mk
                              · replace hf := (if_neg hc15).symm.trans hf
                                by_cases hc16 : v1 = (15 : Int32)
                                · replace hf := (if_pos hc16).symm.trans hf
                                  refine V_tsIn (pc := 1) (tgt := 232) dX11_about_1 (by rw [hc16]; decide) (by rw [hc16]; decide) (by rw [hc16]; first | done | rfl) (by decide) ?_
                                  refine V_aload_n (pc := 232) dX11_about_232 rfl rfl rfl ?_
                                  refine V_getR (pc := 233) dX11_about_233 flX11_16 rfl (by omega) (congrArg Prod.fst sh_0) rt_0_3 rfl ?_
                                  refine V_getR (pc := 236) dX11_about_236 flX11_173 rfl (by omega) (congrArg Prod.fst (shQ hG.1)) (rQ_9 (rQ_RT hG.1)) rfl ?_
                                  refine V_getI (pc := 239) dX11_about_239 flX11_349 rfl (by omega) (congrArg Prod.fst (shF (qF_9 hG.1))) rfl ?_
                                  cases hf
                                  exact V_iret (pc := 242) dX11_about_242 rfl PoI_mk
                                · replace hf := (if_neg hc16).symm.trans hf
                                  by_cases hc17 : v1 = (16 : Int32)
                                  · replace hf := (if_pos hc17).symm.trans hf
                                    refine V_tsIn (pc := 1) (tgt := 243) dX11_about_1 (by rw [hc17]; decide) (by rw [hc17]; decide) (by rw [hc17]; first | done | rfl) (by decide) ?_
                                    refine V_aload_n (pc := 243) dX11_about_243 rfl rfl rfl ?_
                                    refine V_getR (pc := 244) dX11_about_244 flX11_79 rfl (by omega) (congrArg Prod.fst sh_0) rt_0_10 rfl ?_
                                    refine V_getI (pc := 247) dX11_about_247 flX11_297 rfl (by omega) (congrArg Prod.fst sh_61) rfl ?_
                                    cases hf
                                    exact V_iret (pc := 250) dX11_about_250 rfl PoI_mk
                                  · replace hf := (if_neg hc17).symm.trans hf
                                    have KD18 : V g mX11_about (d + 2) 0 0 n (RT tw dr sk tl ff) I L 251 [some (.ref 0), some (.int v1)] [] (PoI n (RT tw dr sk tl ff) res I L) := by
                                      refine V_iconst (pc := 251) dX11_about_251 ic_m1 rfl ?_
                                      cases hf
                                      exact V_iret (pc := 252) dX11_about_252 rfl PoI_mk
                                    refine V_tsOut (pc := 1) (tgt := 251) dX11_about_1 (by have e0 := swn (k := (0 : Int32)) (z := 0) hc1 rfl; have e1 := swn (k := (1 : Int32)) (z := 1) hc2 rfl; have e2 := swn (k := (2 : Int32)) (z := 2) hc3 rfl; have e3 := swn (k := (3 : Int32)) (z := 3) hc4 rfl; have e4 := swn (k := (4 : Int32)) (z := 4) hc5 rfl; have e5 := swn (k := (5 : Int32)) (z := 5) hc6 rfl; have e6 := swn (k := (6 : Int32)) (z := 6) hc7 rfl; have e7 := swn (k := (7 : Int32)) (z := 7) hc8 rfl; have e8 := swn (k := (8 : Int32)) (z := 8) hc9 rfl; have e9 := swn (k := (9 : Int32)) (z := 9) hc10 rfl; have e10 := swn (k := (10 : Int32)) (z := 10) hc11 rfl; have e11 := swn (k := (11 : Int32)) (z := 11) hc12 rfl; have e12 := swn (k := (12 : Int32)) (z := 12) hc13 rfl; have e13 := swn (k := (13 : Int32)) (z := 13) hc14 rfl; have e14 := swn (k := (14 : Int32)) (z := 14) hc15 rfl; have e15 := swn (k := (15 : Int32)) (z := 15) hc16 rfl; have e16 := swn (k := (16 : Int32)) (z := 16) hc17 rfl; omega) (by decide) KD18
