/-! ShadowDoorsModel.fault -/
noncomputable def fX12_fault (v1 : Int32) (I : HI) : Int32 :=
  if v1 = 0 then
    (I 73 2)
  else
    if v1 = (1 : Int32) then
      (I 73 3)
    else
      (-1 : Int32)
set_option maxRecDepth 100000 in
set_option maxHeartbeats 4000000 in
theorem tX12_fault {g : GG} {n d : Nat} {tw dr sk tl ff : Nat} (hG : RG tw dr sk tl ff) (hn : 116 ≤ n) {v1 : Int32} {I : HI} {L : HL} {res : Int32} (hf : fX12_fault v1 I = res) : CT g mX12_fault (d + 1) 0 0 n (RT tw dr sk tl ff) I L [.ref 73, .int v1] (PoI n (RT tw dr sk tl ff) res I L) := by
  refine CT.of rfl (Nat.le_of_ble_eq_true rfl) ?_
  show V g mX12_fault (d + 1) 0 0 n (RT tw dr sk tl ff) I L 0 [some (.ref 73), some (.int v1)] [] (PoI n (RT tw dr sk tl ff) res I L)
  refine V_iload_n (pc := 0) dX12_fault_0 rfl rfl rfl ?_
  refine V_if_ne (pc := 1) (tgt := 11) dX12_fault_1 (by decide) rfl (fun hc => ?_) (fun hc => ?_)
  · replace hf := (if_neg hc).symm.trans hf
    refine V_iload_n (pc := 11) dX12_fault_11 rfl rfl rfl ?_
    refine V_iconst (pc := 12) dX12_fault_12 ic_1 rfl ?_
    refine V_icmp_ne (pc := 13) (tgt := 23) dX12_fault_13 (by decide) rfl (fun hc => ?_) (fun hc => ?_)
    · replace hf := (if_neg hc).symm.trans hf
      refine V_iconst (pc := 23) dX12_fault_23 ic_m1 rfl ?_
      cases hf
      exact V_iret (pc := 24) dX12_fault_24 rfl PoI_mk
    · replace hf := (if_pos hc).symm.trans hf
      refine V_aload_n (pc := 16) dX12_fault_16 rfl rfl rfl ?_
      refine V_getI (pc := 17) dX12_fault_17 flX12_13 rfl (by omega) (congrArg Prod.fst sh_73) rfl ?_
      refine V_goto (pc := 20) (tgt := 24) dX12_fault_20 (by decide) ?_
      cases hf
      exact V_iret (pc := 24) dX12_fault_24 rfl PoI_mk
  · replace hf := (if_pos hc).symm.trans hf
    refine V_aload_n (pc := 4) dX12_fault_4 rfl rfl rfl ?_
    refine V_getI (pc := 5) dX12_fault_5 flX12_188 rfl (by omega) (congrArg Prod.fst sh_73) rfl ?_
    refine V_goto (pc := 8) (tgt := 24) dX12_fault_8 (by decide) ?_
    cases hf
    exact V_iret (pc := 24) dX12_fault_24 rfl PoI_mk
/-! ShadowDoorsModel.isIn -/
noncomputable def fX12_isIn (v1 : Int32) (v2 : Int32) (v3 : Int32) : Bool :=
  tbn (
    if v1 < v2 then
      true
    else
      if v3 < v1 then
        true
      else
        false
  ) fun b1 =>
  if b1 = true then
    false
  else
    true
set_option maxRecDepth 100000 in
set_option maxHeartbeats 4000000 in
theorem tX12_isIn {g : GG} {n d : Nat} {r : HR}  {v1 : Int32} {v2 : Int32} {v3 : Int32} {I : HI} {L : HL} {res : Bool} (hf : fX12_isIn v1 v2 v3 = res) : CT g mX12_isIn (d + 1) 0 0 n r I L [.int v1, .int v2, .int v3] (PoB n r res I L) := by
  refine CT.of rfl (Nat.le_of_ble_eq_true rfl) ?_
  show V g mX12_isIn (d + 1) 0 0 n r I L 0 [some (.int v1), some (.int v2), some (.int v3)] [] (PoB n r res I L)
  refine V_iload_n (pc := 0) dX12_isIn_0 rfl rfl rfl ?_
  refine V_iload_n (pc := 1) dX12_isIn_1 rfl rfl rfl ?_
  obtain ⟨b1, hb1, hf⟩ := tbd hf
  have KTb1 : b1 = true → V g mX12_isIn (d + 1) 0 0 n r I L 14 [some (.int v1), some (.int v2), some (.int v3)] [] (PoB n r res I L) := fun hc => by
    replace hf := (if_pos hc).symm.trans hf
    refine V_iconst (pc := 14) dX12_isIn_14 ic_0 rfl ?_
    cases hf
    exact V_zretE (pc := 15) dX12_isIn_15 rfl (show (0 : Int32) = b2i false from rfl) PoB_mk
  have KFb1 : ¬ b1 = true → V g mX12_isIn (d + 1) 0 0 n r I L 10 [some (.int v1), some (.int v2), some (.int v3)] [] (PoB n r res I L) := fun hc => by
    replace hf := (if_neg hc).symm.trans hf
    refine V_iconst (pc := 10) dX12_isIn_10 ic_1 rfl ?_
    refine V_goto (pc := 11) (tgt := 15) dX12_isIn_11 (by decide) ?_
    cases hf
    exact V_zretE (pc := 15) dX12_isIn_15 rfl (show (1 : Int32) = b2i true from rfl) PoB_mk
  refine V_icmp_lt (pc := 2) (tgt := 14) dX12_isIn_2 (by decide) rfl (fun hc => ?_) (fun hc => ?_)
  · replace hb1 := (if_pos hc).symm.trans hb1
    cases hb1
    exact KTb1 rfl
  · replace hb1 := (if_neg hc).symm.trans hb1
    refine V_iload_n (pc := 5) dX12_isIn_5 rfl rfl rfl ?_
    refine V_iload_n (pc := 6) dX12_isIn_6 rfl rfl rfl ?_
    refine V_icmp_gt (pc := 7) (tgt := 14) dX12_isIn_7 (by decide) rfl (fun hc => ?_) (fun hc => ?_)
    · replace hb1 := (if_pos hc).symm.trans hb1
      cases hb1
      exact KTb1 rfl
    · replace hb1 := (if_neg hc).symm.trans hb1
      cases hb1
      exact KFb1 (nbt rfl)
/-! ShadowDoorsModel.isDoor -/
noncomputable def fX12_isDoor (v1 : Int32) (I : HI) : Bool :=
  (fX12_isIn v1 (0 : Int32) ((I 73 55) - (1 : Int32)))
set_option maxRecDepth 100000 in
set_option maxHeartbeats 4000000 in
theorem tX12_isDoor {g : GG} {n d : Nat} {tw dr sk tl ff : Nat} (hG : RG tw dr sk tl ff) (hn : 116 ≤ n) {v1 : Int32} {I : HI} {L : HL} {res : Bool} (hf : fX12_isDoor v1 I = res) : CT g mX12_isDoor (d + 2) 0 0 n (RT tw dr sk tl ff) I L [.ref 73, .int v1] (PoB n (RT tw dr sk tl ff) res I L) := by
  refine CT.of rfl (Nat.le_of_ble_eq_true rfl) ?_
  show V g mX12_isDoor (d + 2) 0 0 n (RT tw dr sk tl ff) I L 0 [some (.ref 73), some (.int v1)] [] (PoB n (RT tw dr sk tl ff) res I L)
  refine V_iload_n (pc := 0) dX12_isDoor_0 rfl rfl rfl ?_
  refine V_iconst (pc := 1) dX12_isDoor_1 ic_0 rfl ?_
  refine V_aload_n (pc := 2) dX12_isDoor_2 rfl rfl rfl ?_
  refine V_getI (pc := 3) dX12_isDoor_3 flX12_409 rfl (by omega) (congrArg Prod.fst sh_73) rfl ?_
  refine V_iconst (pc := 6) dX12_isDoor_6 ic_1 rfl ?_
  refine V_isub (pc := 7) dX12_isDoor_7 rfl ?_
  refine V_cSz (md' := mX12_isIn) (pc := 8) dX12_isDoor_8 mlX12_436 mSX12_isIn (tX12_isIn rfl) rfl rfl (Nat.le_of_ble_eq_true rfl) rfl ?_
  cases hf
  exact V_zretE (pc := 11) dX12_isDoor_11 rfl rfl PoB_mk
/-! ShadowDoorsModel.isLamp -/
noncomputable def fX12_isLamp (v1 : Int32) (I : HI) : Bool :=
  (fX12_isIn v1 (0 : Int32) ((I 73 56) - (1 : Int32)))
set_option maxRecDepth 100000 in
set_option maxHeartbeats 4000000 in
theorem tX12_isLamp {g : GG} {n d : Nat} {tw dr sk tl ff : Nat} (hG : RG tw dr sk tl ff) (hn : 116 ≤ n) {v1 : Int32} {I : HI} {L : HL} {res : Bool} (hf : fX12_isLamp v1 I = res) : CT g mX12_isLamp (d + 2) 0 0 n (RT tw dr sk tl ff) I L [.ref 73, .int v1] (PoB n (RT tw dr sk tl ff) res I L) := by
  refine CT.of rfl (Nat.le_of_ble_eq_true rfl) ?_
  show V g mX12_isLamp (d + 2) 0 0 n (RT tw dr sk tl ff) I L 0 [some (.ref 73), some (.int v1)] [] (PoB n (RT tw dr sk tl ff) res I L)
  refine V_iload_n (pc := 0) dX12_isLamp_0 rfl rfl rfl ?_
  refine V_iconst (pc := 1) dX12_isLamp_1 ic_0 rfl ?_
  refine V_aload_n (pc := 2) dX12_isLamp_2 rfl rfl rfl ?_
  refine V_getI (pc := 3) dX12_isLamp_3 flX12_412 rfl (by omega) (congrArg Prod.fst sh_73) rfl ?_
  refine V_iconst (pc := 6) dX12_isLamp_6 ic_1 rfl ?_
  refine V_isub (pc := 7) dX12_isLamp_7 rfl ?_
  refine V_cSz (md' := mX12_isIn) (pc := 8) dX12_isLamp_8 mlX12_436 mSX12_isIn (tX12_isIn rfl) rfl rfl (Nat.le_of_ble_eq_true rfl) rfl ?_
  cases hf
  exact V_zretE (pc := 11) dX12_isLamp_11 rfl rfl PoB_mk
/-! ShadowDoorsModel.isPerson -/
noncomputable def fX12_isPerson (v1 : Int32) (I : HI) : Bool :=
  (fX12_isIn v1 (0 : Int32) ((I 73 57) - (1 : Int32)))
set_option maxRecDepth 100000 in
set_option maxHeartbeats 4000000 in
theorem tX12_isPerson {g : GG} {n d : Nat} {tw dr sk tl ff : Nat} (hG : RG tw dr sk tl ff) (hn : 116 ≤ n) {v1 : Int32} {I : HI} {L : HL} {res : Bool} (hf : fX12_isPerson v1 I = res) : CT g mX12_isPerson (d + 2) 0 0 n (RT tw dr sk tl ff) I L [.ref 73, .int v1] (PoB n (RT tw dr sk tl ff) res I L) := by
  refine CT.of rfl (Nat.le_of_ble_eq_true rfl) ?_
  show V g mX12_isPerson (d + 2) 0 0 n (RT tw dr sk tl ff) I L 0 [some (.ref 73), some (.int v1)] [] (PoB n (RT tw dr sk tl ff) res I L)
  refine V_iload_n (pc := 0) dX12_isPerson_0 rfl rfl rfl ?_
  refine V_iconst (pc := 1) dX12_isPerson_1 ic_0 rfl ?_
  refine V_aload_n (pc := 2) dX12_isPerson_2 rfl rfl rfl ?_
  refine V_getI (pc := 3) dX12_isPerson_3 flX12_415 rfl (by omega) (congrArg Prod.fst sh_73) rfl ?_
  refine V_iconst (pc := 6) dX12_isPerson_6 ic_1 rfl ?_
  refine V_isub (pc := 7) dX12_isPerson_7 rfl ?_
  refine V_cSz (md' := mX12_isIn) (pc := 8) dX12_isPerson_8 mlX12_436 mSX12_isIn (tX12_isIn rfl) rfl rfl (Nat.le_of_ble_eq_true rfl) rfl ?_
  cases hf
  exact V_zretE (pc := 11) dX12_isPerson_11 rfl rfl PoB_mk
/-! ShadowDoorsModel.isFree -/
noncomputable def fX12_isFree (v1 : Int32) (I : HI) (L : HL) : Bool :=
  tbn (
    if (b2i (fX12_isIn v1 (0 : Int32) (((I 73 52) * (I 73 53)) - (1 : Int32)))) = 0 then
      true
    else
      if (b2i (fX12_has (L 73 44) v1)) = 0 then
        false
      else
        true
  ) fun b1 =>
  if b1 = true then
    false
  else
    true
set_option maxRecDepth 100000 in
set_option maxHeartbeats 4000000 in
theorem tX12_isFree {g : GG} {n d : Nat} {tw dr sk tl ff : Nat} (hG : RG tw dr sk tl ff) (hn : 116 ≤ n) {v1 : Int32} {I : HI} {L : HL} {res : Bool} (hf : fX12_isFree v1 I L = res) : CT g mX12_isFree (d + 2) 0 0 n (RT tw dr sk tl ff) I L [.ref 73, .int v1] (PoB n (RT tw dr sk tl ff) res I L) := by
  refine CT.of rfl (Nat.le_of_ble_eq_true rfl) ?_
  show V g mX12_isFree (d + 2) 0 0 n (RT tw dr sk tl ff) I L 0 [some (.ref 73), some (.int v1)] [] (PoB n (RT tw dr sk tl ff) res I L)
  refine V_iload_n (pc := 0) dX12_isFree_0 rfl rfl rfl ?_
  refine V_iconst (pc := 1) dX12_isFree_1 ic_0 rfl ?_
  refine V_aload_n (pc := 2) dX12_isFree_2 rfl rfl rfl ?_
  refine V_getI (pc := 3) dX12_isFree_3 flX12_90 rfl (by omega) (congrArg Prod.fst sh_73) rfl ?_
  refine V_aload_n (pc := 6) dX12_isFree_6 rfl rfl rfl ?_
  refine V_getI (pc := 7) dX12_isFree_7 flX12_93 rfl (by omega) (congrArg Prod.fst sh_73) rfl ?_
  refine V_imul (pc := 10) dX12_isFree_10 rfl ?_
  refine V_iconst (pc := 11) dX12_isFree_11 ic_1 rfl ?_
  refine V_isub (pc := 12) dX12_isFree_12 rfl ?_
  refine V_cSz (md' := mX12_isIn) (pc := 13) dX12_isFree_13 mlX12_436 mSX12_isIn (tX12_isIn rfl) rfl rfl (Nat.le_of_ble_eq_true rfl) rfl ?_
  obtain ⟨b1, hb1, hf⟩ := tbd hf
  have KTb1 : b1 = true → V g mX12_isFree (d + 2) 0 0 n (RT tw dr sk tl ff) I L 34 [some (.ref 73), some (.int v1)] [] (PoB n (RT tw dr sk tl ff) res I L) := fun hc => by
    replace hf := (if_pos hc).symm.trans hf
    refine V_iconst (pc := 34) dX12_isFree_34 ic_0 rfl ?_
    cases hf
    exact V_zretE (pc := 35) dX12_isFree_35 rfl (show (0 : Int32) = b2i false from rfl) PoB_mk
  have KFb1 : ¬ b1 = true → V g mX12_isFree (d + 2) 0 0 n (RT tw dr sk tl ff) I L 30 [some (.ref 73), some (.int v1)] [] (PoB n (RT tw dr sk tl ff) res I L) := fun hc => by
    replace hf := (if_neg hc).symm.trans hf
    refine V_iconst (pc := 30) dX12_isFree_30 ic_1 rfl ?_
    refine V_goto (pc := 31) (tgt := 35) dX12_isFree_31 (by decide) ?_
    cases hf
    exact V_zretE (pc := 35) dX12_isFree_35 rfl (show (1 : Int32) = b2i true from rfl) PoB_mk
  refine V_if_eq (pc := 16) (tgt := 34) dX12_isFree_16 (by decide) rfl (fun hc => ?_) (fun hc => ?_)
  · replace hb1 := (if_pos hc).symm.trans hb1
    cases hb1
    exact KTb1 rfl
  · replace hb1 := (if_neg hc).symm.trans hb1
    refine V_aload_n (pc := 19) dX12_isFree_19 rfl rfl rfl ?_
    refine V_getL (pc := 20) dX12_isFree_20 flX12_403 rfl (by omega) (congrArg Prod.fst sh_73) rfl ?_
    refine V_iload_n (pc := 23) dX12_isFree_23 rfl rfl rfl ?_
    refine V_cSz (md' := mX12_has) (pc := 24) dX12_isFree_24 mlX12_330 mSX12_has (tX12_has rfl) rfl rfl (Nat.le_of_ble_eq_true rfl) rfl ?_
    refine V_if_ne (pc := 27) (tgt := 34) dX12_isFree_27 (by decide) rfl (fun hc => ?_) (fun hc => ?_)
    · replace hb1 := (if_neg hc).symm.trans hb1
      cases hb1
      exact KTb1 rfl
    · replace hb1 := (if_pos hc).symm.trans hb1
      cases hb1
      exact KFb1 (nbt rfl)
/-! ShadowDoorsModel.isFar -/
noncomputable def fX12_isFar (v1 : Int32) : Bool :=
  (fX12_isIn v1 (0 : Int32) (48 : Int32))
set_option maxRecDepth 100000 in
set_option maxHeartbeats 4000000 in
theorem tX12_isFar {g : GG} {n d : Nat} {r : HR}  {v1 : Int32} {I : HI} {L : HL} {res : Bool} (hf : fX12_isFar v1 = res) : CT g mX12_isFar (d + 2) 0 0 n r I L [.int v1] (PoB n r res I L) := by
  refine CT.of rfl (Nat.le_of_ble_eq_true rfl) ?_
  show V g mX12_isFar (d + 2) 0 0 n r I L 0 [some (.int v1)] [] (PoB n r res I L)
  refine V_iload_n (pc := 0) dX12_isFar_0 rfl rfl rfl ?_
  refine V_iconst (pc := 1) dX12_isFar_1 ic_0 rfl ?_
  refine V_bipush (pc := 2) dX12_isFar_2 bp_48 rfl ?_
  refine V_cSz (md' := mX12_isIn) (pc := 4) dX12_isFar_4 mlX12_436 mSX12_isIn (tX12_isIn rfl) rfl rfl (Nat.le_of_ble_eq_true rfl) rfl ?_
  cases hf
  exact V_zretE (pc := 7) dX12_isFar_7 rfl rfl PoB_mk
/-! ShadowDoorsModel.members -/
noncomputable def fX12_members_4 : Nat → Int64 → Int32 → Int32 → Option (Int32)
  | 0, _, _, _ => none
  | fu + 1, y0, y2, y3 =>
    if (64 : Int32) ≤ y3 then
      some y2
    else
      if (b2i (fX12_has y0 y3)) = 0 then
        fX12_members_4 fu y0 (y2 + (0 : Int32)) (y3 + (1 : Int32))
      else
        fX12_members_4 fu y0 (y2 + (1 : Int32)) (y3 + (1 : Int32))
set_option maxRecDepth 100000 in
set_option maxHeartbeats 4000000 in
theorem lX12_members_4 {g : GG} {n d : Nat} {r : HR}  {P : PP} : ∀ (fu : Nat) (y0 : Int64) (y2 : Int32) (y3 : Int32) (I : HI) (L : HL) (res : Int32), fX12_members_4 fu y0 y2 y3 = some res → P (some (.int res)) n r I L → V g mX12_members (d + 2) 0 0 n r I L 4 [some (.long y0), none, some (.int y2), some (.int y3)] [] P := by
  intro fu
  induction fu with
  | zero => intro y0 y2 y3 I L res hf; cases (show none = some res from hf)
  | succ fu ih =>
    intro y0 y2 y3 I L res hf K
    refine V_iload_n (pc := 4) dX12_members_4 rfl rfl rfl ?_
    refine V_bipush (pc := 5) dX12_members_5 bp_64 rfl ?_
    refine V_icmp_ge (pc := 7) (tgt := 32) dX12_members_7 (by decide) rfl (fun hc => ?_) (fun hc => ?_)
    · replace hf := (if_pos hc).symm.trans hf
      refine V_iload_n (pc := 32) dX12_members_32 rfl rfl rfl ?_
      cases hf
      exact V_iret (pc := 33) dX12_members_33 rfl K
    · replace hf := (if_neg hc).symm.trans hf
      refine V_iload_n (pc := 10) dX12_members_10 rfl rfl rfl ?_
      refine V_lload_n (pc := 11) dX12_members_11 rfl rfl rfl ?_
      refine V_iload_n (pc := 12) dX12_members_12 rfl rfl rfl ?_
      refine V_cSz (md' := mX12_has) (pc := 13) dX12_members_13 mlX12_330 mSX12_has (tX12_has rfl) rfl rfl (Nat.le_of_ble_eq_true rfl) rfl ?_
      refine V_if_eq (pc := 16) (tgt := 23) dX12_members_16 (by decide) rfl (fun hc => ?_) (fun hc => ?_)
      · replace hf := (if_pos hc).symm.trans hf
        refine V_iconst (pc := 23) dX12_members_23 ic_0 rfl ?_
        refine V_iadd (pc := 24) dX12_members_24 rfl ?_
        refine V_istore_n (ls' := [some _, none, some _, some _]) (pc := 25) dX12_members_25 rfl (Nat.le_of_ble_eq_true rfl) rfl rfl ?_
        refine V_iinc (ls' := [some _, none, some _, some _]) (pc := 26) dX12_members_26 rfl (Nat.le_of_ble_eq_true rfl) (congrArg _ ic_1) rfl rfl ?_
        refine V_goto (pc := 29) (tgt := 4) dX12_members_29 (by decide) ?_
        exact V_wk (ih _ _ _ _ _ _ hf K) ⟨rfl, ⟨rfl, ⟨rfl, trivial⟩⟩⟩
      · replace hf := (if_neg hc).symm.trans hf
        refine V_iconst (pc := 19) dX12_members_19 ic_1 rfl ?_
        refine V_goto (pc := 20) (tgt := 24) dX12_members_20 (by decide) ?_
        refine V_iadd (pc := 24) dX12_members_24 rfl ?_
        refine V_istore_n (ls' := [some _, none, some _, some _]) (pc := 25) dX12_members_25 rfl (Nat.le_of_ble_eq_true rfl) rfl rfl ?_
        refine V_iinc (ls' := [some _, none, some _, some _]) (pc := 26) dX12_members_26 rfl (Nat.le_of_ble_eq_true rfl) (congrArg _ ic_1) rfl rfl ?_
        refine V_goto (pc := 29) (tgt := 4) dX12_members_29 (by decide) ?_
        exact V_wk (ih _ _ _ _ _ _ hf K) ⟨rfl, ⟨rfl, ⟨rfl, trivial⟩⟩⟩
noncomputable def fX12_members (v1 : Int64) : Option (Int32) :=
  Option.bind (fX12_members_4 FUEL v1 (0 : Int32) (0 : Int32)) fun q1 =>
  some q1
set_option maxRecDepth 100000 in
set_option maxHeartbeats 4000000 in
theorem tX12_members {g : GG} {n d : Nat} {r : HR}  {v1 : Int64} {I : HI} {L : HL} {res : Int32} (hf : fX12_members v1 = some res) : CT g mX12_members (d + 2) 0 0 n r I L [.long v1] (PoI n r res I L) := by
  refine CT.of rfl (Nat.le_of_ble_eq_true rfl) ?_
  show V g mX12_members (d + 2) 0 0 n r I L 0 [some (.long v1), none] [] (PoI n r res I L)
  refine V_iconst (pc := 0) dX12_members_0 ic_0 rfl ?_
  refine V_istore_n (ls' := [some _, none, some _]) (pc := 1) dX12_members_1 rfl (Nat.le_of_ble_eq_true rfl) rfl rfl ?_
  refine V_iconst (pc := 2) dX12_members_2 ic_0 rfl ?_
  refine V_istore_n (ls' := [some _, none, some _, some _]) (pc := 3) dX12_members_3 rfl (Nat.le_of_ble_eq_true rfl) rfl rfl ?_
  obtain ⟨q1, hq1, hf⟩ := bnd hf
  refine V_wk (lX12_members_4 FUEL _ _ _ _ _ _ hq1 ?_) ⟨rfl, ⟨rfl, ⟨rfl, trivial⟩⟩⟩
  cases hf
  exact PoI_mk
/-! ShadowDoorsModel.leastOf -/
noncomputable def fX12_leastOf_2 : Nat → Int64 → Int32 → Option (Int32)
  | 0, _, _ => none
  | fu + 1, y0, y2 =>
    Option.bind (
      if (64 : Int32) ≤ y2 then
        some true
      else
        if (b2i (fX12_has y0 y2)) = 0 then
          some false
        else
          some true
    ) fun b1 =>
    if b1 = true then
      some y2
    else
      fX12_leastOf_2 fu y0 (y2 + (1 : Int32))
set_option maxRecDepth 100000 in
set_option maxHeartbeats 4000000 in
theorem lX12_leastOf_2 {g : GG} {n d : Nat} {r : HR}  {P : PP} : ∀ (fu : Nat) (y0 : Int64) (y2 : Int32) (I : HI) (L : HL) (res : Int32), fX12_leastOf_2 fu y0 y2 = some res → V g mX12_leastOf (d + 2) 0 0 n r I L 22 [none, none, some (.int res)] [] P → V g mX12_leastOf (d + 2) 0 0 n r I L 2 [some (.long y0), none, some (.int y2)] [] P := by
  intro fu
  induction fu with
  | zero => intro y0 y2 I L res hf; cases (show none = some res from hf)
  | succ fu ih =>
    intro y0 y2 I L res hf K
    refine V_iload_n (pc := 2) dX12_leastOf_2 rfl rfl rfl ?_
    refine V_bipush (pc := 3) dX12_leastOf_3 bp_64 rfl ?_
    obtain ⟨b1, hb1, hf⟩ := bnd hf
    have KTb1 : b1 = true → V g mX12_leastOf (d + 2) 0 0 n r I L 22 [some (.long y0), none, some (.int y2)] [] P := fun hc => by
      replace hf := (if_pos hc).symm.trans hf
      cases hf
      exact V_wk K ⟨rfl, trivial⟩
    have KFb1 : ¬ b1 = true → V g mX12_leastOf (d + 2) 0 0 n r I L 16 [some (.long y0), none, some (.int y2)] [] P := fun hc => by
      replace hf := (if_neg hc).symm.trans hf
      refine V_iinc (ls' := [some _, none, some _]) (pc := 16) dX12_leastOf_16 rfl (Nat.le_of_ble_eq_true rfl) (congrArg _ ic_1) rfl rfl ?_
      refine V_goto (pc := 19) (tgt := 2) dX12_leastOf_19 (by decide) ?_
      exact V_wk (ih _ _ _ _ _ hf K) ⟨rfl, ⟨rfl, trivial⟩⟩
    refine V_icmp_ge (pc := 5) (tgt := 22) dX12_leastOf_5 (by decide) rfl (fun hc => ?_) (fun hc => ?_)
    · replace hb1 := (if_pos hc).symm.trans hb1
      cases hb1
      exact KTb1 rfl
    · replace hb1 := (if_neg hc).symm.trans hb1
      refine V_lload_n (pc := 8) dX12_leastOf_8 rfl rfl rfl ?_
      refine V_iload_n (pc := 9) dX12_leastOf_9 rfl rfl rfl ?_
      refine V_cSz (md' := mX12_has) (pc := 10) dX12_leastOf_10 mlX12_330 mSX12_has (tX12_has rfl) rfl rfl (Nat.le_of_ble_eq_true rfl) rfl ?_
      refine V_if_ne (pc := 13) (tgt := 22) dX12_leastOf_13 (by decide) rfl (fun hc => ?_) (fun hc => ?_)
      · replace hb1 := (if_neg hc).symm.trans hb1
        cases hb1
        exact KTb1 rfl
      · replace hb1 := (if_pos hc).symm.trans hb1
        cases hb1
        exact KFb1 (nbt rfl)
noncomputable def fX12_leastOf (v1 : Int64) : Option (Int32) :=
  Option.bind (fX12_leastOf_2 FUEL v1 (0 : Int32)) fun q2 =>
  if (64 : Int32) ≤ q2 then
    some (-1 : Int32)
  else
    some q2
set_option maxRecDepth 100000 in
set_option maxHeartbeats 4000000 in
theorem tX12_leastOf {g : GG} {n d : Nat} {r : HR}  {v1 : Int64} {I : HI} {L : HL} {res : Int32} (hf : fX12_leastOf v1 = some res) : CT g mX12_leastOf (d + 2) 0 0 n r I L [.long v1] (PoI n r res I L) := by
  refine CT.of rfl (Nat.le_of_ble_eq_true rfl) ?_
  show V g mX12_leastOf (d + 2) 0 0 n r I L 0 [some (.long v1), none] [] (PoI n r res I L)
  refine V_iconst (pc := 0) dX12_leastOf_0 ic_0 rfl ?_
  refine V_istore_n (ls' := [some _, none, some _]) (pc := 1) dX12_leastOf_1 rfl (Nat.le_of_ble_eq_true rfl) rfl rfl ?_
  obtain ⟨q2, hq2, hf⟩ := bnd hf
  refine V_wk (lX12_leastOf_2 FUEL _ _ _ _ _ hq2 ?_) ⟨rfl, ⟨rfl, trivial⟩⟩
  refine V_iload_n (pc := 22) dX12_leastOf_22 rfl rfl rfl ?_
  refine V_bipush (pc := 23) dX12_leastOf_23 bp_64 rfl ?_
  refine V_icmp_ge (pc := 25) (tgt := 32) dX12_leastOf_25 (by decide) rfl (fun hc => ?_) (fun hc => ?_)
  · replace hf := (if_pos hc).symm.trans hf
    refine V_iconst (pc := 32) dX12_leastOf_32 ic_m1 rfl ?_
    cases hf
    exact V_iret (pc := 33) dX12_leastOf_33 rfl PoI_mk
  · replace hf := (if_neg hc).symm.trans hf
    refine V_iload_n (pc := 28) dX12_leastOf_28 rfl rfl rfl ?_
    refine V_goto (pc := 29) (tgt := 33) dX12_leastOf_29 (by decide) ?_
    cases hf
    exact V_iret (pc := 33) dX12_leastOf_33 rfl PoI_mk
/-! ShadowDoorsModel.load -/
noncomputable def fX12_load (v1 : Int32) (I : HI) : Option (HI) :=
  if inb (8 : Int32) 10 = true then
    let I2 : HI := up2 I 73 64 (((I 99 (8 : Int32).toNatClampNeg) + v1) - ((I 99 (8 : Int32).toNatClampNeg) + v1) / (24 : Int32) * (24 : Int32))
    if inb (8 : Int32) 10 = true then
      let I4 : HI := up2 I2 73 65 (((I2 99 (8 : Int32).toNatClampNeg) + v1) / (24 : Int32))
      if inb (5 : Int32) 10 = true then
        let I6 : HI := up2 I4 73 66 (I4 99 (5 : Int32).toNatClampNeg)
        if inb (6 : Int32) 10 = true then
          let I8 : HI := up2 I6 73 67 (I6 99 (6 : Int32).toNatClampNeg)
          let I9 : HI := up2 I8 73 68 (0 : Int32)
          if inb (7 : Int32) 10 = true then
            if (I9 99 (7 : Int32).toNatClampNeg) = (1 : Int32) then
              let I12 : HI := up2 I9 73 69 (b2i true)
              some I12
            else
              let I11 : HI := up2 I9 73 69 (b2i false)
              some I11
          else none
        else none
      else none
    else none
  else none
set_option maxRecDepth 100000 in
set_option maxHeartbeats 4000000 in
theorem tX12_load {g : GG} {n d : Nat} {tw dr sk tl ff : Nat} (hG : RG tw dr sk tl ff) (hn : 116 ≤ n) {v1 : Int32} {I : HI} {L : HL} {res : HI} (hf : fX12_load v1 I = some res) : CT g mX12_load (d + 1) 0 0 n (RT tw dr sk tl ff) I L [.ref 73, .int v1] (PoV n (RT tw dr sk tl ff) res L) := by
  refine CT.of rfl (Nat.le_of_ble_eq_true rfl) ?_
  show V g mX12_load (d + 1) 0 0 n (RT tw dr sk tl ff) I L 0 [some (.ref 73), some (.int v1)] [] (PoV n (RT tw dr sk tl ff) res L)
  refine V_aload_n (pc := 0) dX12_load_0 rfl rfl rfl ?_
  refine V_aload_n (pc := 1) dX12_load_1 rfl rfl rfl ?_
  refine V_getR (pc := 2) dX12_load_2 flX12_96 rfl (by omega) (congrArg Prod.fst sh_73) rt_73_63 rfl ?_
  refine V_bipush (pc := 5) dX12_load_5 bp_8 rfl ?_
  obtain ⟨hc1, hf⟩ := pif hf
  refine V_iald (pc := 7) dX12_load_7 (by omega) sh_99 hc1 rfl ?_
  refine V_iload_n (pc := 8) dX12_load_8 rfl rfl rfl ?_
  refine V_iadd (pc := 9) dX12_load_9 rfl ?_
  refine V_bipush (pc := 10) dX12_load_10 bp_24 rfl ?_
  refine V_irem (pc := 12) dX12_load_12 (by decide) rfl ?_
  let I2 : HI := up2 I 73 64 (((I 99 (8 : Int32).toNatClampNeg) + v1) - ((I 99 (8 : Int32).toNatClampNeg) + v1) / (24 : Int32) * (24 : Int32))
  refine V_putI (pc := 13) dX12_load_13 flX12_440 rfl rfl (by omega) (congrArg Prod.fst sh_73) rfl ?_
  refine V_aload_n (pc := 16) dX12_load_16 rfl rfl rfl ?_
  refine V_aload_n (pc := 17) dX12_load_17 rfl rfl rfl ?_
  refine V_getR (pc := 18) dX12_load_18 flX12_96 rfl (by omega) (congrArg Prod.fst sh_73) rt_73_63 rfl ?_
  refine V_bipush (pc := 21) dX12_load_21 bp_8 rfl ?_
  obtain ⟨hc3, hf⟩ := pif hf
  refine V_iald (pc := 23) dX12_load_23 (by omega) sh_99 hc3 rfl ?_
  refine V_iload_n (pc := 24) dX12_load_24 rfl rfl rfl ?_
  refine V_iadd (pc := 25) dX12_load_25 rfl ?_
  refine V_bipush (pc := 26) dX12_load_26 bp_24 rfl ?_
  refine V_idiv (pc := 28) dX12_load_28 (by decide) rfl ?_
  let I4 : HI := up2 I2 73 65 (((I2 99 (8 : Int32).toNatClampNeg) + v1) / (24 : Int32))
  refine V_putI (pc := 29) dX12_load_29 flX12_443 rfl rfl (by omega) (congrArg Prod.fst sh_73) rfl ?_
  refine V_aload_n (pc := 32) dX12_load_32 rfl rfl rfl ?_
  refine V_aload_n (pc := 33) dX12_load_33 rfl rfl rfl ?_
  refine V_getR (pc := 34) dX12_load_34 flX12_96 rfl (by omega) (congrArg Prod.fst sh_73) rt_73_63 rfl ?_
  refine V_iconst (pc := 37) dX12_load_37 ic_5 rfl ?_
  obtain ⟨hc5, hf⟩ := pif hf
  refine V_iald (pc := 38) dX12_load_38 (by omega) sh_99 hc5 rfl ?_
  let I6 : HI := up2 I4 73 66 (I4 99 (5 : Int32).toNatClampNeg)
  refine V_putI (pc := 39) dX12_load_39 flX12_446 rfl rfl (by omega) (congrArg Prod.fst sh_73) rfl ?_
  refine V_aload_n (pc := 42) dX12_load_42 rfl rfl rfl ?_
  refine V_aload_n (pc := 43) dX12_load_43 rfl rfl rfl ?_
  refine V_getR (pc := 44) dX12_load_44 flX12_96 rfl (by omega) (congrArg Prod.fst sh_73) rt_73_63 rfl ?_
  refine V_bipush (pc := 47) dX12_load_47 bp_6 rfl ?_
  obtain ⟨hc7, hf⟩ := pif hf
  refine V_iald (pc := 49) dX12_load_49 (by omega) sh_99 hc7 rfl ?_
  let I8 : HI := up2 I6 73 67 (I6 99 (6 : Int32).toNatClampNeg)
  refine V_putI (pc := 50) dX12_load_50 flX12_449 rfl rfl (by omega) (congrArg Prod.fst sh_73) rfl ?_
  refine V_aload_n (pc := 53) dX12_load_53 rfl rfl rfl ?_
  refine V_iconst (pc := 54) dX12_load_54 ic_0 rfl ?_
  let I9 : HI := up2 I8 73 68 (0 : Int32)
  refine V_putI (pc := 55) dX12_load_55 flX12_452 rfl rfl (by omega) (congrArg Prod.fst sh_73) rfl ?_
  refine V_aload_n (pc := 58) dX12_load_58 rfl rfl rfl ?_
  refine V_aload_n (pc := 59) dX12_load_59 rfl rfl rfl ?_
  refine V_getR (pc := 60) dX12_load_60 flX12_96 rfl (by omega) (congrArg Prod.fst sh_73) rt_73_63 rfl ?_
  refine V_bipush (pc := 63) dX12_load_63 bp_7 rfl ?_
  obtain ⟨hc10, hf⟩ := pif hf
  refine V_iald (pc := 65) dX12_load_65 (by omega) sh_99 hc10 rfl ?_
  refine V_iconst (pc := 66) dX12_load_66 ic_1 rfl ?_
  refine V_icmp_ne (pc := 67) (tgt := 74) dX12_load_67 (by decide) rfl (fun hc => ?_) (fun hc => ?_)
  · replace hf := (if_neg hc).symm.trans hf
    refine V_iconst (pc := 74) dX12_load_74 ic_0 rfl ?_
    let I11 : HI := up2 I9 73 69 (b2i false)
    refine V_putZE (pc := 75) dX12_load_75 flX12_455 rfl rfl (by omega) (congrArg Prod.fst sh_73) (show (0 : Int32) = b2i false from rfl) rfl ?_
    cases hf
    exact V_vret (pc := 78) dX12_load_78 rfl PoV_mk
  · replace hf := (if_pos hc).symm.trans hf
    refine V_iconst (pc := 70) dX12_load_70 ic_1 rfl ?_
    refine V_goto (pc := 71) (tgt := 75) dX12_load_71 (by decide) ?_
    let I12 : HI := up2 I9 73 69 (b2i true)
    refine V_putZE (pc := 75) dX12_load_75 flX12_455 rfl rfl (by omega) (congrArg Prod.fst sh_73) (show (1 : Int32) = b2i true from rfl) rfl ?_
    cases hf
    exact V_vret (pc := 78) dX12_load_78 rfl PoV_mk
/-! ShadowDoorsModel.setHour -/
noncomputable def fX12_setHour (v1 : Int32) (I : HI) : HI :=
  let I1 : HI := up2 I 73 64 (v1 - v1 / (24 : Int32) * (24 : Int32))
  let I2 : HI := up2 I1 73 65 (v1 / (24 : Int32))
  I2
set_option maxRecDepth 100000 in
set_option maxHeartbeats 4000000 in
theorem tX12_setHour {g : GG} {n d : Nat} {tw dr sk tl ff : Nat} (hG : RG tw dr sk tl ff) (hn : 116 ≤ n) {v1 : Int32} {I : HI} {L : HL} {res : HI} (hf : fX12_setHour v1 I = res) : CT g mX12_setHour (d + 1) 0 0 n (RT tw dr sk tl ff) I L [.ref 73, .int v1] (PoV n (RT tw dr sk tl ff) res L) := by
  refine CT.of rfl (Nat.le_of_ble_eq_true rfl) ?_
  show V g mX12_setHour (d + 1) 0 0 n (RT tw dr sk tl ff) I L 0 [some (.ref 73), some (.int v1)] [] (PoV n (RT tw dr sk tl ff) res L)
  refine V_aload_n (pc := 0) dX12_setHour_0 rfl rfl rfl ?_
  refine V_iload_n (pc := 1) dX12_setHour_1 rfl rfl rfl ?_
  refine V_bipush (pc := 2) dX12_setHour_2 bp_24 rfl ?_
  refine V_irem (pc := 4) dX12_setHour_4 (by decide) rfl ?_
  let I1 : HI := up2 I 73 64 (v1 - v1 / (24 : Int32) * (24 : Int32))
  refine V_putI (pc := 5) dX12_setHour_5 flX12_440 rfl rfl (by omega) (congrArg Prod.fst sh_73) rfl ?_
  refine V_aload_n (pc := 8) dX12_setHour_8 rfl rfl rfl ?_
  refine V_iload_n (pc := 9) dX12_setHour_9 rfl rfl rfl ?_
  refine V_bipush (pc := 10) dX12_setHour_10 bp_24 rfl ?_
  refine V_idiv (pc := 12) dX12_setHour_12 (by decide) rfl ?_
  let I2 : HI := up2 I1 73 65 (v1 / (24 : Int32))
  refine V_putI (pc := 13) dX12_setHour_13 flX12_443 rfl rfl (by omega) (congrArg Prod.fst sh_73) rfl ?_
  cases hf
  exact V_vret (pc := 16) dX12_setHour_16 rfl PoV_mk
/-! ShadowDoorsModel.isOpen -/
noncomputable def fX12_isOpen (v1 : Int32) (I : HI) : Option (Bool) :=
  if inb v1 8 = true then
    Option.bind (
      if (I 73 64) < (I 93 v1.toNatClampNeg) then
        some true
      else
        if inb v1 8 = true then
          if (I 94 v1.toNatClampNeg) ≤ (I 73 64) then
            some true
          else
            if (((I 73 66) >>> (v1 &&& 31)) &&& (1 : Int32)) = 0 then
              some false
            else
              some true
        else none
    ) fun b2 =>
    if b2 = true then
      some false
    else
      some true
  else none
set_option maxRecDepth 100000 in
set_option maxHeartbeats 4000000 in
theorem tX12_isOpen {g : GG} {n d : Nat} {tw dr sk tl ff : Nat} (hG : RG tw dr sk tl ff) (hn : 116 ≤ n) {v1 : Int32} {I : HI} {L : HL} {res : Bool} (hf : fX12_isOpen v1 I = some res) : CT g mX12_isOpen (d + 1) 0 0 n (RT tw dr sk tl ff) I L [.ref 73, .int v1] (PoB n (RT tw dr sk tl ff) res I L) := by
  refine CT.of rfl (Nat.le_of_ble_eq_true rfl) ?_
  show V g mX12_isOpen (d + 1) 0 0 n (RT tw dr sk tl ff) I L 0 [some (.ref 73), some (.int v1)] [] (PoB n (RT tw dr sk tl ff) res I L)
  refine V_aload_n (pc := 0) dX12_isOpen_0 rfl rfl rfl ?_
  refine V_getI (pc := 1) dX12_isOpen_1 flX12_440 rfl (by omega) (congrArg Prod.fst sh_73) rfl ?_
  refine V_aload_n (pc := 4) dX12_isOpen_4 rfl rfl rfl ?_
  refine V_getR (pc := 5) dX12_isOpen_5 flX12_72 rfl (by omega) (congrArg Prod.fst sh_73) rt_73_35 rfl ?_
  refine V_iload_n (pc := 8) dX12_isOpen_8 rfl rfl rfl ?_
  obtain ⟨hc1, hf⟩ := pif hf
  refine V_iald (pc := 9) dX12_isOpen_9 (by omega) sh_93 hc1 rfl ?_
  obtain ⟨b2, hb2, hf⟩ := bnd hf
  have KTb2 : b2 = true → V g mX12_isOpen (d + 1) 0 0 n (RT tw dr sk tl ff) I L 41 [some (.ref 73), some (.int v1)] [] (PoB n (RT tw dr sk tl ff) res I L) := fun hc => by
    replace hf := (if_pos hc).symm.trans hf
    refine V_iconst (pc := 41) dX12_isOpen_41 ic_0 rfl ?_
    cases hf
    exact V_zretE (pc := 42) dX12_isOpen_42 rfl (show (0 : Int32) = b2i false from rfl) PoB_mk
  have KFb2 : ¬ b2 = true → V g mX12_isOpen (d + 1) 0 0 n (RT tw dr sk tl ff) I L 37 [some (.ref 73), some (.int v1)] [] (PoB n (RT tw dr sk tl ff) res I L) := fun hc => by
    replace hf := (if_neg hc).symm.trans hf
    refine V_iconst (pc := 37) dX12_isOpen_37 ic_1 rfl ?_
    refine V_goto (pc := 38) (tgt := 42) dX12_isOpen_38 (by decide) ?_
    cases hf
    exact V_zretE (pc := 42) dX12_isOpen_42 rfl (show (1 : Int32) = b2i true from rfl) PoB_mk
  refine V_icmp_lt (pc := 10) (tgt := 41) dX12_isOpen_10 (by decide) rfl (fun hc => ?_) (fun hc => ?_)
  · replace hb2 := (if_pos hc).symm.trans hb2
    cases hb2
    exact KTb2 rfl
  · replace hb2 := (if_neg hc).symm.trans hb2
    refine V_aload_n (pc := 13) dX12_isOpen_13 rfl rfl rfl ?_
    refine V_getI (pc := 14) dX12_isOpen_14 flX12_440 rfl (by omega) (congrArg Prod.fst sh_73) rfl ?_
    refine V_aload_n (pc := 17) dX12_isOpen_17 rfl rfl rfl ?_
    refine V_getR (pc := 18) dX12_isOpen_18 flX12_75 rfl (by omega) (congrArg Prod.fst sh_73) rt_73_36 rfl ?_
    refine V_iload_n (pc := 21) dX12_isOpen_21 rfl rfl rfl ?_
    obtain ⟨hc3, hb2⟩ := pif hb2
    refine V_iald (pc := 22) dX12_isOpen_22 (by omega) sh_94 hc3 rfl ?_
    refine V_icmp_ge (pc := 23) (tgt := 41) dX12_isOpen_23 (by decide) rfl (fun hc => ?_) (fun hc => ?_)
    · replace hb2 := (if_pos hc).symm.trans hb2
      cases hb2
      exact KTb2 rfl
    · replace hb2 := (if_neg hc).symm.trans hb2
      refine V_aload_n (pc := 26) dX12_isOpen_26 rfl rfl rfl ?_
      refine V_getI (pc := 27) dX12_isOpen_27 flX12_446 rfl (by omega) (congrArg Prod.fst sh_73) rfl ?_
      refine V_iload_n (pc := 30) dX12_isOpen_30 rfl rfl rfl ?_
      refine V_ishr (pc := 31) dX12_isOpen_31 rfl ?_
      refine V_iconst (pc := 32) dX12_isOpen_32 ic_1 rfl ?_
      refine V_iand (pc := 33) dX12_isOpen_33 rfl ?_
      refine V_if_ne (pc := 34) (tgt := 41) dX12_isOpen_34 (by decide) rfl (fun hc => ?_) (fun hc => ?_)
      · replace hb2 := (if_neg hc).symm.trans hb2
        cases hb2
        exact KTb2 rfl
      · replace hb2 := (if_pos hc).symm.trans hb2
        cases hb2
        exact KFb2 (nbt rfl)
/-! ShadowDoorsModel.isLit -/
noncomputable def fX12_isLit (v1 : Int32) (I : HI) : Option (Bool) :=
  Option.bind (
    if (((I 73 68) >>> (v1 &&& 31)) &&& (1 : Int32)) = (1 : Int32) then
      some true
    else
      if inb v1 4 = true then
        if (I 73 64) < (I 96 v1.toNatClampNeg) then
          some false
        else
          if inb v1 4 = true then
            if (I 97 v1.toNatClampNeg) ≤ (I 73 64) then
              some false
            else
              if (((I 73 67) >>> (v1 &&& 31)) &&& (1 : Int32)) = 0 then
                some true
              else
                some false
          else none
      else none
  ) fun b1 =>
  if b1 = true then
    some true
  else
    some false
set_option maxRecDepth 100000 in
set_option maxHeartbeats 4000000 in
theorem tX12_isLit {g : GG} {n d : Nat} {tw dr sk tl ff : Nat} (hG : RG tw dr sk tl ff) (hn : 116 ≤ n) {v1 : Int32} {I : HI} {L : HL} {res : Bool} (hf : fX12_isLit v1 I = some res) : CT g mX12_isLit (d + 1) 0 0 n (RT tw dr sk tl ff) I L [.ref 73, .int v1] (PoB n (RT tw dr sk tl ff) res I L) := by
  refine CT.of rfl (Nat.le_of_ble_eq_true rfl) ?_
  show V g mX12_isLit (d + 1) 0 0 n (RT tw dr sk tl ff) I L 0 [some (.ref 73), some (.int v1)] [] (PoB n (RT tw dr sk tl ff) res I L)
  refine V_aload_n (pc := 0) dX12_isLit_0 rfl rfl rfl ?_
  refine V_getI (pc := 1) dX12_isLit_1 flX12_452 rfl (by omega) (congrArg Prod.fst sh_73) rfl ?_
  refine V_iload_n (pc := 4) dX12_isLit_4 rfl rfl rfl ?_
  refine V_ishr (pc := 5) dX12_isLit_5 rfl ?_
  refine V_iconst (pc := 6) dX12_isLit_6 ic_1 rfl ?_
  refine V_iand (pc := 7) dX12_isLit_7 rfl ?_
  refine V_iconst (pc := 8) dX12_isLit_8 ic_1 rfl ?_
  obtain ⟨b1, hb1, hf⟩ := bnd hf
  have KTb1 : b1 = true → V g mX12_isLit (d + 1) 0 0 n (RT tw dr sk tl ff) I L 49 [some (.ref 73), some (.int v1)] [] (PoB n (RT tw dr sk tl ff) res I L) := fun hc => by
    replace hf := (if_pos hc).symm.trans hf
    refine V_iconst (pc := 49) dX12_isLit_49 ic_1 rfl ?_
    refine V_goto (pc := 50) (tgt := 54) dX12_isLit_50 (by decide) ?_
    cases hf
    exact V_zretE (pc := 54) dX12_isLit_54 rfl (show (1 : Int32) = b2i true from rfl) PoB_mk
  have KFb1 : ¬ b1 = true → V g mX12_isLit (d + 1) 0 0 n (RT tw dr sk tl ff) I L 53 [some (.ref 73), some (.int v1)] [] (PoB n (RT tw dr sk tl ff) res I L) := fun hc => by
    replace hf := (if_neg hc).symm.trans hf
    refine V_iconst (pc := 53) dX12_isLit_53 ic_0 rfl ?_
    cases hf
    exact V_zretE (pc := 54) dX12_isLit_54 rfl (show (0 : Int32) = b2i false from rfl) PoB_mk
  refine V_icmp_eq (pc := 9) (tgt := 49) dX12_isLit_9 (by decide) rfl (fun hc => ?_) (fun hc => ?_)
  · replace hb1 := (if_pos hc).symm.trans hb1
    cases hb1
    exact KTb1 rfl
  · replace hb1 := (if_neg hc).symm.trans hb1
    refine V_aload_n (pc := 12) dX12_isLit_12 rfl rfl rfl ?_
    refine V_getI (pc := 13) dX12_isLit_13 flX12_440 rfl (by omega) (congrArg Prod.fst sh_73) rfl ?_
    refine V_aload_n (pc := 16) dX12_isLit_16 rfl rfl rfl ?_
    refine V_getR (pc := 17) dX12_isLit_17 flX12_81 rfl (by omega) (congrArg Prod.fst sh_73) rt_73_38 rfl ?_
    refine V_iload_n (pc := 20) dX12_isLit_20 rfl rfl rfl ?_
    obtain ⟨hc2, hb1⟩ := pif hb1
    refine V_iald (pc := 21) dX12_isLit_21 (by omega) sh_96 hc2 rfl ?_
    refine V_icmp_lt (pc := 22) (tgt := 53) dX12_isLit_22 (by decide) rfl (fun hc => ?_) (fun hc => ?_)
    · replace hb1 := (if_pos hc).symm.trans hb1
      cases hb1
      exact KFb1 (nbt rfl)
    · replace hb1 := (if_neg hc).symm.trans hb1
      refine V_aload_n (pc := 25) dX12_isLit_25 rfl rfl rfl ?_
      refine V_getI (pc := 26) dX12_isLit_26 flX12_440 rfl (by omega) (congrArg Prod.fst sh_73) rfl ?_
      refine V_aload_n (pc := 29) dX12_isLit_29 rfl rfl rfl ?_
      refine V_getR (pc := 30) dX12_isLit_30 flX12_84 rfl (by omega) (congrArg Prod.fst sh_73) rt_73_39 rfl ?_
      refine V_iload_n (pc := 33) dX12_isLit_33 rfl rfl rfl ?_
      obtain ⟨hc3, hb1⟩ := pif hb1
      refine V_iald (pc := 34) dX12_isLit_34 (by omega) sh_97 hc3 rfl ?_
      refine V_icmp_ge (pc := 35) (tgt := 53) dX12_isLit_35 (by decide) rfl (fun hc => ?_) (fun hc => ?_)
      · replace hb1 := (if_pos hc).symm.trans hb1
        cases hb1
        exact KFb1 (nbt rfl)
      · replace hb1 := (if_neg hc).symm.trans hb1
        refine V_aload_n (pc := 38) dX12_isLit_38 rfl rfl rfl ?_
        refine V_getI (pc := 39) dX12_isLit_39 flX12_449 rfl (by omega) (congrArg Prod.fst sh_73) rfl ?_
        refine V_iload_n (pc := 42) dX12_isLit_42 rfl rfl rfl ?_
        refine V_ishr (pc := 43) dX12_isLit_43 rfl ?_
        refine V_iconst (pc := 44) dX12_isLit_44 ic_1 rfl ?_
        refine V_iand (pc := 45) dX12_isLit_45 rfl ?_
        refine V_if_ne (pc := 46) (tgt := 53) dX12_isLit_46 (by decide) rfl (fun hc => ?_) (fun hc => ?_)
        · replace hb1 := (if_neg hc).symm.trans hb1
          cases hb1
          exact KFb1 (nbt rfl)
        · replace hb1 := (if_pos hc).symm.trans hb1
          cases hb1
          exact KTb1 rfl
/-! ShadowDoorsModel.row -/
noncomputable def fX12_row_22 : Nat → Int32 → Int32 → Int32 → Int64 → Int32 → Int32 → Int32 → HI → HL → Option (Int64)
  | 0, _, _, _, _, _, _, _, _, _ => none
  | fu + 1, y2, y3, y4, y5, y7, y8, y9, I, L =>
    Option.bind (
      if y4 ≤ y9 then
        some true
      else
        if (8 : Int32) ≤ y9 then
          some true
        else
          some false
    ) fun b4 =>
    if b4 = true then
      some (y5 &&& ((L 73 44) ^^^ (-1 : Int64)))
    else
      Option.bind (
        if (y7 + y2) < 0 then
          some true
        else
          if (I 73 52) ≤ (y7 + y2) then
            some true
          else
            if (y8 + y3) < 0 then
              some true
            else
              if (I 73 53) ≤ (y8 + y3) then
                some true
              else
                some false
      ) fun b5 =>
      if b5 = true then
        fX12_row_22 fu y2 y3 y4 y5 (y7 + y2) (y8 + y3) (y9 + (1 : Int32)) I L
      else
        let x6 : Int64 := (y5 ||| ((1 : Int64) <<< ((((y8 + y3) * (I 73 52)) + (y7 + y2)).toInt64 &&& 63)))
        fX12_row_22 fu y2 y3 y4 x6 (y7 + y2) (y8 + y3) (y9 + (1 : Int32)) I L
set_option maxRecDepth 100000 in
set_option maxHeartbeats 4000000 in
theorem lX12_row_22 {g : GG} {n d : Nat} {tw dr sk tl ff : Nat} (hG : RG tw dr sk tl ff) (hn : 116 ≤ n) {P : PP} : ∀ (fu : Nat) (y2 : Int32) (y3 : Int32) (y4 : Int32) (y5 : Int64) (y7 : Int32) (y8 : Int32) (y9 : Int32) (I : HI) (L : HL) (res : Int64), fX12_row_22 fu y2 y3 y4 y5 y7 y8 y9 I L = some res → P (some (.long res)) n (RT tw dr sk tl ff) I L → V g mX12_row (d + 1) 0 0 n (RT tw dr sk tl ff) I L 22 [some (.ref 73), none, some (.int y2), some (.int y3), some (.int y4), some (.long y5), none, some (.int y7), some (.int y8), some (.int y9)] [] P := by
  intro fu
  induction fu with
  | zero => intro y2 y3 y4 y5 y7 y8 y9 I L res hf; cases (show none = some res from hf)
  | succ fu ih =>
    intro y2 y3 y4 y5 y7 y8 y9 I L res hf K
    refine V_iload (pc := 22) dX12_row_22 rfl rfl ?_
    refine V_iload (pc := 24) dX12_row_24 rfl rfl ?_
    obtain ⟨b4, hb4, hf⟩ := bnd hf
    have KTb4 : b4 = true → V g mX12_row (d + 1) 0 0 n (RT tw dr sk tl ff) I L 99 [some (.ref 73), none, some (.int y2), some (.int y3), some (.int y4), some (.long y5), none, some (.int y7), some (.int y8), some (.int y9)] [] P := fun hc => by
      replace hf := (if_pos hc).symm.trans hf
      refine V_lload (pc := 99) dX12_row_99 rfl rfl ?_
      refine V_aload_n (pc := 101) dX12_row_101 rfl rfl rfl ?_
      refine V_getL (pc := 102) dX12_row_102 flX12_403 rfl (by omega) (congrArg Prod.fst sh_73) rfl ?_
      refine V_ldc2 (pc := 105) dX12_row_105 klX12_458 rfl ?_
      refine V_lxor (pc := 108) dX12_row_108 rfl ?_
      refine V_land (pc := 109) dX12_row_109 rfl ?_
      cases hf
      exact V_lret (pc := 110) dX12_row_110 rfl K
    have KFb4 : ¬ b4 = true → V g mX12_row (d + 1) 0 0 n (RT tw dr sk tl ff) I L 36 [some (.ref 73), none, some (.int y2), some (.int y3), some (.int y4), some (.long y5), none, some (.int y7), some (.int y8), some (.int y9)] [] P := fun hc => by
      replace hf := (if_neg hc).symm.trans hf
      refine V_iload (pc := 36) dX12_row_36 rfl rfl ?_
      refine V_iload_n (pc := 38) dX12_row_38 rfl rfl rfl ?_
      refine V_iadd (pc := 39) dX12_row_39 rfl ?_
      refine V_istore (ls' := [some _, none, some _, some _, some _, some _, none, some _, some _, some _]) (pc := 40) dX12_row_40 (Nat.le_of_ble_eq_true rfl) rfl rfl ?_
      refine V_iload (pc := 42) dX12_row_42 rfl rfl ?_
      refine V_iload_n (pc := 44) dX12_row_44 rfl rfl rfl ?_
      refine V_iadd (pc := 45) dX12_row_45 rfl ?_
      refine V_istore (ls' := [some _, none, some _, some _, some _, some _, none, some _, some _, some _]) (pc := 46) dX12_row_46 (Nat.le_of_ble_eq_true rfl) rfl rfl ?_
      refine V_iload (pc := 48) dX12_row_48 rfl rfl ?_
      obtain ⟨b5, hb5, hf⟩ := bnd hf
      have KTb5 : b5 = true → V g mX12_row (d + 1) 0 0 n (RT tw dr sk tl ff) I L 93 [some (.ref 73), none, some (.int y2), some (.int y3), some (.int y4), some (.long y5), none, some (.int (y7 + y2)), some (.int (y8 + y3)), some (.int y9)] [] P := fun hc => by
        replace hf := (if_pos hc).symm.trans hf
        refine V_iinc (ls' := [some _, none, some _, some _, some _, some _, none, some _, some _, some _]) (pc := 93) dX12_row_93 rfl (Nat.le_of_ble_eq_true rfl) (congrArg _ ic_1) rfl rfl ?_
        refine V_goto (pc := 96) (tgt := 22) dX12_row_96 (by decide) ?_
        exact V_wk (ih _ _ _ _ _ _ _ _ _ _ hf K) ⟨rfl, ⟨rfl, ⟨rfl, ⟨rfl, ⟨rfl, ⟨rfl, ⟨rfl, ⟨rfl, trivial⟩⟩⟩⟩⟩⟩⟩⟩
      have KFb5 : ¬ b5 = true → V g mX12_row (d + 1) 0 0 n (RT tw dr sk tl ff) I L 76 [some (.ref 73), none, some (.int y2), some (.int y3), some (.int y4), some (.long y5), none, some (.int (y7 + y2)), some (.int (y8 + y3)), some (.int y9)] [] P := fun hc => by
        replace hf := (if_neg hc).symm.trans hf
        refine V_lload (pc := 76) dX12_row_76 rfl rfl ?_
        refine V_lconst (pc := 78) dX12_row_78 lc_1 rfl ?_
        refine V_iload (pc := 79) dX12_row_79 rfl rfl ?_
        refine V_aload_n (pc := 81) dX12_row_81 rfl rfl rfl ?_
        refine V_getI (pc := 82) dX12_row_82 flX12_90 rfl (by omega) (congrArg Prod.fst sh_73) rfl ?_
        refine V_imul (pc := 85) dX12_row_85 rfl ?_
        refine V_iload (pc := 86) dX12_row_86 rfl rfl ?_
        refine V_iadd (pc := 88) dX12_row_88 rfl ?_
        refine V_lshl (pc := 89) dX12_row_89 rfl ?_
        refine V_lor (pc := 90) dX12_row_90 rfl ?_
        let x6 : Int64 := (y5 ||| ((1 : Int64) <<< ((((y8 + y3) * (I 73 52)) + (y7 + y2)).toInt64 &&& 63)))
        refine V_lstore (ls' := [some _, none, some _, some _, some _, some _, none, some _, some _, some _]) (pc := 91) dX12_row_91 (Nat.le_of_ble_eq_true rfl) rfl rfl ?_
        refine V_iinc (ls' := [some _, none, some _, some _, some _, some _, none, some _, some _, some _]) (pc := 93) dX12_row_93 rfl (Nat.le_of_ble_eq_true rfl) (congrArg _ ic_1) rfl rfl ?_
        refine V_goto (pc := 96) (tgt := 22) dX12_row_96 (by decide) ?_
        exact V_wk (ih _ _ _ _ _ _ _ _ _ _ hf K) ⟨rfl, ⟨rfl, ⟨rfl, ⟨rfl, ⟨rfl, ⟨rfl, ⟨rfl, ⟨rfl, trivial⟩⟩⟩⟩⟩⟩⟩⟩
      refine V_if_lt (pc := 50) (tgt := 93) dX12_row_50 (by decide) rfl (fun hc => ?_) (fun hc => ?_)
      · replace hb5 := (if_pos hc).symm.trans hb5
        cases hb5
        exact KTb5 rfl
      · replace hb5 := (if_neg hc).symm.trans hb5
        refine V_iload (pc := 53) dX12_row_53 rfl rfl ?_
        refine V_aload_n (pc := 55) dX12_row_55 rfl rfl rfl ?_
        refine V_getI (pc := 56) dX12_row_56 flX12_90 rfl (by omega) (congrArg Prod.fst sh_73) rfl ?_
        refine V_icmp_ge (pc := 59) (tgt := 93) dX12_row_59 (by decide) rfl (fun hc => ?_) (fun hc => ?_)
        · replace hb5 := (if_pos hc).symm.trans hb5
          cases hb5
          exact KTb5 rfl
        · replace hb5 := (if_neg hc).symm.trans hb5
          refine V_iload (pc := 62) dX12_row_62 rfl rfl ?_
          refine V_if_lt (pc := 64) (tgt := 93) dX12_row_64 (by decide) rfl (fun hc => ?_) (fun hc => ?_)
          · replace hb5 := (if_pos hc).symm.trans hb5
            cases hb5
            exact KTb5 rfl
          · replace hb5 := (if_neg hc).symm.trans hb5
            refine V_iload (pc := 67) dX12_row_67 rfl rfl ?_
            refine V_aload_n (pc := 69) dX12_row_69 rfl rfl rfl ?_
            refine V_getI (pc := 70) dX12_row_70 flX12_93 rfl (by omega) (congrArg Prod.fst sh_73) rfl ?_
            refine V_icmp_ge (pc := 73) (tgt := 93) dX12_row_73 (by decide) rfl (fun hc => ?_) (fun hc => ?_)
            · replace hb5 := (if_pos hc).symm.trans hb5
              cases hb5
              exact KTb5 rfl
            · replace hb5 := (if_neg hc).symm.trans hb5
              cases hb5
              exact KFb5 (nbt rfl)
    refine V_icmp_ge (pc := 26) (tgt := 99) dX12_row_26 (by decide) rfl (fun hc => ?_) (fun hc => ?_)
    · replace hb4 := (if_pos hc).symm.trans hb4
      cases hb4
      exact KTb4 rfl
    · replace hb4 := (if_neg hc).symm.trans hb4
      refine V_iload (pc := 29) dX12_row_29 rfl rfl ?_
      refine V_bipush (pc := 31) dX12_row_31 bp_8 rfl ?_
      refine V_icmp_ge (pc := 33) (tgt := 99) dX12_row_33 (by decide) rfl (fun hc => ?_) (fun hc => ?_)
      · replace hb4 := (if_pos hc).symm.trans hb4
        cases hb4
        exact KTb4 rfl
      · replace hb4 := (if_neg hc).symm.trans hb4
        cases hb4
        exact KFb4 (nbt rfl)
noncomputable def fX12_row (v1 : Int32) (v2 : Int32) (v3 : Int32) (v4 : Int32) (I : HI) (L : HL) : Option (Int64) :=
  if (I 73 52) = 0 then none else
  let x2 : Int32 := (v1 - v1 / (I 73 52) * (I 73 52))
  if (I 73 52) = 0 then none else
  Option.bind (fX12_row_22 FUEL v2 v3 v4 (0 : Int64) x2 (v1 / (I 73 52)) (0 : Int32) I L) fun q7 =>
  some q7
set_option maxRecDepth 100000 in
set_option maxHeartbeats 4000000 in
theorem tX12_row {g : GG} {n d : Nat} {tw dr sk tl ff : Nat} (hG : RG tw dr sk tl ff) (hn : 116 ≤ n) {v1 : Int32} {v2 : Int32} {v3 : Int32} {v4 : Int32} {I : HI} {L : HL} {res : Int64} (hf : fX12_row v1 v2 v3 v4 I L = some res) : CT g mX12_row (d + 1) 0 0 n (RT tw dr sk tl ff) I L [.ref 73, .int v1, .int v2, .int v3, .int v4] (PoL n (RT tw dr sk tl ff) res I L) := by
  refine CT.of rfl (Nat.le_of_ble_eq_true rfl) ?_
  show V g mX12_row (d + 1) 0 0 n (RT tw dr sk tl ff) I L 0 [some (.ref 73), some (.int v1), some (.int v2), some (.int v3), some (.int v4)] [] (PoL n (RT tw dr sk tl ff) res I L)
  refine V_lconst (pc := 0) dX12_row_0 lc_0 rfl ?_
  refine V_lstore (ls' := [some _, some _, some _, some _, some _, some _, none]) (pc := 1) dX12_row_1 (Nat.le_of_ble_eq_true rfl) rfl rfl ?_
  refine V_iload_n (pc := 3) dX12_row_3 rfl rfl rfl ?_
  refine V_aload_n (pc := 4) dX12_row_4 rfl rfl rfl ?_
  refine V_getI (pc := 5) dX12_row_5 flX12_90 rfl (by omega) (congrArg Prod.fst sh_73) rfl ?_
  obtain ⟨hc1, hf⟩ := nif hf
  refine V_irem (pc := 8) dX12_row_8 hc1 rfl ?_
  let x2 : Int32 := (v1 - v1 / (I 73 52) * (I 73 52))
  refine V_istore (ls' := [some _, some _, some _, some _, some _, some _, none, some _]) (pc := 9) dX12_row_9 (Nat.le_of_ble_eq_true rfl) rfl rfl ?_
  refine V_iload_n (pc := 11) dX12_row_11 rfl rfl rfl ?_
  refine V_aload_n (pc := 12) dX12_row_12 rfl rfl rfl ?_
  refine V_getI (pc := 13) dX12_row_13 flX12_90 rfl (by omega) (congrArg Prod.fst sh_73) rfl ?_
  obtain ⟨hc3, hf⟩ := nif hf
  refine V_idiv (pc := 16) dX12_row_16 hc3 rfl ?_
  refine V_istore (ls' := [some _, some _, some _, some _, some _, some _, none, some _, some _]) (pc := 17) dX12_row_17 (Nat.le_of_ble_eq_true rfl) rfl rfl ?_
  refine V_iconst (pc := 19) dX12_row_19 ic_0 rfl ?_
  refine V_istore (ls' := [some _, some _, some _, some _, some _, some _, none, some _, some _, some _]) (pc := 20) dX12_row_20 (Nat.le_of_ble_eq_true rfl) rfl rfl ?_
  obtain ⟨q7, hq7, hf⟩ := bnd hf
  refine V_wk (lX12_row_22 hG hn FUEL _ _ _ _ _ _ _ _ _ _ hq7 ?_) ⟨rfl, ⟨rfl, ⟨rfl, ⟨rfl, ⟨rfl, ⟨rfl, ⟨rfl, ⟨rfl, trivial⟩⟩⟩⟩⟩⟩⟩⟩
  cases hf
  exact PoL_mk
/-! ShadowDoorsModel.toward -/
noncomputable def fX12_toward (v1 : Int32) (v2 : Int32) : Int32 :=
  if v2 ≤ v1 then
    if v1 ≤ v2 then
      (0 : Int32)
    else
      (-1 : Int32)
  else
    (1 : Int32)
set_option maxRecDepth 100000 in
set_option maxHeartbeats 4000000 in
theorem tX12_toward {g : GG} {n d : Nat} {r : HR}  {v1 : Int32} {v2 : Int32} {I : HI} {L : HL} {res : Int32} (hf : fX12_toward v1 v2 = res) : CT g mX12_toward (d + 1) 0 0 n r I L [.int v1, .int v2] (PoI n r res I L) := by
  refine CT.of rfl (Nat.le_of_ble_eq_true rfl) ?_
  show V g mX12_toward (d + 1) 0 0 n r I L 0 [some (.int v1), some (.int v2)] [] (PoI n r res I L)
  refine V_iload_n (pc := 0) dX12_toward_0 rfl rfl rfl ?_
  refine V_iload_n (pc := 1) dX12_toward_1 rfl rfl rfl ?_
  refine V_icmp_le (pc := 2) (tgt := 9) dX12_toward_2 (by decide) rfl (fun hc => ?_) (fun hc => ?_)
  · replace hf := (if_pos hc).symm.trans hf
    refine V_iload_n (pc := 9) dX12_toward_9 rfl rfl rfl ?_
    refine V_iload_n (pc := 10) dX12_toward_10 rfl rfl rfl ?_
    refine V_icmp_ge (pc := 11) (tgt := 18) dX12_toward_11 (by decide) rfl (fun hc => ?_) (fun hc => ?_)
    · replace hf := (if_pos hc).symm.trans hf
      refine V_iconst (pc := 18) dX12_toward_18 ic_0 rfl ?_
      cases hf
      exact V_iret (pc := 19) dX12_toward_19 rfl PoI_mk
    · replace hf := (if_neg hc).symm.trans hf
      refine V_iconst (pc := 14) dX12_toward_14 ic_m1 rfl ?_
      refine V_goto (pc := 15) (tgt := 19) dX12_toward_15 (by decide) ?_
      cases hf
      exact V_iret (pc := 19) dX12_toward_19 rfl PoI_mk
  · replace hf := (if_neg hc).symm.trans hf
    refine V_iconst (pc := 5) dX12_toward_5 ic_1 rfl ?_
    refine V_goto (pc := 6) (tgt := 19) dX12_toward_6 (by decide) ?_
    cases hf
    exact V_iret (pc := 19) dX12_toward_19 rfl PoI_mk
/-! ShadowDoorsModel.byLamp -/
noncomputable def fX12_byLamp_117 : Nat → Int32 → Int32 → Int32 → Int32 → HI → HL → Option (Int64)
  | 0, _, _, _, _, _, _ => none
  | fu + 1, y1, y7, y8, y9, I, L =>
    if inb y1 8 = true then
      if y9 = (I 91 y1.toNatClampNeg) then
        if inb y1 8 = true then
          if inb y1 8 = true then
            Option.bind (fX12_row (I 91 y1.toNatClampNeg) y7 y8 (I 92 y1.toNatClampNeg) I L) fun q21 =>
            some q21
          else none
        else none
      else
        if (b2i (fX12_has (L 73 44) y9)) = 0 then
          let x22 : Int32 := (y9 + (y7 + (y8 * (I 73 52))))
          fX12_byLamp_117 fu y1 y7 y8 x22 I L
        else
          some (0 : Int64)
    else none
set_option maxRecDepth 100000 in
set_option maxHeartbeats 4000000 in
theorem lX12_byLamp_117 {g : GG} {n d : Nat} {tw dr sk tl ff : Nat} (hG : RG tw dr sk tl ff) (hn : 116 ≤ n) {P : PP} : ∀ (fu : Nat) (y1 : Int32) (y7 : Int32) (y8 : Int32) (y9 : Int32) (I : HI) (L : HL) (res : Int64), fX12_byLamp_117 fu y1 y7 y8 y9 I L = some res → P (some (.long res)) n (RT tw dr sk tl ff) I L → V g mX12_byLamp (d + 2) 0 0 n (RT tw dr sk tl ff) I L 117 [some (.ref 73), some (.int y1), none, none, none, none, none, some (.int y7), some (.int y8), some (.int y9)] [] P := by
  intro fu
  induction fu with
  | zero => intro y1 y7 y8 y9 I L res hf; cases (show none = some res from hf)
  | succ fu ih =>
    intro y1 y7 y8 y9 I L res hf K
    refine V_iload (pc := 117) dX12_byLamp_117 rfl rfl ?_
    refine V_aload_n (pc := 119) dX12_byLamp_119 rfl rfl rfl ?_
    refine V_getR (pc := 120) dX12_byLamp_120 flX12_66 rfl (by omega) (congrArg Prod.fst sh_73) rt_73_33 rfl ?_
    refine V_iload_n (pc := 123) dX12_byLamp_123 rfl rfl rfl ?_
    obtain ⟨hc18, hf⟩ := pif hf
    refine V_iald (pc := 124) dX12_byLamp_124 (by omega) sh_91 hc18 rfl ?_
    refine V_icmp_eq (pc := 125) (tgt := 160) dX12_byLamp_125 (by decide) rfl (fun hc => ?_) (fun hc => ?_)
    · replace hf := (if_pos hc).symm.trans hf
      refine V_aload_n (pc := 160) dX12_byLamp_160 rfl rfl rfl ?_
      refine V_aload_n (pc := 161) dX12_byLamp_161 rfl rfl rfl ?_
      refine V_getR (pc := 162) dX12_byLamp_162 flX12_66 rfl (by omega) (congrArg Prod.fst sh_73) rt_73_33 rfl ?_
      refine V_iload_n (pc := 165) dX12_byLamp_165 rfl rfl rfl ?_
      obtain ⟨hc19, hf⟩ := pif hf
      refine V_iald (pc := 166) dX12_byLamp_166 (by omega) sh_91 hc19 rfl ?_
      refine V_iload (pc := 167) dX12_byLamp_167 rfl rfl ?_
      refine V_iload (pc := 169) dX12_byLamp_169 rfl rfl ?_
      refine V_aload_n (pc := 171) dX12_byLamp_171 rfl rfl rfl ?_
      refine V_getR (pc := 172) dX12_byLamp_172 flX12_69 rfl (by omega) (congrArg Prod.fst sh_73) rt_73_34 rfl ?_
      refine V_iload_n (pc := 175) dX12_byLamp_175 rfl rfl rfl ?_
      obtain ⟨hc20, hf⟩ := pif hf
      refine V_iald (pc := 176) dX12_byLamp_176 (by omega) sh_92 hc20 rfl ?_
      obtain ⟨q21, hq21, hf⟩ := bnd hf
      refine V_cVl (md' := mX12_row) (pc := 177) dX12_byLamp_177 mlX12_463 mVX12_row (tX12_row hG hn hq21) rfl (by omega) (congrArg Prod.fst sh_73) rfl (Nat.le_of_ble_eq_true rfl) rfl ?_
      cases hf
      exact V_lret (pc := 180) dX12_byLamp_180 rfl K
    · replace hf := (if_neg hc).symm.trans hf
      refine V_aload_n (pc := 128) dX12_byLamp_128 rfl rfl rfl ?_
      refine V_getL (pc := 129) dX12_byLamp_129 flX12_403 rfl (by omega) (congrArg Prod.fst sh_73) rfl ?_
      refine V_iload (pc := 132) dX12_byLamp_132 rfl rfl ?_
      refine V_cSz (md' := mX12_has) (pc := 134) dX12_byLamp_134 mlX12_330 mSX12_has (tX12_has rfl) rfl rfl (Nat.le_of_ble_eq_true rfl) rfl ?_
      refine V_if_eq (pc := 137) (tgt := 142) dX12_byLamp_137 (by decide) rfl (fun hc => ?_) (fun hc => ?_)
      · replace hf := (if_pos hc).symm.trans hf
        refine V_iload (pc := 142) dX12_byLamp_142 rfl rfl ?_
        refine V_iload (pc := 144) dX12_byLamp_144 rfl rfl ?_
        refine V_iload (pc := 146) dX12_byLamp_146 rfl rfl ?_
        refine V_aload_n (pc := 148) dX12_byLamp_148 rfl rfl rfl ?_
        refine V_getI (pc := 149) dX12_byLamp_149 flX12_90 rfl (by omega) (congrArg Prod.fst sh_73) rfl ?_
        refine V_imul (pc := 152) dX12_byLamp_152 rfl ?_
        refine V_iadd (pc := 153) dX12_byLamp_153 rfl ?_
        refine V_iadd (pc := 154) dX12_byLamp_154 rfl ?_
        let x22 : Int32 := (y9 + (y7 + (y8 * (I 73 52))))
        refine V_istore (ls' := [some _, some _, none, none, none, none, none, some _, some _, some _]) (pc := 155) dX12_byLamp_155 (Nat.le_of_ble_eq_true rfl) rfl rfl ?_
        refine V_goto (pc := 157) (tgt := 117) dX12_byLamp_157 (by decide) ?_
        exact V_wk (ih _ _ _ _ _ _ _ hf K) ⟨rfl, ⟨rfl, ⟨rfl, ⟨rfl, ⟨rfl, trivial⟩⟩⟩⟩⟩
      · replace hf := (if_neg hc).symm.trans hf
        refine V_lconst (pc := 140) dX12_byLamp_140 lc_0 rfl ?_
        cases hf
        exact V_lret (pc := 141) dX12_byLamp_141 rfl K
noncomputable def fX12_byLamp (v1 : Int32) (v2 : Int32) (I : HI) (L : HL) : Option (Int64) :=
  if inb v2 4 = true then
    if (I 73 52) = 0 then none else
    let x3 : Int32 := ((I 95 v2.toNatClampNeg) - (I 95 v2.toNatClampNeg) / (I 73 52) * (I 73 52))
    if inb v2 4 = true then
      if (I 73 52) = 0 then none else
      let x6 : Int32 := ((I 95 v2.toNatClampNeg) / (I 73 52))
      if inb v1 8 = true then
        if (I 73 52) = 0 then none else
        let x9 : Int32 := ((I 91 v1.toNatClampNeg) - (I 91 v1.toNatClampNeg) / (I 73 52) * (I 73 52))
        if inb v1 8 = true then
          if (I 73 52) = 0 then none else
          let x12 : Int32 := ((I 91 v1.toNatClampNeg) / (I 73 52))
          if inb v2 4 = true then
            if inb v1 8 = true then
              Option.bind (
                if (I 95 v2.toNatClampNeg) = (I 91 v1.toNatClampNeg) then
                  some true
                else
                  if x3 = x9 then
                    some false
                  else
                    if x6 = x12 then
                      some false
                    else
                      some true
              ) fun b15 =>
              if b15 = true then
                some (0 : Int64)
              else
                if inb v2 4 = true then
                  let x17 : Int32 := (((I 95 v2.toNatClampNeg) + (fX12_toward x3 x9)) + ((fX12_toward x6 x12) * (I 73 52)))
                  Option.bind (fX12_byLamp_117 FUEL v1 (fX12_toward x3 x9) (fX12_toward x6 x12) x17 I L) fun q23 =>
                  some q23
                else none
            else none
          else none
        else none
      else none
    else none
  else none
set_option maxRecDepth 100000 in
set_option maxHeartbeats 4000000 in
theorem tX12_byLamp {g : GG} {n d : Nat} {tw dr sk tl ff : Nat} (hG : RG tw dr sk tl ff) (hn : 116 ≤ n) {v1 : Int32} {v2 : Int32} {I : HI} {L : HL} {res : Int64} (hf : fX12_byLamp v1 v2 I L = some res) : CT g mX12_byLamp (d + 2) 0 0 n (RT tw dr sk tl ff) I L [.ref 73, .int v1, .int v2] (PoL n (RT tw dr sk tl ff) res I L) := by
  refine CT.of rfl (Nat.le_of_ble_eq_true rfl) ?_
  show V g mX12_byLamp (d + 2) 0 0 n (RT tw dr sk tl ff) I L 0 [some (.ref 73), some (.int v1), some (.int v2)] [] (PoL n (RT tw dr sk tl ff) res I L)
  refine V_aload_n (pc := 0) dX12_byLamp_0 rfl rfl rfl ?_
  refine V_getR (pc := 1) dX12_byLamp_1 flX12_78 rfl (by omega) (congrArg Prod.fst sh_73) rt_73_37 rfl ?_
  refine V_iload_n (pc := 4) dX12_byLamp_4 rfl rfl rfl ?_
  obtain ⟨hc1, hf⟩ := pif hf
  refine V_iald (pc := 5) dX12_byLamp_5 (by omega) sh_95 hc1 rfl ?_
  refine V_aload_n (pc := 6) dX12_byLamp_6 rfl rfl rfl ?_
  refine V_getI (pc := 7) dX12_byLamp_7 flX12_90 rfl (by omega) (congrArg Prod.fst sh_73) rfl ?_
  obtain ⟨hc2, hf⟩ := nif hf
  refine V_irem (pc := 10) dX12_byLamp_10 hc2 rfl ?_
  let x3 : Int32 := ((I 95 v2.toNatClampNeg) - (I 95 v2.toNatClampNeg) / (I 73 52) * (I 73 52))
  refine V_istore_n (ls' := [some _, some _, some _, some _]) (pc := 11) dX12_byLamp_11 rfl (Nat.le_of_ble_eq_true rfl) rfl rfl ?_
  refine V_aload_n (pc := 12) dX12_byLamp_12 rfl rfl rfl ?_
  refine V_getR (pc := 13) dX12_byLamp_13 flX12_78 rfl (by omega) (congrArg Prod.fst sh_73) rt_73_37 rfl ?_
  refine V_iload_n (pc := 16) dX12_byLamp_16 rfl rfl rfl ?_
  obtain ⟨hc4, hf⟩ := pif hf
  refine V_iald (pc := 17) dX12_byLamp_17 (by omega) sh_95 hc4 rfl ?_
  refine V_aload_n (pc := 18) dX12_byLamp_18 rfl rfl rfl ?_
  refine V_getI (pc := 19) dX12_byLamp_19 flX12_90 rfl (by omega) (congrArg Prod.fst sh_73) rfl ?_
  obtain ⟨hc5, hf⟩ := nif hf
  refine V_idiv (pc := 22) dX12_byLamp_22 hc5 rfl ?_
  let x6 : Int32 := ((I 95 v2.toNatClampNeg) / (I 73 52))
  refine V_istore (ls' := [some _, some _, some _, some _, some _]) (pc := 23) dX12_byLamp_23 (Nat.le_of_ble_eq_true rfl) rfl rfl ?_
  refine V_aload_n (pc := 25) dX12_byLamp_25 rfl rfl rfl ?_
  refine V_getR (pc := 26) dX12_byLamp_26 flX12_66 rfl (by omega) (congrArg Prod.fst sh_73) rt_73_33 rfl ?_
  refine V_iload_n (pc := 29) dX12_byLamp_29 rfl rfl rfl ?_
  obtain ⟨hc7, hf⟩ := pif hf
  refine V_iald (pc := 30) dX12_byLamp_30 (by omega) sh_91 hc7 rfl ?_
  refine V_aload_n (pc := 31) dX12_byLamp_31 rfl rfl rfl ?_
  refine V_getI (pc := 32) dX12_byLamp_32 flX12_90 rfl (by omega) (congrArg Prod.fst sh_73) rfl ?_
  obtain ⟨hc8, hf⟩ := nif hf
  refine V_irem (pc := 35) dX12_byLamp_35 hc8 rfl ?_
  let x9 : Int32 := ((I 91 v1.toNatClampNeg) - (I 91 v1.toNatClampNeg) / (I 73 52) * (I 73 52))
  refine V_istore (ls' := [some _, some _, some _, some _, some _, some _]) (pc := 36) dX12_byLamp_36 (Nat.le_of_ble_eq_true rfl) rfl rfl ?_
  refine V_aload_n (pc := 38) dX12_byLamp_38 rfl rfl rfl ?_
  refine V_getR (pc := 39) dX12_byLamp_39 flX12_66 rfl (by omega) (congrArg Prod.fst sh_73) rt_73_33 rfl ?_
  refine V_iload_n (pc := 42) dX12_byLamp_42 rfl rfl rfl ?_
  obtain ⟨hc10, hf⟩ := pif hf
  refine V_iald (pc := 43) dX12_byLamp_43 (by omega) sh_91 hc10 rfl ?_
  refine V_aload_n (pc := 44) dX12_byLamp_44 rfl rfl rfl ?_
  refine V_getI (pc := 45) dX12_byLamp_45 flX12_90 rfl (by omega) (congrArg Prod.fst sh_73) rfl ?_
  obtain ⟨hc11, hf⟩ := nif hf
  refine V_idiv (pc := 48) dX12_byLamp_48 hc11 rfl ?_
  let x12 : Int32 := ((I 91 v1.toNatClampNeg) / (I 73 52))
  refine V_istore (ls' := [some _, some _, some _, some _, some _, some _, some _]) (pc := 49) dX12_byLamp_49 (Nat.le_of_ble_eq_true rfl) rfl rfl ?_
  refine V_aload_n (pc := 51) dX12_byLamp_51 rfl rfl rfl ?_
  refine V_getR (pc := 52) dX12_byLamp_52 flX12_78 rfl (by omega) (congrArg Prod.fst sh_73) rt_73_37 rfl ?_
  refine V_iload_n (pc := 55) dX12_byLamp_55 rfl rfl rfl ?_
  obtain ⟨hc13, hf⟩ := pif hf
  refine V_iald (pc := 56) dX12_byLamp_56 (by omega) sh_95 hc13 rfl ?_
  refine V_aload_n (pc := 57) dX12_byLamp_57 rfl rfl rfl ?_
  refine V_getR (pc := 58) dX12_byLamp_58 flX12_66 rfl (by omega) (congrArg Prod.fst sh_73) rt_73_33 rfl ?_
  refine V_iload_n (pc := 61) dX12_byLamp_61 rfl rfl rfl ?_
  obtain ⟨hc14, hf⟩ := pif hf
  refine V_iald (pc := 62) dX12_byLamp_62 (by omega) sh_91 hc14 rfl ?_
  obtain ⟨b15, hb15, hf⟩ := bnd hf
  have KTb15 : b15 = true → V g mX12_byLamp (d + 2) 0 0 n (RT tw dr sk tl ff) I L 79 [some (.ref 73), some (.int v1), some (.int v2), some (.int x3), some (.int x6), some (.int x9), some (.int x12)] [] (PoL n (RT tw dr sk tl ff) res I L) := fun hc => by
    replace hf := (if_pos hc).symm.trans hf
    refine V_lconst (pc := 79) dX12_byLamp_79 lc_0 rfl ?_
    cases hf
    exact V_lret (pc := 80) dX12_byLamp_80 rfl PoL_mk
  have KFb15 : ¬ b15 = true → V g mX12_byLamp (d + 2) 0 0 n (RT tw dr sk tl ff) I L 81 [some (.ref 73), some (.int v1), some (.int v2), some (.int x3), some (.int x6), some (.int x9), some (.int x12)] [] (PoL n (RT tw dr sk tl ff) res I L) := fun hc => by
    replace hf := (if_neg hc).symm.trans hf
    refine V_iload_n (pc := 81) dX12_byLamp_81 rfl rfl rfl ?_
    refine V_iload (pc := 82) dX12_byLamp_82 rfl rfl ?_
    refine V_cSi (md' := mX12_toward) (pc := 84) dX12_byLamp_84 mlX12_460 mSX12_toward (tX12_toward rfl) rfl rfl (Nat.le_of_ble_eq_true rfl) rfl ?_
    refine V_istore (ls' := [some _, some _, some _, some _, some _, some _, some _, some _]) (pc := 87) dX12_byLamp_87 (Nat.le_of_ble_eq_true rfl) rfl rfl ?_
    refine V_iload (pc := 89) dX12_byLamp_89 rfl rfl ?_
    refine V_iload (pc := 91) dX12_byLamp_91 rfl rfl ?_
    refine V_cSi (md' := mX12_toward) (pc := 93) dX12_byLamp_93 mlX12_460 mSX12_toward (tX12_toward rfl) rfl rfl (Nat.le_of_ble_eq_true rfl) rfl ?_
    refine V_istore (ls' := [some _, some _, some _, some _, some _, some _, some _, some _, some _]) (pc := 96) dX12_byLamp_96 (Nat.le_of_ble_eq_true rfl) rfl rfl ?_
    refine V_aload_n (pc := 98) dX12_byLamp_98 rfl rfl rfl ?_
    refine V_getR (pc := 99) dX12_byLamp_99 flX12_78 rfl (by omega) (congrArg Prod.fst sh_73) rt_73_37 rfl ?_
    refine V_iload_n (pc := 102) dX12_byLamp_102 rfl rfl rfl ?_
    obtain ⟨hc16, hf⟩ := pif hf
    refine V_iald (pc := 103) dX12_byLamp_103 (by omega) sh_95 hc16 rfl ?_
    refine V_iload (pc := 104) dX12_byLamp_104 rfl rfl ?_
    refine V_iadd (pc := 106) dX12_byLamp_106 rfl ?_
    refine V_iload (pc := 107) dX12_byLamp_107 rfl rfl ?_
    refine V_aload_n (pc := 109) dX12_byLamp_109 rfl rfl rfl ?_
    refine V_getI (pc := 110) dX12_byLamp_110 flX12_90 rfl (by omega) (congrArg Prod.fst sh_73) rfl ?_
    refine V_imul (pc := 113) dX12_byLamp_113 rfl ?_
    refine V_iadd (pc := 114) dX12_byLamp_114 rfl ?_
    let x17 : Int32 := (((I 95 v2.toNatClampNeg) + (fX12_toward x3 x9)) + ((fX12_toward x6 x12) * (I 73 52)))
    refine V_istore (ls' := [some _, some _, some _, some _, some _, some _, some _, some _, some _, some _]) (pc := 115) dX12_byLamp_115 (Nat.le_of_ble_eq_true rfl) rfl rfl ?_
    obtain ⟨q23, hq23, hf⟩ := bnd hf
    refine V_wk (lX12_byLamp_117 hG hn FUEL _ _ _ _ _ _ _ hq23 ?_) ⟨rfl, ⟨rfl, ⟨rfl, ⟨rfl, ⟨rfl, trivial⟩⟩⟩⟩⟩
    cases hf
    exact PoL_mk
  refine V_icmp_eq (pc := 63) (tgt := 79) dX12_byLamp_63 (by decide) rfl (fun hc => ?_) (fun hc => ?_)
  · replace hb15 := (if_pos hc).symm.trans hb15
    cases hb15
    exact KTb15 rfl
  · replace hb15 := (if_neg hc).symm.trans hb15
    refine V_iload_n (pc := 66) dX12_byLamp_66 rfl rfl rfl ?_
    refine V_iload (pc := 67) dX12_byLamp_67 rfl rfl ?_
    refine V_icmp_eq (pc := 69) (tgt := 81) dX12_byLamp_69 (by decide) rfl (fun hc => ?_) (fun hc => ?_)
    · replace hb15 := (if_pos hc).symm.trans hb15
      cases hb15
      exact KFb15 (nbt rfl)
    · replace hb15 := (if_neg hc).symm.trans hb15
      refine V_iload (pc := 72) dX12_byLamp_72 rfl rfl ?_
      refine V_iload (pc := 74) dX12_byLamp_74 rfl rfl ?_
      refine V_icmp_eq (pc := 76) (tgt := 81) dX12_byLamp_76 (by decide) rfl (fun hc => ?_) (fun hc => ?_)
      · replace hb15 := (if_pos hc).symm.trans hb15
        cases hb15
        exact KFb15 (nbt rfl)
      · replace hb15 := (if_neg hc).symm.trans hb15
        cases hb15
        exact KTb15 rfl
/-! ShadowDoorsModel.capped -/
noncomputable def fX12_capped (v1 : Int32) : Int32 :=
  if v1 ≤ (8 : Int32) then
    if (-8 : Int32) ≤ v1 then
      v1
    else
      (-8 : Int32)
  else
    (8 : Int32)
set_option maxRecDepth 100000 in
set_option maxHeartbeats 4000000 in
theorem tX12_capped {g : GG} {n d : Nat} {r : HR}  {v1 : Int32} {I : HI} {L : HL} {res : Int32} (hf : fX12_capped v1 = res) : CT g mX12_capped (d + 1) 0 0 n r I L [.int v1] (PoI n r res I L) := by
  refine CT.of rfl (Nat.le_of_ble_eq_true rfl) ?_
  show V g mX12_capped (d + 1) 0 0 n r I L 0 [some (.int v1)] [] (PoI n r res I L)
  refine V_iload_n (pc := 0) dX12_capped_0 rfl rfl rfl ?_
  refine V_bipush (pc := 1) dX12_capped_1 bp_8 rfl ?_
  refine V_icmp_le (pc := 3) (tgt := 11) dX12_capped_3 (by decide) rfl (fun hc => ?_) (fun hc => ?_)
  · replace hf := (if_pos hc).symm.trans hf
    refine V_iload_n (pc := 11) dX12_capped_11 rfl rfl rfl ?_
    refine V_bipush (pc := 12) dX12_capped_12 bp_m8 rfl ?_
    refine V_icmp_ge (pc := 14) (tgt := 22) dX12_capped_14 (by decide) rfl (fun hc => ?_) (fun hc => ?_)
    · replace hf := (if_pos hc).symm.trans hf
      refine V_iload_n (pc := 22) dX12_capped_22 rfl rfl rfl ?_
      cases hf
      exact V_iret (pc := 23) dX12_capped_23 rfl PoI_mk
    · replace hf := (if_neg hc).symm.trans hf
      refine V_bipush (pc := 17) dX12_capped_17 bp_m8 rfl ?_
      refine V_goto (pc := 19) (tgt := 23) dX12_capped_19 (by decide) ?_
      cases hf
      exact V_iret (pc := 23) dX12_capped_23 rfl PoI_mk
  · replace hf := (if_neg hc).symm.trans hf
    refine V_bipush (pc := 6) dX12_capped_6 bp_8 rfl ?_
    refine V_goto (pc := 8) (tgt := 23) dX12_capped_8 (by decide) ?_
    cases hf
    exact V_iret (pc := 23) dX12_capped_23 rfl PoI_mk
/-! ShadowDoorsModel.shadowOf -/
noncomputable def fX12_shadowOf_71 : Nat → Int32 → Int64 → Int32 → HI → HL → Option (Int64)
  | 0, _, _, _, _, _ => none
  | fu + 1, y1, y3, y5, I, L =>
    if (I 73 56) ≤ y5 then
      some y3
    else
      Option.bind (fX12_isLit y5 I) fun q15 =>
      if (b2i q15) = 0 then
        fX12_shadowOf_71 fu y1 y3 (y5 + (1 : Int32)) I L
      else
        Option.bind (fX12_byLamp y1 y5 I L) fun q16 =>
        fX12_shadowOf_71 fu y1 (y3 ||| q16) (y5 + (1 : Int32)) I L
set_option maxRecDepth 100000 in
set_option maxHeartbeats 4000000 in
theorem lX12_shadowOf_71 {g : GG} {n d : Nat} {tw dr sk tl ff : Nat} (hG : RG tw dr sk tl ff) (hn : 116 ≤ n) {P : PP} : ∀ (fu : Nat) (y1 : Int32) (y3 : Int64) (y5 : Int32) (I : HI) (L : HL) (res : Int64), fX12_shadowOf_71 fu y1 y3 y5 I L = some res → P (some (.long res)) n (RT tw dr sk tl ff) I L → V g mX12_shadowOf (d + 4) 0 0 n (RT tw dr sk tl ff) I L 71 [some (.ref 73), some (.int y1), none, some (.long y3), none, some (.int y5)] [] P := by
  intro fu
  induction fu with
  | zero => intro y1 y3 y5 I L res hf; cases (show none = some res from hf)
  | succ fu ih =>
    intro y1 y3 y5 I L res hf K
    refine V_iload (pc := 71) dX12_shadowOf_71 rfl rfl ?_
    refine V_aload_n (pc := 73) dX12_shadowOf_73 rfl rfl rfl ?_
    refine V_getI (pc := 74) dX12_shadowOf_74 flX12_412 rfl (by omega) (congrArg Prod.fst sh_73) rfl ?_
    refine V_icmp_ge (pc := 77) (tgt := 105) dX12_shadowOf_77 (by decide) rfl (fun hc => ?_) (fun hc => ?_)
    · replace hf := (if_pos hc).symm.trans hf
      refine V_lload_n (pc := 105) dX12_shadowOf_105 rfl rfl rfl ?_
      cases hf
      exact V_lret (pc := 106) dX12_shadowOf_106 rfl K
    · replace hf := (if_neg hc).symm.trans hf
      refine V_aload_n (pc := 80) dX12_shadowOf_80 rfl rfl rfl ?_
      refine V_iload (pc := 81) dX12_shadowOf_81 rfl rfl ?_
      obtain ⟨q15, hq15, hf⟩ := bnd hf
      refine V_cVz (md' := mX12_isLit) (pc := 83) dX12_shadowOf_83 mlX12_473 mVX12_isLit (tX12_isLit hG hn hq15) rfl (by omega) (congrArg Prod.fst sh_73) rfl (Nat.le_of_ble_eq_true rfl) rfl ?_
      refine V_if_eq (pc := 86) (tgt := 99) dX12_shadowOf_86 (by decide) rfl (fun hc => ?_) (fun hc => ?_)
      · replace hf := (if_pos hc).symm.trans hf
        refine V_iinc (ls' := [some _, some _, none, some _, none, some _]) (pc := 99) dX12_shadowOf_99 rfl (Nat.le_of_ble_eq_true rfl) (congrArg _ ic_1) rfl rfl ?_
        refine V_goto (pc := 102) (tgt := 71) dX12_shadowOf_102 (by decide) ?_
        exact V_wk (ih _ _ _ _ _ _ hf K) ⟨rfl, ⟨rfl, ⟨rfl, ⟨rfl, trivial⟩⟩⟩⟩
      · replace hf := (if_neg hc).symm.trans hf
        refine V_lload_n (pc := 89) dX12_shadowOf_89 rfl rfl rfl ?_
        refine V_aload_n (pc := 90) dX12_shadowOf_90 rfl rfl rfl ?_
        refine V_iload_n (pc := 91) dX12_shadowOf_91 rfl rfl rfl ?_
        refine V_iload (pc := 92) dX12_shadowOf_92 rfl rfl ?_
        obtain ⟨q16, hq16, hf⟩ := bnd hf
        refine V_cVl (md' := mX12_byLamp) (pc := 94) dX12_shadowOf_94 mlX12_476 mVX12_byLamp (tX12_byLamp hG hn hq16) rfl (by omega) (congrArg Prod.fst sh_73) rfl (Nat.le_of_ble_eq_true rfl) rfl ?_
        refine V_lor (pc := 97) dX12_shadowOf_97 rfl ?_
        refine V_lstore_n (ls' := [some _, some _, none, some _, none, some _]) (pc := 98) dX12_shadowOf_98 rfl (Nat.le_of_ble_eq_true rfl) rfl rfl ?_
        refine V_iinc (ls' := [some _, some _, none, some _, none, some _]) (pc := 99) dX12_shadowOf_99 rfl (Nat.le_of_ble_eq_true rfl) (congrArg _ ic_1) rfl rfl ?_
        refine V_goto (pc := 102) (tgt := 71) dX12_shadowOf_102 (by decide) ?_
        exact V_wk (ih _ _ _ _ _ _ hf K) ⟨rfl, ⟨rfl, ⟨rfl, ⟨rfl, trivial⟩⟩⟩⟩
noncomputable def fX12_shadowOf (v1 : Int32) (I : HI) (L : HL) : Option (Int64 × HI) :=
  Option.bind (
    if (I 73 69) = 0 then
      if inb v1 8 = true then
        Option.bind (fX12_shadeOf (I 92 v1.toNatClampNeg) (I 73 64) (I 73 65) I) fun q5 =>
        some ((fX12_capped q5.1), q5.2)
      else none
    else
      some ((0 : Int32), I)
  ) fun q3 =>
  Option.bind (
    if q3.1 ≤ 0 then
      if inb v1 8 = true then
        Option.bind (fX12_row (q3.2 91 v1.toNatClampNeg) (-1 : Int32) (0 : Int32) (-q3.1) q3.2 L) fun q12 =>
        some q12
      else none
    else
      if inb v1 8 = true then
        Option.bind (fX12_row (q3.2 91 v1.toNatClampNeg) (1 : Int32) (0 : Int32) q3.1 q3.2 L) fun q14 =>
        some q14
      else none
  ) fun q10 =>
  Option.bind (fX12_shadowOf_71 FUEL v1 q10 (0 : Int32) q3.2 L) fun q17 =>
  some (q17, q3.2)
set_option maxRecDepth 100000 in
set_option maxHeartbeats 4000000 in
theorem tX12_shadowOf {g : GG} {n d : Nat} {tw dr sk tl ff : Nat} (hG : RG tw dr sk tl ff) (hn : 116 ≤ n) {v1 : Int32} {I : HI} {L : HL} {res : Int64 × HI} (hf : fX12_shadowOf v1 I L = some res) : CT g mX12_shadowOf (d + 4) 0 0 n (RT tw dr sk tl ff) I L [.ref 73, .int v1] (PoL n (RT tw dr sk tl ff) res.1 res.2 L) := by
  refine CT.of rfl (Nat.le_of_ble_eq_true rfl) ?_
  show V g mX12_shadowOf (d + 4) 0 0 n (RT tw dr sk tl ff) I L 0 [some (.ref 73), some (.int v1)] [] (PoL n (RT tw dr sk tl ff) res.1 res.2 L)
  refine V_aload_n (pc := 0) dX12_shadowOf_0 rfl rfl rfl ?_
  refine V_getI (pc := 1) dX12_shadowOf_1 flX12_455 rfl (by omega) (congrArg Prod.fst sh_73) rfl ?_
  obtain ⟨q3, hq3, hf⟩ := bnd hf
  have Kq3 : V g mX12_shadowOf (d + 4) 0 0 n (RT tw dr sk tl ff) q3.2 L 32 [some (.ref 73), some (.int v1)] [.int q3.1] (PoL n (RT tw dr sk tl ff) res.1 res.2 L) := by
    refine V_istore_n (ls' := [some _, some _, some _]) (pc := 32) dX12_shadowOf_32 rfl (Nat.le_of_ble_eq_true rfl) rfl rfl ?_
    refine V_iload_n (pc := 33) dX12_shadowOf_33 rfl rfl rfl ?_
    obtain ⟨q10, hq10, hf⟩ := bnd hf
    have Kq10 : V g mX12_shadowOf (d + 4) 0 0 n (RT tw dr sk tl ff) q3.2 L 67 [some (.ref 73), some (.int v1)] [.long q10] (PoL n (RT tw dr sk tl ff) res.1 res.2 L) := by
      refine V_lstore_n (ls' := [some _, some _, none, some _, none]) (pc := 67) dX12_shadowOf_67 rfl (Nat.le_of_ble_eq_true rfl) rfl rfl ?_
      refine V_iconst (pc := 68) dX12_shadowOf_68 ic_0 rfl ?_
      refine V_istore (ls' := [some _, some _, none, some _, none, some _]) (pc := 69) dX12_shadowOf_69 (Nat.le_of_ble_eq_true rfl) rfl rfl ?_
      obtain ⟨q17, hq17, hf⟩ := bnd hf
      refine V_wk (lX12_shadowOf_71 hG hn FUEL _ _ _ _ _ _ hq17 ?_) ⟨rfl, ⟨rfl, ⟨rfl, ⟨rfl, trivial⟩⟩⟩⟩
      cases hf
      exact PoL_mk
    refine V_if_le (pc := 34) (tgt := 53) dX12_shadowOf_34 (by decide) rfl (fun hc => ?_) (fun hc => ?_)
    · replace hq10 := (if_pos hc).symm.trans hq10
      refine V_aload_n (pc := 53) dX12_shadowOf_53 rfl rfl rfl ?_
      refine V_aload_n (pc := 54) dX12_shadowOf_54 rfl rfl rfl ?_
      refine V_getR (pc := 55) dX12_shadowOf_55 flX12_66 rfl (by omega) (congrArg Prod.fst sh_73) rt_73_33 rfl ?_
      refine V_iload_n (pc := 58) dX12_shadowOf_58 rfl rfl rfl ?_
      obtain ⟨hc11, hq10⟩ := pif hq10
      refine V_iald (pc := 59) dX12_shadowOf_59 (by omega) sh_91 hc11 rfl ?_
      refine V_iconst (pc := 60) dX12_shadowOf_60 ic_m1 rfl ?_
      refine V_iconst (pc := 61) dX12_shadowOf_61 ic_0 rfl ?_
      refine V_iload_n (pc := 62) dX12_shadowOf_62 rfl rfl rfl ?_
      refine V_ineg (pc := 63) dX12_shadowOf_63 rfl ?_
      obtain ⟨q12, hq12, hq10⟩ := bnd hq10
      refine V_cVl (md' := mX12_row) (pc := 64) dX12_shadowOf_64 mlX12_463 mVX12_row (tX12_row hG hn hq12) rfl (by omega) (congrArg Prod.fst sh_73) rfl (Nat.le_of_ble_eq_true rfl) rfl ?_
      cases hq10
      exact V_wk Kq10 ⟨rfl, ⟨rfl, trivial⟩⟩
    · replace hq10 := (if_neg hc).symm.trans hq10
      refine V_aload_n (pc := 37) dX12_shadowOf_37 rfl rfl rfl ?_
      refine V_aload_n (pc := 38) dX12_shadowOf_38 rfl rfl rfl ?_
      refine V_getR (pc := 39) dX12_shadowOf_39 flX12_66 rfl (by omega) (congrArg Prod.fst sh_73) rt_73_33 rfl ?_
      refine V_iload_n (pc := 42) dX12_shadowOf_42 rfl rfl rfl ?_
      obtain ⟨hc13, hq10⟩ := pif hq10
      refine V_iald (pc := 43) dX12_shadowOf_43 (by omega) sh_91 hc13 rfl ?_
      refine V_iconst (pc := 44) dX12_shadowOf_44 ic_1 rfl ?_
      refine V_iconst (pc := 45) dX12_shadowOf_45 ic_0 rfl ?_
      refine V_iload_n (pc := 46) dX12_shadowOf_46 rfl rfl rfl ?_
      obtain ⟨q14, hq14, hq10⟩ := bnd hq10
      refine V_cVl (md' := mX12_row) (pc := 47) dX12_shadowOf_47 mlX12_463 mVX12_row (tX12_row hG hn hq14) rfl (by omega) (congrArg Prod.fst sh_73) rfl (Nat.le_of_ble_eq_true rfl) rfl ?_
      refine V_goto (pc := 50) (tgt := 67) dX12_shadowOf_50 (by decide) ?_
      cases hq10
      exact V_wk Kq10 ⟨rfl, ⟨rfl, trivial⟩⟩
  refine V_if_eq (pc := 4) (tgt := 11) dX12_shadowOf_4 (by decide) rfl (fun hc => ?_) (fun hc => ?_)
  · replace hq3 := (if_pos hc).symm.trans hq3
    refine V_aload_n (pc := 11) dX12_shadowOf_11 rfl rfl rfl ?_
    refine V_aload_n (pc := 12) dX12_shadowOf_12 rfl rfl rfl ?_
    refine V_getR (pc := 13) dX12_shadowOf_13 flX12_69 rfl (by omega) (congrArg Prod.fst sh_73) rt_73_34 rfl ?_
    refine V_iload_n (pc := 16) dX12_shadowOf_16 rfl rfl rfl ?_
    obtain ⟨hc4, hq3⟩ := pif hq3
    refine V_iald (pc := 17) dX12_shadowOf_17 (by omega) sh_92 hc4 rfl ?_
    refine V_aload_n (pc := 18) dX12_shadowOf_18 rfl rfl rfl ?_
    refine V_getI (pc := 19) dX12_shadowOf_19 flX12_440 rfl (by omega) (congrArg Prod.fst sh_73) rfl ?_
    refine V_aload_n (pc := 22) dX12_shadowOf_22 rfl rfl rfl ?_
    refine V_getI (pc := 23) dX12_shadowOf_23 flX12_443 rfl (by omega) (congrArg Prod.fst sh_73) rfl ?_
    obtain ⟨q5, hq5, hq3⟩ := bnd hq3
    refine V_cVi (md' := mX12_shadeOf) (pc := 26) dX12_shadowOf_26 mlX12_467 mVX12_shadeOf (tX12_shadeOf hG hn hq5) rfl (by omega) (congrArg Prod.fst sh_73) rfl (Nat.le_of_ble_eq_true rfl) rfl ?_
    refine V_cSi (md' := mX12_capped) (pc := 29) dX12_shadowOf_29 mlX12_470 mSX12_capped (tX12_capped rfl) rfl rfl (Nat.le_of_ble_eq_true rfl) rfl ?_
    cases hq3
    exact V_wk Kq3 ⟨rfl, ⟨rfl, trivial⟩⟩
  · replace hq3 := (if_neg hc).symm.trans hq3
    refine V_iconst (pc := 7) dX12_shadowOf_7 ic_0 rfl ?_
    refine V_goto (pc := 8) (tgt := 32) dX12_shadowOf_8 (by decide) ?_
    cases hq3
    exact V_wk Kq3 ⟨rfl, ⟨rfl, trivial⟩⟩
/-! ShadowDoorsModel.layShadows -/
noncomputable def fX12_layShadows_2 : Nat → Int32 → HI → HL → Option (HI × HL)
  | 0, _, _, _ => none
  | fu + 1, y1, I, L =>
    if (I 73 55) ≤ y1 then
      some (I, L)
    else
      Option.bind (fX12_shadowOf y1 I L) fun q1 =>
      if inb y1 8 = true then
        let L3 : HL := up2 L 100 y1.toNatClampNeg q1.1
        fX12_layShadows_2 fu (y1 + (1 : Int32)) q1.2 L3
      else none
set_option maxRecDepth 100000 in
set_option maxHeartbeats 4000000 in
theorem lX12_layShadows_2 {g : GG} {n d : Nat} {tw dr sk tl ff : Nat} (hG : RG tw dr sk tl ff) (hn : 116 ≤ n) {P : PP} : ∀ (fu : Nat) (y1 : Int32) (I : HI) (L : HL) (res : HI × HL), fX12_layShadows_2 fu y1 I L = some res → P none n (RT tw dr sk tl ff) res.1 res.2 → V g mX12_layShadows (d + 5) 0 0 n (RT tw dr sk tl ff) I L 2 [some (.ref 73), some (.int y1)] [] P := by
  intro fu
  induction fu with
  | zero => intro y1 I L res hf; cases (show none = some res from hf)
  | succ fu ih =>
    intro y1 I L res hf K
    refine V_iload_n (pc := 2) dX12_layShadows_2 rfl rfl rfl ?_
    refine V_aload_n (pc := 3) dX12_layShadows_3 rfl rfl rfl ?_
    refine V_getI (pc := 4) dX12_layShadows_4 flX12_409 rfl (by omega) (congrArg Prod.fst sh_73) rfl ?_
    refine V_icmp_ge (pc := 7) (tgt := 27) dX12_layShadows_7 (by decide) rfl (fun hc => ?_) (fun hc => ?_)
    · replace hf := (if_pos hc).symm.trans hf
      cases hf
      exact V_vret (pc := 27) dX12_layShadows_27 rfl K
    · replace hf := (if_neg hc).symm.trans hf
      refine V_aload_n (pc := 10) dX12_layShadows_10 rfl rfl rfl ?_
      refine V_getR (pc := 11) dX12_layShadows_11 flX12_99 rfl (by omega) (congrArg Prod.fst sh_73) rt_73_70 rfl ?_
      refine V_iload_n (pc := 14) dX12_layShadows_14 rfl rfl rfl ?_
      refine V_aload_n (pc := 15) dX12_layShadows_15 rfl rfl rfl ?_
      refine V_iload_n (pc := 16) dX12_layShadows_16 rfl rfl rfl ?_
      obtain ⟨q1, hq1, hf⟩ := bnd hf
      refine V_cVl (md' := mX12_shadowOf) (pc := 17) dX12_layShadows_17 mlX12_480 mVX12_shadowOf (tX12_shadowOf hG hn hq1) rfl (by omega) (congrArg Prod.fst sh_73) rfl (Nat.le_of_ble_eq_true rfl) rfl ?_
      obtain ⟨hc2, hf⟩ := pif hf
      let L3 : HL := up2 L 100 y1.toNatClampNeg q1.1
      refine V_last (pc := 20) dX12_layShadows_20 (by omega) sh_100 hc2 rfl ?_
      refine V_iinc (ls' := [some _, some _]) (pc := 21) dX12_layShadows_21 rfl (Nat.le_of_ble_eq_true rfl) (congrArg _ ic_1) rfl rfl ?_
      refine V_goto (pc := 24) (tgt := 2) dX12_layShadows_24 (by decide) ?_
      exact V_wk (ih _ _ _ _ hf K) ⟨rfl, ⟨rfl, trivial⟩⟩
noncomputable def fX12_layShadows (I : HI) (L : HL) : Option (HI × HL) :=
  Option.bind (fX12_layShadows_2 FUEL (0 : Int32) I L) fun q4 =>
  some (q4.1, q4.2)
set_option maxRecDepth 100000 in
set_option maxHeartbeats 4000000 in
theorem tX12_layShadows {g : GG} {n d : Nat} {tw dr sk tl ff : Nat} (hG : RG tw dr sk tl ff) (hn : 116 ≤ n) {I : HI} {L : HL} {res : HI × HL} (hf : fX12_layShadows I L = some res) : CT g mX12_layShadows (d + 5) 0 0 n (RT tw dr sk tl ff) I L [.ref 73] (PoV n (RT tw dr sk tl ff) res.1 res.2) := by
  refine CT.of rfl (Nat.le_of_ble_eq_true rfl) ?_
  show V g mX12_layShadows (d + 5) 0 0 n (RT tw dr sk tl ff) I L 0 [some (.ref 73)] [] (PoV n (RT tw dr sk tl ff) res.1 res.2)
  refine V_iconst (pc := 0) dX12_layShadows_0 ic_0 rfl ?_
  refine V_istore_n (ls' := [some _, some _]) (pc := 1) dX12_layShadows_1 rfl (Nat.le_of_ble_eq_true rfl) rfl rfl ?_
  obtain ⟨q4, hq4, hf⟩ := bnd hf
  refine V_wk (lX12_layShadows_2 hG hn FUEL _ _ _ _ hq4 ?_) ⟨rfl, ⟨rfl, trivial⟩⟩
  cases hf
  exact PoV_mk
/-! ShadowDoorsModel.nextTo -/
noncomputable def fX12_nextTo (v1 : Int32) (I : HI) (L : HL) : Option (Int64) :=
  Option.bind (fX12_row v1 (1 : Int32) (0 : Int32) (1 : Int32) I L) fun q1 =>
  Option.bind (fX12_row v1 (-1 : Int32) (0 : Int32) (1 : Int32) I L) fun q2 =>
  Option.bind (fX12_row v1 (0 : Int32) (1 : Int32) (1 : Int32) I L) fun q3 =>
  Option.bind (fX12_row v1 (0 : Int32) (-1 : Int32) (1 : Int32) I L) fun q4 =>
  some (((q1 ||| q2) ||| q3) ||| q4)
set_option maxRecDepth 100000 in
set_option maxHeartbeats 4000000 in
theorem tX12_nextTo {g : GG} {n d : Nat} {tw dr sk tl ff : Nat} (hG : RG tw dr sk tl ff) (hn : 116 ≤ n) {v1 : Int32} {I : HI} {L : HL} {res : Int64} (hf : fX12_nextTo v1 I L = some res) : CT g mX12_nextTo (d + 2) 0 0 n (RT tw dr sk tl ff) I L [.ref 73, .int v1] (PoL n (RT tw dr sk tl ff) res I L) := by
  refine CT.of rfl (Nat.le_of_ble_eq_true rfl) ?_
  show V g mX12_nextTo (d + 2) 0 0 n (RT tw dr sk tl ff) I L 0 [some (.ref 73), some (.int v1)] [] (PoL n (RT tw dr sk tl ff) res I L)
  refine V_aload_n (pc := 0) dX12_nextTo_0 rfl rfl rfl ?_
  refine V_iload_n (pc := 1) dX12_nextTo_1 rfl rfl rfl ?_
  refine V_iconst (pc := 2) dX12_nextTo_2 ic_1 rfl ?_
  refine V_iconst (pc := 3) dX12_nextTo_3 ic_0 rfl ?_
  refine V_iconst (pc := 4) dX12_nextTo_4 ic_1 rfl ?_
  obtain ⟨q1, hq1, hf⟩ := bnd hf
  refine V_cVl (md' := mX12_row) (pc := 5) dX12_nextTo_5 mlX12_463 mVX12_row (tX12_row hG hn hq1) rfl (by omega) (congrArg Prod.fst sh_73) rfl (Nat.le_of_ble_eq_true rfl) rfl ?_
  refine V_aload_n (pc := 8) dX12_nextTo_8 rfl rfl rfl ?_
  refine V_iload_n (pc := 9) dX12_nextTo_9 rfl rfl rfl ?_
  refine V_iconst (pc := 10) dX12_nextTo_10 ic_m1 rfl ?_
  refine V_iconst (pc := 11) dX12_nextTo_11 ic_0 rfl ?_
  refine V_iconst (pc := 12) dX12_nextTo_12 ic_1 rfl ?_
  obtain ⟨q2, hq2, hf⟩ := bnd hf
  refine V_cVl (md' := mX12_row) (pc := 13) dX12_nextTo_13 mlX12_463 mVX12_row (tX12_row hG hn hq2) rfl (by omega) (congrArg Prod.fst sh_73) rfl (Nat.le_of_ble_eq_true rfl) rfl ?_
  refine V_lor (pc := 16) dX12_nextTo_16 rfl ?_
  refine V_aload_n (pc := 17) dX12_nextTo_17 rfl rfl rfl ?_
  refine V_iload_n (pc := 18) dX12_nextTo_18 rfl rfl rfl ?_
  refine V_iconst (pc := 19) dX12_nextTo_19 ic_0 rfl ?_
  refine V_iconst (pc := 20) dX12_nextTo_20 ic_1 rfl ?_
  refine V_iconst (pc := 21) dX12_nextTo_21 ic_1 rfl ?_
  obtain ⟨q3, hq3, hf⟩ := bnd hf
  refine V_cVl (md' := mX12_row) (pc := 22) dX12_nextTo_22 mlX12_463 mVX12_row (tX12_row hG hn hq3) rfl (by omega) (congrArg Prod.fst sh_73) rfl (Nat.le_of_ble_eq_true rfl) rfl ?_
  refine V_lor (pc := 25) dX12_nextTo_25 rfl ?_
  refine V_aload_n (pc := 26) dX12_nextTo_26 rfl rfl rfl ?_
  refine V_iload_n (pc := 27) dX12_nextTo_27 rfl rfl rfl ?_
  refine V_iconst (pc := 28) dX12_nextTo_28 ic_0 rfl ?_
  refine V_iconst (pc := 29) dX12_nextTo_29 ic_m1 rfl ?_
  refine V_iconst (pc := 30) dX12_nextTo_30 ic_1 rfl ?_
  obtain ⟨q4, hq4, hf⟩ := bnd hf
  refine V_cVl (md' := mX12_row) (pc := 31) dX12_nextTo_31 mlX12_463 mVX12_row (tX12_row hG hn hq4) rfl (by omega) (congrArg Prod.fst sh_73) rfl (Nat.le_of_ble_eq_true rfl) rfl ?_
  refine V_lor (pc := 34) dX12_nextTo_34 rfl ?_
  cases hf
  exact V_lret (pc := 35) dX12_nextTo_35 rfl PoL_mk
/-! ShadowDoorsModel.movesFrom -/
noncomputable def fX12_movesFrom_87 : Nat → Int32 → Int64 → Int32 → Int32 → HI → HL → Option (Int64)
  | 0, _, _, _, _, _, _ => none
  | fu + 1, y1, y2, y4, y5, I, L =>
    if (I 73 55) ≤ y5 then
      some y2
    else
      Option.bind (
        if y5 = y4 then
          some true
        else
          Option.bind (fX12_isOpen y5 I) fun q14 =>
          if (b2i q14) = 0 then
            some true
          else
            if inb y5 8 = true then
              if inb y4 8 = true then
                if ((L 100 y5.toNatClampNeg) &&& (L 100 y4.toNatClampNeg)) = (0 : Int64) then
                  some true
                else
                  some false
              else none
            else none
      ) fun b13 =>
      if b13 = true then
        fX12_movesFrom_87 fu y1 y2 y4 (y5 + (1 : Int32)) I L
      else
        if inb y5 8 = true then
          let x18 : Int64 := (y2 ||| ((1 : Int64) <<< ((I 91 y5.toNatClampNeg).toInt64 &&& 63)))
          fX12_movesFrom_87 fu y1 x18 y4 (y5 + (1 : Int32)) I L
        else none
set_option maxRecDepth 100000 in
set_option maxHeartbeats 4000000 in
theorem lX12_movesFrom_87 {g : GG} {n d : Nat} {tw dr sk tl ff : Nat} (hG : RG tw dr sk tl ff) (hn : 116 ≤ n) {P : PP} : ∀ (fu : Nat) (y1 : Int32) (y2 : Int64) (y4 : Int32) (y5 : Int32) (I : HI) (L : HL) (res : Int64), fX12_movesFrom_87 fu y1 y2 y4 y5 I L = some res → V g mX12_movesFrom (d + 3) 0 0 n (RT tw dr sk tl ff) I L 150 [some (.ref 73), some (.int y1), some (.long res), none, some (.int y4)] [] P → V g mX12_movesFrom (d + 3) 0 0 n (RT tw dr sk tl ff) I L 87 [some (.ref 73), some (.int y1), some (.long y2), none, some (.int y4), some (.int y5)] [] P := by
  intro fu
  induction fu with
  | zero => intro y1 y2 y4 y5 I L res hf; cases (show none = some res from hf)
  | succ fu ih =>
    intro y1 y2 y4 y5 I L res hf K
    refine V_iload (pc := 87) dX12_movesFrom_87 rfl rfl ?_
    refine V_aload_n (pc := 89) dX12_movesFrom_89 rfl rfl rfl ?_
    refine V_getI (pc := 90) dX12_movesFrom_90 flX12_409 rfl (by omega) (congrArg Prod.fst sh_73) rfl ?_
    refine V_icmp_ge (pc := 93) (tgt := 150) dX12_movesFrom_93 (by decide) rfl (fun hc => ?_) (fun hc => ?_)
    · replace hf := (if_pos hc).symm.trans hf
      cases hf
      exact V_wk K ⟨rfl, ⟨rfl, ⟨rfl, ⟨rfl, trivial⟩⟩⟩⟩
    · replace hf := (if_neg hc).symm.trans hf
      refine V_iload (pc := 96) dX12_movesFrom_96 rfl rfl ?_
      refine V_iload (pc := 98) dX12_movesFrom_98 rfl rfl ?_
      obtain ⟨b13, hb13, hf⟩ := bnd hf
      have KTb13 : b13 = true → V g mX12_movesFrom (d + 3) 0 0 n (RT tw dr sk tl ff) I L 144 [some (.ref 73), some (.int y1), some (.long y2), none, some (.int y4), some (.int y5)] [] P := fun hc => by
        replace hf := (if_pos hc).symm.trans hf
        refine V_iinc (ls' := [some _, some _, some _, none, some _, some _]) (pc := 144) dX12_movesFrom_144 rfl (Nat.le_of_ble_eq_true rfl) (congrArg _ ic_1) rfl rfl ?_
        refine V_goto (pc := 147) (tgt := 87) dX12_movesFrom_147 (by decide) ?_
        exact V_wk (ih _ _ _ _ _ _ _ hf K) ⟨rfl, ⟨rfl, ⟨rfl, ⟨rfl, ⟨rfl, trivial⟩⟩⟩⟩⟩
      have KFb13 : ¬ b13 = true → V g mX12_movesFrom (d + 3) 0 0 n (RT tw dr sk tl ff) I L 132 [some (.ref 73), some (.int y1), some (.long y2), none, some (.int y4), some (.int y5)] [] P := fun hc => by
        replace hf := (if_neg hc).symm.trans hf
        refine V_lload_n (pc := 132) dX12_movesFrom_132 rfl rfl rfl ?_
        refine V_lconst (pc := 133) dX12_movesFrom_133 lc_1 rfl ?_
        refine V_aload_n (pc := 134) dX12_movesFrom_134 rfl rfl rfl ?_
        refine V_getR (pc := 135) dX12_movesFrom_135 flX12_66 rfl (by omega) (congrArg Prod.fst sh_73) rt_73_33 rfl ?_
        refine V_iload (pc := 138) dX12_movesFrom_138 rfl rfl ?_
        obtain ⟨hc17, hf⟩ := pif hf
        refine V_iald (pc := 140) dX12_movesFrom_140 (by omega) sh_91 hc17 rfl ?_
        refine V_lshl (pc := 141) dX12_movesFrom_141 rfl ?_
        refine V_lor (pc := 142) dX12_movesFrom_142 rfl ?_
        let x18 : Int64 := (y2 ||| ((1 : Int64) <<< ((I 91 y5.toNatClampNeg).toInt64 &&& 63)))
        refine V_lstore_n (ls' := [some _, some _, some _, none, some _, some _]) (pc := 143) dX12_movesFrom_143 rfl (Nat.le_of_ble_eq_true rfl) rfl rfl ?_
        refine V_iinc (ls' := [some _, some _, some _, none, some _, some _]) (pc := 144) dX12_movesFrom_144 rfl (Nat.le_of_ble_eq_true rfl) (congrArg _ ic_1) rfl rfl ?_
        refine V_goto (pc := 147) (tgt := 87) dX12_movesFrom_147 (by decide) ?_
        exact V_wk (ih _ _ _ _ _ _ _ hf K) ⟨rfl, ⟨rfl, ⟨rfl, ⟨rfl, ⟨rfl, trivial⟩⟩⟩⟩⟩
      refine V_icmp_eq (pc := 100) (tgt := 144) dX12_movesFrom_100 (by decide) rfl (fun hc => ?_) (fun hc => ?_)
      · replace hb13 := (if_pos hc).symm.trans hb13
        cases hb13
        exact KTb13 rfl
      · replace hb13 := (if_neg hc).symm.trans hb13
        refine V_aload_n (pc := 103) dX12_movesFrom_103 rfl rfl rfl ?_
        refine V_iload (pc := 104) dX12_movesFrom_104 rfl rfl ?_
        obtain ⟨q14, hq14, hb13⟩ := bnd hb13
        refine V_cVz (md' := mX12_isOpen) (pc := 106) dX12_movesFrom_106 mlX12_487 mVX12_isOpen (tX12_isOpen hG hn hq14) rfl (by omega) (congrArg Prod.fst sh_73) rfl (Nat.le_of_ble_eq_true rfl) rfl ?_
        refine V_if_eq (pc := 109) (tgt := 144) dX12_movesFrom_109 (by decide) rfl (fun hc => ?_) (fun hc => ?_)
        · replace hb13 := (if_pos hc).symm.trans hb13
          cases hb13
          exact KTb13 rfl
        · replace hb13 := (if_neg hc).symm.trans hb13
          refine V_aload_n (pc := 112) dX12_movesFrom_112 rfl rfl rfl ?_
          refine V_getR (pc := 113) dX12_movesFrom_113 flX12_99 rfl (by omega) (congrArg Prod.fst sh_73) rt_73_70 rfl ?_
          refine V_iload (pc := 116) dX12_movesFrom_116 rfl rfl ?_
          obtain ⟨hc15, hb13⟩ := pif hb13
          refine V_lald (pc := 118) dX12_movesFrom_118 (by omega) sh_100 hc15 rfl ?_
          refine V_aload_n (pc := 119) dX12_movesFrom_119 rfl rfl rfl ?_
          refine V_getR (pc := 120) dX12_movesFrom_120 flX12_99 rfl (by omega) (congrArg Prod.fst sh_73) rt_73_70 rfl ?_
          refine V_iload (pc := 123) dX12_movesFrom_123 rfl rfl ?_
          obtain ⟨hc16, hb13⟩ := pif hb13
          refine V_lald (pc := 125) dX12_movesFrom_125 (by omega) sh_100 hc16 rfl ?_
          refine V_land (pc := 126) dX12_movesFrom_126 rfl ?_
          refine V_lconst (pc := 127) dX12_movesFrom_127 lc_0 rfl ?_
          refine V_lc_eq (pc := 128) (tgt := 144) dX12_movesFrom_128 rfl dX12_movesFrom_129 (by decide) rfl (fun hc => ?_) (fun hc => ?_)
          · replace hb13 := (if_pos hc).symm.trans hb13
            cases hb13
            exact KTb13 rfl
          · replace hb13 := (if_neg hc).symm.trans hb13
            cases hb13
            exact KFb13 (nbt rfl)
noncomputable def fX12_movesFrom_13 : Nat → Int32 → Int64 → Int32 → HI → HL → Option (Int64)
  | 0, _, _, _, _, _ => none
  | fu + 1, y1, y2, y4, I, L =>
    if (I 73 55) ≤ y4 then
      some y2
    else
      Option.bind (fX12_isOpen y4 I) fun q3 =>
      if (b2i q3) = 0 then
        fX12_movesFrom_13 fu y1 y2 (y4 + (1 : Int32)) I L
      else
        if inb y4 8 = true then
          Option.bind (
            if (b2i (fX12_has (L 100 y4.toNatClampNeg) y1)) = 0 then
              some y2
            else
              if inb y4 8 = true then
                let x9 : Int64 := (y2 ||| ((1 : Int64) <<< ((I 91 y4.toNatClampNeg).toInt64 &&& 63)))
                some x9
              else none
          ) fun q7 =>
          if inb y4 8 = true then
            if (I 91 y4.toNatClampNeg) = y1 then
              if inb y4 8 = true then
                let x12 : Int64 := (q7 ||| (L 100 y4.toNatClampNeg))
                Option.bind (fX12_movesFrom_87 FUEL y1 x12 y4 (0 : Int32) I L) fun q19 =>
                fX12_movesFrom_13 fu y1 q19 (y4 + (1 : Int32)) I L
              else none
            else
              fX12_movesFrom_13 fu y1 q7 (y4 + (1 : Int32)) I L
          else none
        else none
set_option maxRecDepth 100000 in
set_option maxHeartbeats 4000000 in
theorem lX12_movesFrom_13 {g : GG} {n d : Nat} {tw dr sk tl ff : Nat} (hG : RG tw dr sk tl ff) (hn : 116 ≤ n) {P : PP} : ∀ (fu : Nat) (y1 : Int32) (y2 : Int64) (y4 : Int32) (I : HI) (L : HL) (res : Int64), fX12_movesFrom_13 fu y1 y2 y4 I L = some res → P (some (.long res)) n (RT tw dr sk tl ff) I L → V g mX12_movesFrom (d + 3) 0 0 n (RT tw dr sk tl ff) I L 13 [some (.ref 73), some (.int y1), some (.long y2), none, some (.int y4)] [] P := by
  intro fu
  induction fu with
  | zero => intro y1 y2 y4 I L res hf; cases (show none = some res from hf)
  | succ fu ih =>
    intro y1 y2 y4 I L res hf K
    refine V_iload (pc := 13) dX12_movesFrom_13 rfl rfl ?_
    refine V_aload_n (pc := 15) dX12_movesFrom_15 rfl rfl rfl ?_
    refine V_getI (pc := 16) dX12_movesFrom_16 flX12_409 rfl (by omega) (congrArg Prod.fst sh_73) rfl ?_
    refine V_icmp_ge (pc := 19) (tgt := 156) dX12_movesFrom_19 (by decide) rfl (fun hc => ?_) (fun hc => ?_)
    · replace hf := (if_pos hc).symm.trans hf
      refine V_lload_n (pc := 156) dX12_movesFrom_156 rfl rfl rfl ?_
      cases hf
      exact V_lret (pc := 157) dX12_movesFrom_157 rfl K
    · replace hf := (if_neg hc).symm.trans hf
      refine V_aload_n (pc := 22) dX12_movesFrom_22 rfl rfl rfl ?_
      refine V_iload (pc := 23) dX12_movesFrom_23 rfl rfl ?_
      obtain ⟨q3, hq3, hf⟩ := bnd hf
      refine V_cVz (md' := mX12_isOpen) (pc := 25) dX12_movesFrom_25 mlX12_487 mVX12_isOpen (tX12_isOpen hG hn hq3) rfl (by omega) (congrArg Prod.fst sh_73) rfl (Nat.le_of_ble_eq_true rfl) rfl ?_
      refine V_if_ne (pc := 28) (tgt := 34) dX12_movesFrom_28 (by decide) rfl (fun hc => ?_) (fun hc => ?_)
      · replace hf := (if_neg hc).symm.trans hf
        refine V_aload_n (pc := 34) dX12_movesFrom_34 rfl rfl rfl ?_
        refine V_getR (pc := 35) dX12_movesFrom_35 flX12_99 rfl (by omega) (congrArg Prod.fst sh_73) rt_73_70 rfl ?_
        refine V_iload (pc := 38) dX12_movesFrom_38 rfl rfl ?_
        obtain ⟨hc4, hf⟩ := pif hf
        refine V_lald (pc := 40) dX12_movesFrom_40 (by omega) sh_100 hc4 rfl ?_
        refine V_iload_n (pc := 41) dX12_movesFrom_41 rfl rfl rfl ?_
        refine V_cSz (md' := mX12_has) (pc := 42) dX12_movesFrom_42 mlX12_330 mSX12_has (tX12_has rfl) rfl rfl (Nat.le_of_ble_eq_true rfl) rfl ?_
        obtain ⟨q7, hq7, hf⟩ := bnd hf
        have Kq7 : V g mX12_movesFrom (d + 3) 0 0 n (RT tw dr sk tl ff) I L 60 [some (.ref 73), some (.int y1), some (.long q7), none, some (.int y4)] [] P := by
          refine V_aload_n (pc := 60) dX12_movesFrom_60 rfl rfl rfl ?_
          refine V_getR (pc := 61) dX12_movesFrom_61 flX12_66 rfl (by omega) (congrArg Prod.fst sh_73) rt_73_33 rfl ?_
          refine V_iload (pc := 64) dX12_movesFrom_64 rfl rfl ?_
          obtain ⟨hc10, hf⟩ := pif hf
          refine V_iald (pc := 66) dX12_movesFrom_66 (by omega) sh_91 hc10 rfl ?_
          refine V_iload_n (pc := 67) dX12_movesFrom_67 rfl rfl rfl ?_
          refine V_icmp_eq (pc := 68) (tgt := 74) dX12_movesFrom_68 (by decide) rfl (fun hc => ?_) (fun hc => ?_)
          · replace hf := (if_pos hc).symm.trans hf
            refine V_lload_n (pc := 74) dX12_movesFrom_74 rfl rfl rfl ?_
            refine V_aload_n (pc := 75) dX12_movesFrom_75 rfl rfl rfl ?_
            refine V_getR (pc := 76) dX12_movesFrom_76 flX12_99 rfl (by omega) (congrArg Prod.fst sh_73) rt_73_70 rfl ?_
            refine V_iload (pc := 79) dX12_movesFrom_79 rfl rfl ?_
            obtain ⟨hc11, hf⟩ := pif hf
            refine V_lald (pc := 81) dX12_movesFrom_81 (by omega) sh_100 hc11 rfl ?_
            refine V_lor (pc := 82) dX12_movesFrom_82 rfl ?_
            let x12 : Int64 := (q7 ||| (L 100 y4.toNatClampNeg))
            refine V_lstore_n (ls' := [some _, some _, some _, none, some _]) (pc := 83) dX12_movesFrom_83 rfl (Nat.le_of_ble_eq_true rfl) rfl rfl ?_
            refine V_iconst (pc := 84) dX12_movesFrom_84 ic_0 rfl ?_
            refine V_istore (ls' := [some _, some _, some _, none, some _, some _]) (pc := 85) dX12_movesFrom_85 (Nat.le_of_ble_eq_true rfl) rfl rfl ?_
            obtain ⟨q19, hq19, hf⟩ := bnd hf
            refine V_wk (lX12_movesFrom_87 hG hn FUEL _ _ _ _ _ _ _ hq19 ?_) ⟨rfl, ⟨rfl, ⟨rfl, ⟨rfl, ⟨rfl, trivial⟩⟩⟩⟩⟩
            refine V_iinc (ls' := [some _, some _, some _, none, some _]) (pc := 150) dX12_movesFrom_150 rfl (Nat.le_of_ble_eq_true rfl) (congrArg _ ic_1) rfl rfl ?_
            refine V_goto (pc := 153) (tgt := 13) dX12_movesFrom_153 (by decide) ?_
            exact V_wk (ih _ _ _ _ _ _ hf K) ⟨rfl, ⟨rfl, ⟨rfl, ⟨rfl, trivial⟩⟩⟩⟩
          · replace hf := (if_neg hc).symm.trans hf
            refine V_goto (pc := 71) (tgt := 150) dX12_movesFrom_71 (by decide) ?_
            refine V_iinc (ls' := [some _, some _, some _, none, some _]) (pc := 150) dX12_movesFrom_150 rfl (Nat.le_of_ble_eq_true rfl) (congrArg _ ic_1) rfl rfl ?_
            refine V_goto (pc := 153) (tgt := 13) dX12_movesFrom_153 (by decide) ?_
            exact V_wk (ih _ _ _ _ _ _ hf K) ⟨rfl, ⟨rfl, ⟨rfl, ⟨rfl, trivial⟩⟩⟩⟩
        refine V_if_eq (pc := 45) (tgt := 60) dX12_movesFrom_45 (by decide) rfl (fun hc => ?_) (fun hc => ?_)
        · replace hq7 := (if_pos hc).symm.trans hq7
          cases hq7
          exact V_wk Kq7 ⟨rfl, ⟨rfl, ⟨rfl, ⟨rfl, trivial⟩⟩⟩⟩
        · replace hq7 := (if_neg hc).symm.trans hq7
          refine V_lload_n (pc := 48) dX12_movesFrom_48 rfl rfl rfl ?_
          refine V_lconst (pc := 49) dX12_movesFrom_49 lc_1 rfl ?_
          refine V_aload_n (pc := 50) dX12_movesFrom_50 rfl rfl rfl ?_
          refine V_getR (pc := 51) dX12_movesFrom_51 flX12_66 rfl (by omega) (congrArg Prod.fst sh_73) rt_73_33 rfl ?_
          refine V_iload (pc := 54) dX12_movesFrom_54 rfl rfl ?_
          obtain ⟨hc8, hq7⟩ := pif hq7
          refine V_iald (pc := 56) dX12_movesFrom_56 (by omega) sh_91 hc8 rfl ?_
          refine V_lshl (pc := 57) dX12_movesFrom_57 rfl ?_
          refine V_lor (pc := 58) dX12_movesFrom_58 rfl ?_
          let x9 : Int64 := (y2 ||| ((1 : Int64) <<< ((I 91 y4.toNatClampNeg).toInt64 &&& 63)))
          refine V_lstore_n (ls' := [some _, some _, some _, none, some _]) (pc := 59) dX12_movesFrom_59 rfl (Nat.le_of_ble_eq_true rfl) rfl rfl ?_
          cases hq7
          exact V_wk Kq7 ⟨rfl, ⟨rfl, ⟨rfl, ⟨rfl, trivial⟩⟩⟩⟩
      · replace hf := (if_pos hc).symm.trans hf
        refine V_goto (pc := 31) (tgt := 150) dX12_movesFrom_31 (by decide) ?_
        refine V_iinc (ls' := [some _, some _, some _, none, some _]) (pc := 150) dX12_movesFrom_150 rfl (Nat.le_of_ble_eq_true rfl) (congrArg _ ic_1) rfl rfl ?_
        refine V_goto (pc := 153) (tgt := 13) dX12_movesFrom_153 (by decide) ?_
        exact V_wk (ih _ _ _ _ _ _ hf K) ⟨rfl, ⟨rfl, ⟨rfl, ⟨rfl, trivial⟩⟩⟩⟩
noncomputable def fX12_movesFrom (v1 : Int32) (I : HI) (L : HL) : Option (Int64) :=
  Option.bind (fX12_nextTo v1 I L) fun q1 =>
  let x2 : Int64 := (((1 : Int64) <<< (v1.toInt64 &&& 63)) ||| q1)
  Option.bind (fX12_movesFrom_13 FUEL v1 x2 (0 : Int32) I L) fun q20 =>
  some q20
set_option maxRecDepth 100000 in
set_option maxHeartbeats 4000000 in
theorem tX12_movesFrom {g : GG} {n d : Nat} {tw dr sk tl ff : Nat} (hG : RG tw dr sk tl ff) (hn : 116 ≤ n) {v1 : Int32} {I : HI} {L : HL} {res : Int64} (hf : fX12_movesFrom v1 I L = some res) : CT g mX12_movesFrom (d + 3) 0 0 n (RT tw dr sk tl ff) I L [.ref 73, .int v1] (PoL n (RT tw dr sk tl ff) res I L) := by
  refine CT.of rfl (Nat.le_of_ble_eq_true rfl) ?_
  show V g mX12_movesFrom (d + 3) 0 0 n (RT tw dr sk tl ff) I L 0 [some (.ref 73), some (.int v1)] [] (PoL n (RT tw dr sk tl ff) res I L)
  refine V_lconst (pc := 0) dX12_movesFrom_0 lc_1 rfl ?_
  refine V_iload_n (pc := 1) dX12_movesFrom_1 rfl rfl rfl ?_
  refine V_lshl (pc := 2) dX12_movesFrom_2 rfl ?_
  refine V_aload_n (pc := 3) dX12_movesFrom_3 rfl rfl rfl ?_
  refine V_iload_n (pc := 4) dX12_movesFrom_4 rfl rfl rfl ?_
  obtain ⟨q1, hq1, hf⟩ := bnd hf
  refine V_cVl (md' := mX12_nextTo) (pc := 5) dX12_movesFrom_5 mlX12_484 mVX12_nextTo (tX12_nextTo hG hn hq1) rfl (by omega) (congrArg Prod.fst sh_73) rfl (Nat.le_of_ble_eq_true rfl) rfl ?_
  refine V_lor (pc := 8) dX12_movesFrom_8 rfl ?_
  let x2 : Int64 := (((1 : Int64) <<< (v1.toInt64 &&& 63)) ||| q1)
  refine V_lstore_n (ls' := [some _, some _, some _, none]) (pc := 9) dX12_movesFrom_9 rfl (Nat.le_of_ble_eq_true rfl) rfl rfl ?_
  refine V_iconst (pc := 10) dX12_movesFrom_10 ic_0 rfl ?_
  refine V_istore (ls' := [some _, some _, some _, none, some _]) (pc := 11) dX12_movesFrom_11 (Nat.le_of_ble_eq_true rfl) rfl rfl ?_
  obtain ⟨q20, hq20, hf⟩ := bnd hf
  refine V_wk (lX12_movesFrom_13 hG hn FUEL _ _ _ _ _ _ hq20 ?_) ⟨rfl, ⟨rfl, ⟨rfl, ⟨rfl, trivial⟩⟩⟩⟩
  cases hf
  exact PoL_mk
/-! ShadowDoorsModel.layMoves -/
noncomputable def fX12_layMoves_6 : Nat → Int32 → Int32 → HI → HL → Option (HL)
  | 0, _, _, _, _ => none
  | fu + 1, y1, y2, I, L =>
    if ((I 73 52) * (I 73 53)) ≤ y2 then
      some L
    else
      if (b2i (fX12_has (L 73 44) y2)) = 0 then
        Option.bind (fX12_movesFrom y2 I L) fun q2 =>
        if inb (((64 : Int32) * y1) + y2) 3136 = true then
          let L4 : HL := up2 L 101 (((64 : Int32) * y1) + y2).toNatClampNeg q2
          fX12_layMoves_6 fu y1 (y2 + (1 : Int32)) I L4
        else none
      else
        if inb (((64 : Int32) * y1) + y2) 3136 = true then
          let L6 : HL := up2 L 101 (((64 : Int32) * y1) + y2).toNatClampNeg (0 : Int64)
          fX12_layMoves_6 fu y1 (y2 + (1 : Int32)) I L6
        else none
set_option maxRecDepth 100000 in
set_option maxHeartbeats 4000000 in
theorem lX12_layMoves_6 {g : GG} {n d : Nat} {tw dr sk tl ff : Nat} (hG : RG tw dr sk tl ff) (hn : 116 ≤ n) {P : PP} : ∀ (fu : Nat) (y1 : Int32) (y2 : Int32) (I : HI) (L : HL) (res : HL), fX12_layMoves_6 fu y1 y2 I L = some res → P none n (RT tw dr sk tl ff) I res → V g mX12_layMoves (d + 6) 0 0 n (RT tw dr sk tl ff) I L 6 [some (.ref 73), some (.int y1), some (.int y2)] [] P := by
  intro fu
  induction fu with
  | zero => intro y1 y2 I L res hf; cases (show none = some res from hf)
  | succ fu ih =>
    intro y1 y2 I L res hf K
    refine V_iload_n (pc := 6) dX12_layMoves_6 rfl rfl rfl ?_
    refine V_aload_n (pc := 7) dX12_layMoves_7 rfl rfl rfl ?_
    refine V_getI (pc := 8) dX12_layMoves_8 flX12_90 rfl (by omega) (congrArg Prod.fst sh_73) rfl ?_
    refine V_aload_n (pc := 11) dX12_layMoves_11 rfl rfl rfl ?_
    refine V_getI (pc := 12) dX12_layMoves_12 flX12_93 rfl (by omega) (congrArg Prod.fst sh_73) rfl ?_
    refine V_imul (pc := 15) dX12_layMoves_15 rfl ?_
    refine V_icmp_ge (pc := 16) (tgt := 56) dX12_layMoves_16 (by decide) rfl (fun hc => ?_) (fun hc => ?_)
    · replace hf := (if_pos hc).symm.trans hf
      cases hf
      exact V_vret (pc := 56) dX12_layMoves_56 rfl K
    · replace hf := (if_neg hc).symm.trans hf
      refine V_aload_n (pc := 19) dX12_layMoves_19 rfl rfl rfl ?_
      refine V_getR (pc := 20) dX12_layMoves_20 flX12_102 rfl (by omega) (congrArg Prod.fst sh_73) rt_73_71 rfl ?_
      refine V_bipush (pc := 23) dX12_layMoves_23 bp_64 rfl ?_
      refine V_iload_n (pc := 25) dX12_layMoves_25 rfl rfl rfl ?_
      refine V_imul (pc := 26) dX12_layMoves_26 rfl ?_
      refine V_iload_n (pc := 27) dX12_layMoves_27 rfl rfl rfl ?_
      refine V_iadd (pc := 28) dX12_layMoves_28 rfl ?_
      refine V_aload_n (pc := 29) dX12_layMoves_29 rfl rfl rfl ?_
      refine V_getL (pc := 30) dX12_layMoves_30 flX12_403 rfl (by omega) (congrArg Prod.fst sh_73) rfl ?_
      refine V_iload_n (pc := 33) dX12_layMoves_33 rfl rfl rfl ?_
      refine V_cSz (md' := mX12_has) (pc := 34) dX12_layMoves_34 mlX12_330 mSX12_has (tX12_has rfl) rfl rfl (Nat.le_of_ble_eq_true rfl) rfl ?_
      refine V_if_eq (pc := 37) (tgt := 44) dX12_layMoves_37 (by decide) rfl (fun hc => ?_) (fun hc => ?_)
      · replace hf := (if_pos hc).symm.trans hf
        refine V_aload_n (pc := 44) dX12_layMoves_44 rfl rfl rfl ?_
        refine V_iload_n (pc := 45) dX12_layMoves_45 rfl rfl rfl ?_
        obtain ⟨q2, hq2, hf⟩ := bnd hf
        refine V_cVl (md' := mX12_movesFrom) (pc := 46) dX12_layMoves_46 mlX12_493 mVX12_movesFrom (tX12_movesFrom hG hn hq2) rfl (by omega) (congrArg Prod.fst sh_73) rfl (Nat.le_of_ble_eq_true rfl) rfl ?_
        obtain ⟨hc3, hf⟩ := pif hf
        let L4 : HL := up2 L 101 (((64 : Int32) * y1) + y2).toNatClampNeg q2
        refine V_last (pc := 49) dX12_layMoves_49 (by omega) sh_101 hc3 rfl ?_
        refine V_iinc (ls' := [some _, some _, some _]) (pc := 50) dX12_layMoves_50 rfl (Nat.le_of_ble_eq_true rfl) (congrArg _ ic_1) rfl rfl ?_
        refine V_goto (pc := 53) (tgt := 6) dX12_layMoves_53 (by decide) ?_
        exact V_wk (ih _ _ _ _ _ hf K) ⟨rfl, ⟨rfl, ⟨rfl, trivial⟩⟩⟩
      · replace hf := (if_neg hc).symm.trans hf
        refine V_lconst (pc := 40) dX12_layMoves_40 lc_0 rfl ?_
        refine V_goto (pc := 41) (tgt := 49) dX12_layMoves_41 (by decide) ?_
        obtain ⟨hc5, hf⟩ := pif hf
        let L6 : HL := up2 L 101 (((64 : Int32) * y1) + y2).toNatClampNeg (0 : Int64)
        refine V_last (pc := 49) dX12_layMoves_49 (by omega) sh_101 hc5 rfl ?_
        refine V_iinc (ls' := [some _, some _, some _]) (pc := 50) dX12_layMoves_50 rfl (Nat.le_of_ble_eq_true rfl) (congrArg _ ic_1) rfl rfl ?_
        refine V_goto (pc := 53) (tgt := 6) dX12_layMoves_53 (by decide) ?_
        exact V_wk (ih _ _ _ _ _ hf K) ⟨rfl, ⟨rfl, ⟨rfl, trivial⟩⟩⟩
noncomputable def fX12_layMoves (v1 : Int32) (I : HI) (L : HL) : Option (HI × HL) :=
  Option.bind (fX12_layShadows  I L) fun q1 =>
  Option.bind (fX12_layMoves_6 FUEL v1 (0 : Int32) q1.1 q1.2) fun q7 =>
  some (q1.1, q7)
set_option maxRecDepth 100000 in
set_option maxHeartbeats 4000000 in
theorem tX12_layMoves {g : GG} {n d : Nat} {tw dr sk tl ff : Nat} (hG : RG tw dr sk tl ff) (hn : 116 ≤ n) {v1 : Int32} {I : HI} {L : HL} {res : HI × HL} (hf : fX12_layMoves v1 I L = some res) : CT g mX12_layMoves (d + 6) 0 0 n (RT tw dr sk tl ff) I L [.ref 73, .int v1] (PoV n (RT tw dr sk tl ff) res.1 res.2) := by
  refine CT.of rfl (Nat.le_of_ble_eq_true rfl) ?_
  show V g mX12_layMoves (d + 6) 0 0 n (RT tw dr sk tl ff) I L 0 [some (.ref 73), some (.int v1)] [] (PoV n (RT tw dr sk tl ff) res.1 res.2)
  refine V_aload_n (pc := 0) dX12_layMoves_0 rfl rfl rfl ?_
  obtain ⟨q1, hq1, hf⟩ := bnd hf
  refine V_cVv (md' := mX12_layShadows) (pc := 1) dX12_layMoves_1 mlX12_490 mVX12_layShadows (tX12_layShadows hG hn hq1) rfl (by omega) (congrArg Prod.fst sh_73) rfl (Nat.le_of_ble_eq_true rfl) rfl ?_
  refine V_iconst (pc := 4) dX12_layMoves_4 ic_0 rfl ?_
  refine V_istore_n (ls' := [some _, some _, some _]) (pc := 5) dX12_layMoves_5 rfl (Nat.le_of_ble_eq_true rfl) rfl rfl ?_
  obtain ⟨q7, hq7, hf⟩ := bnd hf
  refine V_wk (lX12_layMoves_6 hG hn FUEL _ _ _ _ _ hq7 ?_) ⟨rfl, ⟨rfl, ⟨rfl, trivial⟩⟩⟩
  cases hf
  exact PoV_mk
/-! ShadowDoorsModel.layHours -/
noncomputable def fX12_layHours_2 : Nat → Int32 → Int32 → Int32 → HI → HL → Option (HI × HL)
  | 0, _, _, _, _, _ => none
  | fu + 1, y1, y2, y3, I, L =>
    if y2 ≤ y3 then
      some (I, L)
    else
      obn (fX12_setHour (y1 + y3) I) fun q1 =>
      Option.bind (fX12_layMoves y3 q1 L) fun q2 =>
      fX12_layHours_2 fu y1 y2 (y3 + (1 : Int32)) q2.1 q2.2
set_option maxRecDepth 100000 in
set_option maxHeartbeats 4000000 in
theorem lX12_layHours_2 {g : GG} {n d : Nat} {tw dr sk tl ff : Nat} (hG : RG tw dr sk tl ff) (hn : 116 ≤ n) {P : PP} : ∀ (fu : Nat) (y1 : Int32) (y2 : Int32) (y3 : Int32) (I : HI) (L : HL) (res : HI × HL), fX12_layHours_2 fu y1 y2 y3 I L = some res → P none n (RT tw dr sk tl ff) res.1 res.2 → V g mX12_layHours (d + 7) 0 0 n (RT tw dr sk tl ff) I L 2 [some (.ref 73), some (.int y1), some (.int y2), some (.int y3)] [] P := by
  intro fu
  induction fu with
  | zero => intro y1 y2 y3 I L res hf; cases (show none = some res from hf)
  | succ fu ih =>
    intro y1 y2 y3 I L res hf K
    refine V_iload_n (pc := 2) dX12_layHours_2 rfl rfl rfl ?_
    refine V_iload_n (pc := 3) dX12_layHours_3 rfl rfl rfl ?_
    refine V_icmp_ge (pc := 4) (tgt := 25) dX12_layHours_4 (by decide) rfl (fun hc => ?_) (fun hc => ?_)
    · replace hf := (if_pos hc).symm.trans hf
      cases hf
      exact V_vret (pc := 25) dX12_layHours_25 rfl K
    · replace hf := (if_neg hc).symm.trans hf
      refine V_aload_n (pc := 7) dX12_layHours_7 rfl rfl rfl ?_
      refine V_iload_n (pc := 8) dX12_layHours_8 rfl rfl rfl ?_
      refine V_iload_n (pc := 9) dX12_layHours_9 rfl rfl rfl ?_
      refine V_iadd (pc := 10) dX12_layHours_10 rfl ?_
      obtain ⟨q1, hq1, hf⟩ := obd hf
      refine V_cVv (md' := mX12_setHour) (pc := 11) dX12_layHours_11 mlX12_496 mVX12_setHour (tX12_setHour hG hn hq1) rfl (by omega) (congrArg Prod.fst sh_73) rfl (Nat.le_of_ble_eq_true rfl) rfl ?_
      refine V_aload_n (pc := 14) dX12_layHours_14 rfl rfl rfl ?_
      refine V_iload_n (pc := 15) dX12_layHours_15 rfl rfl rfl ?_
      obtain ⟨q2, hq2, hf⟩ := bnd hf
      refine V_cVv (md' := mX12_layMoves) (pc := 16) dX12_layHours_16 mlX12_499 mVX12_layMoves (tX12_layMoves hG hn hq2) rfl (by omega) (congrArg Prod.fst sh_73) rfl (Nat.le_of_ble_eq_true rfl) rfl ?_
      refine V_iinc (ls' := [some _, some _, some _, some _]) (pc := 19) dX12_layHours_19 rfl (Nat.le_of_ble_eq_true rfl) (congrArg _ ic_1) rfl rfl ?_
      refine V_goto (pc := 22) (tgt := 2) dX12_layHours_22 (by decide) ?_
      exact V_wk (ih _ _ _ _ _ _ hf K) ⟨rfl, ⟨rfl, ⟨rfl, ⟨rfl, trivial⟩⟩⟩⟩
noncomputable def fX12_layHours (v1 : Int32) (v2 : Int32) (I : HI) (L : HL) : Option (HI × HL) :=
  Option.bind (fX12_layHours_2 FUEL v1 v2 (0 : Int32) I L) fun q3 =>
  some (q3.1, q3.2)
set_option maxRecDepth 100000 in
set_option maxHeartbeats 4000000 in
theorem tX12_layHours {g : GG} {n d : Nat} {tw dr sk tl ff : Nat} (hG : RG tw dr sk tl ff) (hn : 116 ≤ n) {v1 : Int32} {v2 : Int32} {I : HI} {L : HL} {res : HI × HL} (hf : fX12_layHours v1 v2 I L = some res) : CT g mX12_layHours (d + 7) 0 0 n (RT tw dr sk tl ff) I L [.ref 73, .int v1, .int v2] (PoV n (RT tw dr sk tl ff) res.1 res.2) := by
  refine CT.of rfl (Nat.le_of_ble_eq_true rfl) ?_
  show V g mX12_layHours (d + 7) 0 0 n (RT tw dr sk tl ff) I L 0 [some (.ref 73), some (.int v1), some (.int v2)] [] (PoV n (RT tw dr sk tl ff) res.1 res.2)
  refine V_iconst (pc := 0) dX12_layHours_0 ic_0 rfl ?_
  refine V_istore_n (ls' := [some _, some _, some _, some _]) (pc := 1) dX12_layHours_1 rfl (Nat.le_of_ble_eq_true rfl) rfl rfl ?_
  obtain ⟨q3, hq3, hf⟩ := bnd hf
  refine V_wk (lX12_layHours_2 hG hn FUEL _ _ _ _ _ _ hq3 ?_) ⟨rfl, ⟨rfl, ⟨rfl, ⟨rfl, trivial⟩⟩⟩⟩
  cases hf
  exact PoV_mk
/-! ShadowDoorsModel.goOn -/
noncomputable def fX12_goOn_6 : Nat → Int64 → Int32 → Int64 → Int32 → HI → HL → Option (Int64)
  | 0, _, _, _, _, _, _ => none
  | fu + 1, y1, y3, y4, y6, I, L =>
    if ((I 73 52) * (I 73 53)) ≤ y6 then
      some y4
    else
      if (b2i (fX12_has y1 y6)) = 0 then
        fX12_goOn_6 fu y1 y3 y4 (y6 + (1 : Int32)) I L
      else
        if inb (((64 : Int32) * y3) + y6) 3136 = true then
          let x2 : Int64 := (y4 ||| (L 101 (((64 : Int32) * y3) + y6).toNatClampNeg))
          fX12_goOn_6 fu y1 y3 x2 (y6 + (1 : Int32)) I L
        else none
set_option maxRecDepth 100000 in
set_option maxHeartbeats 4000000 in
theorem lX12_goOn_6 {g : GG} {n d : Nat} {tw dr sk tl ff : Nat} (hG : RG tw dr sk tl ff) (hn : 116 ≤ n) {P : PP} : ∀ (fu : Nat) (y1 : Int64) (y3 : Int32) (y4 : Int64) (y6 : Int32) (I : HI) (L : HL) (res : Int64), fX12_goOn_6 fu y1 y3 y4 y6 I L = some res → P (some (.long res)) n (RT tw dr sk tl ff) I L → V g mX12_goOn (d + 2) 0 0 n (RT tw dr sk tl ff) I L 6 [some (.ref 73), some (.long y1), none, some (.int y3), some (.long y4), none, some (.int y6)] [] P := by
  intro fu
  induction fu with
  | zero => intro y1 y3 y4 y6 I L res hf; cases (show none = some res from hf)
  | succ fu ih =>
    intro y1 y3 y4 y6 I L res hf K
    refine V_iload (pc := 6) dX12_goOn_6 rfl rfl ?_
    refine V_aload_n (pc := 8) dX12_goOn_8 rfl rfl rfl ?_
    refine V_getI (pc := 9) dX12_goOn_9 flX12_90 rfl (by omega) (congrArg Prod.fst sh_73) rfl ?_
    refine V_aload_n (pc := 12) dX12_goOn_12 rfl rfl rfl ?_
    refine V_getI (pc := 13) dX12_goOn_13 flX12_93 rfl (by omega) (congrArg Prod.fst sh_73) rfl ?_
    refine V_imul (pc := 16) dX12_goOn_16 rfl ?_
    refine V_icmp_ge (pc := 17) (tgt := 52) dX12_goOn_17 (by decide) rfl (fun hc => ?_) (fun hc => ?_)
    · replace hf := (if_pos hc).symm.trans hf
      refine V_lload (pc := 52) dX12_goOn_52 rfl rfl ?_
      cases hf
      exact V_lret (pc := 54) dX12_goOn_54 rfl K
    · replace hf := (if_neg hc).symm.trans hf
      refine V_lload_n (pc := 20) dX12_goOn_20 rfl rfl rfl ?_
      refine V_iload (pc := 21) dX12_goOn_21 rfl rfl ?_
      refine V_cSz (md' := mX12_has) (pc := 23) dX12_goOn_23 mlX12_330 mSX12_has (tX12_has rfl) rfl rfl (Nat.le_of_ble_eq_true rfl) rfl ?_
      refine V_if_eq (pc := 26) (tgt := 46) dX12_goOn_26 (by decide) rfl (fun hc => ?_) (fun hc => ?_)
      · replace hf := (if_pos hc).symm.trans hf
        refine V_iinc (ls' := [some _, some _, none, some _, some _, none, some _]) (pc := 46) dX12_goOn_46 rfl (Nat.le_of_ble_eq_true rfl) (congrArg _ ic_1) rfl rfl ?_
        refine V_goto (pc := 49) (tgt := 6) dX12_goOn_49 (by decide) ?_
        exact V_wk (ih _ _ _ _ _ _ _ hf K) ⟨rfl, ⟨rfl, ⟨rfl, ⟨rfl, ⟨rfl, trivial⟩⟩⟩⟩⟩
      · replace hf := (if_neg hc).symm.trans hf
        refine V_lload (pc := 29) dX12_goOn_29 rfl rfl ?_
        refine V_aload_n (pc := 31) dX12_goOn_31 rfl rfl rfl ?_
        refine V_getR (pc := 32) dX12_goOn_32 flX12_102 rfl (by omega) (congrArg Prod.fst sh_73) rt_73_71 rfl ?_
        refine V_bipush (pc := 35) dX12_goOn_35 bp_64 rfl ?_
        refine V_iload_n (pc := 37) dX12_goOn_37 rfl rfl rfl ?_
        refine V_imul (pc := 38) dX12_goOn_38 rfl ?_
        refine V_iload (pc := 39) dX12_goOn_39 rfl rfl ?_
        refine V_iadd (pc := 41) dX12_goOn_41 rfl ?_
        obtain ⟨hc1, hf⟩ := pif hf
        refine V_lald (pc := 42) dX12_goOn_42 (by omega) sh_101 hc1 rfl ?_
        refine V_lor (pc := 43) dX12_goOn_43 rfl ?_
        let x2 : Int64 := (y4 ||| (L 101 (((64 : Int32) * y3) + y6).toNatClampNeg))
        refine V_lstore (ls' := [some _, some _, none, some _, some _, none, some _]) (pc := 44) dX12_goOn_44 (Nat.le_of_ble_eq_true rfl) rfl rfl ?_
        refine V_iinc (ls' := [some _, some _, none, some _, some _, none, some _]) (pc := 46) dX12_goOn_46 rfl (Nat.le_of_ble_eq_true rfl) (congrArg _ ic_1) rfl rfl ?_
        refine V_goto (pc := 49) (tgt := 6) dX12_goOn_49 (by decide) ?_
        exact V_wk (ih _ _ _ _ _ _ _ hf K) ⟨rfl, ⟨rfl, ⟨rfl, ⟨rfl, ⟨rfl, trivial⟩⟩⟩⟩⟩
noncomputable def fX12_goOn (v1 : Int64) (v2 : Int32) (I : HI) (L : HL) : Option (Int64) :=
  Option.bind (fX12_goOn_6 FUEL v1 v2 (0 : Int64) (0 : Int32) I L) fun q3 =>
  some q3
set_option maxRecDepth 100000 in
set_option maxHeartbeats 4000000 in
theorem tX12_goOn {g : GG} {n d : Nat} {tw dr sk tl ff : Nat} (hG : RG tw dr sk tl ff) (hn : 116 ≤ n) {v1 : Int64} {v2 : Int32} {I : HI} {L : HL} {res : Int64} (hf : fX12_goOn v1 v2 I L = some res) : CT g mX12_goOn (d + 2) 0 0 n (RT tw dr sk tl ff) I L [.ref 73, .long v1, .int v2] (PoL n (RT tw dr sk tl ff) res I L) := by
  refine CT.of rfl (Nat.le_of_ble_eq_true rfl) ?_
  show V g mX12_goOn (d + 2) 0 0 n (RT tw dr sk tl ff) I L 0 [some (.ref 73), some (.long v1), none, some (.int v2)] [] (PoL n (RT tw dr sk tl ff) res I L)
  refine V_lconst (pc := 0) dX12_goOn_0 lc_0 rfl ?_
  refine V_lstore (ls' := [some _, some _, none, some _, some _, none]) (pc := 1) dX12_goOn_1 (Nat.le_of_ble_eq_true rfl) rfl rfl ?_
  refine V_iconst (pc := 3) dX12_goOn_3 ic_0 rfl ?_
  refine V_istore (ls' := [some _, some _, none, some _, some _, none, some _]) (pc := 4) dX12_goOn_4 (Nat.le_of_ble_eq_true rfl) rfl rfl ?_
  obtain ⟨q3, hq3, hf⟩ := bnd hf
  refine V_wk (lX12_goOn_6 hG hn FUEL _ _ _ _ _ _ _ hq3 ?_) ⟨rfl, ⟨rfl, ⟨rfl, ⟨rfl, ⟨rfl, trivial⟩⟩⟩⟩⟩
  cases hf
  exact PoL_mk
/-! ShadowDoorsModel.door -/
noncomputable def fX12_door (v1 : Int32) (v2 : Int32) (I : HI) : Option (Int32 × HI) :=
  if (b2i (fX12_isDoor v1 I)) = 0 then
    some ((-1 : Int32), I)
  else
    Option.bind (fX12_load (0 : Int32) I) fun q1 =>
    if v2 = (0 : Int32) then
      if inb v1 8 = true then
        some ((q1 91 v1.toNatClampNeg), q1)
      else none
    else
      if v2 = (1 : Int32) then
        if inb v1 8 = true then
          some ((q1 92 v1.toNatClampNeg), q1)
        else none
      else
        if v2 = (2 : Int32) then
          Option.bind (fX12_isOpen v1 q1) fun q7 =>
          some ((fX12_truth (b2i q7)), q1)
        else
          if v2 = (3 : Int32) then
            if inb (5 : Int32) 10 = true then
              some ((((q1 99 (5 : Int32).toNatClampNeg) >>> (v1 &&& 31)) &&& (1 : Int32)), q1)
            else none
          else
            some ((-1 : Int32), q1)
set_option maxRecDepth 100000 in
set_option maxHeartbeats 4000000 in
theorem tX12_door {g : GG} {n d : Nat} {tw dr sk tl ff : Nat} (hG : RG tw dr sk tl ff) (hn : 116 ≤ n) {v1 : Int32} {v2 : Int32} {I : HI} {L : HL} {res : Int32 × HI} (hf : fX12_door v1 v2 I = some res) : CT g mX12_door (d + 3) 0 0 n (RT tw dr sk tl ff) I L [.ref 73, .int v1, .int v2] (PoI n (RT tw dr sk tl ff) res.1 res.2 L) := by
  refine CT.of rfl (Nat.le_of_ble_eq_true rfl) ?_
  show V g mX12_door (d + 3) 0 0 n (RT tw dr sk tl ff) I L 0 [some (.ref 73), some (.int v1), some (.int v2)] [] (PoI n (RT tw dr sk tl ff) res.1 res.2 L)
  refine V_aload_n (pc := 0) dX12_door_0 rfl rfl rfl ?_
  refine V_iload_n (pc := 1) dX12_door_1 rfl rfl rfl ?_
  refine V_cVz (md' := mX12_isDoor) (pc := 2) dX12_door_2 mlX12_502 mVX12_isDoor (tX12_isDoor hG hn rfl) rfl (by omega) (congrArg Prod.fst sh_73) rfl (Nat.le_of_ble_eq_true rfl) rfl ?_
  refine V_if_ne (pc := 5) (tgt := 10) dX12_door_5 (by decide) rfl (fun hc => ?_) (fun hc => ?_)
  · replace hf := (if_neg hc).symm.trans hf
    refine V_aload_n (pc := 10) dX12_door_10 rfl rfl rfl ?_
    refine V_iconst (pc := 11) dX12_door_11 ic_0 rfl ?_
    obtain ⟨q1, hq1, hf⟩ := bnd hf
    refine V_cVv (md' := mX12_load) (pc := 12) dX12_door_12 mlX12_505 mVX12_load (tX12_load hG hn hq1) rfl (by omega) (congrArg Prod.fst sh_73) rfl (Nat.le_of_ble_eq_true rfl) rfl ?_
    refine V_iload_n (pc := 15) dX12_door_15 rfl rfl rfl ?_
    by_cases hc2 : v2 = (0 : Int32)
    · replace hf := (if_pos hc2).symm.trans hf
      refine V_tsIn (pc := 16) (tgt := 48) dX12_door_16 (by rw [hc2]; decide) (by rw [hc2]; decide) (by rw [hc2]; first | done | rfl) (by decide) ?_
      refine V_aload_n (pc := 48) dX12_door_48 rfl rfl rfl ?_
      refine V_getR (pc := 49) dX12_door_49 flX12_66 rfl (by omega) (congrArg Prod.fst sh_73) rt_73_33 rfl ?_
      refine V_iload_n (pc := 52) dX12_door_52 rfl rfl rfl ?_
      obtain ⟨hc3, hf⟩ := pif hf
      refine V_iald (pc := 53) dX12_door_53 (by omega) sh_91 hc3 rfl ?_
      cases hf
      exact V_iret (pc := 54) dX12_door_54 rfl PoI_mk
    · replace hf := (if_neg hc2).symm.trans hf
      by_cases hc4 : v2 = (1 : Int32)
      · replace hf := (if_pos hc4).symm.trans hf
        refine V_tsIn (pc := 16) (tgt := 55) dX12_door_16 (by rw [hc4]; decide) (by rw [hc4]; decide) (by rw [hc4]; first | done | rfl) (by decide) ?_
        refine V_aload_n (pc := 55) dX12_door_55 rfl rfl rfl ?_
        refine V_getR (pc := 56) dX12_door_56 flX12_69 rfl (by omega) (congrArg Prod.fst sh_73) rt_73_34 rfl ?_
        refine V_iload_n (pc := 59) dX12_door_59 rfl rfl rfl ?_
        obtain ⟨hc5, hf⟩ := pif hf
        refine V_iald (pc := 60) dX12_door_60 (by omega) sh_92 hc5 rfl ?_
        cases hf
        exact V_iret (pc := 61) dX12_door_61 rfl PoI_mk
      · replace hf := (if_neg hc4).symm.trans hf
        by_cases hc6 : v2 = (2 : Int32)
        · replace hf := (if_pos hc6).symm.trans hf
          refine V_tsIn (pc := 16) (tgt := 62) dX12_door_16 (by rw [hc6]; decide) (by rw [hc6]; decide) (by rw [hc6]; first | done | rfl) (by decide) ?_
          refine V_aload_n (pc := 62) dX12_door_62 rfl rfl rfl ?_
          refine V_iload_n (pc := 63) dX12_door_63 rfl rfl rfl ?_
          obtain ⟨q7, hq7, hf⟩ := bnd hf
          refine V_cVz (md' := mX12_isOpen) (pc := 64) dX12_door_64 mlX12_487 mVX12_isOpen (tX12_isOpen hG hn hq7) rfl (by omega) (congrArg Prod.fst sh_73) rfl (Nat.le_of_ble_eq_true rfl) rfl ?_
          refine V_cSi (md' := mX12_truth) (pc := 67) dX12_door_67 mlX12_313 mSX12_truth (tX12_truth rfl) rfl rfl (Nat.le_of_ble_eq_true rfl) rfl ?_
          cases hf
          exact V_iret (pc := 70) dX12_door_70 rfl PoI_mk
        · replace hf := (if_neg hc6).symm.trans hf
          by_cases hc8 : v2 = (3 : Int32)
          · replace hf := (if_pos hc8).symm.trans hf
            refine V_tsIn (pc := 16) (tgt := 71) dX12_door_16 (by rw [hc8]; decide) (by rw [hc8]; decide) (by rw [hc8]; first | done | rfl) (by decide) ?_
            refine V_aload_n (pc := 71) dX12_door_71 rfl rfl rfl ?_
            refine V_getR (pc := 72) dX12_door_72 flX12_96 rfl (by omega) (congrArg Prod.fst sh_73) rt_73_63 rfl ?_
            refine V_iconst (pc := 75) dX12_door_75 ic_5 rfl ?_
            obtain ⟨hc9, hf⟩ := pif hf
            refine V_iald (pc := 76) dX12_door_76 (by omega) sh_99 hc9 rfl ?_
            refine V_iload_n (pc := 77) dX12_door_77 rfl rfl rfl ?_
            refine V_ishr (pc := 78) dX12_door_78 rfl ?_
            refine V_iconst (pc := 79) dX12_door_79 ic_1 rfl ?_
            refine V_iand (pc := 80) dX12_door_80 rfl ?_
            cases hf
            exact V_iret (pc := 81) dX12_door_81 rfl PoI_mk
          · replace hf := (if_neg hc8).symm.trans hf
            have KD10 : V g mX12_door (d + 3) 0 0 n (RT tw dr sk tl ff) q1 L 82 [some (.ref 73), some (.int v1), some (.int v2)] [] (PoI n (RT tw dr sk tl ff) res.1 res.2 L) := by
              refine V_iconst (pc := 82) dX12_door_82 ic_m1 rfl ?_
              cases hf
              exact V_iret (pc := 83) dX12_door_83 rfl PoI_mk
            refine V_tsOut (pc := 16) (tgt := 82) dX12_door_16 (by have e0 := swn (k := (0 : Int32)) (z := 0) hc2 rfl; have e1 := swn (k := (1 : Int32)) (z := 1) hc4 rfl; have e2 := swn (k := (2 : Int32)) (z := 2) hc6 rfl; have e3 := swn (k := (3 : Int32)) (z := 3) hc8 rfl; omega) (by decide) KD10
  · replace hf := (if_pos hc).symm.trans hf
    refine V_iconst (pc := 8) dX12_door_8 ic_m1 rfl ?_
    cases hf
    exact V_iret (pc := 9) dX12_door_9 rfl PoI_mk
/-! ShadowDoorsModel.lamp -/
noncomputable def fX12_lamp (v1 : Int32) (v2 : Int32) (I : HI) : Option (Int32 × HI) :=
  if (b2i (fX12_isLamp v1 I)) = 0 then
    some ((-1 : Int32), I)
  else
    Option.bind (fX12_load (0 : Int32) I) fun q1 =>
    if v2 = 0 then
      if inb v1 4 = true then
        some ((q1 95 v1.toNatClampNeg), q1)
      else none
    else
      if v2 = (1 : Int32) then
        Option.bind (fX12_isLit v1 q1) fun q3 =>
        some ((fX12_truth (b2i q3)), q1)
      else
        if v2 = (2 : Int32) then
          if inb (6 : Int32) 10 = true then
            some ((((q1 99 (6 : Int32).toNatClampNeg) >>> (v1 &&& 31)) &&& (1 : Int32)), q1)
          else none
        else
          some ((-1 : Int32), q1)
set_option maxRecDepth 100000 in
set_option maxHeartbeats 4000000 in
theorem tX12_lamp {g : GG} {n d : Nat} {tw dr sk tl ff : Nat} (hG : RG tw dr sk tl ff) (hn : 116 ≤ n) {v1 : Int32} {v2 : Int32} {I : HI} {L : HL} {res : Int32 × HI} (hf : fX12_lamp v1 v2 I = some res) : CT g mX12_lamp (d + 3) 0 0 n (RT tw dr sk tl ff) I L [.ref 73, .int v1, .int v2] (PoI n (RT tw dr sk tl ff) res.1 res.2 L) := by
  refine CT.of rfl (Nat.le_of_ble_eq_true rfl) ?_
  show V g mX12_lamp (d + 3) 0 0 n (RT tw dr sk tl ff) I L 0 [some (.ref 73), some (.int v1), some (.int v2)] [] (PoI n (RT tw dr sk tl ff) res.1 res.2 L)
  refine V_aload_n (pc := 0) dX12_lamp_0 rfl rfl rfl ?_
  refine V_iload_n (pc := 1) dX12_lamp_1 rfl rfl rfl ?_
  refine V_cVz (md' := mX12_isLamp) (pc := 2) dX12_lamp_2 mlX12_508 mVX12_isLamp (tX12_isLamp hG hn rfl) rfl (by omega) (congrArg Prod.fst sh_73) rfl (Nat.le_of_ble_eq_true rfl) rfl ?_
  refine V_if_ne (pc := 5) (tgt := 10) dX12_lamp_5 (by decide) rfl (fun hc => ?_) (fun hc => ?_)
  · replace hf := (if_neg hc).symm.trans hf
    refine V_aload_n (pc := 10) dX12_lamp_10 rfl rfl rfl ?_
    refine V_iconst (pc := 11) dX12_lamp_11 ic_0 rfl ?_
    obtain ⟨q1, hq1, hf⟩ := bnd hf
    refine V_cVv (md' := mX12_load) (pc := 12) dX12_lamp_12 mlX12_505 mVX12_load (tX12_load hG hn hq1) rfl (by omega) (congrArg Prod.fst sh_73) rfl (Nat.le_of_ble_eq_true rfl) rfl ?_
    refine V_iload_n (pc := 15) dX12_lamp_15 rfl rfl rfl ?_
    refine V_if_ne (pc := 16) (tgt := 28) dX12_lamp_16 (by decide) rfl (fun hc => ?_) (fun hc => ?_)
    · replace hf := (if_neg hc).symm.trans hf
      refine V_iload_n (pc := 28) dX12_lamp_28 rfl rfl rfl ?_
      refine V_iconst (pc := 29) dX12_lamp_29 ic_1 rfl ?_
      refine V_icmp_ne (pc := 30) (tgt := 44) dX12_lamp_30 (by decide) rfl (fun hc => ?_) (fun hc => ?_)
      · replace hf := (if_neg hc).symm.trans hf
        refine V_iload_n (pc := 44) dX12_lamp_44 rfl rfl rfl ?_
        refine V_iconst (pc := 45) dX12_lamp_45 ic_2 rfl ?_
        refine V_icmp_ne (pc := 46) (tgt := 63) dX12_lamp_46 (by decide) rfl (fun hc => ?_) (fun hc => ?_)
        · replace hf := (if_neg hc).symm.trans hf
          refine V_iconst (pc := 63) dX12_lamp_63 ic_m1 rfl ?_
          cases hf
          exact V_iret (pc := 64) dX12_lamp_64 rfl PoI_mk
        · replace hf := (if_pos hc).symm.trans hf
          refine V_aload_n (pc := 49) dX12_lamp_49 rfl rfl rfl ?_
          refine V_getR (pc := 50) dX12_lamp_50 flX12_96 rfl (by omega) (congrArg Prod.fst sh_73) rt_73_63 rfl ?_
          refine V_bipush (pc := 53) dX12_lamp_53 bp_6 rfl ?_
          obtain ⟨hc2, hf⟩ := pif hf
          refine V_iald (pc := 55) dX12_lamp_55 (by omega) sh_99 hc2 rfl ?_
          refine V_iload_n (pc := 56) dX12_lamp_56 rfl rfl rfl ?_
          refine V_ishr (pc := 57) dX12_lamp_57 rfl ?_
          refine V_iconst (pc := 58) dX12_lamp_58 ic_1 rfl ?_
          refine V_iand (pc := 59) dX12_lamp_59 rfl ?_
          refine V_goto (pc := 60) (tgt := 64) dX12_lamp_60 (by decide) ?_
          cases hf
          exact V_iret (pc := 64) dX12_lamp_64 rfl PoI_mk
      · replace hf := (if_pos hc).symm.trans hf
        refine V_aload_n (pc := 33) dX12_lamp_33 rfl rfl rfl ?_
        refine V_iload_n (pc := 34) dX12_lamp_34 rfl rfl rfl ?_
        obtain ⟨q3, hq3, hf⟩ := bnd hf
        refine V_cVz (md' := mX12_isLit) (pc := 35) dX12_lamp_35 mlX12_473 mVX12_isLit (tX12_isLit hG hn hq3) rfl (by omega) (congrArg Prod.fst sh_73) rfl (Nat.le_of_ble_eq_true rfl) rfl ?_
        refine V_cSi (md' := mX12_truth) (pc := 38) dX12_lamp_38 mlX12_313 mSX12_truth (tX12_truth rfl) rfl rfl (Nat.le_of_ble_eq_true rfl) rfl ?_
        refine V_goto (pc := 41) (tgt := 64) dX12_lamp_41 (by decide) ?_
        cases hf
        exact V_iret (pc := 64) dX12_lamp_64 rfl PoI_mk
    · replace hf := (if_pos hc).symm.trans hf
      refine V_aload_n (pc := 19) dX12_lamp_19 rfl rfl rfl ?_
      refine V_getR (pc := 20) dX12_lamp_20 flX12_78 rfl (by omega) (congrArg Prod.fst sh_73) rt_73_37 rfl ?_
      refine V_iload_n (pc := 23) dX12_lamp_23 rfl rfl rfl ?_
      obtain ⟨hc4, hf⟩ := pif hf
      refine V_iald (pc := 24) dX12_lamp_24 (by omega) sh_95 hc4 rfl ?_
      refine V_goto (pc := 25) (tgt := 64) dX12_lamp_25 (by decide) ?_
      cases hf
      exact V_iret (pc := 64) dX12_lamp_64 rfl PoI_mk
  · replace hf := (if_pos hc).symm.trans hf
    refine V_iconst (pc := 8) dX12_lamp_8 ic_m1 rfl ?_
    cases hf
    exact V_iret (pc := 9) dX12_lamp_9 rfl PoI_mk
/-! ShadowDoorsModel.person -/
noncomputable def fX12_person (v1 : Int32) (v2 : Int32) (I : HI) : Option (Int32) :=
  if (b2i (fX12_isPerson v1 I)) = 0 then
    some (-1 : Int32)
  else
    if v2 = 0 then
      if inb v1 10 = true then
        some (I 99 v1.toNatClampNeg)
      else none
    else
      if v2 = (1 : Int32) then
        if inb (4 : Int32) 10 = true then
          some (((I 99 (4 : Int32).toNatClampNeg) >>> (v1 &&& 31)) &&& (1 : Int32))
        else none
      else
        some (-1 : Int32)
set_option maxRecDepth 100000 in
set_option maxHeartbeats 4000000 in
theorem tX12_person {g : GG} {n d : Nat} {tw dr sk tl ff : Nat} (hG : RG tw dr sk tl ff) (hn : 116 ≤ n) {v1 : Int32} {v2 : Int32} {I : HI} {L : HL} {res : Int32} (hf : fX12_person v1 v2 I = some res) : CT g mX12_person (d + 3) 0 0 n (RT tw dr sk tl ff) I L [.ref 73, .int v1, .int v2] (PoI n (RT tw dr sk tl ff) res I L) := by
  refine CT.of rfl (Nat.le_of_ble_eq_true rfl) ?_
  show V g mX12_person (d + 3) 0 0 n (RT tw dr sk tl ff) I L 0 [some (.ref 73), some (.int v1), some (.int v2)] [] (PoI n (RT tw dr sk tl ff) res I L)
  refine V_aload_n (pc := 0) dX12_person_0 rfl rfl rfl ?_
  refine V_iload_n (pc := 1) dX12_person_1 rfl rfl rfl ?_
  refine V_cVz (md' := mX12_isPerson) (pc := 2) dX12_person_2 mlX12_511 mVX12_isPerson (tX12_isPerson hG hn rfl) rfl (by omega) (congrArg Prod.fst sh_73) rfl (Nat.le_of_ble_eq_true rfl) rfl ?_
  refine V_if_ne (pc := 5) (tgt := 12) dX12_person_5 (by decide) rfl (fun hc => ?_) (fun hc => ?_)
  · replace hf := (if_neg hc).symm.trans hf
    refine V_iload_n (pc := 12) dX12_person_12 rfl rfl rfl ?_
    refine V_if_ne (pc := 13) (tgt := 25) dX12_person_13 (by decide) rfl (fun hc => ?_) (fun hc => ?_)
    · replace hf := (if_neg hc).symm.trans hf
      refine V_iload_n (pc := 25) dX12_person_25 rfl rfl rfl ?_
      refine V_iconst (pc := 26) dX12_person_26 ic_1 rfl ?_
      refine V_icmp_ne (pc := 27) (tgt := 43) dX12_person_27 (by decide) rfl (fun hc => ?_) (fun hc => ?_)
      · replace hf := (if_neg hc).symm.trans hf
        refine V_iconst (pc := 43) dX12_person_43 ic_m1 rfl ?_
        cases hf
        exact V_iret (pc := 44) dX12_person_44 rfl PoI_mk
      · replace hf := (if_pos hc).symm.trans hf
        refine V_aload_n (pc := 30) dX12_person_30 rfl rfl rfl ?_
        refine V_getR (pc := 31) dX12_person_31 flX12_96 rfl (by omega) (congrArg Prod.fst sh_73) rt_73_63 rfl ?_
        refine V_iconst (pc := 34) dX12_person_34 ic_4 rfl ?_
        obtain ⟨hc1, hf⟩ := pif hf
        refine V_iald (pc := 35) dX12_person_35 (by omega) sh_99 hc1 rfl ?_
        refine V_iload_n (pc := 36) dX12_person_36 rfl rfl rfl ?_
        refine V_ishr (pc := 37) dX12_person_37 rfl ?_
        refine V_iconst (pc := 38) dX12_person_38 ic_1 rfl ?_
        refine V_iand (pc := 39) dX12_person_39 rfl ?_
        refine V_goto (pc := 40) (tgt := 44) dX12_person_40 (by decide) ?_
        cases hf
        exact V_iret (pc := 44) dX12_person_44 rfl PoI_mk
    · replace hf := (if_pos hc).symm.trans hf
      refine V_aload_n (pc := 16) dX12_person_16 rfl rfl rfl ?_
      refine V_getR (pc := 17) dX12_person_17 flX12_96 rfl (by omega) (congrArg Prod.fst sh_73) rt_73_63 rfl ?_
      refine V_iload_n (pc := 20) dX12_person_20 rfl rfl rfl ?_
      obtain ⟨hc2, hf⟩ := pif hf
      refine V_iald (pc := 21) dX12_person_21 (by omega) sh_99 hc2 rfl ?_
      refine V_goto (pc := 22) (tgt := 44) dX12_person_22 (by decide) ?_
      cases hf
      exact V_iret (pc := 44) dX12_person_44 rfl PoI_mk
  · replace hf := (if_pos hc).symm.trans hf
    refine V_iconst (pc := 8) dX12_person_8 ic_m1 rfl ?_
    refine V_goto (pc := 9) (tgt := 44) dX12_person_9 (by decide) ?_
    cases hf
    exact V_iret (pc := 44) dX12_person_44 rfl PoI_mk
/-! ShadowDoorsModel.shade -/
noncomputable def fX12_shade (v1 : Int32) (v2 : Int32) (I : HI) : Option (Int32 × HI) :=
  Option.bind (
    if (b2i (fX12_isDoor v1 I)) = 0 then
      some true
    else
      if (b2i (fX12_isFar v2)) = 0 then
        some true
      else
        some false
  ) fun b1 =>
  if b1 = true then
    some ((-1000000 : Int32), I)
  else
    Option.bind (fX12_load v2 I) fun q2 =>
    if inb v1 8 = true then
      Option.bind (fX12_shadeOf (q2 92 v1.toNatClampNeg) (q2 73 64) (q2 73 65) q2) fun q4 =>
      some (q4.1, q4.2)
    else none
set_option maxRecDepth 100000 in
set_option maxHeartbeats 4000000 in
theorem tX12_shade {g : GG} {n d : Nat} {tw dr sk tl ff : Nat} (hG : RG tw dr sk tl ff) (hn : 116 ≤ n) {v1 : Int32} {v2 : Int32} {I : HI} {L : HL} {res : Int32 × HI} (hf : fX12_shade v1 v2 I = some res) : CT g mX12_shade (d + 4) 0 0 n (RT tw dr sk tl ff) I L [.ref 73, .int v1, .int v2] (PoI n (RT tw dr sk tl ff) res.1 res.2 L) := by
  refine CT.of rfl (Nat.le_of_ble_eq_true rfl) ?_
  show V g mX12_shade (d + 4) 0 0 n (RT tw dr sk tl ff) I L 0 [some (.ref 73), some (.int v1), some (.int v2)] [] (PoI n (RT tw dr sk tl ff) res.1 res.2 L)
  refine V_aload_n (pc := 0) dX12_shade_0 rfl rfl rfl ?_
  refine V_iload_n (pc := 1) dX12_shade_1 rfl rfl rfl ?_
  refine V_cVz (md' := mX12_isDoor) (pc := 2) dX12_shade_2 mlX12_502 mVX12_isDoor (tX12_isDoor hG hn rfl) rfl (by omega) (congrArg Prod.fst sh_73) rfl (Nat.le_of_ble_eq_true rfl) rfl ?_
  obtain ⟨b1, hb1, hf⟩ := bnd hf
  have KTb1 : b1 = true → V g mX12_shade (d + 4) 0 0 n (RT tw dr sk tl ff) I L 15 [some (.ref 73), some (.int v1), some (.int v2)] [] (PoI n (RT tw dr sk tl ff) res.1 res.2 L) := fun hc => by
    replace hf := (if_pos hc).symm.trans hf
    refine V_ldcw (pc := 15) dX12_shade_15 kcX12_517 rfl ?_
    cases hf
    exact V_iret (pc := 18) dX12_shade_18 rfl PoI_mk
  have KFb1 : ¬ b1 = true → V g mX12_shade (d + 4) 0 0 n (RT tw dr sk tl ff) I L 19 [some (.ref 73), some (.int v1), some (.int v2)] [] (PoI n (RT tw dr sk tl ff) res.1 res.2 L) := fun hc => by
    replace hf := (if_neg hc).symm.trans hf
    refine V_aload_n (pc := 19) dX12_shade_19 rfl rfl rfl ?_
    refine V_iload_n (pc := 20) dX12_shade_20 rfl rfl rfl ?_
    obtain ⟨q2, hq2, hf⟩ := bnd hf
    refine V_cVv (md' := mX12_load) (pc := 21) dX12_shade_21 mlX12_505 mVX12_load (tX12_load hG hn hq2) rfl (by omega) (congrArg Prod.fst sh_73) rfl (Nat.le_of_ble_eq_true rfl) rfl ?_
    refine V_aload_n (pc := 24) dX12_shade_24 rfl rfl rfl ?_
    refine V_aload_n (pc := 25) dX12_shade_25 rfl rfl rfl ?_
    refine V_getR (pc := 26) dX12_shade_26 flX12_69 rfl (by omega) (congrArg Prod.fst sh_73) rt_73_34 rfl ?_
    refine V_iload_n (pc := 29) dX12_shade_29 rfl rfl rfl ?_
    obtain ⟨hc3, hf⟩ := pif hf
    refine V_iald (pc := 30) dX12_shade_30 (by omega) sh_92 hc3 rfl ?_
    refine V_aload_n (pc := 31) dX12_shade_31 rfl rfl rfl ?_
    refine V_getI (pc := 32) dX12_shade_32 flX12_440 rfl (by omega) (congrArg Prod.fst sh_73) rfl ?_
    refine V_aload_n (pc := 35) dX12_shade_35 rfl rfl rfl ?_
    refine V_getI (pc := 36) dX12_shade_36 flX12_443 rfl (by omega) (congrArg Prod.fst sh_73) rfl ?_
    obtain ⟨q4, hq4, hf⟩ := bnd hf
    refine V_cVi (md' := mX12_shadeOf) (pc := 39) dX12_shade_39 mlX12_467 mVX12_shadeOf (tX12_shadeOf hG hn hq4) rfl (by omega) (congrArg Prod.fst sh_73) rfl (Nat.le_of_ble_eq_true rfl) rfl ?_
    cases hf
    exact V_iret (pc := 42) dX12_shade_42 rfl PoI_mk
  refine V_if_eq (pc := 5) (tgt := 15) dX12_shade_5 (by decide) rfl (fun hc => ?_) (fun hc => ?_)
  · replace hb1 := (if_pos hc).symm.trans hb1
    cases hb1
    exact KTb1 rfl
  · replace hb1 := (if_neg hc).symm.trans hb1
    refine V_iload_n (pc := 8) dX12_shade_8 rfl rfl rfl ?_
    refine V_cSz (md' := mX12_isFar) (pc := 9) dX12_shade_9 mlX12_514 mSX12_isFar (tX12_isFar rfl) rfl rfl (Nat.le_of_ble_eq_true rfl) rfl ?_
    refine V_if_ne (pc := 12) (tgt := 19) dX12_shade_12 (by decide) rfl (fun hc => ?_) (fun hc => ?_)
    · replace hb1 := (if_neg hc).symm.trans hb1
      cases hb1
      exact KFb1 (nbt rfl)
    · replace hb1 := (if_pos hc).symm.trans hb1
      cases hb1
      exact KTb1 rfl
/-! ShadowDoorsModel.shadow -/
noncomputable def fX12_shadow (v1 : Int32) (v2 : Int32) (I : HI) (L : HL) : Option (Int64 × HI) :=
  Option.bind (
    if (b2i (fX12_isDoor v1 I)) = 0 then
      some true
    else
      if (b2i (fX12_isFar v2)) = 0 then
        some true
      else
        some false
  ) fun b1 =>
  if b1 = true then
    some ((0 : Int64), I)
  else
    Option.bind (fX12_load v2 I) fun q2 =>
    Option.bind (fX12_shadowOf v1 q2 L) fun q3 =>
    some (q3.1, q3.2)
set_option maxRecDepth 100000 in
set_option maxHeartbeats 4000000 in
theorem tX12_shadow {g : GG} {n d : Nat} {tw dr sk tl ff : Nat} (hG : RG tw dr sk tl ff) (hn : 116 ≤ n) {v1 : Int32} {v2 : Int32} {I : HI} {L : HL} {res : Int64 × HI} (hf : fX12_shadow v1 v2 I L = some res) : CT g mX12_shadow (d + 5) 0 0 n (RT tw dr sk tl ff) I L [.ref 73, .int v1, .int v2] (PoL n (RT tw dr sk tl ff) res.1 res.2 L) := by
  refine CT.of rfl (Nat.le_of_ble_eq_true rfl) ?_
  show V g mX12_shadow (d + 5) 0 0 n (RT tw dr sk tl ff) I L 0 [some (.ref 73), some (.int v1), some (.int v2)] [] (PoL n (RT tw dr sk tl ff) res.1 res.2 L)
  refine V_aload_n (pc := 0) dX12_shadow_0 rfl rfl rfl ?_
  refine V_iload_n (pc := 1) dX12_shadow_1 rfl rfl rfl ?_
  refine V_cVz (md' := mX12_isDoor) (pc := 2) dX12_shadow_2 mlX12_502 mVX12_isDoor (tX12_isDoor hG hn rfl) rfl (by omega) (congrArg Prod.fst sh_73) rfl (Nat.le_of_ble_eq_true rfl) rfl ?_
  obtain ⟨b1, hb1, hf⟩ := bnd hf
  have KTb1 : b1 = true → V g mX12_shadow (d + 5) 0 0 n (RT tw dr sk tl ff) I L 15 [some (.ref 73), some (.int v1), some (.int v2)] [] (PoL n (RT tw dr sk tl ff) res.1 res.2 L) := fun hc => by
    replace hf := (if_pos hc).symm.trans hf
    refine V_lconst (pc := 15) dX12_shadow_15 lc_0 rfl ?_
    cases hf
    exact V_lret (pc := 16) dX12_shadow_16 rfl PoL_mk
  have KFb1 : ¬ b1 = true → V g mX12_shadow (d + 5) 0 0 n (RT tw dr sk tl ff) I L 17 [some (.ref 73), some (.int v1), some (.int v2)] [] (PoL n (RT tw dr sk tl ff) res.1 res.2 L) := fun hc => by
    replace hf := (if_neg hc).symm.trans hf
    refine V_aload_n (pc := 17) dX12_shadow_17 rfl rfl rfl ?_
    refine V_iload_n (pc := 18) dX12_shadow_18 rfl rfl rfl ?_
    obtain ⟨q2, hq2, hf⟩ := bnd hf
    refine V_cVv (md' := mX12_load) (pc := 19) dX12_shadow_19 mlX12_505 mVX12_load (tX12_load hG hn hq2) rfl (by omega) (congrArg Prod.fst sh_73) rfl (Nat.le_of_ble_eq_true rfl) rfl ?_
    refine V_aload_n (pc := 22) dX12_shadow_22 rfl rfl rfl ?_
    refine V_iload_n (pc := 23) dX12_shadow_23 rfl rfl rfl ?_
    obtain ⟨q3, hq3, hf⟩ := bnd hf
    refine V_cVl (md' := mX12_shadowOf) (pc := 24) dX12_shadow_24 mlX12_480 mVX12_shadowOf (tX12_shadowOf hG hn hq3) rfl (by omega) (congrArg Prod.fst sh_73) rfl (Nat.le_of_ble_eq_true rfl) rfl ?_
    cases hf
    exact V_lret (pc := 27) dX12_shadow_27 rfl PoL_mk
  refine V_if_eq (pc := 5) (tgt := 15) dX12_shadow_5 (by decide) rfl (fun hc => ?_) (fun hc => ?_)
  · replace hb1 := (if_pos hc).symm.trans hb1
    cases hb1
    exact KTb1 rfl
  · replace hb1 := (if_neg hc).symm.trans hb1
    refine V_iload_n (pc := 8) dX12_shadow_8 rfl rfl rfl ?_
    refine V_cSz (md' := mX12_isFar) (pc := 9) dX12_shadow_9 mlX12_514 mSX12_isFar (tX12_isFar rfl) rfl rfl (Nat.le_of_ble_eq_true rfl) rfl ?_
    refine V_if_ne (pc := 12) (tgt := 17) dX12_shadow_12 (by decide) rfl (fun hc => ?_) (fun hc => ?_)
    · replace hb1 := (if_neg hc).symm.trans hb1
      cases hb1
      exact KFb1 (nbt rfl)
    · replace hb1 := (if_pos hc).symm.trans hb1
      cases hb1
      exact KTb1 rfl
/-! ShadowDoorsModel.shades -/
noncomputable def fX12_shades_23 : Nat → Int32 → Int64 → Int32 → HI → HL → Option (Int64)
  | 0, _, _, _, _, _ => none
  | fu + 1, y2, y3, y5, I, L =>
    if (I 73 55) ≤ y5 then
      some y3
    else
      Option.bind (
        if y2 = 0 then
          some true
        else
          Option.bind (fX12_isOpen y5 I) fun q4 =>
          if (b2i q4) = 0 then
            some false
          else
            some true
      ) fun b3 =>
      if b3 = true then
        if inb y5 8 = true then
          let x6 : Int64 := (y3 ||| (L 100 y5.toNatClampNeg))
          fX12_shades_23 fu y2 x6 (y5 + (1 : Int32)) I L
        else none
      else
        fX12_shades_23 fu y2 y3 (y5 + (1 : Int32)) I L
set_option maxRecDepth 100000 in
set_option maxHeartbeats 4000000 in
theorem lX12_shades_23 {g : GG} {n d : Nat} {tw dr sk tl ff : Nat} (hG : RG tw dr sk tl ff) (hn : 116 ≤ n) {P : PP} : ∀ (fu : Nat) (y2 : Int32) (y3 : Int64) (y5 : Int32) (I : HI) (L : HL) (res : Int64), fX12_shades_23 fu y2 y3 y5 I L = some res → P (some (.long res)) n (RT tw dr sk tl ff) I L → V g mX12_shades (d + 6) 0 0 n (RT tw dr sk tl ff) I L 23 [some (.ref 73), none, some (.int y2), some (.long y3), none, some (.int y5)] [] P := by
  intro fu
  induction fu with
  | zero => intro y2 y3 y5 I L res hf; cases (show none = some res from hf)
  | succ fu ih =>
    intro y2 y3 y5 I L res hf K
    refine V_iload (pc := 23) dX12_shades_23 rfl rfl ?_
    refine V_aload_n (pc := 25) dX12_shades_25 rfl rfl rfl ?_
    refine V_getI (pc := 26) dX12_shades_26 flX12_409 rfl (by omega) (congrArg Prod.fst sh_73) rfl ?_
    refine V_icmp_ge (pc := 29) (tgt := 61) dX12_shades_29 (by decide) rfl (fun hc => ?_) (fun hc => ?_)
    · replace hf := (if_pos hc).symm.trans hf
      refine V_lload_n (pc := 61) dX12_shades_61 rfl rfl rfl ?_
      cases hf
      exact V_lret (pc := 62) dX12_shades_62 rfl K
    · replace hf := (if_neg hc).symm.trans hf
      refine V_iload_n (pc := 32) dX12_shades_32 rfl rfl rfl ?_
      obtain ⟨b3, hb3, hf⟩ := bnd hf
      have KTb3 : b3 = true → V g mX12_shades (d + 6) 0 0 n (RT tw dr sk tl ff) I L 45 [some (.ref 73), none, some (.int y2), some (.long y3), none, some (.int y5)] [] P := fun hc => by
        replace hf := (if_pos hc).symm.trans hf
        refine V_lload_n (pc := 45) dX12_shades_45 rfl rfl rfl ?_
        refine V_aload_n (pc := 46) dX12_shades_46 rfl rfl rfl ?_
        refine V_getR (pc := 47) dX12_shades_47 flX12_99 rfl (by omega) (congrArg Prod.fst sh_73) rt_73_70 rfl ?_
        refine V_iload (pc := 50) dX12_shades_50 rfl rfl ?_
        obtain ⟨hc5, hf⟩ := pif hf
        refine V_lald (pc := 52) dX12_shades_52 (by omega) sh_100 hc5 rfl ?_
        refine V_lor (pc := 53) dX12_shades_53 rfl ?_
        let x6 : Int64 := (y3 ||| (L 100 y5.toNatClampNeg))
        refine V_lstore_n (ls' := [some _, none, some _, some _, none, some _]) (pc := 54) dX12_shades_54 rfl (Nat.le_of_ble_eq_true rfl) rfl rfl ?_
        refine V_iinc (ls' := [some _, none, some _, some _, none, some _]) (pc := 55) dX12_shades_55 rfl (Nat.le_of_ble_eq_true rfl) (congrArg _ ic_1) rfl rfl ?_
        refine V_goto (pc := 58) (tgt := 23) dX12_shades_58 (by decide) ?_
        exact V_wk (ih _ _ _ _ _ _ hf K) ⟨rfl, ⟨rfl, ⟨rfl, ⟨rfl, trivial⟩⟩⟩⟩
      have KFb3 : ¬ b3 = true → V g mX12_shades (d + 6) 0 0 n (RT tw dr sk tl ff) I L 55 [some (.ref 73), none, some (.int y2), some (.long y3), none, some (.int y5)] [] P := fun hc => by
        replace hf := (if_neg hc).symm.trans hf
        refine V_iinc (ls' := [some _, none, some _, some _, none, some _]) (pc := 55) dX12_shades_55 rfl (Nat.le_of_ble_eq_true rfl) (congrArg _ ic_1) rfl rfl ?_
        refine V_goto (pc := 58) (tgt := 23) dX12_shades_58 (by decide) ?_
        exact V_wk (ih _ _ _ _ _ _ hf K) ⟨rfl, ⟨rfl, ⟨rfl, ⟨rfl, trivial⟩⟩⟩⟩
      refine V_if_eq (pc := 33) (tgt := 45) dX12_shades_33 (by decide) rfl (fun hc => ?_) (fun hc => ?_)
      · replace hb3 := (if_pos hc).symm.trans hb3
        cases hb3
        exact KTb3 rfl
      · replace hb3 := (if_neg hc).symm.trans hb3
        refine V_aload_n (pc := 36) dX12_shades_36 rfl rfl rfl ?_
        refine V_iload (pc := 37) dX12_shades_37 rfl rfl ?_
        obtain ⟨q4, hq4, hb3⟩ := bnd hb3
        refine V_cVz (md' := mX12_isOpen) (pc := 39) dX12_shades_39 mlX12_487 mVX12_isOpen (tX12_isOpen hG hn hq4) rfl (by omega) (congrArg Prod.fst sh_73) rfl (Nat.le_of_ble_eq_true rfl) rfl ?_
        refine V_if_eq (pc := 42) (tgt := 55) dX12_shades_42 (by decide) rfl (fun hc => ?_) (fun hc => ?_)
        · replace hb3 := (if_pos hc).symm.trans hb3
          cases hb3
          exact KFb3 (nbt rfl)
        · replace hb3 := (if_neg hc).symm.trans hb3
          cases hb3
          exact KTb3 rfl
noncomputable def fX12_shades (v1 : Int32) (v2 : Int32) (I : HI) (L : HL) : Option (Int64 × HI × HL) :=
  if (b2i (fX12_isFar v1)) = 0 then
    some ((0 : Int64), I, L)
  else
    Option.bind (fX12_load v1 I) fun q1 =>
    Option.bind (fX12_layShadows  q1 L) fun q2 =>
    Option.bind (fX12_shades_23 FUEL v2 (0 : Int64) (0 : Int32) q2.1 q2.2) fun q7 =>
    some (q7, q2.1, q2.2)
set_option maxRecDepth 100000 in
set_option maxHeartbeats 4000000 in
theorem tX12_shades {g : GG} {n d : Nat} {tw dr sk tl ff : Nat} (hG : RG tw dr sk tl ff) (hn : 116 ≤ n) {v1 : Int32} {v2 : Int32} {I : HI} {L : HL} {res : Int64 × HI × HL} (hf : fX12_shades v1 v2 I L = some res) : CT g mX12_shades (d + 6) 0 0 n (RT tw dr sk tl ff) I L [.ref 73, .int v1, .int v2] (PoL n (RT tw dr sk tl ff) res.1 res.2.1 res.2.2) := by
  refine CT.of rfl (Nat.le_of_ble_eq_true rfl) ?_
  show V g mX12_shades (d + 6) 0 0 n (RT tw dr sk tl ff) I L 0 [some (.ref 73), some (.int v1), some (.int v2)] [] (PoL n (RT tw dr sk tl ff) res.1 res.2.1 res.2.2)
  refine V_iload_n (pc := 0) dX12_shades_0 rfl rfl rfl ?_
  refine V_cSz (md' := mX12_isFar) (pc := 1) dX12_shades_1 mlX12_514 mSX12_isFar (tX12_isFar rfl) rfl rfl (Nat.le_of_ble_eq_true rfl) rfl ?_
  refine V_if_ne (pc := 4) (tgt := 9) dX12_shades_4 (by decide) rfl (fun hc => ?_) (fun hc => ?_)
  · replace hf := (if_neg hc).symm.trans hf
    refine V_aload_n (pc := 9) dX12_shades_9 rfl rfl rfl ?_
    refine V_iload_n (pc := 10) dX12_shades_10 rfl rfl rfl ?_
    obtain ⟨q1, hq1, hf⟩ := bnd hf
    refine V_cVv (md' := mX12_load) (pc := 11) dX12_shades_11 mlX12_505 mVX12_load (tX12_load hG hn hq1) rfl (by omega) (congrArg Prod.fst sh_73) rfl (Nat.le_of_ble_eq_true rfl) rfl ?_
    refine V_aload_n (pc := 14) dX12_shades_14 rfl rfl rfl ?_
    obtain ⟨q2, hq2, hf⟩ := bnd hf
    refine V_cVv (md' := mX12_layShadows) (pc := 15) dX12_shades_15 mlX12_490 mVX12_layShadows (tX12_layShadows hG hn hq2) rfl (by omega) (congrArg Prod.fst sh_73) rfl (Nat.le_of_ble_eq_true rfl) rfl ?_
    refine V_lconst (pc := 18) dX12_shades_18 lc_0 rfl ?_
    refine V_lstore_n (ls' := [some _, some _, some _, some _, none]) (pc := 19) dX12_shades_19 rfl (Nat.le_of_ble_eq_true rfl) rfl rfl ?_
    refine V_iconst (pc := 20) dX12_shades_20 ic_0 rfl ?_
    refine V_istore (ls' := [some _, some _, some _, some _, none, some _]) (pc := 21) dX12_shades_21 (Nat.le_of_ble_eq_true rfl) rfl rfl ?_
    obtain ⟨q7, hq7, hf⟩ := bnd hf
    refine V_wk (lX12_shades_23 hG hn FUEL _ _ _ _ _ _ hq7 ?_) ⟨rfl, ⟨rfl, ⟨rfl, ⟨rfl, trivial⟩⟩⟩⟩
    cases hf
    exact PoL_mk
  · replace hf := (if_pos hc).symm.trans hf
    refine V_lconst (pc := 7) dX12_shades_7 lc_0 rfl ?_
    cases hf
    exact V_lret (pc := 8) dX12_shades_8 rfl PoL_mk
/-! ShadowDoorsModel.moves -/
noncomputable def fX12_moves (v1 : Int32) (v2 : Int32) (I : HI) (L : HL) : Option (Int64 × HI × HL) :=
  Option.bind (
    if (b2i (fX12_isFree v1 I L)) = 0 then
      some true
    else
      if (b2i (fX12_isFar v2)) = 0 then
        some true
      else
        some false
  ) fun b1 =>
  if b1 = true then
    some ((0 : Int64), I, L)
  else
    Option.bind (fX12_load v2 I) fun q2 =>
    Option.bind (fX12_layShadows  q2 L) fun q3 =>
    Option.bind (fX12_movesFrom v1 q3.1 q3.2) fun q4 =>
    some (q4, q3.1, q3.2)
set_option maxRecDepth 100000 in
set_option maxHeartbeats 4000000 in
theorem tX12_moves {g : GG} {n d : Nat} {tw dr sk tl ff : Nat} (hG : RG tw dr sk tl ff) (hn : 116 ≤ n) {v1 : Int32} {v2 : Int32} {I : HI} {L : HL} {res : Int64 × HI × HL} (hf : fX12_moves v1 v2 I L = some res) : CT g mX12_moves (d + 6) 0 0 n (RT tw dr sk tl ff) I L [.ref 73, .int v1, .int v2] (PoL n (RT tw dr sk tl ff) res.1 res.2.1 res.2.2) := by
  refine CT.of rfl (Nat.le_of_ble_eq_true rfl) ?_
  show V g mX12_moves (d + 6) 0 0 n (RT tw dr sk tl ff) I L 0 [some (.ref 73), some (.int v1), some (.int v2)] [] (PoL n (RT tw dr sk tl ff) res.1 res.2.1 res.2.2)
  refine V_aload_n (pc := 0) dX12_moves_0 rfl rfl rfl ?_
  refine V_iload_n (pc := 1) dX12_moves_1 rfl rfl rfl ?_
  refine V_cVz (md' := mX12_isFree) (pc := 2) dX12_moves_2 mlX12_518 mVX12_isFree (tX12_isFree hG hn rfl) rfl (by omega) (congrArg Prod.fst sh_73) rfl (Nat.le_of_ble_eq_true rfl) rfl ?_
  obtain ⟨b1, hb1, hf⟩ := bnd hf
  have KTb1 : b1 = true → V g mX12_moves (d + 6) 0 0 n (RT tw dr sk tl ff) I L 15 [some (.ref 73), some (.int v1), some (.int v2)] [] (PoL n (RT tw dr sk tl ff) res.1 res.2.1 res.2.2) := fun hc => by
    replace hf := (if_pos hc).symm.trans hf
    refine V_lconst (pc := 15) dX12_moves_15 lc_0 rfl ?_
    cases hf
    exact V_lret (pc := 16) dX12_moves_16 rfl PoL_mk
  have KFb1 : ¬ b1 = true → V g mX12_moves (d + 6) 0 0 n (RT tw dr sk tl ff) I L 17 [some (.ref 73), some (.int v1), some (.int v2)] [] (PoL n (RT tw dr sk tl ff) res.1 res.2.1 res.2.2) := fun hc => by
    replace hf := (if_neg hc).symm.trans hf
    refine V_aload_n (pc := 17) dX12_moves_17 rfl rfl rfl ?_
    refine V_iload_n (pc := 18) dX12_moves_18 rfl rfl rfl ?_
    obtain ⟨q2, hq2, hf⟩ := bnd hf
    refine V_cVv (md' := mX12_load) (pc := 19) dX12_moves_19 mlX12_505 mVX12_load (tX12_load hG hn hq2) rfl (by omega) (congrArg Prod.fst sh_73) rfl (Nat.le_of_ble_eq_true rfl) rfl ?_
    refine V_aload_n (pc := 22) dX12_moves_22 rfl rfl rfl ?_
    obtain ⟨q3, hq3, hf⟩ := bnd hf
    refine V_cVv (md' := mX12_layShadows) (pc := 23) dX12_moves_23 mlX12_490 mVX12_layShadows (tX12_layShadows hG hn hq3) rfl (by omega) (congrArg Prod.fst sh_73) rfl (Nat.le_of_ble_eq_true rfl) rfl ?_
    refine V_aload_n (pc := 26) dX12_moves_26 rfl rfl rfl ?_
    refine V_iload_n (pc := 27) dX12_moves_27 rfl rfl rfl ?_
    obtain ⟨q4, hq4, hf⟩ := bnd hf
    refine V_cVl (md' := mX12_movesFrom) (pc := 28) dX12_moves_28 mlX12_493 mVX12_movesFrom (tX12_movesFrom hG hn hq4) rfl (by omega) (congrArg Prod.fst sh_73) rfl (Nat.le_of_ble_eq_true rfl) rfl ?_
    cases hf
    exact V_lret (pc := 31) dX12_moves_31 rfl PoL_mk
  refine V_if_eq (pc := 5) (tgt := 15) dX12_moves_5 (by decide) rfl (fun hc => ?_) (fun hc => ?_)
  · replace hb1 := (if_pos hc).symm.trans hb1
    cases hb1
    exact KTb1 rfl
  · replace hb1 := (if_neg hc).symm.trans hb1
    refine V_iload_n (pc := 8) dX12_moves_8 rfl rfl rfl ?_
    refine V_cSz (md' := mX12_isFar) (pc := 9) dX12_moves_9 mlX12_514 mSX12_isFar (tX12_isFar rfl) rfl rfl (Nat.le_of_ble_eq_true rfl) rfl ?_
    refine V_if_ne (pc := 12) (tgt := 17) dX12_moves_12 (by decide) rfl (fun hc => ?_) (fun hc => ?_)
    · replace hb1 := (if_neg hc).symm.trans hb1
      cases hb1
      exact KFb1 (nbt rfl)
    · replace hb1 := (if_pos hc).symm.trans hb1
      cases hb1
      exact KTb1 rfl
/-! ShadowDoorsModel.act -/
noncomputable def fX12_act_11 : Nat → Int32 → HI → Option (HI)
  | 0, _, _ => none
  | fu + 1, y1, I =>
    if (390 : Int32) ≤ y1 then
      some I
    else
      if inb ((10 : Int32) + y1) 400 = true then
        if inb y1 400 = true then
          let I3 : HI := up2 I 102 y1.toNatClampNeg (I 102 ((10 : Int32) + y1).toNatClampNeg)
          fX12_act_11 fu (y1 + (1 : Int32)) I3
        else none
      else none
set_option maxRecDepth 100000 in
set_option maxHeartbeats 4000000 in
theorem lX12_act_11 {g : GG} {n d : Nat} {tw dr sk tl ff : Nat} (hG : RG tw dr sk tl ff) (hn : 116 ≤ n) {P : PP} : ∀ (fu : Nat) (y1 : Int32) (I : HI) (L : HL) (res : HI), fX12_act_11 fu y1 I = some res → V g mX12_act (d + 1) 0 0 n (RT tw dr sk tl ff) res L 39 [some (.ref 73)] [] P → V g mX12_act (d + 1) 0 0 n (RT tw dr sk tl ff) I L 11 [some (.ref 73), some (.int y1)] [] P := by
  intro fu
  induction fu with
  | zero => intro y1 I L res hf; cases (show none = some res from hf)
  | succ fu ih =>
    intro y1 I L res hf K
    refine V_iload_n (pc := 11) dX12_act_11 rfl rfl rfl ?_
    refine V_sipush (pc := 12) dX12_act_12 sp_390 rfl ?_
    refine V_icmp_ge (pc := 15) (tgt := 39) dX12_act_15 (by decide) rfl (fun hc => ?_) (fun hc => ?_)
    · replace hf := (if_pos hc).symm.trans hf
      cases hf
      exact V_wk K ⟨rfl, trivial⟩
    · replace hf := (if_neg hc).symm.trans hf
      refine V_aload_n (pc := 18) dX12_act_18 rfl rfl rfl ?_
      refine V_getR (pc := 19) dX12_act_19 flX12_105 rfl (by omega) (congrArg Prod.fst sh_73) rt_73_72 rfl ?_
      refine V_iload_n (pc := 22) dX12_act_22 rfl rfl rfl ?_
      refine V_aload_n (pc := 23) dX12_act_23 rfl rfl rfl ?_
      refine V_getR (pc := 24) dX12_act_24 flX12_105 rfl (by omega) (congrArg Prod.fst sh_73) rt_73_72 rfl ?_
      refine V_bipush (pc := 27) dX12_act_27 bp_10 rfl ?_
      refine V_iload_n (pc := 29) dX12_act_29 rfl rfl rfl ?_
      refine V_iadd (pc := 30) dX12_act_30 rfl ?_
      obtain ⟨hc1, hf⟩ := pif hf
      refine V_iald (pc := 31) dX12_act_31 (by omega) sh_102 hc1 rfl ?_
      obtain ⟨hc2, hf⟩ := pif hf
      let I3 : HI := up2 I 102 y1.toNatClampNeg (I 102 ((10 : Int32) + y1).toNatClampNeg)
      refine V_iast (pc := 32) dX12_act_32 (by omega) sh_102 hc2 rfl ?_
      refine V_iinc (ls' := [some _, some _]) (pc := 33) dX12_act_33 rfl (Nat.le_of_ble_eq_true rfl) (congrArg _ ic_1) rfl rfl ?_
      refine V_goto (pc := 36) (tgt := 11) dX12_act_36 (by decide) ?_
      exact V_wk (ih _ _ _ _ hf K) ⟨rfl, ⟨rfl, trivial⟩⟩
noncomputable def fX12_act_51 : Nat → Int32 → HI → Option (HI)
  | 0, _, _ => none
  | fu + 1, y1, I =>
    if (9 : Int32) ≤ y1 then
      let I9 : HI := up2 I 73 73 ((I 73 73) + (1 : Int32))
      let I10 : HI := up2 I9 73 74 (0 : Int32)
      some I10
    else
      if inb y1 10 = true then
        if inb (((10 : Int32) * (I 73 73)) + y1) 400 = true then
          let I13 : HI := up2 I 102 (((10 : Int32) * (I 73 73)) + y1).toNatClampNeg (I 99 y1.toNatClampNeg)
          fX12_act_51 fu (y1 + (1 : Int32)) I13
        else none
      else none
set_option maxRecDepth 100000 in
set_option maxHeartbeats 4000000 in
theorem lX12_act_51 {g : GG} {n d : Nat} {tw dr sk tl ff : Nat} (hG : RG tw dr sk tl ff) (hn : 116 ≤ n) {P : PP} : ∀ (fu : Nat) (y1 : Int32) (I : HI) (L : HL) (res : HI), fX12_act_51 fu y1 I = some res → P none n (RT tw dr sk tl ff) res L → V g mX12_act (d + 1) 0 0 n (RT tw dr sk tl ff) I L 51 [some (.ref 73), some (.int y1)] [] P := by
  intro fu
  induction fu with
  | zero => intro y1 I L res hf; cases (show none = some res from hf)
  | succ fu ih =>
    intro y1 I L res hf K
    refine V_iload_n (pc := 51) dX12_act_51 rfl rfl rfl ?_
    refine V_bipush (pc := 52) dX12_act_52 bp_9 rfl ?_
    refine V_icmp_ge (pc := 54) (tgt := 83) dX12_act_54 (by decide) rfl (fun hc => ?_) (fun hc => ?_)
    · replace hf := (if_pos hc).symm.trans hf
      refine V_aload_n (pc := 83) dX12_act_83 rfl rfl rfl ?_
      refine V_dup (pc := 84) dX12_act_84 rfl rfl ?_
      refine V_getI (pc := 85) dX12_act_85 flX12_424 rfl (by omega) (congrArg Prod.fst sh_73) rfl ?_
      refine V_iconst (pc := 88) dX12_act_88 ic_1 rfl ?_
      refine V_iadd (pc := 89) dX12_act_89 rfl ?_
      let I9 : HI := up2 I 73 73 ((I 73 73) + (1 : Int32))
      refine V_putI (pc := 90) dX12_act_90 flX12_424 rfl rfl (by omega) (congrArg Prod.fst sh_73) rfl ?_
      refine V_aload_n (pc := 93) dX12_act_93 rfl rfl rfl ?_
      refine V_iconst (pc := 94) dX12_act_94 ic_0 rfl ?_
      let I10 : HI := up2 I9 73 74 (0 : Int32)
      refine V_putI (pc := 95) dX12_act_95 flX12_427 rfl rfl (by omega) (congrArg Prod.fst sh_73) rfl ?_
      cases hf
      exact V_vret (pc := 98) dX12_act_98 rfl K
    · replace hf := (if_neg hc).symm.trans hf
      refine V_aload_n (pc := 57) dX12_act_57 rfl rfl rfl ?_
      refine V_getR (pc := 58) dX12_act_58 flX12_105 rfl (by omega) (congrArg Prod.fst sh_73) rt_73_72 rfl ?_
      refine V_bipush (pc := 61) dX12_act_61 bp_10 rfl ?_
      refine V_aload_n (pc := 63) dX12_act_63 rfl rfl rfl ?_
      refine V_getI (pc := 64) dX12_act_64 flX12_424 rfl (by omega) (congrArg Prod.fst sh_73) rfl ?_
      refine V_imul (pc := 67) dX12_act_67 rfl ?_
      refine V_iload_n (pc := 68) dX12_act_68 rfl rfl rfl ?_
      refine V_iadd (pc := 69) dX12_act_69 rfl ?_
      refine V_aload_n (pc := 70) dX12_act_70 rfl rfl rfl ?_
      refine V_getR (pc := 71) dX12_act_71 flX12_96 rfl (by omega) (congrArg Prod.fst sh_73) rt_73_63 rfl ?_
      refine V_iload_n (pc := 74) dX12_act_74 rfl rfl rfl ?_
      obtain ⟨hc11, hf⟩ := pif hf
      refine V_iald (pc := 75) dX12_act_75 (by omega) sh_99 hc11 rfl ?_
      obtain ⟨hc12, hf⟩ := pif hf
      let I13 : HI := up2 I 102 (((10 : Int32) * (I 73 73)) + y1).toNatClampNeg (I 99 y1.toNatClampNeg)
      refine V_iast (pc := 76) dX12_act_76 (by omega) sh_102 hc12 rfl ?_
      refine V_iinc (ls' := [some _, some _]) (pc := 77) dX12_act_77 rfl (Nat.le_of_ble_eq_true rfl) (congrArg _ ic_1) rfl rfl ?_
      refine V_goto (pc := 80) (tgt := 51) dX12_act_80 (by decide) ?_
      exact V_wk (ih _ _ _ _ hf K) ⟨rfl, ⟨rfl, trivial⟩⟩
noncomputable def fX12_act (I : HI) : Option (HI) :=
  Option.bind (
    if (I 73 73) = (40 : Int32) then
      Option.bind (fX12_act_11 FUEL (0 : Int32) I) fun q7 =>
      let I8 : HI := up2 q7 73 73 ((q7 73 73) - (1 : Int32))
      some I8
    else
      some I
  ) fun q6 =>
  Option.bind (fX12_act_51 FUEL (0 : Int32) q6) fun q14 =>
  some q14
set_option maxRecDepth 100000 in
set_option maxHeartbeats 4000000 in
theorem tX12_act {g : GG} {n d : Nat} {tw dr sk tl ff : Nat} (hG : RG tw dr sk tl ff) (hn : 116 ≤ n) {I : HI} {L : HL} {res : HI} (hf : fX12_act I = some res) : CT g mX12_act (d + 1) 0 0 n (RT tw dr sk tl ff) I L [.ref 73] (PoV n (RT tw dr sk tl ff) res L) := by
  refine CT.of rfl (Nat.le_of_ble_eq_true rfl) ?_
  show V g mX12_act (d + 1) 0 0 n (RT tw dr sk tl ff) I L 0 [some (.ref 73)] [] (PoV n (RT tw dr sk tl ff) res L)
  refine V_aload_n (pc := 0) dX12_act_0 rfl rfl rfl ?_
  refine V_getI (pc := 1) dX12_act_1 flX12_424 rfl (by omega) (congrArg Prod.fst sh_73) rfl ?_
  refine V_bipush (pc := 4) dX12_act_4 bp_40 rfl ?_
  obtain ⟨q6, hq6, hf⟩ := bnd hf
  have Kq6 : V g mX12_act (d + 1) 0 0 n (RT tw dr sk tl ff) q6 L 49 [some (.ref 73)] [] (PoV n (RT tw dr sk tl ff) res L) := by
    refine V_iconst (pc := 49) dX12_act_49 ic_0 rfl ?_
    refine V_istore_n (ls' := [some _, some _]) (pc := 50) dX12_act_50 rfl (Nat.le_of_ble_eq_true rfl) rfl rfl ?_
    obtain ⟨q14, hq14, hf⟩ := bnd hf
    refine V_wk (lX12_act_51 hG hn FUEL _ _ _ _ hq14 ?_) ⟨rfl, ⟨rfl, trivial⟩⟩
    cases hf
    exact PoV_mk
  refine V_icmp_ne (pc := 6) (tgt := 49) dX12_act_6 (by decide) rfl (fun hc => ?_) (fun hc => ?_)
  · replace hq6 := (if_neg hc).symm.trans hq6
    cases hq6
    exact V_wk Kq6 ⟨rfl, trivial⟩
  · replace hq6 := (if_pos hc).symm.trans hq6
    refine V_iconst (pc := 9) dX12_act_9 ic_0 rfl ?_
    refine V_istore_n (ls' := [some _, some _]) (pc := 10) dX12_act_10 rfl (Nat.le_of_ble_eq_true rfl) rfl rfl ?_
    obtain ⟨q7, hq7, hq6⟩ := bnd hq6
    refine V_wk (lX12_act_11 hG hn FUEL _ _ _ _ hq7 ?_) ⟨rfl, ⟨rfl, trivial⟩⟩
    refine V_aload_n (pc := 39) dX12_act_39 rfl rfl rfl ?_
    refine V_dup (pc := 40) dX12_act_40 rfl rfl ?_
    refine V_getI (pc := 41) dX12_act_41 flX12_424 rfl (by omega) (congrArg Prod.fst sh_73) rfl ?_
    refine V_iconst (pc := 44) dX12_act_44 ic_1 rfl ?_
    refine V_isub (pc := 45) dX12_act_45 rfl ?_
    let I8 : HI := up2 q7 73 73 ((q7 73 73) - (1 : Int32))
    refine V_putI (pc := 46) dX12_act_46 flX12_424 rfl rfl (by omega) (congrArg Prod.fst sh_73) rfl ?_
    cases hq6
    exact V_wk Kq6 ⟨rfl, trivial⟩
/-! ShadowDoorsModel.exchange -/
noncomputable def fX12_exchange_2 : Nat → Int32 → Int32 → HI → Option (HI)
  | 0, _, _, _ => none
  | fu + 1, y1, y2, I =>
    if (9 : Int32) ≤ y2 then
      some I
    else
      if inb (y1 + y2) 400 = true then
        let x2 : Int32 := (I 102 (y1 + y2).toNatClampNeg)
        if inb y2 10 = true then
          if inb (y1 + y2) 400 = true then
            let I5 : HI := up2 I 102 (y1 + y2).toNatClampNeg (I 99 y2.toNatClampNeg)
            if inb y2 10 = true then
              let I7 : HI := up2 I5 99 y2.toNatClampNeg x2
              fX12_exchange_2 fu y1 (y2 + (1 : Int32)) I7
            else none
          else none
        else none
      else none
set_option maxRecDepth 100000 in
set_option maxHeartbeats 4000000 in
theorem lX12_exchange_2 {g : GG} {n d : Nat} {tw dr sk tl ff : Nat} (hG : RG tw dr sk tl ff) (hn : 116 ≤ n) {P : PP} : ∀ (fu : Nat) (y1 : Int32) (y2 : Int32) (I : HI) (L : HL) (res : HI), fX12_exchange_2 fu y1 y2 I = some res → P none n (RT tw dr sk tl ff) res L → V g mX12_exchange (d + 1) 0 0 n (RT tw dr sk tl ff) I L 2 [some (.ref 73), some (.int y1), some (.int y2)] [] P := by
  intro fu
  induction fu with
  | zero => intro y1 y2 I L res hf; cases (show none = some res from hf)
  | succ fu ih =>
    intro y1 y2 I L res hf K
    refine V_iload_n (pc := 2) dX12_exchange_2 rfl rfl rfl ?_
    refine V_bipush (pc := 3) dX12_exchange_3 bp_9 rfl ?_
    refine V_icmp_ge (pc := 5) (tgt := 44) dX12_exchange_5 (by decide) rfl (fun hc => ?_) (fun hc => ?_)
    · replace hf := (if_pos hc).symm.trans hf
      cases hf
      exact V_vret (pc := 44) dX12_exchange_44 rfl K
    · replace hf := (if_neg hc).symm.trans hf
      refine V_aload_n (pc := 8) dX12_exchange_8 rfl rfl rfl ?_
      refine V_getR (pc := 9) dX12_exchange_9 flX12_105 rfl (by omega) (congrArg Prod.fst sh_73) rt_73_72 rfl ?_
      refine V_iload_n (pc := 12) dX12_exchange_12 rfl rfl rfl ?_
      refine V_iload_n (pc := 13) dX12_exchange_13 rfl rfl rfl ?_
      refine V_iadd (pc := 14) dX12_exchange_14 rfl ?_
      obtain ⟨hc1, hf⟩ := pif hf
      refine V_iald (pc := 15) dX12_exchange_15 (by omega) sh_102 hc1 rfl ?_
      let x2 : Int32 := (I 102 (y1 + y2).toNatClampNeg)
      refine V_istore_n (ls' := [some _, some _, some _, some _]) (pc := 16) dX12_exchange_16 rfl (Nat.le_of_ble_eq_true rfl) rfl rfl ?_
      refine V_aload_n (pc := 17) dX12_exchange_17 rfl rfl rfl ?_
      refine V_getR (pc := 18) dX12_exchange_18 flX12_105 rfl (by omega) (congrArg Prod.fst sh_73) rt_73_72 rfl ?_
      refine V_iload_n (pc := 21) dX12_exchange_21 rfl rfl rfl ?_
      refine V_iload_n (pc := 22) dX12_exchange_22 rfl rfl rfl ?_
      refine V_iadd (pc := 23) dX12_exchange_23 rfl ?_
      refine V_aload_n (pc := 24) dX12_exchange_24 rfl rfl rfl ?_
      refine V_getR (pc := 25) dX12_exchange_25 flX12_96 rfl (by omega) (congrArg Prod.fst sh_73) rt_73_63 rfl ?_
      refine V_iload_n (pc := 28) dX12_exchange_28 rfl rfl rfl ?_
      obtain ⟨hc3, hf⟩ := pif hf
      refine V_iald (pc := 29) dX12_exchange_29 (by omega) sh_99 hc3 rfl ?_
      obtain ⟨hc4, hf⟩ := pif hf
      let I5 : HI := up2 I 102 (y1 + y2).toNatClampNeg (I 99 y2.toNatClampNeg)
      refine V_iast (pc := 30) dX12_exchange_30 (by omega) sh_102 hc4 rfl ?_
      refine V_aload_n (pc := 31) dX12_exchange_31 rfl rfl rfl ?_
      refine V_getR (pc := 32) dX12_exchange_32 flX12_96 rfl (by omega) (congrArg Prod.fst sh_73) rt_73_63 rfl ?_
      refine V_iload_n (pc := 35) dX12_exchange_35 rfl rfl rfl ?_
      refine V_iload_n (pc := 36) dX12_exchange_36 rfl rfl rfl ?_
      obtain ⟨hc6, hf⟩ := pif hf
      let I7 : HI := up2 I5 99 y2.toNatClampNeg x2
      refine V_iast (pc := 37) dX12_exchange_37 (by omega) sh_99 hc6 rfl ?_
      refine V_iinc (ls' := [some _, some _, some _, some _]) (pc := 38) dX12_exchange_38 rfl (Nat.le_of_ble_eq_true rfl) (congrArg _ ic_1) rfl rfl ?_
      refine V_goto (pc := 41) (tgt := 2) dX12_exchange_41 (by decide) ?_
      exact V_wk (ih _ _ _ _ _ hf K) ⟨rfl, ⟨rfl, ⟨rfl, trivial⟩⟩⟩
noncomputable def fX12_exchange (v1 : Int32) (I : HI) : Option (HI) :=
  Option.bind (fX12_exchange_2 FUEL v1 (0 : Int32) I) fun q8 =>
  some q8
set_option maxRecDepth 100000 in
set_option maxHeartbeats 4000000 in
theorem tX12_exchange {g : GG} {n d : Nat} {tw dr sk tl ff : Nat} (hG : RG tw dr sk tl ff) (hn : 116 ≤ n) {v1 : Int32} {I : HI} {L : HL} {res : HI} (hf : fX12_exchange v1 I = some res) : CT g mX12_exchange (d + 1) 0 0 n (RT tw dr sk tl ff) I L [.ref 73, .int v1] (PoV n (RT tw dr sk tl ff) res L) := by
  refine CT.of rfl (Nat.le_of_ble_eq_true rfl) ?_
  show V g mX12_exchange (d + 1) 0 0 n (RT tw dr sk tl ff) I L 0 [some (.ref 73), some (.int v1)] [] (PoV n (RT tw dr sk tl ff) res L)
  refine V_iconst (pc := 0) dX12_exchange_0 ic_0 rfl ?_
  refine V_istore_n (ls' := [some _, some _, some _]) (pc := 1) dX12_exchange_1 rfl (Nat.le_of_ble_eq_true rfl) rfl rfl ?_
  obtain ⟨q8, hq8, hf⟩ := bnd hf
  refine V_wk (lX12_exchange_2 hG hn FUEL _ _ _ _ _ hq8 ?_) ⟨rfl, ⟨rfl, ⟨rfl, trivial⟩⟩⟩
  cases hf
  exact PoV_mk
/-! ShadowDoorsModel.go -/
noncomputable def fX12_go (v1 : Int32) (v2 : Int32) (I : HI) (L : HL) : Option (Int32 × HI × HL) :=
  Option.bind (
    if (b2i (fX12_isPerson v1 I)) = 0 then
      some true
    else
      if (b2i (fX12_isFree v2 I L)) = 0 then
        some true
      else
        if inb (4 : Int32) 10 = true then
          if (((I 99 (4 : Int32).toNatClampNeg) >>> (v1 &&& 31)) &&& (1 : Int32)) = (1 : Int32) then
            some true
          else
            some false
        else none
  ) fun b1 =>
  if b1 = true then
    some ((-1 : Int32), I, L)
  else
    Option.bind (fX12_load (0 : Int32) I) fun q3 =>
    Option.bind (fX12_layShadows  q3 L) fun q4 =>
    if inb v1 10 = true then
      let x6 : Int32 := (q4.1 99 v1.toNatClampNeg)
      Option.bind (fX12_movesFrom x6 q4.1 q4.2) fun q7 =>
      if (b2i (fX12_has q7 v2)) = 0 then
        some ((-1 : Int32), q4.1, q4.2)
      else
        Option.bind (fX12_act  q4.1) fun q8 =>
        if inb v1 10 = true then
          let I10 : HI := up2 q8 99 v1.toNatClampNeg v2
          if inb (4 : Int32) 10 = true then
            if inb (4 : Int32) 10 = true then
              let I13 : HI := up2 I10 99 (4 : Int32).toNatClampNeg ((I10 99 (4 : Int32).toNatClampNeg) ||| ((1 : Int32) <<< (v1 &&& 31)))
              if x6 = v2 then
                some ((0 : Int32), I13, q4.2)
              else
                Option.bind (fX12_nextTo x6 I13 q4.2) fun q14 =>
                if (b2i (fX12_has q14 v2)) = 0 then
                  some ((2 : Int32), I13, q4.2)
                else
                  some ((1 : Int32), I13, q4.2)
            else none
          else none
        else none
    else none
set_option maxRecDepth 100000 in
set_option maxHeartbeats 4000000 in
theorem tX12_go {g : GG} {n d : Nat} {tw dr sk tl ff : Nat} (hG : RG tw dr sk tl ff) (hn : 116 ≤ n) {v1 : Int32} {v2 : Int32} {I : HI} {L : HL} {res : Int32 × HI × HL} (hf : fX12_go v1 v2 I L = some res) : CT g mX12_go (d + 6) 0 0 n (RT tw dr sk tl ff) I L [.ref 73, .int v1, .int v2] (PoI n (RT tw dr sk tl ff) res.1 res.2.1 res.2.2) := by
  refine CT.of rfl (Nat.le_of_ble_eq_true rfl) ?_
  show V g mX12_go (d + 6) 0 0 n (RT tw dr sk tl ff) I L 0 [some (.ref 73), some (.int v1), some (.int v2)] [] (PoI n (RT tw dr sk tl ff) res.1 res.2.1 res.2.2)
  refine V_aload_n (pc := 0) dX12_go_0 rfl rfl rfl ?_
  refine V_iload_n (pc := 1) dX12_go_1 rfl rfl rfl ?_
  refine V_cVz (md' := mX12_isPerson) (pc := 2) dX12_go_2 mlX12_511 mVX12_isPerson (tX12_isPerson hG hn rfl) rfl (by omega) (congrArg Prod.fst sh_73) rfl (Nat.le_of_ble_eq_true rfl) rfl ?_
  obtain ⟨b1, hb1, hf⟩ := bnd hf
  have KTb1 : b1 = true → V g mX12_go (d + 6) 0 0 n (RT tw dr sk tl ff) I L 30 [some (.ref 73), some (.int v1), some (.int v2)] [] (PoI n (RT tw dr sk tl ff) res.1 res.2.1 res.2.2) := fun hc => by
    replace hf := (if_pos hc).symm.trans hf
    refine V_iconst (pc := 30) dX12_go_30 ic_m1 rfl ?_
    cases hf
    exact V_iret (pc := 31) dX12_go_31 rfl PoI_mk
  have KFb1 : ¬ b1 = true → V g mX12_go (d + 6) 0 0 n (RT tw dr sk tl ff) I L 32 [some (.ref 73), some (.int v1), some (.int v2)] [] (PoI n (RT tw dr sk tl ff) res.1 res.2.1 res.2.2) := fun hc => by
    replace hf := (if_neg hc).symm.trans hf
    refine V_aload_n (pc := 32) dX12_go_32 rfl rfl rfl ?_
    refine V_iconst (pc := 33) dX12_go_33 ic_0 rfl ?_
    obtain ⟨q3, hq3, hf⟩ := bnd hf
    refine V_cVv (md' := mX12_load) (pc := 34) dX12_go_34 mlX12_505 mVX12_load (tX12_load hG hn hq3) rfl (by omega) (congrArg Prod.fst sh_73) rfl (Nat.le_of_ble_eq_true rfl) rfl ?_
    refine V_aload_n (pc := 37) dX12_go_37 rfl rfl rfl ?_
    obtain ⟨q4, hq4, hf⟩ := bnd hf
    refine V_cVv (md' := mX12_layShadows) (pc := 38) dX12_go_38 mlX12_490 mVX12_layShadows (tX12_layShadows hG hn hq4) rfl (by omega) (congrArg Prod.fst sh_73) rfl (Nat.le_of_ble_eq_true rfl) rfl ?_
    refine V_aload_n (pc := 41) dX12_go_41 rfl rfl rfl ?_
    refine V_getR (pc := 42) dX12_go_42 flX12_96 rfl (by omega) (congrArg Prod.fst sh_73) rt_73_63 rfl ?_
    refine V_iload_n (pc := 45) dX12_go_45 rfl rfl rfl ?_
    obtain ⟨hc5, hf⟩ := pif hf
    refine V_iald (pc := 46) dX12_go_46 (by omega) sh_99 hc5 rfl ?_
    let x6 : Int32 := (q4.1 99 v1.toNatClampNeg)
    refine V_istore_n (ls' := [some _, some _, some _, some _]) (pc := 47) dX12_go_47 rfl (Nat.le_of_ble_eq_true rfl) rfl rfl ?_
    refine V_aload_n (pc := 48) dX12_go_48 rfl rfl rfl ?_
    refine V_iload_n (pc := 49) dX12_go_49 rfl rfl rfl ?_
    obtain ⟨q7, hq7, hf⟩ := bnd hf
    refine V_cVl (md' := mX12_movesFrom) (pc := 50) dX12_go_50 mlX12_493 mVX12_movesFrom (tX12_movesFrom hG hn hq7) rfl (by omega) (congrArg Prod.fst sh_73) rfl (Nat.le_of_ble_eq_true rfl) rfl ?_
    refine V_iload_n (pc := 53) dX12_go_53 rfl rfl rfl ?_
    refine V_cSz (md' := mX12_has) (pc := 54) dX12_go_54 mlX12_330 mSX12_has (tX12_has rfl) rfl rfl (Nat.le_of_ble_eq_true rfl) rfl ?_
    refine V_if_ne (pc := 57) (tgt := 62) dX12_go_57 (by decide) rfl (fun hc => ?_) (fun hc => ?_)
    · replace hf := (if_neg hc).symm.trans hf
      refine V_aload_n (pc := 62) dX12_go_62 rfl rfl rfl ?_
      obtain ⟨q8, hq8, hf⟩ := bnd hf
      refine V_cVv (md' := mX12_act) (pc := 63) dX12_go_63 mlX12_521 mVX12_act (tX12_act hG hn hq8) rfl (by omega) (congrArg Prod.fst sh_73) rfl (Nat.le_of_ble_eq_true rfl) rfl ?_
      refine V_aload_n (pc := 66) dX12_go_66 rfl rfl rfl ?_
      refine V_getR (pc := 67) dX12_go_67 flX12_96 rfl (by omega) (congrArg Prod.fst sh_73) rt_73_63 rfl ?_
      refine V_iload_n (pc := 70) dX12_go_70 rfl rfl rfl ?_
      refine V_iload_n (pc := 71) dX12_go_71 rfl rfl rfl ?_
      obtain ⟨hc9, hf⟩ := pif hf
      let I10 : HI := up2 q8 99 v1.toNatClampNeg v2
      refine V_iast (pc := 72) dX12_go_72 (by omega) sh_99 hc9 rfl ?_
      refine V_aload_n (pc := 73) dX12_go_73 rfl rfl rfl ?_
      refine V_getR (pc := 74) dX12_go_74 flX12_96 rfl (by omega) (congrArg Prod.fst sh_73) rt_73_63 rfl ?_
      refine V_iconst (pc := 77) dX12_go_77 ic_4 rfl ?_
      refine V_dup2_11 (pc := 78) dX12_go_78 rfl rfl rfl ?_
      obtain ⟨hc11, hf⟩ := pif hf
      refine V_iald (pc := 79) dX12_go_79 (by omega) sh_99 hc11 rfl ?_
      refine V_iconst (pc := 80) dX12_go_80 ic_1 rfl ?_
      refine V_iload_n (pc := 81) dX12_go_81 rfl rfl rfl ?_
      refine V_ishl (pc := 82) dX12_go_82 rfl ?_
      refine V_ior (pc := 83) dX12_go_83 rfl ?_
      obtain ⟨hc12, hf⟩ := pif hf
      let I13 : HI := up2 I10 99 (4 : Int32).toNatClampNeg ((I10 99 (4 : Int32).toNatClampNeg) ||| ((1 : Int32) <<< (v1 &&& 31)))
      refine V_iast (pc := 84) dX12_go_84 (by omega) sh_99 hc12 rfl ?_
      refine V_iload_n (pc := 85) dX12_go_85 rfl rfl rfl ?_
      refine V_iload_n (pc := 86) dX12_go_86 rfl rfl rfl ?_
      refine V_icmp_ne (pc := 87) (tgt := 94) dX12_go_87 (by decide) rfl (fun hc => ?_) (fun hc => ?_)
      · replace hf := (if_neg hc).symm.trans hf
        refine V_aload_n (pc := 94) dX12_go_94 rfl rfl rfl ?_
        refine V_iload_n (pc := 95) dX12_go_95 rfl rfl rfl ?_
        obtain ⟨q14, hq14, hf⟩ := bnd hf
        refine V_cVl (md' := mX12_nextTo) (pc := 96) dX12_go_96 mlX12_484 mVX12_nextTo (tX12_nextTo hG hn hq14) rfl (by omega) (congrArg Prod.fst sh_73) rfl (Nat.le_of_ble_eq_true rfl) rfl ?_
        refine V_iload_n (pc := 99) dX12_go_99 rfl rfl rfl ?_
        refine V_cSz (md' := mX12_has) (pc := 100) dX12_go_100 mlX12_330 mSX12_has (tX12_has rfl) rfl rfl (Nat.le_of_ble_eq_true rfl) rfl ?_
        refine V_if_eq (pc := 103) (tgt := 110) dX12_go_103 (by decide) rfl (fun hc => ?_) (fun hc => ?_)
        · replace hf := (if_pos hc).symm.trans hf
          refine V_iconst (pc := 110) dX12_go_110 ic_2 rfl ?_
          cases hf
          exact V_iret (pc := 111) dX12_go_111 rfl PoI_mk
        · replace hf := (if_neg hc).symm.trans hf
          refine V_iconst (pc := 106) dX12_go_106 ic_1 rfl ?_
          refine V_goto (pc := 107) (tgt := 111) dX12_go_107 (by decide) ?_
          cases hf
          exact V_iret (pc := 111) dX12_go_111 rfl PoI_mk
      · replace hf := (if_pos hc).symm.trans hf
        refine V_iconst (pc := 90) dX12_go_90 ic_0 rfl ?_
        refine V_goto (pc := 91) (tgt := 111) dX12_go_91 (by decide) ?_
        cases hf
        exact V_iret (pc := 111) dX12_go_111 rfl PoI_mk
    · replace hf := (if_pos hc).symm.trans hf
      refine V_iconst (pc := 60) dX12_go_60 ic_m1 rfl ?_
      cases hf
      exact V_iret (pc := 61) dX12_go_61 rfl PoI_mk
  refine V_if_eq (pc := 5) (tgt := 30) dX12_go_5 (by decide) rfl (fun hc => ?_) (fun hc => ?_)
  · replace hb1 := (if_pos hc).symm.trans hb1
    cases hb1
    exact KTb1 rfl
  · replace hb1 := (if_neg hc).symm.trans hb1
    refine V_aload_n (pc := 8) dX12_go_8 rfl rfl rfl ?_
    refine V_iload_n (pc := 9) dX12_go_9 rfl rfl rfl ?_
    refine V_cVz (md' := mX12_isFree) (pc := 10) dX12_go_10 mlX12_518 mVX12_isFree (tX12_isFree hG hn rfl) rfl (by omega) (congrArg Prod.fst sh_73) rfl (Nat.le_of_ble_eq_true rfl) rfl ?_
    refine V_if_eq (pc := 13) (tgt := 30) dX12_go_13 (by decide) rfl (fun hc => ?_) (fun hc => ?_)
    · replace hb1 := (if_pos hc).symm.trans hb1
      cases hb1
      exact KTb1 rfl
    · replace hb1 := (if_neg hc).symm.trans hb1
      refine V_aload_n (pc := 16) dX12_go_16 rfl rfl rfl ?_
      refine V_getR (pc := 17) dX12_go_17 flX12_96 rfl (by omega) (congrArg Prod.fst sh_73) rt_73_63 rfl ?_
      refine V_iconst (pc := 20) dX12_go_20 ic_4 rfl ?_
      obtain ⟨hc2, hb1⟩ := pif hb1
      refine V_iald (pc := 21) dX12_go_21 (by omega) sh_99 hc2 rfl ?_
      refine V_iload_n (pc := 22) dX12_go_22 rfl rfl rfl ?_
      refine V_ishr (pc := 23) dX12_go_23 rfl ?_
      refine V_iconst (pc := 24) dX12_go_24 ic_1 rfl ?_
      refine V_iand (pc := 25) dX12_go_25 rfl ?_
      refine V_iconst (pc := 26) dX12_go_26 ic_1 rfl ?_
      refine V_icmp_ne (pc := 27) (tgt := 32) dX12_go_27 (by decide) rfl (fun hc => ?_) (fun hc => ?_)
      · replace hb1 := (if_neg hc).symm.trans hb1
        cases hb1
        exact KFb1 (nbt rfl)
      · replace hb1 := (if_pos hc).symm.trans hb1
        cases hb1
        exact KTb1 rfl
