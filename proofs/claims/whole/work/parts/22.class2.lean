/-! ShadowDoors$Ways.comeFrom -/
noncomputable def fX10_comeFrom_8 (sk : Nat) : Nat → Int64 → Int32 → HI → HL → Option (Int64 × HI × HL)
  | 0, _, _, _, _ => none
  | fu + 1, y4, y6, I, L =>
    if y6 < 0 then
      some (y4, I, L)
    else
      Option.bind (fX7_stepFrom sk y4 y6 (0 : Int32) I L) fun q1 =>
      fX10_comeFrom_8 sk fu q1.1 (y6 + (-1 : Int32)) q1.2.1 q1.2.2
set_option maxRecDepth 100000 in
set_option maxHeartbeats 4000000 in
theorem lX10_comeFrom_8 {g : GG} {n d : Nat} {tw dr sk tl ff : Nat} (hG : RG tw dr sk tl ff) (hn : 116 ≤ n) {P : PP} : ∀ (fu : Nat) (y4 : Int64) (y6 : Int32) (I : HI) (L : HL) (res : Int64 × HI × HL), fX10_comeFrom_8 sk fu y4 y6 I L = some res → P (some (.long res.1)) n (RT tw dr sk tl ff) res.2.1 res.2.2 → V g mX10_comeFrom (d + 6) 0 0 n (RT tw dr sk tl ff) I L 8 [some (.ref 61), none, none, none, some (.long y4), none, some (.int y6)] [] P := by
  intro fu
  induction fu with
  | zero => intro y4 y6 I L res hf; cases (show none = some res from hf)
  | succ fu ih =>
    intro y4 y6 I L res hf K
    refine V_iload (pc := 8) dX10_comeFrom_8 rfl rfl ?_
    refine V_if_lt (pc := 10) (tgt := 33) dX10_comeFrom_10 (by decide) rfl (fun hc => ?_) (fun hc => ?_)
    · replace hf := (if_pos hc).symm.trans hf
      refine V_lload (pc := 33) dX10_comeFrom_33 rfl rfl ?_
      cases hf
      exact V_lret (pc := 35) dX10_comeFrom_35 rfl K
    · replace hf := (if_neg hc).symm.trans hf
      refine V_aload_n (pc := 13) dX10_comeFrom_13 rfl rfl rfl ?_
      refine V_getR (pc := 14) dX10_comeFrom_14 flX10_25 rfl (by omega) (congrArg Prod.fst sh_61) rt_61_0 rfl ?_
      refine V_lload (pc := 17) dX10_comeFrom_17 rfl rfl ?_
      refine V_iload (pc := 19) dX10_comeFrom_19 rfl rfl ?_
      refine V_iconst (pc := 21) dX10_comeFrom_21 ic_0 rfl ?_
      obtain ⟨q1, hq1, hf⟩ := bnd hf
      refine V_cVl (md' := mX7_stepFrom) (pc := 22) dX10_comeFrom_22 mlX10_33 mVX7_stepFrom (tX7_stepFrom hG hn hq1) rfl (by omega) (congrArg Prod.fst sh_57) rfl (Nat.le_of_ble_eq_true rfl) rfl ?_
      refine V_lstore (ls' := [some _, none, none, none, some _, none, some _]) (pc := 25) dX10_comeFrom_25 (Nat.le_of_ble_eq_true rfl) rfl rfl ?_
      refine V_iinc (ls' := [some _, none, none, none, some _, none, some _]) (pc := 27) dX10_comeFrom_27 rfl (Nat.le_of_ble_eq_true rfl) (congrArg _ ic_m1) rfl rfl ?_
      refine V_goto (pc := 30) (tgt := 8) dX10_comeFrom_30 (by decide) ?_
      exact V_wk (ih _ _ _ _ _ hf K) ⟨rfl, ⟨rfl, ⟨rfl, trivial⟩⟩⟩
noncomputable def fX10_comeFrom (sk : Nat) (v1 : Int64) (v2 : Int32) (I : HI) (L : HL) : Option (Int64 × HI × HL) :=
  Option.bind (fX10_comeFrom_8 sk FUEL v1 (v2 - (1 : Int32)) I L) fun q2 =>
  some (q2.1, q2.2.1, q2.2.2)
set_option maxRecDepth 100000 in
set_option maxHeartbeats 4000000 in
theorem tX10_comeFrom {g : GG} {n d : Nat} {tw dr sk tl ff : Nat} (hG : RG tw dr sk tl ff) (hn : 116 ≤ n) {v1 : Int64} {v2 : Int32} {I : HI} {L : HL} {res : Int64 × HI × HL} (hf : fX10_comeFrom sk v1 v2 I L = some res) : CT g mX10_comeFrom (d + 6) 0 0 n (RT tw dr sk tl ff) I L [.ref 61, .long v1, .int v2] (PoL n (RT tw dr sk tl ff) res.1 res.2.1 res.2.2) := by
  refine CT.of rfl (Nat.le_of_ble_eq_true rfl) ?_
  show V g mX10_comeFrom (d + 6) 0 0 n (RT tw dr sk tl ff) I L 0 [some (.ref 61), some (.long v1), none, some (.int v2)] [] (PoL n (RT tw dr sk tl ff) res.1 res.2.1 res.2.2)
  refine V_lload_n (pc := 0) dX10_comeFrom_0 rfl rfl rfl ?_
  refine V_lstore (ls' := [some _, some _, none, some _, some _, none]) (pc := 1) dX10_comeFrom_1 (Nat.le_of_ble_eq_true rfl) rfl rfl ?_
  refine V_iload_n (pc := 3) dX10_comeFrom_3 rfl rfl rfl ?_
  refine V_iconst (pc := 4) dX10_comeFrom_4 ic_1 rfl ?_
  refine V_isub (pc := 5) dX10_comeFrom_5 rfl ?_
  refine V_istore (ls' := [some _, some _, none, some _, some _, none, some _]) (pc := 6) dX10_comeFrom_6 (Nat.le_of_ble_eq_true rfl) rfl rfl ?_
  obtain ⟨q2, hq2, hf⟩ := bnd hf
  refine V_wk (lX10_comeFrom_8 hG hn FUEL _ _ _ _ _ hq2 ?_) ⟨rfl, ⟨rfl, ⟨rfl, trivial⟩⟩⟩
  cases hf
  exact PoL_mk
/-! ShadowDoors$Ways.bringTogether -/
noncomputable def fX10_bringTogether_17 (sk : Nat) : Nat → Int64 → Int64 → Int32 → HI → HL → Option (Int64 × Int64 × HI × HL)
  | 0, _, _, _, _, _ => none
  | fu + 1, y3, y5, y7, I, L =>
    Option.bind (
      if (48 : Int32) ≤ y7 then
        some true
      else
        if (y3 &&& y5) = (0 : Int64) then
          some false
        else
          some true
    ) fun b4 =>
    if b4 = true then
      some (y3, y5, I, L)
    else
      Option.bind (fX7_stepFrom sk y3 y7 (0 : Int32) I L) fun q5 =>
      Option.bind (fX7_stepFrom sk y5 y7 (0 : Int32) q5.2.1 q5.2.2) fun q6 =>
      let I7 : HI := up2 q6.2.1 61 3 (y7 + (1 : Int32))
      fX10_bringTogether_17 sk fu q5.1 q6.1 (y7 + (1 : Int32)) I7 q6.2.2
set_option maxRecDepth 100000 in
set_option maxHeartbeats 4000000 in
theorem lX10_bringTogether_17 {g : GG} {n d : Nat} {tw dr sk tl ff : Nat} (hG : RG tw dr sk tl ff) (hn : 116 ≤ n) {P : PP} : ∀ (fu : Nat) (y3 : Int64) (y5 : Int64) (y7 : Int32) (I : HI) (L : HL) (res : Int64 × Int64 × HI × HL), fX10_bringTogether_17 sk fu y3 y5 y7 I L = some res → V g mX10_bringTogether (d + 6) 0 0 n (RT tw dr sk tl ff) res.2.2.1 res.2.2.2 73 [some (.ref 61), none, none, some (.long res.1), none, some (.long res.2.1)] [] P → V g mX10_bringTogether (d + 6) 0 0 n (RT tw dr sk tl ff) I L 17 [some (.ref 61), none, none, some (.long y3), none, some (.long y5), none, some (.int y7)] [] P := by
  intro fu
  induction fu with
  | zero => intro y3 y5 y7 I L res hf; cases (show none = some res from hf)
  | succ fu ih =>
    intro y3 y5 y7 I L res hf K
    refine V_iload (pc := 17) dX10_bringTogether_17 rfl rfl ?_
    refine V_bipush (pc := 19) dX10_bringTogether_19 bp_48 rfl ?_
    obtain ⟨b4, hb4, hf⟩ := bnd hf
    have KTb4 : b4 = true → V g mX10_bringTogether (d + 6) 0 0 n (RT tw dr sk tl ff) I L 73 [some (.ref 61), none, none, some (.long y3), none, some (.long y5), none, some (.int y7)] [] P := fun hc => by
      replace hf := (if_pos hc).symm.trans hf
      cases hf
      exact V_wk K ⟨rfl, ⟨rfl, ⟨rfl, trivial⟩⟩⟩
    have KFb4 : ¬ b4 = true → V g mX10_bringTogether (d + 6) 0 0 n (RT tw dr sk tl ff) I L 33 [some (.ref 61), none, none, some (.long y3), none, some (.long y5), none, some (.int y7)] [] P := fun hc => by
      replace hf := (if_neg hc).symm.trans hf
      refine V_aload_n (pc := 33) dX10_bringTogether_33 rfl rfl rfl ?_
      refine V_getR (pc := 34) dX10_bringTogether_34 flX10_25 rfl (by omega) (congrArg Prod.fst sh_61) rt_61_0 rfl ?_
      refine V_lload_n (pc := 37) dX10_bringTogether_37 rfl rfl rfl ?_
      refine V_iload (pc := 38) dX10_bringTogether_38 rfl rfl ?_
      refine V_iconst (pc := 40) dX10_bringTogether_40 ic_0 rfl ?_
      obtain ⟨q5, hq5, hf⟩ := bnd hf
      refine V_cVl (md' := mX7_stepFrom) (pc := 41) dX10_bringTogether_41 mlX10_33 mVX7_stepFrom (tX7_stepFrom hG hn hq5) rfl (by omega) (congrArg Prod.fst sh_57) rfl (Nat.le_of_ble_eq_true rfl) rfl ?_
      refine V_lstore_n (ls' := [some _, none, none, some _, none, some _, none, some _]) (pc := 44) dX10_bringTogether_44 rfl (Nat.le_of_ble_eq_true rfl) rfl rfl ?_
      refine V_aload_n (pc := 45) dX10_bringTogether_45 rfl rfl rfl ?_
      refine V_getR (pc := 46) dX10_bringTogether_46 flX10_25 rfl (by omega) (congrArg Prod.fst sh_61) rt_61_0 rfl ?_
      refine V_lload (pc := 49) dX10_bringTogether_49 rfl rfl ?_
      refine V_iload (pc := 51) dX10_bringTogether_51 rfl rfl ?_
      refine V_iconst (pc := 53) dX10_bringTogether_53 ic_0 rfl ?_
      obtain ⟨q6, hq6, hf⟩ := bnd hf
      refine V_cVl (md' := mX7_stepFrom) (pc := 54) dX10_bringTogether_54 mlX10_33 mVX7_stepFrom (tX7_stepFrom hG hn hq6) rfl (by omega) (congrArg Prod.fst sh_57) rfl (Nat.le_of_ble_eq_true rfl) rfl ?_
      refine V_lstore (ls' := [some _, none, none, some _, none, some _, none, some _]) (pc := 57) dX10_bringTogether_57 (Nat.le_of_ble_eq_true rfl) rfl rfl ?_
      refine V_aload_n (pc := 59) dX10_bringTogether_59 rfl rfl rfl ?_
      refine V_iload (pc := 60) dX10_bringTogether_60 rfl rfl ?_
      refine V_iconst (pc := 62) dX10_bringTogether_62 ic_1 rfl ?_
      refine V_iadd (pc := 63) dX10_bringTogether_63 rfl ?_
      let I7 : HI := up2 q6.2.1 61 3 (y7 + (1 : Int32))
      refine V_putI (pc := 64) dX10_bringTogether_64 flX10_45 rfl rfl (by omega) (congrArg Prod.fst sh_61) rfl ?_
      refine V_iinc (ls' := [some _, none, none, some _, none, some _, none, some _]) (pc := 67) dX10_bringTogether_67 rfl (Nat.le_of_ble_eq_true rfl) (congrArg _ ic_1) rfl rfl ?_
      refine V_goto (pc := 70) (tgt := 17) dX10_bringTogether_70 (by decide) ?_
      exact V_wk (ih _ _ _ _ _ _ hf K) ⟨rfl, ⟨rfl, ⟨rfl, ⟨rfl, trivial⟩⟩⟩⟩
    refine V_icmp_ge (pc := 21) (tgt := 73) dX10_bringTogether_21 (by decide) rfl (fun hc => ?_) (fun hc => ?_)
    · replace hb4 := (if_pos hc).symm.trans hb4
      cases hb4
      exact KTb4 rfl
    · replace hb4 := (if_neg hc).symm.trans hb4
      refine V_lload_n (pc := 24) dX10_bringTogether_24 rfl rfl rfl ?_
      refine V_lload (pc := 25) dX10_bringTogether_25 rfl rfl ?_
      refine V_land (pc := 27) dX10_bringTogether_27 rfl ?_
      refine V_lconst (pc := 28) dX10_bringTogether_28 lc_0 rfl ?_
      refine V_lc_ne (pc := 29) (tgt := 73) dX10_bringTogether_29 rfl dX10_bringTogether_30 (by decide) rfl (fun hc => ?_) (fun hc => ?_)
      · replace hb4 := (if_neg hc).symm.trans hb4
        cases hb4
        exact KTb4 rfl
      · replace hb4 := (if_pos hc).symm.trans hb4
        cases hb4
        exact KFb4 (nbt rfl)
noncomputable def fX10_bringTogether (sk : Nat) (v1 : Int32) (v2 : Int32) (I : HI) (L : HL) : Option (Bool × HI × HL) :=
  let x1 : Int64 := ((1 : Int64) <<< (v1.toInt64 &&& 63))
  let x2 : Int64 := ((1 : Int64) <<< (v2.toInt64 &&& 63))
  let I3 : HI := up2 I 61 3 (0 : Int32)
  Option.bind (fX10_bringTogether_17 sk FUEL x1 x2 (0 : Int32) I3 L) fun q8 =>
  let I9 : HI := up2 q8.2.2.1 61 4 (fJ13_numberOfTrailingZeros_95d88 (q8.1 &&& q8.2.1))
  if (q8.1 &&& q8.2.1) = (0 : Int64) then
    some (false, I9, q8.2.2.2)
  else
    some (true, I9, q8.2.2.2)
set_option maxRecDepth 100000 in
set_option maxHeartbeats 4000000 in
theorem tX10_bringTogether {g : GG} {n d : Nat} {tw dr sk tl ff : Nat} (hG : RG tw dr sk tl ff) (hn : 116 ≤ n) {v1 : Int32} {v2 : Int32} {I : HI} {L : HL} {res : Bool × HI × HL} (hf : fX10_bringTogether sk v1 v2 I L = some res) : CT g mX10_bringTogether (d + 6) 0 0 n (RT tw dr sk tl ff) I L [.ref 61, .int v1, .int v2] (PoB n (RT tw dr sk tl ff) res.1 res.2.1 res.2.2) := by
  refine CT.of rfl (Nat.le_of_ble_eq_true rfl) ?_
  show V g mX10_bringTogether (d + 6) 0 0 n (RT tw dr sk tl ff) I L 0 [some (.ref 61), some (.int v1), some (.int v2)] [] (PoB n (RT tw dr sk tl ff) res.1 res.2.1 res.2.2)
  refine V_lconst (pc := 0) dX10_bringTogether_0 lc_1 rfl ?_
  refine V_iload_n (pc := 1) dX10_bringTogether_1 rfl rfl rfl ?_
  refine V_lshl (pc := 2) dX10_bringTogether_2 rfl ?_
  let x1 : Int64 := ((1 : Int64) <<< (v1.toInt64 &&& 63))
  refine V_lstore_n (ls' := [some _, some _, some _, some _, none]) (pc := 3) dX10_bringTogether_3 rfl (Nat.le_of_ble_eq_true rfl) rfl rfl ?_
  refine V_lconst (pc := 4) dX10_bringTogether_4 lc_1 rfl ?_
  refine V_iload_n (pc := 5) dX10_bringTogether_5 rfl rfl rfl ?_
  refine V_lshl (pc := 6) dX10_bringTogether_6 rfl ?_
  let x2 : Int64 := ((1 : Int64) <<< (v2.toInt64 &&& 63))
  refine V_lstore (ls' := [some _, some _, some _, some _, none, some _, none]) (pc := 7) dX10_bringTogether_7 (Nat.le_of_ble_eq_true rfl) rfl rfl ?_
  refine V_aload_n (pc := 9) dX10_bringTogether_9 rfl rfl rfl ?_
  refine V_iconst (pc := 10) dX10_bringTogether_10 ic_0 rfl ?_
  let I3 : HI := up2 I 61 3 (0 : Int32)
  refine V_putI (pc := 11) dX10_bringTogether_11 flX10_45 rfl rfl (by omega) (congrArg Prod.fst sh_61) rfl ?_
  refine V_iconst (pc := 14) dX10_bringTogether_14 ic_0 rfl ?_
  refine V_istore (ls' := [some _, some _, some _, some _, none, some _, none, some _]) (pc := 15) dX10_bringTogether_15 (Nat.le_of_ble_eq_true rfl) rfl rfl ?_
  obtain ⟨q8, hq8, hf⟩ := bnd hf
  refine V_wk (lX10_bringTogether_17 hG hn FUEL _ _ _ _ _ _ hq8 ?_) ⟨rfl, ⟨rfl, ⟨rfl, ⟨rfl, trivial⟩⟩⟩⟩
  refine V_aload_n (pc := 73) dX10_bringTogether_73 rfl rfl rfl ?_
  refine V_lload_n (pc := 74) dX10_bringTogether_74 rfl rfl rfl ?_
  refine V_lload (pc := 75) dX10_bringTogether_75 rfl rfl ?_
  refine V_land (pc := 77) dX10_bringTogether_77 rfl ?_
  refine V_cSi (md' := mJ13_numberOfTrailingZeros_95d88) (pc := 78) dX10_bringTogether_78 mlX10_39 mSJ13_numberOfTrailingZeros_95d88 (tJ13_numberOfTrailingZeros_95d88 rfl) rfl rfl (Nat.le_of_ble_eq_true rfl) rfl ?_
  let I9 : HI := up2 q8.2.2.1 61 4 (fJ13_numberOfTrailingZeros_95d88 (q8.1 &&& q8.2.1))
  refine V_putI (pc := 81) dX10_bringTogether_81 flX10_48 rfl rfl (by omega) (congrArg Prod.fst sh_61) rfl ?_
  refine V_lload_n (pc := 84) dX10_bringTogether_84 rfl rfl rfl ?_
  refine V_lload (pc := 85) dX10_bringTogether_85 rfl rfl ?_
  refine V_land (pc := 87) dX10_bringTogether_87 rfl ?_
  refine V_lconst (pc := 88) dX10_bringTogether_88 lc_0 rfl ?_
  refine V_lc_eq (pc := 89) (tgt := 97) dX10_bringTogether_89 rfl dX10_bringTogether_90 (by decide) rfl (fun hc => ?_) (fun hc => ?_)
  · replace hf := (if_pos hc).symm.trans hf
    refine V_iconst (pc := 97) dX10_bringTogether_97 ic_0 rfl ?_
    cases hf
    exact V_zretE (pc := 98) dX10_bringTogether_98 rfl (show (0 : Int32) = b2i false from rfl) PoB_mk
  · replace hf := (if_neg hc).symm.trans hf
    refine V_iconst (pc := 93) dX10_bringTogether_93 ic_1 rfl ?_
    refine V_goto (pc := 94) (tgt := 98) dX10_bringTogether_94 (by decide) ?_
    cases hf
    exact V_zretE (pc := 98) dX10_bringTogether_98 rfl (show (1 : Int32) = b2i true from rfl) PoB_mk
/-! ShadowDoors$Ways.joinedWith -/
noncomputable def fX10_joinedWith_6 (sk : Nat) : Nat → Int32 → Int64 → Int32 → HI → HL → Option (Int64 × HI × HL)
  | 0, _, _, _, _, _ => none
  | fu + 1, y3, y4, y6, I, L =>
    if (64 : Int32) ≤ y6 then
      some (y4, I, L)
    else
      Option.bind (fX7_stepFrom sk y4 y3 (0 : Int32) I L) fun q1 =>
      if q1.1 = y4 then
        some (y4, q1.2.1, q1.2.2)
      else
        fX10_joinedWith_6 sk fu y3 q1.1 (y6 + (1 : Int32)) q1.2.1 q1.2.2
set_option maxRecDepth 100000 in
set_option maxHeartbeats 4000000 in
theorem lX10_joinedWith_6 {g : GG} {n d : Nat} {tw dr sk tl ff : Nat} (hG : RG tw dr sk tl ff) (hn : 116 ≤ n) {P : PP} : ∀ (fu : Nat) (y3 : Int32) (y4 : Int64) (y6 : Int32) (I : HI) (L : HL) (res : Int64 × HI × HL), fX10_joinedWith_6 sk fu y3 y4 y6 I L = some res → P (some (.long res.1)) n (RT tw dr sk tl ff) res.2.1 res.2.2 → V g mX10_joinedWith (d + 6) 0 0 n (RT tw dr sk tl ff) I L 6 [some (.ref 61), none, none, some (.int y3), some (.long y4), none, some (.int y6)] [] P := by
  intro fu
  induction fu with
  | zero => intro y3 y4 y6 I L res hf; cases (show none = some res from hf)
  | succ fu ih =>
    intro y3 y4 y6 I L res hf K
    refine V_iload (pc := 6) dX10_joinedWith_6 rfl rfl ?_
    refine V_bipush (pc := 8) dX10_joinedWith_8 bp_64 rfl ?_
    refine V_icmp_ge (pc := 10) (tgt := 47) dX10_joinedWith_10 (by decide) rfl (fun hc => ?_) (fun hc => ?_)
    · replace hf := (if_pos hc).symm.trans hf
      refine V_lload (pc := 47) dX10_joinedWith_47 rfl rfl ?_
      cases hf
      exact V_lret (pc := 49) dX10_joinedWith_49 rfl K
    · replace hf := (if_neg hc).symm.trans hf
      refine V_aload_n (pc := 13) dX10_joinedWith_13 rfl rfl rfl ?_
      refine V_getR (pc := 14) dX10_joinedWith_14 flX10_25 rfl (by omega) (congrArg Prod.fst sh_61) rt_61_0 rfl ?_
      refine V_lload (pc := 17) dX10_joinedWith_17 rfl rfl ?_
      refine V_iload_n (pc := 19) dX10_joinedWith_19 rfl rfl rfl ?_
      refine V_iconst (pc := 20) dX10_joinedWith_20 ic_0 rfl ?_
      obtain ⟨q1, hq1, hf⟩ := bnd hf
      refine V_cVl (md' := mX7_stepFrom) (pc := 21) dX10_joinedWith_21 mlX10_33 mVX7_stepFrom (tX7_stepFrom hG hn hq1) rfl (by omega) (congrArg Prod.fst sh_57) rfl (Nat.le_of_ble_eq_true rfl) rfl ?_
      refine V_lstore (ls' := [some _, none, none, some _, some _, none, some _, some _, none]) (pc := 24) dX10_joinedWith_24 (Nat.le_of_ble_eq_true rfl) rfl rfl ?_
      refine V_lload (pc := 26) dX10_joinedWith_26 rfl rfl ?_
      refine V_lload (pc := 28) dX10_joinedWith_28 rfl rfl ?_
      refine V_lc_ne (pc := 30) (tgt := 37) dX10_joinedWith_30 rfl dX10_joinedWith_31 (by decide) rfl (fun hc => ?_) (fun hc => ?_)
      · replace hf := (if_neg hc).symm.trans hf
        refine V_lload (pc := 37) dX10_joinedWith_37 rfl rfl ?_
        refine V_lstore (ls' := [some _, none, none, some _, some _, none, some _, some _, none]) (pc := 39) dX10_joinedWith_39 (Nat.le_of_ble_eq_true rfl) rfl rfl ?_
        refine V_iinc (ls' := [some _, none, none, some _, some _, none, some _, some _, none]) (pc := 41) dX10_joinedWith_41 rfl (Nat.le_of_ble_eq_true rfl) (congrArg _ ic_1) rfl rfl ?_
        refine V_goto (pc := 44) (tgt := 6) dX10_joinedWith_44 (by decide) ?_
        exact V_wk (ih _ _ _ _ _ _ hf K) ⟨rfl, ⟨rfl, ⟨rfl, ⟨rfl, trivial⟩⟩⟩⟩
      · replace hf := (if_pos hc).symm.trans hf
        refine V_goto (pc := 34) (tgt := 47) dX10_joinedWith_34 (by decide) ?_
        refine V_lload (pc := 47) dX10_joinedWith_47 rfl rfl ?_
        cases hf
        exact V_lret (pc := 49) dX10_joinedWith_49 rfl K
noncomputable def fX10_joinedWith (sk : Nat) (v1 : Int64) (v2 : Int32) (I : HI) (L : HL) : Option (Int64 × HI × HL) :=
  Option.bind (fX10_joinedWith_6 sk FUEL v2 v1 (0 : Int32) I L) fun q2 =>
  some (q2.1, q2.2.1, q2.2.2)
set_option maxRecDepth 100000 in
set_option maxHeartbeats 4000000 in
theorem tX10_joinedWith {g : GG} {n d : Nat} {tw dr sk tl ff : Nat} (hG : RG tw dr sk tl ff) (hn : 116 ≤ n) {v1 : Int64} {v2 : Int32} {I : HI} {L : HL} {res : Int64 × HI × HL} (hf : fX10_joinedWith sk v1 v2 I L = some res) : CT g mX10_joinedWith (d + 6) 0 0 n (RT tw dr sk tl ff) I L [.ref 61, .long v1, .int v2] (PoL n (RT tw dr sk tl ff) res.1 res.2.1 res.2.2) := by
  refine CT.of rfl (Nat.le_of_ble_eq_true rfl) ?_
  show V g mX10_joinedWith (d + 6) 0 0 n (RT tw dr sk tl ff) I L 0 [some (.ref 61), some (.long v1), none, some (.int v2)] [] (PoL n (RT tw dr sk tl ff) res.1 res.2.1 res.2.2)
  refine V_lload_n (pc := 0) dX10_joinedWith_0 rfl rfl rfl ?_
  refine V_lstore (ls' := [some _, some _, none, some _, some _, none]) (pc := 1) dX10_joinedWith_1 (Nat.le_of_ble_eq_true rfl) rfl rfl ?_
  refine V_iconst (pc := 3) dX10_joinedWith_3 ic_0 rfl ?_
  refine V_istore (ls' := [some _, some _, none, some _, some _, none, some _]) (pc := 4) dX10_joinedWith_4 (Nat.le_of_ble_eq_true rfl) rfl rfl ?_
  obtain ⟨q2, hq2, hf⟩ := bnd hf
  refine V_wk (lX10_joinedWith_6 hG hn FUEL _ _ _ _ _ _ hq2 ?_) ⟨rfl, ⟨rfl, ⟨rfl, ⟨rfl, trivial⟩⟩⟩⟩
  cases hf
  exact PoL_mk
/-! ShadowDoors$Ways.countJoined -/
noncomputable def fX10_countJoined_17 (sk : Nat) : Nat → Int32 → Int64 → Int32 → Int32 → HI → HL → Option (Int32 × HI × HL)
  | 0, _, _, _, _, _, _ => none
  | fu + 1, y1, y2, y4, y5, I, L =>
    Option.bind (
      if (64 : Int32) ≤ y5 then
        some true
      else
        if y2 = (0 : Int64) then
          some true
        else
          some false
    ) fun b1 =>
    if b1 = true then
      some (y4, I, L)
    else
      Option.bind (fX10_joinedWith sk (fJ13_lowestOneBit_067f4 y2) y1 I L) fun q2 =>
      let x3 : Int64 := (y2 &&& (q2.1 ^^^ (-1 : Int64)))
      fX10_countJoined_17 sk fu y1 x3 (y4 + (1 : Int32)) (y5 + (1 : Int32)) q2.2.1 q2.2.2
set_option maxRecDepth 100000 in
set_option maxHeartbeats 4000000 in
theorem lX10_countJoined_17 {g : GG} {n d : Nat} {tw dr sk tl ff : Nat} (hG : RG tw dr sk tl ff) (hn : 116 ≤ n) {P : PP} : ∀ (fu : Nat) (y1 : Int32) (y2 : Int64) (y4 : Int32) (y5 : Int32) (I : HI) (L : HL) (res : Int32 × HI × HL), fX10_countJoined_17 sk fu y1 y2 y4 y5 I L = some res → P (some (.int res.1)) n (RT tw dr sk tl ff) res.2.1 res.2.2 → V g mX10_countJoined (d + 7) 0 0 n (RT tw dr sk tl ff) I L 17 [some (.ref 61), some (.int y1), some (.long y2), none, some (.int y4), some (.int y5)] [] P := by
  intro fu
  induction fu with
  | zero => intro y1 y2 y4 y5 I L res hf; cases (show none = some res from hf)
  | succ fu ih =>
    intro y1 y2 y4 y5 I L res hf K
    refine V_iload (pc := 17) dX10_countJoined_17 rfl rfl ?_
    refine V_bipush (pc := 19) dX10_countJoined_19 bp_64 rfl ?_
    obtain ⟨b1, hb1, hf⟩ := bnd hf
    have KTb1 : b1 = true → V g mX10_countJoined (d + 7) 0 0 n (RT tw dr sk tl ff) I L 55 [some (.ref 61), some (.int y1), some (.long y2), none, some (.int y4), some (.int y5)] [] P := fun hc => by
      replace hf := (if_pos hc).symm.trans hf
      refine V_iload (pc := 55) dX10_countJoined_55 rfl rfl ?_
      cases hf
      exact V_iret (pc := 57) dX10_countJoined_57 rfl K
    have KFb1 : ¬ b1 = true → V g mX10_countJoined (d + 7) 0 0 n (RT tw dr sk tl ff) I L 30 [some (.ref 61), some (.int y1), some (.long y2), none, some (.int y4), some (.int y5)] [] P := fun hc => by
      replace hf := (if_neg hc).symm.trans hf
      refine V_lload_n (pc := 30) dX10_countJoined_30 rfl rfl rfl ?_
      refine V_aload_n (pc := 31) dX10_countJoined_31 rfl rfl rfl ?_
      refine V_lload_n (pc := 32) dX10_countJoined_32 rfl rfl rfl ?_
      refine V_cSl (md' := mJ13_lowestOneBit_067f4) (pc := 33) dX10_countJoined_33 mlX10_61 mSJ13_lowestOneBit_067f4 (tJ13_lowestOneBit_067f4 rfl) rfl rfl (Nat.le_of_ble_eq_true rfl) rfl ?_
      refine V_iload_n (pc := 36) dX10_countJoined_36 rfl rfl rfl ?_
      obtain ⟨q2, hq2, hf⟩ := bnd hf
      refine V_cVl (md' := mX10_joinedWith) (pc := 37) dX10_countJoined_37 mlX10_65 mVX10_joinedWith (tX10_joinedWith hG hn hq2) rfl (by omega) (congrArg Prod.fst sh_61) rfl (Nat.le_of_ble_eq_true rfl) rfl ?_
      refine V_ldc2 (pc := 40) dX10_countJoined_40 klX10_69 rfl ?_
      refine V_lxor (pc := 43) dX10_countJoined_43 rfl ?_
      refine V_land (pc := 44) dX10_countJoined_44 rfl ?_
      let x3 : Int64 := (y2 &&& (q2.1 ^^^ (-1 : Int64)))
      refine V_lstore_n (ls' := [some _, some _, some _, none, some _, some _]) (pc := 45) dX10_countJoined_45 rfl (Nat.le_of_ble_eq_true rfl) rfl rfl ?_
      refine V_iinc (ls' := [some _, some _, some _, none, some _, some _]) (pc := 46) dX10_countJoined_46 rfl (Nat.le_of_ble_eq_true rfl) (congrArg _ ic_1) rfl rfl ?_
      refine V_iinc (ls' := [some _, some _, some _, none, some _, some _]) (pc := 49) dX10_countJoined_49 rfl (Nat.le_of_ble_eq_true rfl) (congrArg _ ic_1) rfl rfl ?_
      refine V_goto (pc := 52) (tgt := 17) dX10_countJoined_52 (by decide) ?_
      exact V_wk (ih _ _ _ _ _ _ _ hf K) ⟨rfl, ⟨rfl, ⟨rfl, ⟨rfl, ⟨rfl, trivial⟩⟩⟩⟩⟩
    refine V_icmp_ge (pc := 21) (tgt := 55) dX10_countJoined_21 (by decide) rfl (fun hc => ?_) (fun hc => ?_)
    · replace hb1 := (if_pos hc).symm.trans hb1
      cases hb1
      exact KTb1 rfl
    · replace hb1 := (if_neg hc).symm.trans hb1
      refine V_lload_n (pc := 24) dX10_countJoined_24 rfl rfl rfl ?_
      refine V_lconst (pc := 25) dX10_countJoined_25 lc_0 rfl ?_
      refine V_lc_eq (pc := 26) (tgt := 55) dX10_countJoined_26 rfl dX10_countJoined_27 (by decide) rfl (fun hc => ?_) (fun hc => ?_)
      · replace hb1 := (if_pos hc).symm.trans hb1
        cases hb1
        exact KTb1 rfl
      · replace hb1 := (if_neg hc).symm.trans hb1
        cases hb1
        exact KFb1 (nbt rfl)
noncomputable def fX10_countJoined (sk : Nat) (v1 : Int32) (I : HI) (L : HL) : Option (Int32 × HI × HL) :=
  Option.bind (fX10_countJoined_17 sk FUEL v1 (L sk 4) (0 : Int32) (0 : Int32) I L) fun q4 =>
  some (q4.1, q4.2.1, q4.2.2)
set_option maxRecDepth 100000 in
set_option maxHeartbeats 4000000 in
theorem tX10_countJoined {g : GG} {n d : Nat} {tw dr sk tl ff : Nat} (hG : RG tw dr sk tl ff) (hn : 116 ≤ n) {v1 : Int32} {I : HI} {L : HL} {res : Int32 × HI × HL} (hf : fX10_countJoined sk v1 I L = some res) : CT g mX10_countJoined (d + 7) 0 0 n (RT tw dr sk tl ff) I L [.ref 61, .int v1] (PoI n (RT tw dr sk tl ff) res.1 res.2.1 res.2.2) := by
  refine CT.of rfl (Nat.le_of_ble_eq_true rfl) ?_
  show V g mX10_countJoined (d + 7) 0 0 n (RT tw dr sk tl ff) I L 0 [some (.ref 61), some (.int v1)] [] (PoI n (RT tw dr sk tl ff) res.1 res.2.1 res.2.2)
  refine V_aload_n (pc := 0) dX10_countJoined_0 rfl rfl rfl ?_
  refine V_getR (pc := 1) dX10_countJoined_1 flX10_25 rfl (by omega) (congrArg Prod.fst sh_61) rt_61_0 rfl ?_
  refine V_getR (pc := 4) dX10_countJoined_4 flX10_51 rfl (by omega) (congrArg Prod.fst sh_57) rt_57_0 rfl ?_
  refine V_getL (pc := 7) dX10_countJoined_7 flX10_55 rfl (by omega) (congrArg Prod.fst (shQ hG.2.2.1)) rfl ?_
  refine V_lstore_n (ls' := [some _, some _, some _, none]) (pc := 10) dX10_countJoined_10 rfl (Nat.le_of_ble_eq_true rfl) rfl rfl ?_
  refine V_iconst (pc := 11) dX10_countJoined_11 ic_0 rfl ?_
  refine V_istore (ls' := [some _, some _, some _, none, some _]) (pc := 12) dX10_countJoined_12 (Nat.le_of_ble_eq_true rfl) rfl rfl ?_
  refine V_iconst (pc := 14) dX10_countJoined_14 ic_0 rfl ?_
  refine V_istore (ls' := [some _, some _, some _, none, some _, some _]) (pc := 15) dX10_countJoined_15 (Nat.le_of_ble_eq_true rfl) rfl rfl ?_
  obtain ⟨q4, hq4, hf⟩ := bnd hf
  refine V_wk (lX10_countJoined_17 hG hn FUEL _ _ _ _ _ _ _ hq4 ?_) ⟨rfl, ⟨rfl, ⟨rfl, ⟨rfl, ⟨rfl, trivial⟩⟩⟩⟩⟩
  cases hf
  exact PoI_mk
/-! ShadowDoors$Ways.canBe -/
noncomputable def fX10_canBe_8 (sk : Nat) : Nat → Int32 → Int32 → Int32 → Int64 → Int32 → HI → HL → Option (Int64 × HI × HL)
  | 0, _, _, _, _, _, _, _ => none
  | fu + 1, y2, y3, y4, y5, y7, I, L =>
    Option.bind (
      if y3 ≤ y7 then
        some true
      else
        if ((y5.toUInt64 >>> (y2.toInt64.toUInt64 &&& Int64.toUInt64 63)).toInt64 &&& (1 : Int64)) = (0 : Int64) then
          some false
        else
          some true
    ) fun b2 =>
    if b2 = true then
      some (y5, I, L)
    else
      Option.bind (fX7_stepFrom sk y5 y7 y4 I L) fun q3 =>
      fX10_canBe_8 sk fu y2 y3 y4 q3.1 (y7 + (1 : Int32)) q3.2.1 q3.2.2
set_option maxRecDepth 100000 in
set_option maxHeartbeats 4000000 in
theorem lX10_canBe_8 {g : GG} {n d : Nat} {tw dr sk tl ff : Nat} (hG : RG tw dr sk tl ff) (hn : 116 ≤ n) {P : PP} : ∀ (fu : Nat) (y2 : Int32) (y3 : Int32) (y4 : Int32) (y5 : Int64) (y7 : Int32) (I : HI) (L : HL) (res : Int64 × HI × HL), fX10_canBe_8 sk fu y2 y3 y4 y5 y7 I L = some res → V g mX10_canBe (d + 6) 0 0 n (RT tw dr sk tl ff) res.2.1 res.2.2 46 [none, none, some (.int y2), none, none, some (.long res.1)] [] P → V g mX10_canBe (d + 6) 0 0 n (RT tw dr sk tl ff) I L 8 [some (.ref 61), none, some (.int y2), some (.int y3), some (.int y4), some (.long y5), none, some (.int y7)] [] P := by
  intro fu
  induction fu with
  | zero => intro y2 y3 y4 y5 y7 I L res hf; cases (show none = some res from hf)
  | succ fu ih =>
    intro y2 y3 y4 y5 y7 I L res hf K
    refine V_iload (pc := 8) dX10_canBe_8 rfl rfl ?_
    refine V_iload_n (pc := 10) dX10_canBe_10 rfl rfl rfl ?_
    obtain ⟨b2, hb2, hf⟩ := bnd hf
    have KTb2 : b2 = true → V g mX10_canBe (d + 6) 0 0 n (RT tw dr sk tl ff) I L 46 [some (.ref 61), none, some (.int y2), some (.int y3), some (.int y4), some (.long y5), none, some (.int y7)] [] P := fun hc => by
      replace hf := (if_pos hc).symm.trans hf
      cases hf
      exact V_wk K ⟨rfl, ⟨rfl, trivial⟩⟩
    have KFb2 : ¬ b2 = true → V g mX10_canBe (d + 6) 0 0 n (RT tw dr sk tl ff) I L 25 [some (.ref 61), none, some (.int y2), some (.int y3), some (.int y4), some (.long y5), none, some (.int y7)] [] P := fun hc => by
      replace hf := (if_neg hc).symm.trans hf
      refine V_aload_n (pc := 25) dX10_canBe_25 rfl rfl rfl ?_
      refine V_getR (pc := 26) dX10_canBe_26 flX10_25 rfl (by omega) (congrArg Prod.fst sh_61) rt_61_0 rfl ?_
      refine V_lload (pc := 29) dX10_canBe_29 rfl rfl ?_
      refine V_iload (pc := 31) dX10_canBe_31 rfl rfl ?_
      refine V_iload (pc := 33) dX10_canBe_33 rfl rfl ?_
      obtain ⟨q3, hq3, hf⟩ := bnd hf
      refine V_cVl (md' := mX7_stepFrom) (pc := 35) dX10_canBe_35 mlX10_33 mVX7_stepFrom (tX7_stepFrom hG hn hq3) rfl (by omega) (congrArg Prod.fst sh_57) rfl (Nat.le_of_ble_eq_true rfl) rfl ?_
      refine V_lstore (ls' := [some _, none, some _, some _, some _, some _, none, some _]) (pc := 38) dX10_canBe_38 (Nat.le_of_ble_eq_true rfl) rfl rfl ?_
      refine V_iinc (ls' := [some _, none, some _, some _, some _, some _, none, some _]) (pc := 40) dX10_canBe_40 rfl (Nat.le_of_ble_eq_true rfl) (congrArg _ ic_1) rfl rfl ?_
      refine V_goto (pc := 43) (tgt := 8) dX10_canBe_43 (by decide) ?_
      exact V_wk (ih _ _ _ _ _ _ _ _ hf K) ⟨rfl, ⟨rfl, ⟨rfl, ⟨rfl, ⟨rfl, ⟨rfl, trivial⟩⟩⟩⟩⟩⟩
    refine V_icmp_ge (pc := 11) (tgt := 46) dX10_canBe_11 (by decide) rfl (fun hc => ?_) (fun hc => ?_)
    · replace hb2 := (if_pos hc).symm.trans hb2
      cases hb2
      exact KTb2 rfl
    · replace hb2 := (if_neg hc).symm.trans hb2
      refine V_lload (pc := 14) dX10_canBe_14 rfl rfl ?_
      refine V_iload_n (pc := 16) dX10_canBe_16 rfl rfl rfl ?_
      refine V_lushr (pc := 17) dX10_canBe_17 rfl ?_
      refine V_lconst (pc := 18) dX10_canBe_18 lc_1 rfl ?_
      refine V_land (pc := 19) dX10_canBe_19 rfl ?_
      refine V_lconst (pc := 20) dX10_canBe_20 lc_0 rfl ?_
      refine V_lc_ne (pc := 21) (tgt := 46) dX10_canBe_21 rfl dX10_canBe_22 (by decide) rfl (fun hc => ?_) (fun hc => ?_)
      · replace hb2 := (if_neg hc).symm.trans hb2
        cases hb2
        exact KTb2 rfl
      · replace hb2 := (if_pos hc).symm.trans hb2
        cases hb2
        exact KFb2 (nbt rfl)
noncomputable def fX10_canBe (sk : Nat) (v1 : Int32) (v2 : Int32) (v3 : Int32) (v4 : Int32) (I : HI) (L : HL) : Option (Bool × HI × HL) :=
  let x1 : Int64 := ((1 : Int64) <<< (v1.toInt64 &&& 63))
  Option.bind (fX10_canBe_8 sk FUEL v2 v3 v4 x1 (0 : Int32) I L) fun q4 =>
  if ((q4.1.toUInt64 >>> (v2.toInt64.toUInt64 &&& Int64.toUInt64 63)).toInt64 &&& (1 : Int64)) = (0 : Int64) then
    some (false, q4.2.1, q4.2.2)
  else
    some (true, q4.2.1, q4.2.2)
set_option maxRecDepth 100000 in
set_option maxHeartbeats 4000000 in
theorem tX10_canBe {g : GG} {n d : Nat} {tw dr sk tl ff : Nat} (hG : RG tw dr sk tl ff) (hn : 116 ≤ n) {v1 : Int32} {v2 : Int32} {v3 : Int32} {v4 : Int32} {I : HI} {L : HL} {res : Bool × HI × HL} (hf : fX10_canBe sk v1 v2 v3 v4 I L = some res) : CT g mX10_canBe (d + 6) 0 0 n (RT tw dr sk tl ff) I L [.ref 61, .int v1, .int v2, .int v3, .int v4] (PoB n (RT tw dr sk tl ff) res.1 res.2.1 res.2.2) := by
  refine CT.of rfl (Nat.le_of_ble_eq_true rfl) ?_
  show V g mX10_canBe (d + 6) 0 0 n (RT tw dr sk tl ff) I L 0 [some (.ref 61), some (.int v1), some (.int v2), some (.int v3), some (.int v4)] [] (PoB n (RT tw dr sk tl ff) res.1 res.2.1 res.2.2)
  refine V_lconst (pc := 0) dX10_canBe_0 lc_1 rfl ?_
  refine V_iload_n (pc := 1) dX10_canBe_1 rfl rfl rfl ?_
  refine V_lshl (pc := 2) dX10_canBe_2 rfl ?_
  let x1 : Int64 := ((1 : Int64) <<< (v1.toInt64 &&& 63))
  refine V_lstore (ls' := [some _, some _, some _, some _, some _, some _, none]) (pc := 3) dX10_canBe_3 (Nat.le_of_ble_eq_true rfl) rfl rfl ?_
  refine V_iconst (pc := 5) dX10_canBe_5 ic_0 rfl ?_
  refine V_istore (ls' := [some _, some _, some _, some _, some _, some _, none, some _]) (pc := 6) dX10_canBe_6 (Nat.le_of_ble_eq_true rfl) rfl rfl ?_
  obtain ⟨q4, hq4, hf⟩ := bnd hf
  refine V_wk (lX10_canBe_8 hG hn FUEL _ _ _ _ _ _ _ _ hq4 ?_) ⟨rfl, ⟨rfl, ⟨rfl, ⟨rfl, ⟨rfl, ⟨rfl, trivial⟩⟩⟩⟩⟩⟩
  refine V_lload (pc := 46) dX10_canBe_46 rfl rfl ?_
  refine V_iload_n (pc := 48) dX10_canBe_48 rfl rfl rfl ?_
  refine V_lushr (pc := 49) dX10_canBe_49 rfl ?_
  refine V_lconst (pc := 50) dX10_canBe_50 lc_1 rfl ?_
  refine V_land (pc := 51) dX10_canBe_51 rfl ?_
  refine V_lconst (pc := 52) dX10_canBe_52 lc_0 rfl ?_
  refine V_lc_eq (pc := 53) (tgt := 61) dX10_canBe_53 rfl dX10_canBe_54 (by decide) rfl (fun hc => ?_) (fun hc => ?_)
  · replace hf := (if_pos hc).symm.trans hf
    refine V_iconst (pc := 61) dX10_canBe_61 ic_0 rfl ?_
    cases hf
    exact V_zretE (pc := 62) dX10_canBe_62 rfl (show (0 : Int32) = b2i false from rfl) PoB_mk
  · replace hf := (if_neg hc).symm.trans hf
    refine V_iconst (pc := 57) dX10_canBe_57 ic_1 rfl ?_
    refine V_goto (pc := 58) (tgt := 62) dX10_canBe_58 (by decide) ?_
    cases hf
    exact V_zretE (pc := 62) dX10_canBe_62 rfl (show (1 : Int32) = b2i true from rfl) PoB_mk
/-! ShadowDoors$Ways.fewestShut -/
noncomputable def fX10_fewestShut_29 (sk : Nat) : Nat → Int32 → Int32 → Int32 → Int32 → Int32 → Int32 → HI → HL → Option ((HI × HL) ⊕ (Int32 × HI × HL))
  | 0, _, _, _, _, _, _, _, _ => none
  | fu + 1, y1, y2, y3, y4, y5, y6, I, L =>
    if y4 ≤ y6 then
      some (.inl (I, L))
    else
      if (fJ6_bitCount_0f7a4 y6) = y5 then
        Option.bind (fX10_canBe sk y1 y2 y3 y6 I L) fun q2 =>
        if (b2i q2.1) = 0 then
          some (.inr (y6, q2.2.1, q2.2.2))
        else
          fX10_fewestShut_29 sk fu y1 y2 y3 y4 y5 (y6 + (1 : Int32)) q2.2.1 q2.2.2
      else
        fX10_fewestShut_29 sk fu y1 y2 y3 y4 y5 (y6 + (1 : Int32)) I L
set_option maxRecDepth 100000 in
set_option maxHeartbeats 4000000 in
theorem lX10_fewestShut_29 {g : GG} {n d : Nat} {tw dr sk tl ff : Nat} (hG : RG tw dr sk tl ff) (hn : 116 ≤ n) {P : PP} : ∀ (fu : Nat) (y1 : Int32) (y2 : Int32) (y3 : Int32) (y4 : Int32) (y5 : Int32) (y6 : Int32) (I : HI) (L : HL) (res : (HI × HL) ⊕ (Int32 × HI × HL)), fX10_fewestShut_29 sk fu y1 y2 y3 y4 y5 y6 I L = some res → (∀ a, res = .inl a → V g mX10_fewestShut (d + 7) 0 0 n (RT tw dr sk tl ff) a.1 a.2 67 [some (.ref 61), some (.int y1), some (.int y2), some (.int y3), some (.int y4), some (.int y5)] [] P) → (∀ b, res = .inr b → P (some (.int b.1)) n (RT tw dr sk tl ff) b.2.1 b.2.2) → V g mX10_fewestShut (d + 7) 0 0 n (RT tw dr sk tl ff) I L 29 [some (.ref 61), some (.int y1), some (.int y2), some (.int y3), some (.int y4), some (.int y5), some (.int y6)] [] P := by
  intro fu
  induction fu with
  | zero => intro y1 y2 y3 y4 y5 y6 I L res hf; cases (show none = some res from hf)
  | succ fu ih =>
    intro y1 y2 y3 y4 y5 y6 I L res hf K1 K2
    refine V_iload (pc := 29) dX10_fewestShut_29 rfl rfl ?_
    refine V_iload (pc := 31) dX10_fewestShut_31 rfl rfl ?_
    refine V_icmp_ge (pc := 33) (tgt := 67) dX10_fewestShut_33 (by decide) rfl (fun hc => ?_) (fun hc => ?_)
    · replace hf := (if_pos hc).symm.trans hf
      cases hf
      exact V_wk (K1 _ rfl) ⟨rfl, ⟨rfl, ⟨rfl, ⟨rfl, ⟨rfl, ⟨rfl, trivial⟩⟩⟩⟩⟩⟩
    · replace hf := (if_neg hc).symm.trans hf
      refine V_iload (pc := 36) dX10_fewestShut_36 rfl rfl ?_
      refine V_cSi (md' := mJ6_bitCount_0f7a4) (pc := 38) dX10_fewestShut_38 mlX10_80 mSJ6_bitCount_0f7a4 (tJ6_bitCount_0f7a4 rfl) rfl rfl (Nat.le_of_ble_eq_true rfl) rfl ?_
      refine V_iload (pc := 41) dX10_fewestShut_41 rfl rfl ?_
      refine V_icmp_ne (pc := 43) (tgt := 61) dX10_fewestShut_43 (by decide) rfl (fun hc => ?_) (fun hc => ?_)
      · replace hf := (if_neg hc).symm.trans hf
        refine V_iinc (ls' := [some _, some _, some _, some _, some _, some _, some _]) (pc := 61) dX10_fewestShut_61 rfl (Nat.le_of_ble_eq_true rfl) (congrArg _ ic_1) rfl rfl ?_
        refine V_goto (pc := 64) (tgt := 29) dX10_fewestShut_64 (by decide) ?_
        exact V_wk (ih _ _ _ _ _ _ _ _ _ hf K1 K2) ⟨rfl, ⟨rfl, ⟨rfl, ⟨rfl, ⟨rfl, ⟨rfl, ⟨rfl, trivial⟩⟩⟩⟩⟩⟩⟩
      · replace hf := (if_pos hc).symm.trans hf
        refine V_aload_n (pc := 46) dX10_fewestShut_46 rfl rfl rfl ?_
        refine V_iload_n (pc := 47) dX10_fewestShut_47 rfl rfl rfl ?_
        refine V_iload_n (pc := 48) dX10_fewestShut_48 rfl rfl rfl ?_
        refine V_iload_n (pc := 49) dX10_fewestShut_49 rfl rfl rfl ?_
        refine V_iload (pc := 50) dX10_fewestShut_50 rfl rfl ?_
        obtain ⟨q2, hq2, hf⟩ := bnd hf
        refine V_cVz (md' := mX10_canBe) (pc := 52) dX10_fewestShut_52 mlX10_86 mVX10_canBe (tX10_canBe hG hn hq2) rfl (by omega) (congrArg Prod.fst sh_61) rfl (Nat.le_of_ble_eq_true rfl) rfl ?_
        refine V_if_ne (pc := 55) (tgt := 61) dX10_fewestShut_55 (by decide) rfl (fun hc => ?_) (fun hc => ?_)
        · replace hf := (if_neg hc).symm.trans hf
          refine V_iinc (ls' := [some _, some _, some _, some _, some _, some _, some _]) (pc := 61) dX10_fewestShut_61 rfl (Nat.le_of_ble_eq_true rfl) (congrArg _ ic_1) rfl rfl ?_
          refine V_goto (pc := 64) (tgt := 29) dX10_fewestShut_64 (by decide) ?_
          exact V_wk (ih _ _ _ _ _ _ _ _ _ hf K1 K2) ⟨rfl, ⟨rfl, ⟨rfl, ⟨rfl, ⟨rfl, ⟨rfl, ⟨rfl, trivial⟩⟩⟩⟩⟩⟩⟩
        · replace hf := (if_pos hc).symm.trans hf
          refine V_iload (pc := 58) dX10_fewestShut_58 rfl rfl ?_
          cases hf
          exact V_iret (pc := 60) dX10_fewestShut_60 rfl (K2 _ rfl)
noncomputable def fX10_fewestShut_20 (sk : Nat) : Nat → Int32 → Int32 → Int32 → Int32 → Int32 → HI → HL → Option (Int32 × HI × HL)
  | 0, _, _, _, _, _, _, _ => none
  | fu + 1, y1, y2, y3, y4, y5, I, L =>
    if (3 : Int32) < y5 then
      some ((-1 : Int32), I, L)
    else
      Option.bind (fX10_fewestShut_29 sk FUEL y1 y2 y3 y4 y5 (0 : Int32) I L) fun q3 => match q3 with
      | .inl a4 =>
        fX10_fewestShut_20 sk fu y1 y2 y3 y4 (y5 + (1 : Int32)) a4.1 a4.2
      | .inr b5 =>
        some (b5.1, b5.2.1, b5.2.2)
set_option maxRecDepth 100000 in
set_option maxHeartbeats 4000000 in
theorem lX10_fewestShut_20 {g : GG} {n d : Nat} {tw dr sk tl ff : Nat} (hG : RG tw dr sk tl ff) (hn : 116 ≤ n) {P : PP} : ∀ (fu : Nat) (y1 : Int32) (y2 : Int32) (y3 : Int32) (y4 : Int32) (y5 : Int32) (I : HI) (L : HL) (res : Int32 × HI × HL), fX10_fewestShut_20 sk fu y1 y2 y3 y4 y5 I L = some res → P (some (.int res.1)) n (RT tw dr sk tl ff) res.2.1 res.2.2 → V g mX10_fewestShut (d + 7) 0 0 n (RT tw dr sk tl ff) I L 20 [some (.ref 61), some (.int y1), some (.int y2), some (.int y3), some (.int y4), some (.int y5)] [] P := by
  intro fu
  induction fu with
  | zero => intro y1 y2 y3 y4 y5 I L res hf; cases (show none = some res from hf)
  | succ fu ih =>
    intro y1 y2 y3 y4 y5 I L res hf K
    refine V_iload (pc := 20) dX10_fewestShut_20 rfl rfl ?_
    refine V_iconst (pc := 22) dX10_fewestShut_22 ic_3 rfl ?_
    refine V_icmp_gt (pc := 23) (tgt := 73) dX10_fewestShut_23 (by decide) rfl (fun hc => ?_) (fun hc => ?_)
    · replace hf := (if_pos hc).symm.trans hf
      refine V_iconst (pc := 73) dX10_fewestShut_73 ic_m1 rfl ?_
      cases hf
      exact V_iret (pc := 74) dX10_fewestShut_74 rfl K
    · replace hf := (if_neg hc).symm.trans hf
      refine V_iconst (pc := 26) dX10_fewestShut_26 ic_0 rfl ?_
      refine V_istore (ls' := [some _, some _, some _, some _, some _, some _, some _]) (pc := 27) dX10_fewestShut_27 (Nat.le_of_ble_eq_true rfl) rfl rfl ?_
      obtain ⟨q3, hq3, hf⟩ := bnd hf
      refine V_wk (lX10_fewestShut_29 hG hn FUEL _ _ _ _ _ _ _ _ _ hq3 (fun a4 ha4 => ?_) (fun b5 hb5 => ?_)) ⟨rfl, ⟨rfl, ⟨rfl, ⟨rfl, ⟨rfl, ⟨rfl, ⟨rfl, trivial⟩⟩⟩⟩⟩⟩⟩
      · subst ha4
        refine V_iinc (ls' := [some _, some _, some _, some _, some _, some _]) (pc := 67) dX10_fewestShut_67 rfl (Nat.le_of_ble_eq_true rfl) (congrArg _ ic_1) rfl rfl ?_
        refine V_goto (pc := 70) (tgt := 20) dX10_fewestShut_70 (by decide) ?_
        exact V_wk (ih _ _ _ _ _ _ _ _ hf K) ⟨rfl, ⟨rfl, ⟨rfl, ⟨rfl, ⟨rfl, ⟨rfl, trivial⟩⟩⟩⟩⟩⟩
      · subst hb5
        cases hf
        exact K
noncomputable def fX10_fewestShut (sk : Nat) (v1 : Int32) (v2 : Int32) (v3 : Int32) (I : HI) (L : HL) : Option (Int32 × HI × HL) :=
  let x1 : Int32 := ((1 : Int32) <<< ((I (sk + 1) 0) &&& 31))
  Option.bind (fX10_fewestShut_20 sk FUEL v1 v2 v3 x1 (0 : Int32) I L) fun q6 =>
  some (q6.1, q6.2.1, q6.2.2)
set_option maxRecDepth 100000 in
set_option maxHeartbeats 4000000 in
theorem tX10_fewestShut {g : GG} {n d : Nat} {tw dr sk tl ff : Nat} (hG : RG tw dr sk tl ff) (hn : 116 ≤ n) {v1 : Int32} {v2 : Int32} {v3 : Int32} {I : HI} {L : HL} {res : Int32 × HI × HL} (hf : fX10_fewestShut sk v1 v2 v3 I L = some res) : CT g mX10_fewestShut (d + 7) 0 0 n (RT tw dr sk tl ff) I L [.ref 61, .int v1, .int v2, .int v3] (PoI n (RT tw dr sk tl ff) res.1 res.2.1 res.2.2) := by
  refine CT.of rfl (Nat.le_of_ble_eq_true rfl) ?_
  show V g mX10_fewestShut (d + 7) 0 0 n (RT tw dr sk tl ff) I L 0 [some (.ref 61), some (.int v1), some (.int v2), some (.int v3)] [] (PoI n (RT tw dr sk tl ff) res.1 res.2.1 res.2.2)
  refine V_iconst (pc := 0) dX10_fewestShut_0 ic_1 rfl ?_
  refine V_aload_n (pc := 1) dX10_fewestShut_1 rfl rfl rfl ?_
  refine V_getR (pc := 2) dX10_fewestShut_2 flX10_25 rfl (by omega) (congrArg Prod.fst sh_61) rt_61_0 rfl ?_
  refine V_getR (pc := 5) dX10_fewestShut_5 flX10_51 rfl (by omega) (congrArg Prod.fst sh_57) rt_57_0 rfl ?_
  refine V_getR (pc := 8) dX10_fewestShut_8 flX10_71 rfl (by omega) (congrArg Prod.fst (shQ hG.2.2.1)) (rQ_6 (rQ_RT hG.2.2.1)) rfl ?_
  refine V_getI (pc := 11) dX10_fewestShut_11 flX10_75 rfl (by omega) (congrArg Prod.fst (shT (qT_6 hG.2.2.1))) rfl ?_
  refine V_ishl (pc := 14) dX10_fewestShut_14 rfl ?_
  let x1 : Int32 := ((1 : Int32) <<< ((I (sk + 1) 0) &&& 31))
  refine V_istore (ls' := [some _, some _, some _, some _, some _]) (pc := 15) dX10_fewestShut_15 (Nat.le_of_ble_eq_true rfl) rfl rfl ?_
  refine V_iconst (pc := 17) dX10_fewestShut_17 ic_0 rfl ?_
  refine V_istore (ls' := [some _, some _, some _, some _, some _, some _]) (pc := 18) dX10_fewestShut_18 (Nat.le_of_ble_eq_true rfl) rfl rfl ?_
  obtain ⟨q6, hq6, hf⟩ := bnd hf
  refine V_wk (lX10_fewestShut_20 hG hn FUEL _ _ _ _ _ _ _ _ hq6 ?_) ⟨rfl, ⟨rfl, ⟨rfl, ⟨rfl, ⟨rfl, ⟨rfl, trivial⟩⟩⟩⟩⟩⟩
  cases hf
  exact PoI_mk
/-! ShadowDoors$Ways.fewestLit -/
noncomputable def fX10_fewestLit_28 (sk : Nat) : Nat → Int32 → Int32 → Int32 → Int32 → Int32 → Int32 → HI → HL → Option ((HI × HL) ⊕ (Int32 × HI × HL))
  | 0, _, _, _, _, _, _, _, _ => none
  | fu + 1, y1, y2, y3, y4, y5, y6, I, L =>
    if ((1 : Int32) <<< (y4 &&& 31)) ≤ y6 then
      some (.inl (I, L))
    else
      if (fJ6_bitCount_0f7a4 y6) = y5 then
        obn (fX7_burn y6 I L) fun q1 =>
        Option.bind (fX10_canBe sk y1 y2 y3 (0 : Int32) q1.1 q1.2) fun q2 =>
        if (b2i q2.1) = 0 then
          fX10_fewestLit_28 sk fu y1 y2 y3 y4 y5 (y6 + (1 : Int32)) q2.2.1 q2.2.2
        else
          some (.inr (y6, q2.2.1, q2.2.2))
      else
        fX10_fewestLit_28 sk fu y1 y2 y3 y4 y5 (y6 + (1 : Int32)) I L
set_option maxRecDepth 100000 in
set_option maxHeartbeats 4000000 in
theorem lX10_fewestLit_28 {g : GG} {n d : Nat} {tw dr sk tl ff : Nat} (hG : RG tw dr sk tl ff) (hn : 116 ≤ n) {P : PP} : ∀ (fu : Nat) (y1 : Int32) (y2 : Int32) (y3 : Int32) (y4 : Int32) (y5 : Int32) (y6 : Int32) (I : HI) (L : HL) (res : (HI × HL) ⊕ (Int32 × HI × HL)), fX10_fewestLit_28 sk fu y1 y2 y3 y4 y5 y6 I L = some res → (∀ a, res = .inl a → V g mX10_fewestLit (d + 7) 0 0 n (RT tw dr sk tl ff) a.1 a.2 76 [some (.ref 61), some (.int y1), some (.int y2), some (.int y3), some (.int y4), some (.int y5)] [] P) → (∀ b, res = .inr b → P (some (.int b.1)) n (RT tw dr sk tl ff) b.2.1 b.2.2) → V g mX10_fewestLit (d + 7) 0 0 n (RT tw dr sk tl ff) I L 28 [some (.ref 61), some (.int y1), some (.int y2), some (.int y3), some (.int y4), some (.int y5), some (.int y6)] [] P := by
  intro fu
  induction fu with
  | zero => intro y1 y2 y3 y4 y5 y6 I L res hf; cases (show none = some res from hf)
  | succ fu ih =>
    intro y1 y2 y3 y4 y5 y6 I L res hf K1 K2
    refine V_iload (pc := 28) dX10_fewestLit_28 rfl rfl ?_
    refine V_iconst (pc := 30) dX10_fewestLit_30 ic_1 rfl ?_
    refine V_iload (pc := 31) dX10_fewestLit_31 rfl rfl ?_
    refine V_ishl (pc := 33) dX10_fewestLit_33 rfl ?_
    refine V_icmp_ge (pc := 34) (tgt := 76) dX10_fewestLit_34 (by decide) rfl (fun hc => ?_) (fun hc => ?_)
    · replace hf := (if_pos hc).symm.trans hf
      cases hf
      exact V_wk (K1 _ rfl) ⟨rfl, ⟨rfl, ⟨rfl, ⟨rfl, ⟨rfl, ⟨rfl, trivial⟩⟩⟩⟩⟩⟩
    · replace hf := (if_neg hc).symm.trans hf
      refine V_iload (pc := 37) dX10_fewestLit_37 rfl rfl ?_
      refine V_cSi (md' := mJ6_bitCount_0f7a4) (pc := 39) dX10_fewestLit_39 mlX10_80 mSJ6_bitCount_0f7a4 (tJ6_bitCount_0f7a4 rfl) rfl rfl (Nat.le_of_ble_eq_true rfl) rfl ?_
      refine V_iload (pc := 42) dX10_fewestLit_42 rfl rfl ?_
      refine V_icmp_ne (pc := 44) (tgt := 70) dX10_fewestLit_44 (by decide) rfl (fun hc => ?_) (fun hc => ?_)
      · replace hf := (if_neg hc).symm.trans hf
        refine V_iinc (ls' := [some _, some _, some _, some _, some _, some _, some _]) (pc := 70) dX10_fewestLit_70 rfl (Nat.le_of_ble_eq_true rfl) (congrArg _ ic_1) rfl rfl ?_
        refine V_goto (pc := 73) (tgt := 28) dX10_fewestLit_73 (by decide) ?_
        exact V_wk (ih _ _ _ _ _ _ _ _ _ hf K1 K2) ⟨rfl, ⟨rfl, ⟨rfl, ⟨rfl, ⟨rfl, ⟨rfl, ⟨rfl, trivial⟩⟩⟩⟩⟩⟩⟩
      · replace hf := (if_pos hc).symm.trans hf
        refine V_aload_n (pc := 47) dX10_fewestLit_47 rfl rfl rfl ?_
        refine V_getR (pc := 48) dX10_fewestLit_48 flX10_25 rfl (by omega) (congrArg Prod.fst sh_61) rt_61_0 rfl ?_
        refine V_iload (pc := 51) dX10_fewestLit_51 rfl rfl ?_
        obtain ⟨q1, hq1, hf⟩ := obd hf
        refine V_cVv (md' := mX7_burn) (pc := 53) dX10_fewestLit_53 mlX10_93 mVX7_burn (tX7_burn hG hn hq1) rfl (by omega) (congrArg Prod.fst sh_57) rfl (Nat.le_of_ble_eq_true rfl) rfl ?_
        refine V_aload_n (pc := 56) dX10_fewestLit_56 rfl rfl rfl ?_
        refine V_iload_n (pc := 57) dX10_fewestLit_57 rfl rfl rfl ?_
        refine V_iload_n (pc := 58) dX10_fewestLit_58 rfl rfl rfl ?_
        refine V_iload_n (pc := 59) dX10_fewestLit_59 rfl rfl rfl ?_
        refine V_iconst (pc := 60) dX10_fewestLit_60 ic_0 rfl ?_
        obtain ⟨q2, hq2, hf⟩ := bnd hf
        refine V_cVz (md' := mX10_canBe) (pc := 61) dX10_fewestLit_61 mlX10_86 mVX10_canBe (tX10_canBe hG hn hq2) rfl (by omega) (congrArg Prod.fst sh_61) rfl (Nat.le_of_ble_eq_true rfl) rfl ?_
        refine V_if_eq (pc := 64) (tgt := 70) dX10_fewestLit_64 (by decide) rfl (fun hc => ?_) (fun hc => ?_)
        · replace hf := (if_pos hc).symm.trans hf
          refine V_iinc (ls' := [some _, some _, some _, some _, some _, some _, some _]) (pc := 70) dX10_fewestLit_70 rfl (Nat.le_of_ble_eq_true rfl) (congrArg _ ic_1) rfl rfl ?_
          refine V_goto (pc := 73) (tgt := 28) dX10_fewestLit_73 (by decide) ?_
          exact V_wk (ih _ _ _ _ _ _ _ _ _ hf K1 K2) ⟨rfl, ⟨rfl, ⟨rfl, ⟨rfl, ⟨rfl, ⟨rfl, ⟨rfl, trivial⟩⟩⟩⟩⟩⟩⟩
        · replace hf := (if_neg hc).symm.trans hf
          refine V_iload (pc := 67) dX10_fewestLit_67 rfl rfl ?_
          cases hf
          exact V_iret (pc := 69) dX10_fewestLit_69 rfl (K2 _ rfl)
noncomputable def fX10_fewestLit_18 (sk : Nat) : Nat → Int32 → Int32 → Int32 → Int32 → Int32 → HI → HL → Option (Int32 × HI × HL)
  | 0, _, _, _, _, _, _, _ => none
  | fu + 1, y1, y2, y3, y4, y5, I, L =>
    if y4 < y5 then
      some ((-1 : Int32), I, L)
    else
      Option.bind (fX10_fewestLit_28 sk FUEL y1 y2 y3 y4 y5 (0 : Int32) I L) fun q3 => match q3 with
      | .inl a4 =>
        fX10_fewestLit_18 sk fu y1 y2 y3 y4 (y5 + (1 : Int32)) a4.1 a4.2
      | .inr b5 =>
        some (b5.1, b5.2.1, b5.2.2)
set_option maxRecDepth 100000 in
set_option maxHeartbeats 4000000 in
theorem lX10_fewestLit_18 {g : GG} {n d : Nat} {tw dr sk tl ff : Nat} (hG : RG tw dr sk tl ff) (hn : 116 ≤ n) {P : PP} : ∀ (fu : Nat) (y1 : Int32) (y2 : Int32) (y3 : Int32) (y4 : Int32) (y5 : Int32) (I : HI) (L : HL) (res : Int32 × HI × HL), fX10_fewestLit_18 sk fu y1 y2 y3 y4 y5 I L = some res → P (some (.int res.1)) n (RT tw dr sk tl ff) res.2.1 res.2.2 → V g mX10_fewestLit (d + 7) 0 0 n (RT tw dr sk tl ff) I L 18 [some (.ref 61), some (.int y1), some (.int y2), some (.int y3), some (.int y4), some (.int y5)] [] P := by
  intro fu
  induction fu with
  | zero => intro y1 y2 y3 y4 y5 I L res hf; cases (show none = some res from hf)
  | succ fu ih =>
    intro y1 y2 y3 y4 y5 I L res hf K
    refine V_iload (pc := 18) dX10_fewestLit_18 rfl rfl ?_
    refine V_iload (pc := 20) dX10_fewestLit_20 rfl rfl ?_
    refine V_icmp_gt (pc := 22) (tgt := 82) dX10_fewestLit_22 (by decide) rfl (fun hc => ?_) (fun hc => ?_)
    · replace hf := (if_pos hc).symm.trans hf
      refine V_iconst (pc := 82) dX10_fewestLit_82 ic_m1 rfl ?_
      cases hf
      exact V_iret (pc := 83) dX10_fewestLit_83 rfl K
    · replace hf := (if_neg hc).symm.trans hf
      refine V_iconst (pc := 25) dX10_fewestLit_25 ic_0 rfl ?_
      refine V_istore (ls' := [some _, some _, some _, some _, some _, some _, some _]) (pc := 26) dX10_fewestLit_26 (Nat.le_of_ble_eq_true rfl) rfl rfl ?_
      obtain ⟨q3, hq3, hf⟩ := bnd hf
      refine V_wk (lX10_fewestLit_28 hG hn FUEL _ _ _ _ _ _ _ _ _ hq3 (fun a4 ha4 => ?_) (fun b5 hb5 => ?_)) ⟨rfl, ⟨rfl, ⟨rfl, ⟨rfl, ⟨rfl, ⟨rfl, ⟨rfl, trivial⟩⟩⟩⟩⟩⟩⟩
      · subst ha4
        refine V_iinc (ls' := [some _, some _, some _, some _, some _, some _]) (pc := 76) dX10_fewestLit_76 rfl (Nat.le_of_ble_eq_true rfl) (congrArg _ ic_1) rfl rfl ?_
        refine V_goto (pc := 79) (tgt := 18) dX10_fewestLit_79 (by decide) ?_
        exact V_wk (ih _ _ _ _ _ _ _ _ hf K) ⟨rfl, ⟨rfl, ⟨rfl, ⟨rfl, ⟨rfl, ⟨rfl, trivial⟩⟩⟩⟩⟩⟩
      · subst hb5
        cases hf
        exact K
noncomputable def fX10_fewestLit (sk : Nat) (v1 : Int32) (v2 : Int32) (v3 : Int32) (I : HI) (L : HL) : Option (Int32 × HI × HL) :=
  Option.bind (fX10_fewestLit_18 sk FUEL v1 v2 v3 (I (sk + 7) 0) (0 : Int32) I L) fun q6 =>
  some (q6.1, q6.2.1, q6.2.2)
set_option maxRecDepth 100000 in
set_option maxHeartbeats 4000000 in
theorem tX10_fewestLit {g : GG} {n d : Nat} {tw dr sk tl ff : Nat} (hG : RG tw dr sk tl ff) (hn : 116 ≤ n) {v1 : Int32} {v2 : Int32} {v3 : Int32} {I : HI} {L : HL} {res : Int32 × HI × HL} (hf : fX10_fewestLit sk v1 v2 v3 I L = some res) : CT g mX10_fewestLit (d + 7) 0 0 n (RT tw dr sk tl ff) I L [.ref 61, .int v1, .int v2, .int v3] (PoI n (RT tw dr sk tl ff) res.1 res.2.1 res.2.2) := by
  refine CT.of rfl (Nat.le_of_ble_eq_true rfl) ?_
  show V g mX10_fewestLit (d + 7) 0 0 n (RT tw dr sk tl ff) I L 0 [some (.ref 61), some (.int v1), some (.int v2), some (.int v3)] [] (PoI n (RT tw dr sk tl ff) res.1 res.2.1 res.2.2)
  refine V_aload_n (pc := 0) dX10_fewestLit_0 rfl rfl rfl ?_
  refine V_getR (pc := 1) dX10_fewestLit_1 flX10_25 rfl (by omega) (congrArg Prod.fst sh_61) rt_61_0 rfl ?_
  refine V_getR (pc := 4) dX10_fewestLit_4 flX10_51 rfl (by omega) (congrArg Prod.fst sh_57) rt_57_0 rfl ?_
  refine V_getR (pc := 7) dX10_fewestLit_7 flX10_90 rfl (by omega) (congrArg Prod.fst (shQ hG.2.2.1)) (rQ_7 (rQ_RT hG.2.2.1)) rfl ?_
  refine V_getI (pc := 10) dX10_fewestLit_10 flX10_75 rfl (by omega) (congrArg Prod.fst (shT (qT_7 hG.2.2.1))) rfl ?_
  refine V_istore (ls' := [some _, some _, some _, some _, some _]) (pc := 13) dX10_fewestLit_13 (Nat.le_of_ble_eq_true rfl) rfl rfl ?_
  refine V_iconst (pc := 15) dX10_fewestLit_15 ic_0 rfl ?_
  refine V_istore (ls' := [some _, some _, some _, some _, some _, some _]) (pc := 16) dX10_fewestLit_16 (Nat.le_of_ble_eq_true rfl) rfl rfl ?_
  obtain ⟨q6, hq6, hf⟩ := bnd hf
  refine V_wk (lX10_fewestLit_18 hG hn FUEL _ _ _ _ _ _ _ _ hq6 ?_) ⟨rfl, ⟨rfl, ⟨rfl, ⟨rfl, ⟨rfl, ⟨rfl, trivial⟩⟩⟩⟩⟩⟩
  cases hf
  exact PoI_mk
/-! ShadowDoors$Ways.countDates -/
noncomputable def fX10_countDates_15 (sk : Nat) : Nat → Int32 → Int32 → Int32 → Int32 → Int32 → Int32 → Int32 → Int32 → Int32 → HI → HL → Option (Int32 × Int32 × Int32 × HI × HL)
  | 0, _, _, _, _, _, _, _, _, _, _, _ => none
  | fu + 1, y1, y2, y3, y4, y5, y6, y7, y8, y9, I, L =>
    if (100 : Int32) ≤ y9 then
      some (y5, y6, y7, I, L)
    else
      Option.bind (
        Option.bind (
          if y9 = 0 then
            some true
          else
            if (I (sk + 19) 4) = 0 then
              some false
            else
              some true
        ) fun b5 =>
        if b5 = true then
          obn (fX7_startOn y9 I L) fun q6 =>
          Option.bind (fX10_canBe sk y1 y2 y3 (0 : Int32) q6.1 q6.2) fun q7 =>
          some ((b2i q7.1), q7.2.1, q7.2.2)
        else
          some (y8, I, L)
      ) fun q4 =>
      if q4.1 = 0 then
        fX10_countDates_15 sk fu y1 y2 y3 y4 y5 y6 y7 q4.1 (y9 + (1 : Int32)) q4.2.1 q4.2.2
      else
        if y6 = (-1 : Int32) then
          fX10_countDates_15 sk fu y1 y2 y3 y4 (y5 + (1 : Int32)) y9 y9 q4.1 (y9 + (1 : Int32)) q4.2.1 q4.2.2
        else
          fX10_countDates_15 sk fu y1 y2 y3 y4 (y5 + (1 : Int32)) y6 y9 q4.1 (y9 + (1 : Int32)) q4.2.1 q4.2.2
set_option maxRecDepth 100000 in
set_option maxHeartbeats 4000000 in
theorem lX10_countDates_15 {g : GG} {n d : Nat} {tw dr sk tl ff : Nat} (hG : RG tw dr sk tl ff) (hn : 116 ≤ n) {P : PP} : ∀ (fu : Nat) (y1 : Int32) (y2 : Int32) (y3 : Int32) (y4 : Int32) (y5 : Int32) (y6 : Int32) (y7 : Int32) (y8 : Int32) (y9 : Int32) (I : HI) (L : HL) (res : Int32 × Int32 × Int32 × HI × HL), fX10_countDates_15 sk fu y1 y2 y3 y4 y5 y6 y7 y8 y9 I L = some res → V g mX10_countDates (d + 7) 0 0 n (RT tw dr sk tl ff) res.2.2.2.1 res.2.2.2.2 95 [none, none, none, none, some (.int y4), some (.int res.1), some (.int res.2.1), some (.int res.2.2.1)] [] P → V g mX10_countDates (d + 7) 0 0 n (RT tw dr sk tl ff) I L 15 [some (.ref 61), some (.int y1), some (.int y2), some (.int y3), some (.int y4), some (.int y5), some (.int y6), some (.int y7), some (.int y8), some (.int y9)] [] P := by
  intro fu
  induction fu with
  | zero => intro y1 y2 y3 y4 y5 y6 y7 y8 y9 I L res hf; cases (show none = some res from hf)
  | succ fu ih =>
    intro y1 y2 y3 y4 y5 y6 y7 y8 y9 I L res hf K
    refine V_iload (pc := 15) dX10_countDates_15 rfl rfl ?_
    refine V_bipush (pc := 17) dX10_countDates_17 bp_100 rfl ?_
    refine V_icmp_ge (pc := 19) (tgt := 95) dX10_countDates_19 (by decide) rfl (fun hc => ?_) (fun hc => ?_)
    · replace hf := (if_pos hc).symm.trans hf
      cases hf
      exact V_wk K ⟨rfl, ⟨rfl, ⟨rfl, ⟨rfl, trivial⟩⟩⟩⟩
    · replace hf := (if_neg hc).symm.trans hf
      refine V_iload (pc := 22) dX10_countDates_22 rfl rfl ?_
      obtain ⟨q4, hq4, hf⟩ := bnd hf
      have Kq4 : V g mX10_countDates (d + 7) 0 0 n (RT tw dr sk tl ff) q4.2.1 q4.2.2 62 [some (.ref 61), some (.int y1), some (.int y2), some (.int y3), some (.int y4), some (.int y5), some (.int y6), some (.int y7), some (.int q4.1), some (.int y9)] [] P := by
        refine V_iload (pc := 62) dX10_countDates_62 rfl rfl ?_
        refine V_if_eq (pc := 64) (tgt := 89) dX10_countDates_64 (by decide) rfl (fun hc => ?_) (fun hc => ?_)
        · replace hf := (if_pos hc).symm.trans hf
          refine V_iinc (ls' := [some _, some _, some _, some _, some _, some _, some _, some _, some _, some _]) (pc := 89) dX10_countDates_89 rfl (Nat.le_of_ble_eq_true rfl) (congrArg _ ic_1) rfl rfl ?_
          refine V_goto (pc := 92) (tgt := 15) dX10_countDates_92 (by decide) ?_
          exact V_wk (ih _ _ _ _ _ _ _ _ _ _ _ _ hf K) ⟨rfl, ⟨rfl, ⟨rfl, ⟨rfl, ⟨rfl, ⟨rfl, ⟨rfl, ⟨rfl, ⟨rfl, ⟨rfl, trivial⟩⟩⟩⟩⟩⟩⟩⟩⟩⟩
        · replace hf := (if_neg hc).symm.trans hf
          refine V_iinc (ls' := [some _, some _, some _, some _, some _, some _, some _, some _, some _, some _]) (pc := 67) dX10_countDates_67 rfl (Nat.le_of_ble_eq_true rfl) (congrArg _ ic_1) rfl rfl ?_
          refine V_iload (pc := 70) dX10_countDates_70 rfl rfl ?_
          refine V_iconst (pc := 72) dX10_countDates_72 ic_m1 rfl ?_
          refine V_icmp_ne (pc := 73) (tgt := 81) dX10_countDates_73 (by decide) rfl (fun hc => ?_) (fun hc => ?_)
          · replace hf := (if_neg hc).symm.trans hf
            refine V_iload (pc := 81) dX10_countDates_81 rfl rfl ?_
            refine V_istore (ls' := [some _, some _, some _, some _, some _, some _, some _, some _, some _, some _]) (pc := 83) dX10_countDates_83 (Nat.le_of_ble_eq_true rfl) rfl rfl ?_
            refine V_iload (pc := 85) dX10_countDates_85 rfl rfl ?_
            refine V_istore (ls' := [some _, some _, some _, some _, some _, some _, some _, some _, some _, some _]) (pc := 87) dX10_countDates_87 (Nat.le_of_ble_eq_true rfl) rfl rfl ?_
            refine V_iinc (ls' := [some _, some _, some _, some _, some _, some _, some _, some _, some _, some _]) (pc := 89) dX10_countDates_89 rfl (Nat.le_of_ble_eq_true rfl) (congrArg _ ic_1) rfl rfl ?_
            refine V_goto (pc := 92) (tgt := 15) dX10_countDates_92 (by decide) ?_
            exact V_wk (ih _ _ _ _ _ _ _ _ _ _ _ _ hf K) ⟨rfl, ⟨rfl, ⟨rfl, ⟨rfl, ⟨rfl, ⟨rfl, ⟨rfl, ⟨rfl, ⟨rfl, ⟨rfl, trivial⟩⟩⟩⟩⟩⟩⟩⟩⟩⟩
          · replace hf := (if_pos hc).symm.trans hf
            refine V_iload (pc := 76) dX10_countDates_76 rfl rfl ?_
            refine V_goto (pc := 78) (tgt := 83) dX10_countDates_78 (by decide) ?_
            refine V_istore (ls' := [some _, some _, some _, some _, some _, some _, some _, some _, some _, some _]) (pc := 83) dX10_countDates_83 (Nat.le_of_ble_eq_true rfl) rfl rfl ?_
            refine V_iload (pc := 85) dX10_countDates_85 rfl rfl ?_
            refine V_istore (ls' := [some _, some _, some _, some _, some _, some _, some _, some _, some _, some _]) (pc := 87) dX10_countDates_87 (Nat.le_of_ble_eq_true rfl) rfl rfl ?_
            refine V_iinc (ls' := [some _, some _, some _, some _, some _, some _, some _, some _, some _, some _]) (pc := 89) dX10_countDates_89 rfl (Nat.le_of_ble_eq_true rfl) (congrArg _ ic_1) rfl rfl ?_
            refine V_goto (pc := 92) (tgt := 15) dX10_countDates_92 (by decide) ?_
            exact V_wk (ih _ _ _ _ _ _ _ _ _ _ _ _ hf K) ⟨rfl, ⟨rfl, ⟨rfl, ⟨rfl, ⟨rfl, ⟨rfl, ⟨rfl, ⟨rfl, ⟨rfl, ⟨rfl, trivial⟩⟩⟩⟩⟩⟩⟩⟩⟩⟩
      obtain ⟨b5, hb5, hq4⟩ := bnd hq4
      have KTb5 : b5 = true → V g mX10_countDates (d + 7) 0 0 n (RT tw dr sk tl ff) I L 43 [some (.ref 61), some (.int y1), some (.int y2), some (.int y3), some (.int y4), some (.int y5), some (.int y6), some (.int y7), some (.int y8), some (.int y9)] [] P := fun hc => by
        replace hq4 := (if_pos hc).symm.trans hq4
        refine V_aload_n (pc := 43) dX10_countDates_43 rfl rfl rfl ?_
        refine V_getR (pc := 44) dX10_countDates_44 flX10_25 rfl (by omega) (congrArg Prod.fst sh_61) rt_61_0 rfl ?_
        refine V_iload (pc := 47) dX10_countDates_47 rfl rfl ?_
        obtain ⟨q6, hq6, hq4⟩ := obd hq4
        refine V_cVv (md' := mX7_startOn) (pc := 49) dX10_countDates_49 mlX10_107 mVX7_startOn (tX7_startOn hG hn hq6) rfl (by omega) (congrArg Prod.fst sh_57) rfl (Nat.le_of_ble_eq_true rfl) rfl ?_
        refine V_aload_n (pc := 52) dX10_countDates_52 rfl rfl rfl ?_
        refine V_iload_n (pc := 53) dX10_countDates_53 rfl rfl rfl ?_
        refine V_iload_n (pc := 54) dX10_countDates_54 rfl rfl rfl ?_
        refine V_iload_n (pc := 55) dX10_countDates_55 rfl rfl rfl ?_
        refine V_iconst (pc := 56) dX10_countDates_56 ic_0 rfl ?_
        obtain ⟨q7, hq7, hq4⟩ := bnd hq4
        refine V_cVz (md' := mX10_canBe) (pc := 57) dX10_countDates_57 mlX10_86 mVX10_canBe (tX10_canBe hG hn hq7) rfl (by omega) (congrArg Prod.fst sh_61) rfl (Nat.le_of_ble_eq_true rfl) rfl ?_
        refine V_istore (ls' := [some _, some _, some _, some _, some _, some _, some _, some _, some _, some _]) (pc := 60) dX10_countDates_60 (Nat.le_of_ble_eq_true rfl) rfl rfl ?_
        cases hq4
        exact V_wk Kq4 ⟨rfl, ⟨rfl, ⟨rfl, ⟨rfl, ⟨rfl, ⟨rfl, ⟨rfl, ⟨rfl, ⟨rfl, ⟨rfl, trivial⟩⟩⟩⟩⟩⟩⟩⟩⟩⟩
      have KFb5 : ¬ b5 = true → V g mX10_countDates (d + 7) 0 0 n (RT tw dr sk tl ff) I L 62 [some (.ref 61), some (.int y1), some (.int y2), some (.int y3), some (.int y4), some (.int y5), some (.int y6), some (.int y7), some (.int y8), some (.int y9)] [] P := fun hc => by
        replace hq4 := (if_neg hc).symm.trans hq4
        cases hq4
        exact V_wk Kq4 ⟨rfl, ⟨rfl, ⟨rfl, ⟨rfl, ⟨rfl, ⟨rfl, ⟨rfl, ⟨rfl, ⟨rfl, ⟨rfl, trivial⟩⟩⟩⟩⟩⟩⟩⟩⟩⟩
      refine V_if_eq (pc := 24) (tgt := 43) dX10_countDates_24 (by decide) rfl (fun hc => ?_) (fun hc => ?_)
      · replace hb5 := (if_pos hc).symm.trans hb5
        cases hb5
        exact KTb5 rfl
      · replace hb5 := (if_neg hc).symm.trans hb5
        refine V_aload_n (pc := 27) dX10_countDates_27 rfl rfl rfl ?_
        refine V_getR (pc := 28) dX10_countDates_28 flX10_25 rfl (by omega) (congrArg Prod.fst sh_61) rt_61_0 rfl ?_
        refine V_getR (pc := 31) dX10_countDates_31 flX10_51 rfl (by omega) (congrArg Prod.fst sh_57) rt_57_0 rfl ?_
        refine V_getR (pc := 34) dX10_countDates_34 flX10_97 rfl (by omega) (congrArg Prod.fst (shQ hG.2.2.1)) (rQ_9 (rQ_RT hG.2.2.1)) rfl ?_
        refine V_getI (pc := 37) dX10_countDates_37 flX10_101 rfl (by omega) (congrArg Prod.fst (shF (qF_9 hG.2.2.1))) rfl ?_
        refine V_if_eq (pc := 40) (tgt := 62) dX10_countDates_40 (by decide) rfl (fun hc => ?_) (fun hc => ?_)
        · replace hb5 := (if_pos hc).symm.trans hb5
          cases hb5
          exact KFb5 (nbt rfl)
        · replace hb5 := (if_neg hc).symm.trans hb5
          cases hb5
          exact KTb5 rfl
noncomputable def fX10_countDates (sk : Nat) (v1 : Int32) (v2 : Int32) (v3 : Int32) (v4 : Int32) (I : HI) (L : HL) : Option (Int32 × HI × HL) :=
  Option.bind (fX10_countDates_15 sk FUEL v1 v2 v3 v4 (0 : Int32) (-1 : Int32) (-1 : Int32) (0 : Int32) (0 : Int32) I L) fun q8 =>
  if v4 = 0 then
    some (q8.1, q8.2.2.2.1, q8.2.2.2.2)
  else
    if v4 = (1 : Int32) then
      some (q8.2.1, q8.2.2.2.1, q8.2.2.2.2)
    else
      some (q8.2.2.1, q8.2.2.2.1, q8.2.2.2.2)
set_option maxRecDepth 100000 in
set_option maxHeartbeats 4000000 in
theorem tX10_countDates {g : GG} {n d : Nat} {tw dr sk tl ff : Nat} (hG : RG tw dr sk tl ff) (hn : 116 ≤ n) {v1 : Int32} {v2 : Int32} {v3 : Int32} {v4 : Int32} {I : HI} {L : HL} {res : Int32 × HI × HL} (hf : fX10_countDates sk v1 v2 v3 v4 I L = some res) : CT g mX10_countDates (d + 7) 0 0 n (RT tw dr sk tl ff) I L [.ref 61, .int v1, .int v2, .int v3, .int v4] (PoI n (RT tw dr sk tl ff) res.1 res.2.1 res.2.2) := by
  refine CT.of rfl (Nat.le_of_ble_eq_true rfl) ?_
  show V g mX10_countDates (d + 7) 0 0 n (RT tw dr sk tl ff) I L 0 [some (.ref 61), some (.int v1), some (.int v2), some (.int v3), some (.int v4)] [] (PoI n (RT tw dr sk tl ff) res.1 res.2.1 res.2.2)
  refine V_iconst (pc := 0) dX10_countDates_0 ic_0 rfl ?_
  refine V_istore (ls' := [some _, some _, some _, some _, some _, some _]) (pc := 1) dX10_countDates_1 (Nat.le_of_ble_eq_true rfl) rfl rfl ?_
  refine V_iconst (pc := 3) dX10_countDates_3 ic_m1 rfl ?_
  refine V_istore (ls' := [some _, some _, some _, some _, some _, some _, some _]) (pc := 4) dX10_countDates_4 (Nat.le_of_ble_eq_true rfl) rfl rfl ?_
  refine V_iconst (pc := 6) dX10_countDates_6 ic_m1 rfl ?_
  refine V_istore (ls' := [some _, some _, some _, some _, some _, some _, some _, some _]) (pc := 7) dX10_countDates_7 (Nat.le_of_ble_eq_true rfl) rfl rfl ?_
  refine V_iconst (pc := 9) dX10_countDates_9 ic_0 rfl ?_
  refine V_istore (ls' := [some _, some _, some _, some _, some _, some _, some _, some _, some _]) (pc := 10) dX10_countDates_10 (Nat.le_of_ble_eq_true rfl) rfl rfl ?_
  refine V_iconst (pc := 12) dX10_countDates_12 ic_0 rfl ?_
  refine V_istore (ls' := [some _, some _, some _, some _, some _, some _, some _, some _, some _, some _]) (pc := 13) dX10_countDates_13 (Nat.le_of_ble_eq_true rfl) rfl rfl ?_
  obtain ⟨q8, hq8, hf⟩ := bnd hf
  refine V_wk (lX10_countDates_15 hG hn FUEL _ _ _ _ _ _ _ _ _ _ _ _ hq8 ?_) ⟨rfl, ⟨rfl, ⟨rfl, ⟨rfl, ⟨rfl, ⟨rfl, ⟨rfl, ⟨rfl, ⟨rfl, ⟨rfl, trivial⟩⟩⟩⟩⟩⟩⟩⟩⟩⟩
  refine V_iload (pc := 95) dX10_countDates_95 rfl rfl ?_
  refine V_if_ne (pc := 97) (tgt := 105) dX10_countDates_97 (by decide) rfl (fun hc => ?_) (fun hc => ?_)
  · replace hf := (if_neg hc).symm.trans hf
    refine V_iload (pc := 105) dX10_countDates_105 rfl rfl ?_
    refine V_iconst (pc := 107) dX10_countDates_107 ic_1 rfl ?_
    refine V_icmp_ne (pc := 108) (tgt := 116) dX10_countDates_108 (by decide) rfl (fun hc => ?_) (fun hc => ?_)
    · replace hf := (if_neg hc).symm.trans hf
      refine V_iload (pc := 116) dX10_countDates_116 rfl rfl ?_
      cases hf
      exact V_iret (pc := 118) dX10_countDates_118 rfl PoI_mk
    · replace hf := (if_pos hc).symm.trans hf
      refine V_iload (pc := 111) dX10_countDates_111 rfl rfl ?_
      refine V_goto (pc := 113) (tgt := 118) dX10_countDates_113 (by decide) ?_
      cases hf
      exact V_iret (pc := 118) dX10_countDates_118 rfl PoI_mk
  · replace hf := (if_pos hc).symm.trans hf
    refine V_iload (pc := 100) dX10_countDates_100 rfl rfl ?_
    refine V_goto (pc := 102) (tgt := 118) dX10_countDates_102 (by decide) ?_
    cases hf
    exact V_iret (pc := 118) dX10_countDates_118 rfl PoI_mk
/-! ShadowDoors$Ways.bestOf -/
noncomputable def fX10_bestOf_8 : Nat → Int64 → Int64 → Int32 → HL → Option (Int64)
  | 0, _, _, _, _ => none
  | fu + 1, y3, y5, y7, L =>
    Option.bind (
      if (64 : Int32) ≤ y7 then
        some true
      else
        if y5 = (0 : Int64) then
          some true
        else
          some false
    ) fun b1 =>
    if b1 = true then
      some y3
    else
      if inb (fJ13_numberOfTrailingZeros_95d88 y5) 64 = true then
        let x3 : Int64 := (if (L 64 (fJ13_numberOfTrailingZeros_95d88 y5).toNatClampNeg) < y3 then y3 else (L 64 (fJ13_numberOfTrailingZeros_95d88 y5).toNatClampNeg))
        let x4 : Int64 := (y5 &&& (y5 - (1 : Int64)))
        fX10_bestOf_8 fu x3 x4 (y7 + (1 : Int32)) L
      else none
set_option maxRecDepth 100000 in
set_option maxHeartbeats 4000000 in
theorem lX10_bestOf_8 {g : GG} {n d : Nat} {tw dr sk tl ff : Nat} (hG : RG tw dr sk tl ff) (hn : 116 ≤ n) {P : PP} : ∀ (fu : Nat) (y3 : Int64) (y5 : Int64) (y7 : Int32) (I : HI) (L : HL) (res : Int64), fX10_bestOf_8 fu y3 y5 y7 L = some res → P (some (.long res)) n (RT tw dr sk tl ff) I L → V g mX10_bestOf (d + 3) 0 0 n (RT tw dr sk tl ff) I L 8 [some (.ref 61), none, none, some (.long y3), none, some (.long y5), none, some (.int y7)] [] P := by
  intro fu
  induction fu with
  | zero => intro y3 y5 y7 I L res hf; cases (show none = some res from hf)
  | succ fu ih =>
    intro y3 y5 y7 I L res hf K
    refine V_iload (pc := 8) dX10_bestOf_8 rfl rfl ?_
    refine V_bipush (pc := 10) dX10_bestOf_10 bp_64 rfl ?_
    obtain ⟨b1, hb1, hf⟩ := bnd hf
    have KTb1 : b1 = true → V g mX10_bestOf (d + 3) 0 0 n (RT tw dr sk tl ff) I L 52 [some (.ref 61), none, none, some (.long y3), none, some (.long y5), none, some (.int y7)] [] P := fun hc => by
      replace hf := (if_pos hc).symm.trans hf
      refine V_lload_n (pc := 52) dX10_bestOf_52 rfl rfl rfl ?_
      cases hf
      exact V_lret (pc := 53) dX10_bestOf_53 rfl K
    have KFb1 : ¬ b1 = true → V g mX10_bestOf (d + 3) 0 0 n (RT tw dr sk tl ff) I L 22 [some (.ref 61), none, none, some (.long y3), none, some (.long y5), none, some (.int y7)] [] P := fun hc => by
      replace hf := (if_neg hc).symm.trans hf
      refine V_lload_n (pc := 22) dX10_bestOf_22 rfl rfl rfl ?_
      refine V_aload_n (pc := 23) dX10_bestOf_23 rfl rfl rfl ?_
      refine V_getR (pc := 24) dX10_bestOf_24 flX10_19 rfl (by omega) (congrArg Prod.fst sh_61) rt_61_8 rfl ?_
      refine V_lload (pc := 27) dX10_bestOf_27 rfl rfl ?_
      refine V_cSi (md' := mJ13_numberOfTrailingZeros_95d88) (pc := 29) dX10_bestOf_29 mlX10_39 mSJ13_numberOfTrailingZeros_95d88 (tJ13_numberOfTrailingZeros_95d88 rfl) rfl rfl (Nat.le_of_ble_eq_true rfl) rfl ?_
      obtain ⟨hc2, hf⟩ := pif hf
      refine V_lald (pc := 32) dX10_bestOf_32 (by omega) sh_64 hc2 rfl ?_
      refine V_mmaxL (pc := 33) dX10_bestOf_33 mlX10_159 (Nat.le_of_ble_eq_true rfl) rfl ?_
      let x3 : Int64 := (if (L 64 (fJ13_numberOfTrailingZeros_95d88 y5).toNatClampNeg) < y3 then y3 else (L 64 (fJ13_numberOfTrailingZeros_95d88 y5).toNatClampNeg))
      refine V_lstore_n (ls' := [some _, none, none, some _, none, some _, none, some _]) (pc := 36) dX10_bestOf_36 rfl (Nat.le_of_ble_eq_true rfl) rfl rfl ?_
      refine V_lload (pc := 37) dX10_bestOf_37 rfl rfl ?_
      refine V_lload (pc := 39) dX10_bestOf_39 rfl rfl ?_
      refine V_lconst (pc := 41) dX10_bestOf_41 lc_1 rfl ?_
      refine V_lsub (pc := 42) dX10_bestOf_42 rfl ?_
      refine V_land (pc := 43) dX10_bestOf_43 rfl ?_
      let x4 : Int64 := (y5 &&& (y5 - (1 : Int64)))
      refine V_lstore (ls' := [some _, none, none, some _, none, some _, none, some _]) (pc := 44) dX10_bestOf_44 (Nat.le_of_ble_eq_true rfl) rfl rfl ?_
      refine V_iinc (ls' := [some _, none, none, some _, none, some _, none, some _]) (pc := 46) dX10_bestOf_46 rfl (Nat.le_of_ble_eq_true rfl) (congrArg _ ic_1) rfl rfl ?_
      refine V_goto (pc := 49) (tgt := 8) dX10_bestOf_49 (by decide) ?_
      exact V_wk (ih _ _ _ _ _ _ hf K) ⟨rfl, ⟨rfl, ⟨rfl, ⟨rfl, trivial⟩⟩⟩⟩
    refine V_icmp_ge (pc := 12) (tgt := 52) dX10_bestOf_12 (by decide) rfl (fun hc => ?_) (fun hc => ?_)
    · replace hb1 := (if_pos hc).symm.trans hb1
      cases hb1
      exact KTb1 rfl
    · replace hb1 := (if_neg hc).symm.trans hb1
      refine V_lload (pc := 15) dX10_bestOf_15 rfl rfl ?_
      refine V_lconst (pc := 17) dX10_bestOf_17 lc_0 rfl ?_
      refine V_lc_eq (pc := 18) (tgt := 52) dX10_bestOf_18 rfl dX10_bestOf_19 (by decide) rfl (fun hc => ?_) (fun hc => ?_)
      · replace hb1 := (if_pos hc).symm.trans hb1
        cases hb1
        exact KTb1 rfl
      · replace hb1 := (if_neg hc).symm.trans hb1
        cases hb1
        exact KFb1 (nbt rfl)
noncomputable def fX10_bestOf (v1 : Int64) (L : HL) : Option (Int64) :=
  Option.bind (fX10_bestOf_8 FUEL (0 : Int64) v1 (0 : Int32) L) fun q5 =>
  some q5
set_option maxRecDepth 100000 in
set_option maxHeartbeats 4000000 in
theorem tX10_bestOf {g : GG} {n d : Nat} {tw dr sk tl ff : Nat} (hG : RG tw dr sk tl ff) (hn : 116 ≤ n) {v1 : Int64} {I : HI} {L : HL} {res : Int64} (hf : fX10_bestOf v1 L = some res) : CT g mX10_bestOf (d + 3) 0 0 n (RT tw dr sk tl ff) I L [.ref 61, .long v1] (PoL n (RT tw dr sk tl ff) res I L) := by
  refine CT.of rfl (Nat.le_of_ble_eq_true rfl) ?_
  show V g mX10_bestOf (d + 3) 0 0 n (RT tw dr sk tl ff) I L 0 [some (.ref 61), some (.long v1), none] [] (PoL n (RT tw dr sk tl ff) res I L)
  refine V_lconst (pc := 0) dX10_bestOf_0 lc_0 rfl ?_
  refine V_lstore_n (ls' := [some _, some _, none, some _, none]) (pc := 1) dX10_bestOf_1 rfl (Nat.le_of_ble_eq_true rfl) rfl rfl ?_
  refine V_lload_n (pc := 2) dX10_bestOf_2 rfl rfl rfl ?_
  refine V_lstore (ls' := [some _, some _, none, some _, none, some _, none]) (pc := 3) dX10_bestOf_3 (Nat.le_of_ble_eq_true rfl) rfl rfl ?_
  refine V_iconst (pc := 5) dX10_bestOf_5 ic_0 rfl ?_
  refine V_istore (ls' := [some _, some _, none, some _, none, some _, none, some _]) (pc := 6) dX10_bestOf_6 (Nat.le_of_ble_eq_true rfl) rfl rfl ?_
  obtain ⟨q5, hq5, hf⟩ := bnd hf
  refine V_wk (lX10_bestOf_8 hG hn FUEL _ _ _ _ _ _ hq5 ?_) ⟨rfl, ⟨rfl, ⟨rfl, ⟨rfl, trivial⟩⟩⟩⟩
  cases hf
  exact PoL_mk
/-! ShadowDoors$Ways.addBest -/
noncomputable def fX10_addBest_7 (sk : Nat) : Nat → Int32 → Int32 → Int32 → HI → HL → Option (HI × HL)
  | 0, _, _, _, _, _ => none
  | fu + 1, y1, y2, y3, I, L =>
    if (I sk 2) ≤ y3 then
      some (I, L)
    else
      if (b2i (fX5_canStand sk y3 I L)) = 0 then
        fX10_addBest_7 sk fu y1 y2 (y3 + (1 : Int32)) I L
      else
        if inb y3 64 = true then
          Option.bind (fX7_stepFrom sk ((1 : Int64) <<< (y3.toInt64 &&& 63)) y1 (0 : Int32) I L) fun q2 =>
          Option.bind (fX10_bestOf q2.1 q2.2.2) fun q3 =>
          if inb y3 64 = true then
            let L5 : HL := up2 q2.2.2 65 y3.toNatClampNeg ((L 65 y3.toNatClampNeg) + (y2.toInt64 * q3))
            fX10_addBest_7 sk fu y1 y2 (y3 + (1 : Int32)) q2.2.1 L5
          else none
        else none
set_option maxRecDepth 100000 in
set_option maxHeartbeats 4000000 in
theorem lX10_addBest_7 {g : GG} {n d : Nat} {tw dr sk tl ff : Nat} (hG : RG tw dr sk tl ff) (hn : 116 ≤ n) {P : PP} : ∀ (fu : Nat) (y1 : Int32) (y2 : Int32) (y3 : Int32) (I : HI) (L : HL) (res : HI × HL), fX10_addBest_7 sk fu y1 y2 y3 I L = some res → P none n (RT tw dr sk tl ff) res.1 res.2 → V g mX10_addBest (d + 6) 0 0 n (RT tw dr sk tl ff) I L 7 [some (.ref 61), some (.int y1), some (.int y2), some (.int y3)] [] P := by
  intro fu
  induction fu with
  | zero => intro y1 y2 y3 I L res hf; cases (show none = some res from hf)
  | succ fu ih =>
    intro y1 y2 y3 I L res hf K
    refine V_iload_n (pc := 7) dX10_addBest_7 rfl rfl rfl ?_
    refine V_aload_n (pc := 8) dX10_addBest_8 rfl rfl rfl ?_
    refine V_getR (pc := 9) dX10_addBest_9 flX10_25 rfl (by omega) (congrArg Prod.fst sh_61) rt_61_0 rfl ?_
    refine V_getR (pc := 12) dX10_addBest_12 flX10_51 rfl (by omega) (congrArg Prod.fst sh_57) rt_57_0 rfl ?_
    refine V_getI (pc := 15) dX10_addBest_15 flX10_149 rfl (by omega) (congrArg Prod.fst (shQ hG.2.2.1)) rfl ?_
    refine V_icmp_ge (pc := 18) (tgt := 69) dX10_addBest_18 (by decide) rfl (fun hc => ?_) (fun hc => ?_)
    · replace hf := (if_pos hc).symm.trans hf
      cases hf
      exact V_vret (pc := 69) dX10_addBest_69 rfl K
    · replace hf := (if_neg hc).symm.trans hf
      refine V_aload_n (pc := 21) dX10_addBest_21 rfl rfl rfl ?_
      refine V_getR (pc := 22) dX10_addBest_22 flX10_25 rfl (by omega) (congrArg Prod.fst sh_61) rt_61_0 rfl ?_
      refine V_getR (pc := 25) dX10_addBest_25 flX10_51 rfl (by omega) (congrArg Prod.fst sh_57) rt_57_0 rfl ?_
      refine V_iload_n (pc := 28) dX10_addBest_28 rfl rfl rfl ?_
      refine V_cVz (md' := mX5_canStand) (pc := 29) dX10_addBest_29 mlX10_152 mVX5_canStand (tX5_canStand hG.2.2.1 (rQ_RT hG.2.2.1) (by omega) rfl) rfl (by omega) (congrArg Prod.fst (shQ hG.2.2.1)) rfl (Nat.le_of_ble_eq_true rfl) rfl ?_
      refine V_if_eq (pc := 32) (tgt := 63) dX10_addBest_32 (by decide) rfl (fun hc => ?_) (fun hc => ?_)
      · replace hf := (if_pos hc).symm.trans hf
        refine V_iinc (ls' := [some _, some _, some _, some _]) (pc := 63) dX10_addBest_63 rfl (Nat.le_of_ble_eq_true rfl) (congrArg _ ic_1) rfl rfl ?_
        refine V_goto (pc := 66) (tgt := 7) dX10_addBest_66 (by decide) ?_
        exact V_wk (ih _ _ _ _ _ _ hf K) ⟨rfl, ⟨rfl, ⟨rfl, ⟨rfl, trivial⟩⟩⟩⟩
      · replace hf := (if_neg hc).symm.trans hf
        refine V_aload_n (pc := 35) dX10_addBest_35 rfl rfl rfl ?_
        refine V_getR (pc := 36) dX10_addBest_36 flX10_22 rfl (by omega) (congrArg Prod.fst sh_61) rt_61_9 rfl ?_
        refine V_iload_n (pc := 39) dX10_addBest_39 rfl rfl rfl ?_
        refine V_dup2_11 (pc := 40) dX10_addBest_40 rfl rfl rfl ?_
        obtain ⟨hc1, hf⟩ := pif hf
        refine V_lald (pc := 41) dX10_addBest_41 (by omega) sh_65 hc1 rfl ?_
        refine V_iload_n (pc := 42) dX10_addBest_42 rfl rfl rfl ?_
        refine V_i2l (pc := 43) dX10_addBest_43 rfl ?_
        refine V_aload_n (pc := 44) dX10_addBest_44 rfl rfl rfl ?_
        refine V_aload_n (pc := 45) dX10_addBest_45 rfl rfl rfl ?_
        refine V_getR (pc := 46) dX10_addBest_46 flX10_25 rfl (by omega) (congrArg Prod.fst sh_61) rt_61_0 rfl ?_
        refine V_lconst (pc := 49) dX10_addBest_49 lc_1 rfl ?_
        refine V_iload_n (pc := 50) dX10_addBest_50 rfl rfl rfl ?_
        refine V_lshl (pc := 51) dX10_addBest_51 rfl ?_
        refine V_iload_n (pc := 52) dX10_addBest_52 rfl rfl rfl ?_
        refine V_iconst (pc := 53) dX10_addBest_53 ic_0 rfl ?_
        obtain ⟨q2, hq2, hf⟩ := bnd hf
        refine V_cVl (md' := mX7_stepFrom) (pc := 54) dX10_addBest_54 mlX10_33 mVX7_stepFrom (tX7_stepFrom hG hn hq2) rfl (by omega) (congrArg Prod.fst sh_57) rfl (Nat.le_of_ble_eq_true rfl) rfl ?_
        obtain ⟨q3, hq3, hf⟩ := bnd hf
        refine V_cVl (md' := mX10_bestOf) (pc := 57) dX10_addBest_57 mlX10_156 mVX10_bestOf (tX10_bestOf hG hn hq3) rfl (by omega) (congrArg Prod.fst sh_61) rfl (Nat.le_of_ble_eq_true rfl) rfl ?_
        refine V_lmul (pc := 60) dX10_addBest_60 rfl ?_
        refine V_ladd (pc := 61) dX10_addBest_61 rfl ?_
        obtain ⟨hc4, hf⟩ := pif hf
        let L5 : HL := up2 q2.2.2 65 y3.toNatClampNeg ((L 65 y3.toNatClampNeg) + (y2.toInt64 * q3))
        refine V_last (pc := 62) dX10_addBest_62 (by omega) sh_65 hc4 rfl ?_
        refine V_iinc (ls' := [some _, some _, some _, some _]) (pc := 63) dX10_addBest_63 rfl (Nat.le_of_ble_eq_true rfl) (congrArg _ ic_1) rfl rfl ?_
        refine V_goto (pc := 66) (tgt := 7) dX10_addBest_66 (by decide) ?_
        exact V_wk (ih _ _ _ _ _ _ hf K) ⟨rfl, ⟨rfl, ⟨rfl, ⟨rfl, trivial⟩⟩⟩⟩
noncomputable def fX10_addBest (sk : Nat) (v1 : Int32) (v2 : Int32) (I : HI) (L : HL) : Option (HI × HL) :=
  if v2 = 0 then
    some (I, L)
  else
    Option.bind (fX10_addBest_7 sk FUEL v1 v2 (0 : Int32) I L) fun q6 =>
    some (q6.1, q6.2)
set_option maxRecDepth 100000 in
set_option maxHeartbeats 4000000 in
theorem tX10_addBest {g : GG} {n d : Nat} {tw dr sk tl ff : Nat} (hG : RG tw dr sk tl ff) (hn : 116 ≤ n) {v1 : Int32} {v2 : Int32} {I : HI} {L : HL} {res : HI × HL} (hf : fX10_addBest sk v1 v2 I L = some res) : CT g mX10_addBest (d + 6) 0 0 n (RT tw dr sk tl ff) I L [.ref 61, .int v1, .int v2] (PoV n (RT tw dr sk tl ff) res.1 res.2) := by
  refine CT.of rfl (Nat.le_of_ble_eq_true rfl) ?_
  show V g mX10_addBest (d + 6) 0 0 n (RT tw dr sk tl ff) I L 0 [some (.ref 61), some (.int v1), some (.int v2)] [] (PoV n (RT tw dr sk tl ff) res.1 res.2)
  refine V_iload_n (pc := 0) dX10_addBest_0 rfl rfl rfl ?_
  refine V_if_ne (pc := 1) (tgt := 5) dX10_addBest_1 (by decide) rfl (fun hc => ?_) (fun hc => ?_)
  · replace hf := (if_neg hc).symm.trans hf
    refine V_iconst (pc := 5) dX10_addBest_5 ic_0 rfl ?_
    refine V_istore_n (ls' := [some _, some _, some _, some _]) (pc := 6) dX10_addBest_6 rfl (Nat.le_of_ble_eq_true rfl) rfl rfl ?_
    obtain ⟨q6, hq6, hf⟩ := bnd hf
    refine V_wk (lX10_addBest_7 hG hn FUEL _ _ _ _ _ _ hq6 ?_) ⟨rfl, ⟨rfl, ⟨rfl, ⟨rfl, trivial⟩⟩⟩⟩
    cases hf
    exact PoV_mk
  · replace hf := (if_pos hc).symm.trans hf
    cases hf
    exact V_vret (pc := 4) dX10_addBest_4 rfl PoV_mk
/-! ShadowDoors$Ways.commonDivisor -/
noncomputable def fX10_commonDivisor_9 : Nat → Int64 → Int64 → Int32 → Option (Int64)
  | 0, _, _, _ => none
  | fu + 1, y4, y6, y8 =>
    Option.bind (
      if (200 : Int32) ≤ y8 then
        some true
      else
        if y6 = (0 : Int64) then
          some true
        else
          some false
    ) fun b1 =>
    if b1 = true then
      some y4
    else
      if y6 = 0 then none else
      fX10_commonDivisor_9 fu y6 (y4 - y4 / y6 * y6) (y8 + (1 : Int32))
set_option maxRecDepth 100000 in
set_option maxHeartbeats 4000000 in
theorem lX10_commonDivisor_9 {g : GG} {n d : Nat} {r : HR}  {P : PP} : ∀ (fu : Nat) (y4 : Int64) (y6 : Int64) (y8 : Int32) (I : HI) (L : HL) (res : Int64), fX10_commonDivisor_9 fu y4 y6 y8 = some res → P (some (.long res)) n r I L → V g mX10_commonDivisor (d + 1) 0 0 n r I L 9 [none, none, none, none, some (.long y4), none, some (.long y6), none, some (.int y8)] [] P := by
  intro fu
  induction fu with
  | zero => intro y4 y6 y8 I L res hf; cases (show none = some res from hf)
  | succ fu ih =>
    intro y4 y6 y8 I L res hf K
    refine V_iload (pc := 9) dX10_commonDivisor_9 rfl rfl ?_
    refine V_sipush (pc := 11) dX10_commonDivisor_11 sp_200 rfl ?_
    obtain ⟨b1, hb1, hf⟩ := bnd hf
    have KTb1 : b1 = true → V g mX10_commonDivisor (d + 1) 0 0 n r I L 45 [none, none, none, none, some (.long y4), none, some (.long y6), none, some (.int y8)] [] P := fun hc => by
      replace hf := (if_pos hc).symm.trans hf
      refine V_lload (pc := 45) dX10_commonDivisor_45 rfl rfl ?_
      cases hf
      exact V_lret (pc := 47) dX10_commonDivisor_47 rfl K
    have KFb1 : ¬ b1 = true → V g mX10_commonDivisor (d + 1) 0 0 n r I L 24 [none, none, none, none, some (.long y4), none, some (.long y6), none, some (.int y8)] [] P := fun hc => by
      replace hf := (if_neg hc).symm.trans hf
      refine V_lload (pc := 24) dX10_commonDivisor_24 rfl rfl ?_
      refine V_lload (pc := 26) dX10_commonDivisor_26 rfl rfl ?_
      obtain ⟨hc2, hf⟩ := nif hf
      refine V_lrem (pc := 28) dX10_commonDivisor_28 hc2 rfl ?_
      refine V_lstore (ls' := [none, none, none, none, some _, none, some _, none, some _, some _, none]) (pc := 29) dX10_commonDivisor_29 (Nat.le_of_ble_eq_true rfl) rfl rfl ?_
      refine V_lload (pc := 31) dX10_commonDivisor_31 rfl rfl ?_
      refine V_lstore (ls' := [none, none, none, none, some _, none, some _, none, some _, some _, none]) (pc := 33) dX10_commonDivisor_33 (Nat.le_of_ble_eq_true rfl) rfl rfl ?_
      refine V_lload (pc := 35) dX10_commonDivisor_35 rfl rfl ?_
      refine V_lstore (ls' := [none, none, none, none, some _, none, some _, none, some _, some _, none]) (pc := 37) dX10_commonDivisor_37 (Nat.le_of_ble_eq_true rfl) rfl rfl ?_
      refine V_iinc (ls' := [none, none, none, none, some _, none, some _, none, some _, some _, none]) (pc := 39) dX10_commonDivisor_39 rfl (Nat.le_of_ble_eq_true rfl) (congrArg _ ic_1) rfl rfl ?_
      refine V_goto (pc := 42) (tgt := 9) dX10_commonDivisor_42 (by decide) ?_
      exact V_wk (ih _ _ _ _ _ _ hf K) ⟨rfl, ⟨rfl, ⟨rfl, trivial⟩⟩⟩
    refine V_icmp_ge (pc := 14) (tgt := 45) dX10_commonDivisor_14 (by decide) rfl (fun hc => ?_) (fun hc => ?_)
    · replace hb1 := (if_pos hc).symm.trans hb1
      cases hb1
      exact KTb1 rfl
    · replace hb1 := (if_neg hc).symm.trans hb1
      refine V_lload (pc := 17) dX10_commonDivisor_17 rfl rfl ?_
      refine V_lconst (pc := 19) dX10_commonDivisor_19 lc_0 rfl ?_
      refine V_lc_eq (pc := 20) (tgt := 45) dX10_commonDivisor_20 rfl dX10_commonDivisor_21 (by decide) rfl (fun hc => ?_) (fun hc => ?_)
      · replace hb1 := (if_pos hc).symm.trans hb1
        cases hb1
        exact KTb1 rfl
      · replace hb1 := (if_neg hc).symm.trans hb1
        cases hb1
        exact KFb1 (nbt rfl)
noncomputable def fX10_commonDivisor (v1 : Int64) (v2 : Int64) : Option (Int64) :=
  Option.bind (fX10_commonDivisor_9 FUEL v2 v1 (0 : Int32)) fun q3 =>
  some q3
set_option maxRecDepth 100000 in
set_option maxHeartbeats 4000000 in
theorem tX10_commonDivisor {g : GG} {n d : Nat} {r : HR}  {v1 : Int64} {v2 : Int64} {I : HI} {L : HL} {res : Int64} (hf : fX10_commonDivisor v1 v2 = some res) : CT g mX10_commonDivisor (d + 1) 0 0 n r I L [.long v1, .long v2] (PoL n r res I L) := by
  refine CT.of rfl (Nat.le_of_ble_eq_true rfl) ?_
  show V g mX10_commonDivisor (d + 1) 0 0 n r I L 0 [some (.long v1), none, some (.long v2), none] [] (PoL n r res I L)
  refine V_lload_n (pc := 0) dX10_commonDivisor_0 rfl rfl rfl ?_
  refine V_lstore (ls' := [some _, none, some _, none, some _, none]) (pc := 1) dX10_commonDivisor_1 (Nat.le_of_ble_eq_true rfl) rfl rfl ?_
  refine V_lload_n (pc := 3) dX10_commonDivisor_3 rfl rfl rfl ?_
  refine V_lstore (ls' := [some _, none, some _, none, some _, none, some _, none]) (pc := 4) dX10_commonDivisor_4 (Nat.le_of_ble_eq_true rfl) rfl rfl ?_
  refine V_iconst (pc := 6) dX10_commonDivisor_6 ic_0 rfl ?_
  refine V_istore (ls' := [some _, none, some _, none, some _, none, some _, none, some _]) (pc := 7) dX10_commonDivisor_7 (Nat.le_of_ble_eq_true rfl) rfl rfl ?_
  obtain ⟨q3, hq3, hf⟩ := bnd hf
  refine V_wk (lX10_commonDivisor_9 FUEL _ _ _ _ _ _ hq3 ?_) ⟨rfl, ⟨rfl, ⟨rfl, trivial⟩⟩⟩
  cases hf
  exact PoL_mk
/-! ShadowDoors$Ways.weighOdds -/
noncomputable def fX10_weighOdds_46 (sk : Nat) : Nat → Int32 → Int32 → Int32 → Int32 → HI → HL → Option (HI × HL)
  | 0, _, _, _, _, _, _ => none
  | fu + 1, y1, y4, y5, y6, I, L =>
    if y6 < 0 then
      some (I, L)
    else
      Option.bind (fJ7_fill_d0a16 65 64 (0 : Int64) L) fun q6 =>
      Option.bind (fX7_darken (1 : Int32) I q6) fun q7 =>
      Option.bind (fX10_addBest sk y6 y4 q7.1 q7.2) fun q8 =>
      Option.bind (fX7_darken y5 q8.1 q8.2) fun q9 =>
      Option.bind (fX10_addBest sk y6 ((100 : Int32) - y4) q9.1 q9.2) fun q10 =>
      if cpok (0 : Int32) (0 : Int32) (64 : Int32) 64 64 = true then
        let L12 : HL := cp2 q10.2 65 (0 : Int32).toNatClampNeg 64 (0 : Int32).toNatClampNeg (64 : Int32).toNatClampNeg
        let L13 : HL := up2 L12 61 6 ((L12 61 6) * (100 : Int64))
        fX10_weighOdds_46 sk fu y1 y4 y5 (y6 + (-1 : Int32)) q10.1 L13
      else none
set_option maxRecDepth 100000 in
set_option maxHeartbeats 4000000 in
theorem lX10_weighOdds_46 {g : GG} {n d : Nat} {tw dr sk tl ff : Nat} (hG : RG tw dr sk tl ff) (hn : 116 ≤ n) {P : PP} : ∀ (fu : Nat) (y1 : Int32) (y4 : Int32) (y5 : Int32) (y6 : Int32) (I : HI) (L : HL) (res : HI × HL), fX10_weighOdds_46 sk fu y1 y4 y5 y6 I L = some res → V g mX10_weighOdds (d + 7) 0 0 n (RT tw dr sk tl ff) res.1 res.2 128 [some (.ref 61), some (.int y1)] [] P → V g mX10_weighOdds (d + 7) 0 0 n (RT tw dr sk tl ff) I L 46 [some (.ref 61), some (.int y1), none, none, some (.int y4), some (.int y5), some (.int y6)] [] P := by
  intro fu
  induction fu with
  | zero => intro y1 y4 y5 y6 I L res hf; cases (show none = some res from hf)
  | succ fu ih =>
    intro y1 y4 y5 y6 I L res hf K
    refine V_iload (pc := 46) dX10_weighOdds_46 rfl rfl ?_
    refine V_if_lt (pc := 48) (tgt := 128) dX10_weighOdds_48 (by decide) rfl (fun hc => ?_) (fun hc => ?_)
    · replace hf := (if_pos hc).symm.trans hf
      cases hf
      exact V_wk K ⟨rfl, ⟨rfl, trivial⟩⟩
    · replace hf := (if_neg hc).symm.trans hf
      refine V_aload_n (pc := 51) dX10_weighOdds_51 rfl rfl rfl ?_
      refine V_getR (pc := 52) dX10_weighOdds_52 flX10_22 rfl (by omega) (congrArg Prod.fst sh_61) rt_61_9 rfl ?_
      refine V_lconst (pc := 55) dX10_weighOdds_55 lc_0 rfl ?_
      obtain ⟨q6, hq6, hf⟩ := bnd hf
      refine V_cSv (md' := mJ7_fill_d0a16) (pc := 56) dX10_weighOdds_56 mlX10_117 mSJ7_fill_d0a16 (tJ7_fill_d0a16 sh_65 (by omega) hq6) rfl rfl (Nat.le_of_ble_eq_true rfl) rfl ?_
      refine V_aload_n (pc := 59) dX10_weighOdds_59 rfl rfl rfl ?_
      refine V_getR (pc := 60) dX10_weighOdds_60 flX10_25 rfl (by omega) (congrArg Prod.fst sh_61) rt_61_0 rfl ?_
      refine V_iconst (pc := 63) dX10_weighOdds_63 ic_1 rfl ?_
      obtain ⟨q7, hq7, hf⟩ := bnd hf
      refine V_cVv (md' := mX7_darken) (pc := 64) dX10_weighOdds_64 mlX10_126 mVX7_darken (tX7_darken hG hn hq7) rfl (by omega) (congrArg Prod.fst sh_57) rfl (Nat.le_of_ble_eq_true rfl) rfl ?_
      refine V_aload_n (pc := 67) dX10_weighOdds_67 rfl rfl rfl ?_
      refine V_iload (pc := 68) dX10_weighOdds_68 rfl rfl ?_
      refine V_iload (pc := 70) dX10_weighOdds_70 rfl rfl ?_
      obtain ⟨q8, hq8, hf⟩ := bnd hf
      refine V_cVv (md' := mX10_addBest) (pc := 72) dX10_weighOdds_72 mlX10_130 mVX10_addBest (tX10_addBest hG hn hq8) rfl (by omega) (congrArg Prod.fst sh_61) rfl (Nat.le_of_ble_eq_true rfl) rfl ?_
      refine V_aload_n (pc := 75) dX10_weighOdds_75 rfl rfl rfl ?_
      refine V_getR (pc := 76) dX10_weighOdds_76 flX10_25 rfl (by omega) (congrArg Prod.fst sh_61) rt_61_0 rfl ?_
      refine V_iload (pc := 79) dX10_weighOdds_79 rfl rfl ?_
      obtain ⟨q9, hq9, hf⟩ := bnd hf
      refine V_cVv (md' := mX7_darken) (pc := 81) dX10_weighOdds_81 mlX10_126 mVX7_darken (tX7_darken hG hn hq9) rfl (by omega) (congrArg Prod.fst sh_57) rfl (Nat.le_of_ble_eq_true rfl) rfl ?_
      refine V_aload_n (pc := 84) dX10_weighOdds_84 rfl rfl rfl ?_
      refine V_iload (pc := 85) dX10_weighOdds_85 rfl rfl ?_
      refine V_bipush (pc := 87) dX10_weighOdds_87 bp_100 rfl ?_
      refine V_iload (pc := 89) dX10_weighOdds_89 rfl rfl ?_
      refine V_isub (pc := 91) dX10_weighOdds_91 rfl ?_
      obtain ⟨q10, hq10, hf⟩ := bnd hf
      refine V_cVv (md' := mX10_addBest) (pc := 92) dX10_weighOdds_92 mlX10_130 mVX10_addBest (tX10_addBest hG hn hq10) rfl (by omega) (congrArg Prod.fst sh_61) rfl (Nat.le_of_ble_eq_true rfl) rfl ?_
      refine V_aload_n (pc := 95) dX10_weighOdds_95 rfl rfl rfl ?_
      refine V_getR (pc := 96) dX10_weighOdds_96 flX10_22 rfl (by omega) (congrArg Prod.fst sh_61) rt_61_9 rfl ?_
      refine V_iconst (pc := 99) dX10_weighOdds_99 ic_0 rfl ?_
      refine V_aload_n (pc := 100) dX10_weighOdds_100 rfl rfl rfl ?_
      refine V_getR (pc := 101) dX10_weighOdds_101 flX10_19 rfl (by omega) (congrArg Prod.fst sh_61) rt_61_8 rfl ?_
      refine V_iconst (pc := 104) dX10_weighOdds_104 ic_0 rfl ?_
      refine V_bipush (pc := 105) dX10_weighOdds_105 bp_64 rfl ?_
      obtain ⟨hc11, hf⟩ := pif hf
      let L12 : HL := cp2 q10.2 65 (0 : Int32).toNatClampNeg 64 (0 : Int32).toNatClampNeg (64 : Int32).toNatClampNeg
      refine V_copyL (pc := 107) dX10_weighOdds_107 mlX10_134 (by omega) (by omega) sh_65 sh_64 hc11 (Nat.le_of_ble_eq_true rfl) rfl ?_
      refine V_aload_n (pc := 110) dX10_weighOdds_110 rfl rfl rfl ?_
      refine V_dup (pc := 111) dX10_weighOdds_111 rfl rfl ?_
      refine V_getL (pc := 112) dX10_weighOdds_112 flX10_123 rfl (by omega) (congrArg Prod.fst sh_61) rfl ?_
      refine V_ldc2 (pc := 115) dX10_weighOdds_115 klX10_140 rfl ?_
      refine V_lmul (pc := 118) dX10_weighOdds_118 rfl ?_
      let L13 : HL := up2 L12 61 6 ((L12 61 6) * (100 : Int64))
      refine V_putL (pc := 119) dX10_weighOdds_119 flX10_123 rfl rfl (by omega) (congrArg Prod.fst sh_61) rfl ?_
      refine V_iinc (ls' := [some _, some _, none, none, some _, some _, some _]) (pc := 122) dX10_weighOdds_122 rfl (Nat.le_of_ble_eq_true rfl) (congrArg _ ic_m1) rfl rfl ?_
      refine V_goto (pc := 125) (tgt := 46) dX10_weighOdds_125 (by decide) ?_
      exact V_wk (ih _ _ _ _ _ _ _ hf K) ⟨rfl, ⟨rfl, ⟨rfl, ⟨rfl, ⟨rfl, trivial⟩⟩⟩⟩⟩
noncomputable def fX10_weighOdds (sk : Nat) (v1 : Int32) (v2 : Int32) (v3 : Int32) (I : HI) (L : HL) : Option (HI × HL) :=
  Option.bind (fX7_isDark  I) fun q1 =>
  Option.bind (fJ7_fill_d0a16 64 64 (0 : Int64) L) fun q2 =>
  if inb v2 64 = true then
    let L4 : HL := up2 q2 64 v2.toNatClampNeg (1 : Int64)
    let L5 : HL := up2 L4 61 6 (1 : Int64)
    Option.bind (fX10_weighOdds_46 sk FUEL v1 (I sk 10) (b2i q1) (v3 - (1 : Int32)) I L5) fun q14 =>
    if inb v1 64 = true then
      let L16 : HL := up2 q14.2 61 5 (q14.2 64 v1.toNatClampNeg)
      Option.bind (fX10_commonDivisor (L16 61 5) (L16 61 6)) fun q17 =>
      if q17 ≤ (1 : Int64) then
        some (q14.1, L16)
      else
        if q17 = 0 then none else
        let L19 : HL := up2 L16 61 5 ((L16 61 5) / q17)
        if q17 = 0 then none else
        let L21 : HL := up2 L19 61 6 ((L19 61 6) / q17)
        some (q14.1, L21)
    else none
  else none
set_option maxRecDepth 100000 in
set_option maxHeartbeats 4000000 in
theorem tX10_weighOdds {g : GG} {n d : Nat} {tw dr sk tl ff : Nat} (hG : RG tw dr sk tl ff) (hn : 116 ≤ n) {v1 : Int32} {v2 : Int32} {v3 : Int32} {I : HI} {L : HL} {res : HI × HL} (hf : fX10_weighOdds sk v1 v2 v3 I L = some res) : CT g mX10_weighOdds (d + 7) 0 0 n (RT tw dr sk tl ff) I L [.ref 61, .int v1, .int v2, .int v3] (PoV n (RT tw dr sk tl ff) res.1 res.2) := by
  refine CT.of rfl (Nat.le_of_ble_eq_true rfl) ?_
  show V g mX10_weighOdds (d + 7) 0 0 n (RT tw dr sk tl ff) I L 0 [some (.ref 61), some (.int v1), some (.int v2), some (.int v3)] [] (PoV n (RT tw dr sk tl ff) res.1 res.2)
  refine V_aload_n (pc := 0) dX10_weighOdds_0 rfl rfl rfl ?_
  refine V_getR (pc := 1) dX10_weighOdds_1 flX10_25 rfl (by omega) (congrArg Prod.fst sh_61) rt_61_0 rfl ?_
  refine V_getR (pc := 4) dX10_weighOdds_4 flX10_51 rfl (by omega) (congrArg Prod.fst sh_57) rt_57_0 rfl ?_
  refine V_getI (pc := 7) dX10_weighOdds_7 flX10_110 rfl (by omega) (congrArg Prod.fst (shQ hG.2.2.1)) rfl ?_
  refine V_istore (ls' := [some _, some _, some _, some _, some _]) (pc := 10) dX10_weighOdds_10 (Nat.le_of_ble_eq_true rfl) rfl rfl ?_
  refine V_aload_n (pc := 12) dX10_weighOdds_12 rfl rfl rfl ?_
  refine V_getR (pc := 13) dX10_weighOdds_13 flX10_25 rfl (by omega) (congrArg Prod.fst sh_61) rt_61_0 rfl ?_
  obtain ⟨q1, hq1, hf⟩ := bnd hf
  refine V_cVz (md' := mX7_isDark) (pc := 16) dX10_weighOdds_16 mlX10_113 mVX7_isDark (tX7_isDark hG hn hq1) rfl (by omega) (congrArg Prod.fst sh_57) rfl (Nat.le_of_ble_eq_true rfl) rfl ?_
  refine V_istore (ls' := [some _, some _, some _, some _, some _, some _]) (pc := 19) dX10_weighOdds_19 (Nat.le_of_ble_eq_true rfl) rfl rfl ?_
  refine V_aload_n (pc := 21) dX10_weighOdds_21 rfl rfl rfl ?_
  refine V_getR (pc := 22) dX10_weighOdds_22 flX10_19 rfl (by omega) (congrArg Prod.fst sh_61) rt_61_8 rfl ?_
  refine V_lconst (pc := 25) dX10_weighOdds_25 lc_0 rfl ?_
  obtain ⟨q2, hq2, hf⟩ := bnd hf
  refine V_cSv (md' := mJ7_fill_d0a16) (pc := 26) dX10_weighOdds_26 mlX10_117 mSJ7_fill_d0a16 (tJ7_fill_d0a16 sh_64 (by omega) hq2) rfl rfl (Nat.le_of_ble_eq_true rfl) rfl ?_
  refine V_aload_n (pc := 29) dX10_weighOdds_29 rfl rfl rfl ?_
  refine V_getR (pc := 30) dX10_weighOdds_30 flX10_19 rfl (by omega) (congrArg Prod.fst sh_61) rt_61_8 rfl ?_
  refine V_iload_n (pc := 33) dX10_weighOdds_33 rfl rfl rfl ?_
  refine V_lconst (pc := 34) dX10_weighOdds_34 lc_1 rfl ?_
  obtain ⟨hc3, hf⟩ := pif hf
  let L4 : HL := up2 q2 64 v2.toNatClampNeg (1 : Int64)
  refine V_last (pc := 35) dX10_weighOdds_35 (by omega) sh_64 hc3 rfl ?_
  refine V_aload_n (pc := 36) dX10_weighOdds_36 rfl rfl rfl ?_
  refine V_lconst (pc := 37) dX10_weighOdds_37 lc_1 rfl ?_
  let L5 : HL := up2 L4 61 6 (1 : Int64)
  refine V_putL (pc := 38) dX10_weighOdds_38 flX10_123 rfl rfl (by omega) (congrArg Prod.fst sh_61) rfl ?_
  refine V_iload_n (pc := 41) dX10_weighOdds_41 rfl rfl rfl ?_
  refine V_iconst (pc := 42) dX10_weighOdds_42 ic_1 rfl ?_
  refine V_isub (pc := 43) dX10_weighOdds_43 rfl ?_
  refine V_istore (ls' := [some _, some _, some _, some _, some _, some _, some _]) (pc := 44) dX10_weighOdds_44 (Nat.le_of_ble_eq_true rfl) rfl rfl ?_
  obtain ⟨q14, hq14, hf⟩ := bnd hf
  refine V_wk (lX10_weighOdds_46 hG hn FUEL _ _ _ _ _ _ _ hq14 ?_) ⟨rfl, ⟨rfl, ⟨rfl, ⟨rfl, ⟨rfl, trivial⟩⟩⟩⟩⟩
  refine V_aload_n (pc := 128) dX10_weighOdds_128 rfl rfl rfl ?_
  refine V_aload_n (pc := 129) dX10_weighOdds_129 rfl rfl rfl ?_
  refine V_getR (pc := 130) dX10_weighOdds_130 flX10_19 rfl (by omega) (congrArg Prod.fst sh_61) rt_61_8 rfl ?_
  refine V_iload_n (pc := 133) dX10_weighOdds_133 rfl rfl rfl ?_
  obtain ⟨hc15, hf⟩ := pif hf
  refine V_lald (pc := 134) dX10_weighOdds_134 (by omega) sh_64 hc15 rfl ?_
  let L16 : HL := up2 q14.2 61 5 (q14.2 64 v1.toNatClampNeg)
  refine V_putL (pc := 135) dX10_weighOdds_135 flX10_142 rfl rfl (by omega) (congrArg Prod.fst sh_61) rfl ?_
  refine V_aload_n (pc := 138) dX10_weighOdds_138 rfl rfl rfl ?_
  refine V_getL (pc := 139) dX10_weighOdds_139 flX10_142 rfl (by omega) (congrArg Prod.fst sh_61) rfl ?_
  refine V_aload_n (pc := 142) dX10_weighOdds_142 rfl rfl rfl ?_
  refine V_getL (pc := 143) dX10_weighOdds_143 flX10_123 rfl (by omega) (congrArg Prod.fst sh_61) rfl ?_
  obtain ⟨q17, hq17, hf⟩ := bnd hf
  refine V_cSl (md' := mX10_commonDivisor) (pc := 146) dX10_weighOdds_146 mlX10_145 mSX10_commonDivisor (tX10_commonDivisor hq17) rfl rfl (Nat.le_of_ble_eq_true rfl) rfl ?_
  refine V_lstore (ls' := [some _, some _, none, none, none, none, some _, none]) (pc := 149) dX10_weighOdds_149 (Nat.le_of_ble_eq_true rfl) rfl rfl ?_
  refine V_lload (pc := 151) dX10_weighOdds_151 rfl rfl ?_
  refine V_lconst (pc := 153) dX10_weighOdds_153 lc_1 rfl ?_
  refine V_lc_le (pc := 154) (tgt := 180) dX10_weighOdds_154 rfl dX10_weighOdds_155 (by decide) rfl (fun hc => ?_) (fun hc => ?_)
  · replace hf := (if_pos hc).symm.trans hf
    cases hf
    exact V_vret (pc := 180) dX10_weighOdds_180 rfl PoV_mk
  · replace hf := (if_neg hc).symm.trans hf
    refine V_aload_n (pc := 158) dX10_weighOdds_158 rfl rfl rfl ?_
    refine V_dup (pc := 159) dX10_weighOdds_159 rfl rfl ?_
    refine V_getL (pc := 160) dX10_weighOdds_160 flX10_142 rfl (by omega) (congrArg Prod.fst sh_61) rfl ?_
    refine V_lload (pc := 163) dX10_weighOdds_163 rfl rfl ?_
    obtain ⟨hc18, hf⟩ := nif hf
    refine V_ldiv (pc := 165) dX10_weighOdds_165 hc18 rfl ?_
    let L19 : HL := up2 L16 61 5 ((L16 61 5) / q17)
    refine V_putL (pc := 166) dX10_weighOdds_166 flX10_142 rfl rfl (by omega) (congrArg Prod.fst sh_61) rfl ?_
    refine V_aload_n (pc := 169) dX10_weighOdds_169 rfl rfl rfl ?_
    refine V_dup (pc := 170) dX10_weighOdds_170 rfl rfl ?_
    refine V_getL (pc := 171) dX10_weighOdds_171 flX10_123 rfl (by omega) (congrArg Prod.fst sh_61) rfl ?_
    refine V_lload (pc := 174) dX10_weighOdds_174 rfl rfl ?_
    obtain ⟨hc20, hf⟩ := nif hf
    refine V_ldiv (pc := 176) dX10_weighOdds_176 hc20 rfl ?_
    let L21 : HL := up2 L19 61 6 ((L19 61 6) / q17)
    refine V_putL (pc := 177) dX10_weighOdds_177 flX10_123 rfl rfl (by omega) (congrArg Prod.fst sh_61) rfl ?_
    cases hf
    exact V_vret (pc := 180) dX10_weighOdds_180 rfl PoV_mk
/-! ShadowDoors.putOnTape -/
noncomputable def fX11_putOnTape_3 : Nat → Int32 → Int32 → HI → Option (HI)
  | 0, _, _, _ => none
  | fu + 1, y1, y2, I =>
    if y2 < 0 then
      some I
    else
      if (Int32.ofNat 1600) ≤ (I 0 1) then
        fX11_putOnTape_3 fu y1 (y2 + (-8 : Int32)) I
      else
        if inb (I 0 1) 1600 = true then
          let I2 : HI := up2 I 1 (I 0 1).toNatClampNeg ((y1.toUInt32 >>> (y2.toUInt32 &&& Int32.toUInt32 31)).toInt32.toInt8.toInt32.toInt8.toInt32)
          let I3 : HI := up2 I2 0 1 ((I2 0 1) + (1 : Int32))
          fX11_putOnTape_3 fu y1 (y2 + (-8 : Int32)) I3
        else none
set_option maxRecDepth 100000 in
set_option maxHeartbeats 4000000 in
theorem lX11_putOnTape_3 {g : GG} {n d : Nat} {tw dr sk tl ff : Nat} (hG : RG tw dr sk tl ff) (hn : 116 ≤ n) {P : PP} : ∀ (fu : Nat) (y1 : Int32) (y2 : Int32) (I : HI) (L : HL) (res : HI), fX11_putOnTape_3 fu y1 y2 I = some res → P none n (RT tw dr sk tl ff) res L → V g mX11_putOnTape (d + 1) 0 0 n (RT tw dr sk tl ff) I L 3 [some (.ref 0), some (.int y1), some (.int y2)] [] P := by
  intro fu
  induction fu with
  | zero => intro y1 y2 I L res hf; cases (show none = some res from hf)
  | succ fu ih =>
    intro y1 y2 I L res hf K
    refine V_iload_n (pc := 3) dX11_putOnTape_3 rfl rfl rfl ?_
    refine V_if_lt (pc := 4) (tgt := 48) dX11_putOnTape_4 (by decide) rfl (fun hc => ?_) (fun hc => ?_)
    · replace hf := (if_pos hc).symm.trans hf
      cases hf
      exact V_vret (pc := 48) dX11_putOnTape_48 rfl K
    · replace hf := (if_neg hc).symm.trans hf
      refine V_aload_n (pc := 7) dX11_putOnTape_7 rfl rfl rfl ?_
      refine V_getI (pc := 8) dX11_putOnTape_8 flX11_90 rfl (by omega) (congrArg Prod.fst sh_0) rfl ?_
      refine V_aload_n (pc := 11) dX11_putOnTape_11 rfl rfl rfl ?_
      refine V_getR (pc := 12) dX11_putOnTape_12 flX11_9 rfl (by omega) (congrArg Prod.fst sh_0) rt_0_0 rfl ?_
      refine V_alen (pc := 15) dX11_putOnTape_15 (by omega) sh_1 (by decide) rfl ?_
      refine V_icmp_ge (pc := 16) (tgt := 42) dX11_putOnTape_16 (by decide) rfl (fun hc => ?_) (fun hc => ?_)
      · replace hf := (if_pos hc).symm.trans hf
        refine V_iinc (ls' := [some _, some _, some _]) (pc := 42) dX11_putOnTape_42 rfl (Nat.le_of_ble_eq_true rfl) (congrArg _ ic_m8) rfl rfl ?_
        refine V_goto (pc := 45) (tgt := 3) dX11_putOnTape_45 (by decide) ?_
        exact V_wk (ih _ _ _ _ _ hf K) ⟨rfl, ⟨rfl, ⟨rfl, trivial⟩⟩⟩
      · replace hf := (if_neg hc).symm.trans hf
        refine V_aload_n (pc := 19) dX11_putOnTape_19 rfl rfl rfl ?_
        refine V_getR (pc := 20) dX11_putOnTape_20 flX11_9 rfl (by omega) (congrArg Prod.fst sh_0) rt_0_0 rfl ?_
        refine V_aload_n (pc := 23) dX11_putOnTape_23 rfl rfl rfl ?_
        refine V_getI (pc := 24) dX11_putOnTape_24 flX11_90 rfl (by omega) (congrArg Prod.fst sh_0) rfl ?_
        refine V_iload_n (pc := 27) dX11_putOnTape_27 rfl rfl rfl ?_
        refine V_iload_n (pc := 28) dX11_putOnTape_28 rfl rfl rfl ?_
        refine V_iushr (pc := 29) dX11_putOnTape_29 rfl ?_
        refine V_i2b (pc := 30) dX11_putOnTape_30 rfl ?_
        obtain ⟨hc1, hf⟩ := pif hf
        let I2 : HI := up2 I 1 (I 0 1).toNatClampNeg ((y1.toUInt32 >>> (y2.toUInt32 &&& Int32.toUInt32 31)).toInt32.toInt8.toInt32.toInt8.toInt32)
        refine V_bast (pc := 31) dX11_putOnTape_31 (by omega) sh_1 hc1 rfl ?_
        refine V_aload_n (pc := 32) dX11_putOnTape_32 rfl rfl rfl ?_
        refine V_dup (pc := 33) dX11_putOnTape_33 rfl rfl ?_
        refine V_getI (pc := 34) dX11_putOnTape_34 flX11_90 rfl (by omega) (congrArg Prod.fst sh_0) rfl ?_
        refine V_iconst (pc := 37) dX11_putOnTape_37 ic_1 rfl ?_
        refine V_iadd (pc := 38) dX11_putOnTape_38 rfl ?_
        let I3 : HI := up2 I2 0 1 ((I2 0 1) + (1 : Int32))
        refine V_putI (pc := 39) dX11_putOnTape_39 flX11_90 rfl rfl (by omega) (congrArg Prod.fst sh_0) rfl ?_
        refine V_iinc (ls' := [some _, some _, some _]) (pc := 42) dX11_putOnTape_42 rfl (Nat.le_of_ble_eq_true rfl) (congrArg _ ic_m8) rfl rfl ?_
        refine V_goto (pc := 45) (tgt := 3) dX11_putOnTape_45 (by decide) ?_
        exact V_wk (ih _ _ _ _ _ hf K) ⟨rfl, ⟨rfl, ⟨rfl, trivial⟩⟩⟩
noncomputable def fX11_putOnTape (v1 : Int32) (I : HI) : Option (HI) :=
  Option.bind (fX11_putOnTape_3 FUEL v1 (24 : Int32) I) fun q4 =>
  some q4
set_option maxRecDepth 100000 in
set_option maxHeartbeats 4000000 in
theorem tX11_putOnTape {g : GG} {n d : Nat} {tw dr sk tl ff : Nat} (hG : RG tw dr sk tl ff) (hn : 116 ≤ n) {v1 : Int32} {I : HI} {L : HL} {res : HI} (hf : fX11_putOnTape v1 I = some res) : CT g mX11_putOnTape (d + 1) 0 0 n (RT tw dr sk tl ff) I L [.ref 0, .int v1] (PoV n (RT tw dr sk tl ff) res L) := by
  refine CT.of rfl (Nat.le_of_ble_eq_true rfl) ?_
  show V g mX11_putOnTape (d + 1) 0 0 n (RT tw dr sk tl ff) I L 0 [some (.ref 0), some (.int v1)] [] (PoV n (RT tw dr sk tl ff) res L)
  refine V_bipush (pc := 0) dX11_putOnTape_0 bp_24 rfl ?_
  refine V_istore_n (ls' := [some _, some _, some _]) (pc := 2) dX11_putOnTape_2 rfl (Nat.le_of_ble_eq_true rfl) rfl rfl ?_
  obtain ⟨q4, hq4, hf⟩ := bnd hf
  refine V_wk (lX11_putOnTape_3 hG hn FUEL _ _ _ _ _ hq4 ?_) ⟨rfl, ⟨rfl, ⟨rfl, trivial⟩⟩⟩
  cases hf
  exact PoV_mk
/-! ShadowDoors.feed -/
noncomputable def fX11_feed (v1 : Int32) (v2 : Int32) (v3 : Int32) (v4 : Int32) (v5 : Int32) (I : HI) : Option (Int32 × HI) :=
  if ((I 0 1) + (20 : Int32)) ≤ (1600 : Int32) then
    Option.bind (fX11_putOnTape v1 I) fun q1 =>
    Option.bind (fX11_putOnTape v2 q1) fun q2 =>
    Option.bind (fX11_putOnTape v3 q2) fun q3 =>
    Option.bind (fX11_putOnTape v4 q3) fun q4 =>
    Option.bind (fX11_putOnTape v5 q4) fun q5 =>
    some ((q5 0 1), q5)
  else
    some ((-1 : Int32), I)
set_option maxRecDepth 100000 in
set_option maxHeartbeats 4000000 in
theorem tX11_feed {g : GG} {n d : Nat} {tw dr sk tl ff : Nat} (hG : RG tw dr sk tl ff) (hn : 116 ≤ n) {v1 : Int32} {v2 : Int32} {v3 : Int32} {v4 : Int32} {v5 : Int32} {I : HI} {L : HL} {res : Int32 × HI} (hf : fX11_feed v1 v2 v3 v4 v5 I = some res) : CT g mX11_feed (d + 2) 0 0 n (RT tw dr sk tl ff) I L [.ref 0, .int v1, .int v2, .int v3, .int v4, .int v5] (PoI n (RT tw dr sk tl ff) res.1 res.2 L) := by
  refine CT.of rfl (Nat.le_of_ble_eq_true rfl) ?_
  show V g mX11_feed (d + 2) 0 0 n (RT tw dr sk tl ff) I L 0 [some (.ref 0), some (.int v1), some (.int v2), some (.int v3), some (.int v4), some (.int v5)] [] (PoI n (RT tw dr sk tl ff) res.1 res.2 L)
  refine V_aload_n (pc := 0) dX11_feed_0 rfl rfl rfl ?_
  refine V_getI (pc := 1) dX11_feed_1 flX11_90 rfl (by omega) (congrArg Prod.fst sh_0) rfl ?_
  refine V_bipush (pc := 4) dX11_feed_4 bp_20 rfl ?_
  refine V_iadd (pc := 6) dX11_feed_6 rfl ?_
  refine V_sipush (pc := 7) dX11_feed_7 sp_1600 rfl ?_
  refine V_icmp_le (pc := 10) (tgt := 15) dX11_feed_10 (by decide) rfl (fun hc => ?_) (fun hc => ?_)
  · replace hf := (if_pos hc).symm.trans hf
    refine V_aload_n (pc := 15) dX11_feed_15 rfl rfl rfl ?_
    refine V_iload_n (pc := 16) dX11_feed_16 rfl rfl rfl ?_
    obtain ⟨q1, hq1, hf⟩ := bnd hf
    refine V_cVv (md' := mX11_putOnTape) (pc := 17) dX11_feed_17 mlX11_94 mVX11_putOnTape (tX11_putOnTape hG hn hq1) rfl (by omega) (congrArg Prod.fst sh_0) rfl (Nat.le_of_ble_eq_true rfl) rfl ?_
    refine V_aload_n (pc := 20) dX11_feed_20 rfl rfl rfl ?_
    refine V_iload_n (pc := 21) dX11_feed_21 rfl rfl rfl ?_
    obtain ⟨q2, hq2, hf⟩ := bnd hf
    refine V_cVv (md' := mX11_putOnTape) (pc := 22) dX11_feed_22 mlX11_94 mVX11_putOnTape (tX11_putOnTape hG hn hq2) rfl (by omega) (congrArg Prod.fst sh_0) rfl (Nat.le_of_ble_eq_true rfl) rfl ?_
    refine V_aload_n (pc := 25) dX11_feed_25 rfl rfl rfl ?_
    refine V_iload_n (pc := 26) dX11_feed_26 rfl rfl rfl ?_
    obtain ⟨q3, hq3, hf⟩ := bnd hf
    refine V_cVv (md' := mX11_putOnTape) (pc := 27) dX11_feed_27 mlX11_94 mVX11_putOnTape (tX11_putOnTape hG hn hq3) rfl (by omega) (congrArg Prod.fst sh_0) rfl (Nat.le_of_ble_eq_true rfl) rfl ?_
    refine V_aload_n (pc := 30) dX11_feed_30 rfl rfl rfl ?_
    refine V_iload (pc := 31) dX11_feed_31 rfl rfl ?_
    obtain ⟨q4, hq4, hf⟩ := bnd hf
    refine V_cVv (md' := mX11_putOnTape) (pc := 33) dX11_feed_33 mlX11_94 mVX11_putOnTape (tX11_putOnTape hG hn hq4) rfl (by omega) (congrArg Prod.fst sh_0) rfl (Nat.le_of_ble_eq_true rfl) rfl ?_
    refine V_aload_n (pc := 36) dX11_feed_36 rfl rfl rfl ?_
    refine V_iload (pc := 37) dX11_feed_37 rfl rfl ?_
    obtain ⟨q5, hq5, hf⟩ := bnd hf
    refine V_cVv (md' := mX11_putOnTape) (pc := 39) dX11_feed_39 mlX11_94 mVX11_putOnTape (tX11_putOnTape hG hn hq5) rfl (by omega) (congrArg Prod.fst sh_0) rfl (Nat.le_of_ble_eq_true rfl) rfl ?_
    refine V_aload_n (pc := 42) dX11_feed_42 rfl rfl rfl ?_
    refine V_getI (pc := 43) dX11_feed_43 flX11_90 rfl (by omega) (congrArg Prod.fst sh_0) rfl ?_
    cases hf
    exact V_iret (pc := 46) dX11_feed_46 rfl PoI_mk
  · replace hf := (if_neg hc).symm.trans hf
    refine V_iconst (pc := 13) dX11_feed_13 ic_m1 rfl ?_
    cases hf
    exact V_iret (pc := 14) dX11_feed_14 rfl PoI_mk
/-! ShadowDoors.end -/
noncomputable def fX11_end (v1 : Int32) (I : HI) : Int32 × HI :=
  tbn (
    if v1 < 0 then
      true
    else
      if v1 ≤ (I 0 1) then
        false
      else
        true
  ) fun b1 =>
  if b1 = true then
    ((-1 : Int32), I)
  else
    let I2 : HI := up2 I 0 1 v1
    (v1, I2)
set_option maxRecDepth 100000 in
set_option maxHeartbeats 4000000 in
theorem tX11_end {g : GG} {n d : Nat} {tw dr sk tl ff : Nat} (hG : RG tw dr sk tl ff) (hn : 116 ≤ n) {v1 : Int32} {I : HI} {L : HL} {res : Int32 × HI} (hf : fX11_end v1 I = res) : CT g mX11_end (d + 1) 0 0 n (RT tw dr sk tl ff) I L [.ref 0, .int v1] (PoI n (RT tw dr sk tl ff) res.1 res.2 L) := by
  refine CT.of rfl (Nat.le_of_ble_eq_true rfl) ?_
  show V g mX11_end (d + 1) 0 0 n (RT tw dr sk tl ff) I L 0 [some (.ref 0), some (.int v1)] [] (PoI n (RT tw dr sk tl ff) res.1 res.2 L)
  refine V_iload_n (pc := 0) dX11_end_0 rfl rfl rfl ?_
  obtain ⟨b1, hb1, hf⟩ := tbd hf
  have KTb1 : b1 = true → V g mX11_end (d + 1) 0 0 n (RT tw dr sk tl ff) I L 12 [some (.ref 0), some (.int v1)] [] (PoI n (RT tw dr sk tl ff) res.1 res.2 L) := fun hc => by
    replace hf := (if_pos hc).symm.trans hf
    refine V_iconst (pc := 12) dX11_end_12 ic_m1 rfl ?_
    cases hf
    exact V_iret (pc := 13) dX11_end_13 rfl PoI_mk
  have KFb1 : ¬ b1 = true → V g mX11_end (d + 1) 0 0 n (RT tw dr sk tl ff) I L 14 [some (.ref 0), some (.int v1)] [] (PoI n (RT tw dr sk tl ff) res.1 res.2 L) := fun hc => by
    replace hf := (if_neg hc).symm.trans hf
    refine V_aload_n (pc := 14) dX11_end_14 rfl rfl rfl ?_
    refine V_iload_n (pc := 15) dX11_end_15 rfl rfl rfl ?_
    let I2 : HI := up2 I 0 1 v1
    refine V_putI (pc := 16) dX11_end_16 flX11_90 rfl rfl (by omega) (congrArg Prod.fst sh_0) rfl ?_
    refine V_iload_n (pc := 19) dX11_end_19 rfl rfl rfl ?_
    cases hf
    exact V_iret (pc := 20) dX11_end_20 rfl PoI_mk
  refine V_if_lt (pc := 1) (tgt := 12) dX11_end_1 (by decide) rfl (fun hc => ?_) (fun hc => ?_)
  · replace hb1 := (if_pos hc).symm.trans hb1
    cases hb1
    exact KTb1 rfl
  · replace hb1 := (if_neg hc).symm.trans hb1
    refine V_iload_n (pc := 4) dX11_end_4 rfl rfl rfl ?_
    refine V_aload_n (pc := 5) dX11_end_5 rfl rfl rfl ?_
    refine V_getI (pc := 6) dX11_end_6 flX11_90 rfl (by omega) (congrArg Prod.fst sh_0) rfl ?_
    refine V_icmp_le (pc := 9) (tgt := 14) dX11_end_9 (by decide) rfl (fun hc => ?_) (fun hc => ?_)
    · replace hb1 := (if_pos hc).symm.trans hb1
      cases hb1
      exact KFb1 (nbt rfl)
    · replace hb1 := (if_neg hc).symm.trans hb1
      cases hb1
      exact KTb1 rfl
/-! ShadowDoors.fault -/
noncomputable def fX11_fault (v1 : Int32) (I : HI) : Int32 :=
  if v1 = (0 : Int32) then
    (I 48 8)
  else
    if v1 = (1 : Int32) then
      (I 48 9)
    else
      (-1 : Int32)
set_option maxRecDepth 100000 in
set_option maxHeartbeats 4000000 in
theorem tX11_fault {g : GG} {n d : Nat} {tw dr sk tl ff : Nat} (hG : RG tw dr sk tl ff) (hn : 116 ≤ n) {v1 : Int32} {I : HI} {L : HL} {res : Int32} (hf : fX11_fault v1 I = res) : CT g mX11_fault (d + 1) 0 0 n (RT tw dr sk tl ff) I L [.ref 0, .int v1] (PoI n (RT tw dr sk tl ff) res I L) := by
  refine CT.of rfl (Nat.le_of_ble_eq_true rfl) ?_
  show V g mX11_fault (d + 1) 0 0 n (RT tw dr sk tl ff) I L 0 [some (.ref 0), some (.int v1)] [] (PoI n (RT tw dr sk tl ff) res I L)
  refine V_iload_n (pc := 0) dX11_fault_0 rfl rfl rfl ?_
  by_cases hc1 : v1 = (0 : Int32)
  · replace hf := (if_pos hc1).symm.trans hf
    refine V_lsw (off := 27) (pc := 1) (tgt := 28) dX11_fault_1 (by decide) (by rw [hc1]; first | done | rfl) (by decide) ?_
    refine V_aload_n (pc := 28) dX11_fault_28 rfl rfl rfl ?_
    refine V_getR (pc := 29) dX11_fault_29 flX11_33 rfl (by omega) (congrArg Prod.fst sh_0) rt_0_2 rfl ?_
    refine V_getI (pc := 32) dX11_fault_32 flX11_120 rfl (by omega) (congrArg Prod.fst sh_48) rfl ?_
    cases hf
    exact V_iret (pc := 35) dX11_fault_35 rfl PoI_mk
  · replace hf := (if_neg hc1).symm.trans hf
    by_cases hc2 : v1 = (1 : Int32)
    · replace hf := (if_pos hc2).symm.trans hf
      refine V_lsw (off := 35) (pc := 1) (tgt := 36) dX11_fault_1 (by decide) (by rw [hc2]; first | done | rfl) (by decide) ?_
      refine V_aload_n (pc := 36) dX11_fault_36 rfl rfl rfl ?_
      refine V_getR (pc := 37) dX11_fault_37 flX11_33 rfl (by omega) (congrArg Prod.fst sh_0) rt_0_2 rfl ?_
      refine V_getI (pc := 40) dX11_fault_40 flX11_123 rfl (by omega) (congrArg Prod.fst sh_48) rfl ?_
      cases hf
      exact V_iret (pc := 43) dX11_fault_43 rfl PoI_mk
    · replace hf := (if_neg hc2).symm.trans hf
      have KD3 : V g mX11_fault (d + 1) 0 0 n (RT tw dr sk tl ff) I L 44 [some (.ref 0), some (.int v1)] [] (PoI n (RT tw dr sk tl ff) res I L) := by
        refine V_iconst (pc := 44) dX11_fault_44 ic_m1 rfl ?_
        cases hf
        exact V_iret (pc := 45) dX11_fault_45 rfl PoI_mk
      refine V_lsw (off := 43) (pc := 1) (tgt := 44) dX11_fault_1 (by decide) (by have e0 := swn (k := (0 : Int32)) (z := 0) hc1 rfl; have e1 := swn (k := (1 : Int32)) (z := 1) hc2 rfl; simp only [Op.lookupswitch.offset_cons, Op.lookupswitch.offset_nil]; rw [if_neg (fun z => e0 z.symm)]; rw [if_neg (fun z => e1 z.symm)]) (by decide) KD3
/-! ShadowDoors.door -/
noncomputable def fX11_door (tw : Nat) (v1 : Int32) (v2 : Int32) (I : HI) : Option (Int32) :=
  if (b2i (fX8_has (tw + 1) v1 I)) = 0 then
    some (-1 : Int32)
  else
    if v2 = (0 : Int32) then
      if inb v1 (capT (tw + 1)) = true then
        some (I (tw + 1 + 2) v1.toNatClampNeg)
      else none
    else
      if v2 = (1 : Int32) then
        if inb v1 (capT (tw + 1)) = true then
          some (I (tw + 1 + 3) v1.toNatClampNeg)
        else none
      else
        if v2 = (2 : Int32) then
          Option.bind (fX8_isInHours (tw + 1) v1 (fX4_hourOfDay  I) I) fun q6 =>
          Option.bind (
            if (b2i q6) = 0 then
              some true
            else
              if (b2i (fX11_isBit (I 52 2) v1)) = 0 then
                some false
              else
                some true
          ) fun b7 =>
          if b7 = true then
            some (0 : Int32)
          else
            some (1 : Int32)
        else
          if v2 = (3 : Int32) then
            if (b2i (fX11_isBit (I 52 2) v1)) = 0 then
              some (0 : Int32)
            else
              some (1 : Int32)
          else
            some (-1 : Int32)
set_option maxRecDepth 100000 in
set_option maxHeartbeats 4000000 in
theorem tX11_door {g : GG} {n d : Nat} {tw dr sk tl ff : Nat} (hG : RG tw dr sk tl ff) (hn : 116 ≤ n) {v1 : Int32} {v2 : Int32} {I : HI} {L : HL} {res : Int32} (hf : fX11_door tw v1 v2 I = some res) : CT g mX11_door (d + 2) 0 0 n (RT tw dr sk tl ff) I L [.ref 0, .int v1, .int v2] (PoI n (RT tw dr sk tl ff) res I L) := by
  refine CT.of rfl (Nat.le_of_ble_eq_true rfl) ?_
  show V g mX11_door (d + 2) 0 0 n (RT tw dr sk tl ff) I L 0 [some (.ref 0), some (.int v1), some (.int v2)] [] (PoI n (RT tw dr sk tl ff) res I L)
  refine V_aload_n (pc := 0) dX11_door_0 rfl rfl rfl ?_
  refine V_getR (pc := 1) dX11_door_1 flX11_16 rfl (by omega) (congrArg Prod.fst sh_0) rt_0_3 rfl ?_
  refine V_getR (pc := 4) dX11_door_4 flX11_111 rfl (by omega) (congrArg Prod.fst (shQ hG.1)) (rQ_6 (rQ_RT hG.1)) rfl ?_
  refine V_iload_n (pc := 7) dX11_door_7 rfl rfl rfl ?_
  refine V_cVz (md' := mX8_has) (pc := 8) dX11_door_8 mlX11_126 mVX8_has (tX8_has (qT_6 hG.1) (rQ_s6 (rQ_RT hG.1)) (by omega) rfl) rfl (by omega) (congrArg Prod.fst (shT (qT_6 hG.1))) rfl (Nat.le_of_ble_eq_true rfl) rfl ?_
  refine V_if_ne (pc := 11) (tgt := 16) dX11_door_11 (by decide) rfl (fun hc => ?_) (fun hc => ?_)
  · replace hf := (if_neg hc).symm.trans hf
    refine V_iload_n (pc := 16) dX11_door_16 rfl rfl rfl ?_
    by_cases hc1 : v2 = (0 : Int32)
    · replace hf := (if_pos hc1).symm.trans hf
      refine V_tsIn (pc := 17) (tgt := 48) dX11_door_17 (by rw [hc1]; decide) (by rw [hc1]; decide) (by rw [hc1]; first | done | rfl) (by decide) ?_
      refine V_aload_n (pc := 48) dX11_door_48 rfl rfl rfl ?_
      refine V_getR (pc := 49) dX11_door_49 flX11_16 rfl (by omega) (congrArg Prod.fst sh_0) rt_0_3 rfl ?_
      refine V_getR (pc := 52) dX11_door_52 flX11_111 rfl (by omega) (congrArg Prod.fst (shQ hG.1)) (rQ_6 (rQ_RT hG.1)) rfl ?_
      refine V_getR (pc := 55) dX11_door_55 flX11_130 rfl (by omega) (congrArg Prod.fst (shT (qT_6 hG.1))) (rT_2 (rQ_s6 (rQ_RT hG.1))) rfl ?_
      refine V_iload_n (pc := 58) dX11_door_58 rfl rfl rfl ?_
      obtain ⟨hc2, hf⟩ := pif hf
      refine V_iald (pc := 59) dX11_door_59 (by omega) (shT2 (qT_6 hG.1)) hc2 rfl ?_
      cases hf
      exact V_iret (pc := 60) dX11_door_60 rfl PoI_mk
    · replace hf := (if_neg hc1).symm.trans hf
      by_cases hc3 : v2 = (1 : Int32)
      · replace hf := (if_pos hc3).symm.trans hf
        refine V_tsIn (pc := 17) (tgt := 61) dX11_door_17 (by rw [hc3]; decide) (by rw [hc3]; decide) (by rw [hc3]; first | done | rfl) (by decide) ?_
        refine V_aload_n (pc := 61) dX11_door_61 rfl rfl rfl ?_
        refine V_getR (pc := 62) dX11_door_62 flX11_16 rfl (by omega) (congrArg Prod.fst sh_0) rt_0_3 rfl ?_
        refine V_getR (pc := 65) dX11_door_65 flX11_111 rfl (by omega) (congrArg Prod.fst (shQ hG.1)) (rQ_6 (rQ_RT hG.1)) rfl ?_
        refine V_getR (pc := 68) dX11_door_68 flX11_134 rfl (by omega) (congrArg Prod.fst (shT (qT_6 hG.1))) (rT_3 (rQ_s6 (rQ_RT hG.1))) rfl ?_
        refine V_iload_n (pc := 71) dX11_door_71 rfl rfl rfl ?_
        obtain ⟨hc4, hf⟩ := pif hf
        refine V_iald (pc := 72) dX11_door_72 (by omega) (shT3 (qT_6 hG.1)) hc4 rfl ?_
        cases hf
        exact V_iret (pc := 73) dX11_door_73 rfl PoI_mk
      · replace hf := (if_neg hc3).symm.trans hf
        by_cases hc5 : v2 = (2 : Int32)
        · replace hf := (if_pos hc5).symm.trans hf
          refine V_tsIn (pc := 17) (tgt := 74) dX11_door_17 (by rw [hc5]; decide) (by rw [hc5]; decide) (by rw [hc5]; first | done | rfl) (by decide) ?_
          refine V_aload_n (pc := 74) dX11_door_74 rfl rfl rfl ?_
          refine V_getR (pc := 75) dX11_door_75 flX11_16 rfl (by omega) (congrArg Prod.fst sh_0) rt_0_3 rfl ?_
          refine V_getR (pc := 78) dX11_door_78 flX11_111 rfl (by omega) (congrArg Prod.fst (shQ hG.1)) (rQ_6 (rQ_RT hG.1)) rfl ?_
          refine V_iload_n (pc := 81) dX11_door_81 rfl rfl rfl ?_
          refine V_aload_n (pc := 82) dX11_door_82 rfl rfl rfl ?_
          refine V_getR (pc := 83) dX11_door_83 flX11_40 rfl (by omega) (congrArg Prod.fst sh_0) rt_0_5 rfl ?_
          refine V_cVi (md' := mX4_hourOfDay) (pc := 86) dX11_door_86 mlX11_137 mVX4_hourOfDay (tX4_hourOfDay rN_RT (by omega) rfl) rfl (by omega) (congrArg Prod.fst sh_52) rfl (Nat.le_of_ble_eq_true rfl) rfl ?_
          obtain ⟨q6, hq6, hf⟩ := bnd hf
          refine V_cVz (md' := mX8_isInHours) (pc := 89) dX11_door_89 mlX11_141 mVX8_isInHours (tX8_isInHours (qT_6 hG.1) (rQ_s6 (rQ_RT hG.1)) (by omega) hq6) rfl (by omega) (congrArg Prod.fst (shT (qT_6 hG.1))) rfl (Nat.le_of_ble_eq_true rfl) rfl ?_
          obtain ⟨b7, hb7, hf⟩ := bnd hf
          have KTb7 : b7 = true → V g mX11_door (d + 2) 0 0 n (RT tw dr sk tl ff) I L 113 [some (.ref 0), some (.int v1), some (.int v2)] [] (PoI n (RT tw dr sk tl ff) res I L) := fun hc => by
            replace hf := (if_pos hc).symm.trans hf
            refine V_iconst (pc := 113) dX11_door_113 ic_0 rfl ?_
            cases hf
            exact V_iret (pc := 114) dX11_door_114 rfl PoI_mk
          have KFb7 : ¬ b7 = true → V g mX11_door (d + 2) 0 0 n (RT tw dr sk tl ff) I L 109 [some (.ref 0), some (.int v1), some (.int v2)] [] (PoI n (RT tw dr sk tl ff) res I L) := fun hc => by
            replace hf := (if_neg hc).symm.trans hf
            refine V_iconst (pc := 109) dX11_door_109 ic_1 rfl ?_
            refine V_goto (pc := 110) (tgt := 114) dX11_door_110 (by decide) ?_
            cases hf
            exact V_iret (pc := 114) dX11_door_114 rfl PoI_mk
          refine V_if_eq (pc := 92) (tgt := 113) dX11_door_92 (by decide) rfl (fun hc => ?_) (fun hc => ?_)
          · replace hb7 := (if_pos hc).symm.trans hb7
            cases hb7
            exact KTb7 rfl
          · replace hb7 := (if_neg hc).symm.trans hb7
            refine V_aload_n (pc := 95) dX11_door_95 rfl rfl rfl ?_
            refine V_getR (pc := 96) dX11_door_96 flX11_40 rfl (by omega) (congrArg Prod.fst sh_0) rt_0_5 rfl ?_
            refine V_getI (pc := 99) dX11_door_99 flX11_145 rfl (by omega) (congrArg Prod.fst sh_52) rfl ?_
            refine V_iload_n (pc := 102) dX11_door_102 rfl rfl rfl ?_
            refine V_cSz (md' := mX11_isBit) (pc := 103) dX11_door_103 mlX11_148 mSX11_isBit (tX11_isBit rfl) rfl rfl (Nat.le_of_ble_eq_true rfl) rfl ?_
            refine V_if_ne (pc := 106) (tgt := 113) dX11_door_106 (by decide) rfl (fun hc => ?_) (fun hc => ?_)
            · replace hb7 := (if_neg hc).symm.trans hb7
              cases hb7
              exact KTb7 rfl
            · replace hb7 := (if_pos hc).symm.trans hb7
              cases hb7
              exact KFb7 (nbt rfl)
        · replace hf := (if_neg hc5).symm.trans hf
          by_cases hc8 : v2 = (3 : Int32)
          · replace hf := (if_pos hc8).symm.trans hf
            refine V_tsIn (pc := 17) (tgt := 115) dX11_door_17 (by rw [hc8]; decide) (by rw [hc8]; decide) (by rw [hc8]; first | done | rfl) (by decide) ?_
            refine V_aload_n (pc := 115) dX11_door_115 rfl rfl rfl ?_
            refine V_getR (pc := 116) dX11_door_116 flX11_40 rfl (by omega) (congrArg Prod.fst sh_0) rt_0_5 rfl ?_
            refine V_getI (pc := 119) dX11_door_119 flX11_145 rfl (by omega) (congrArg Prod.fst sh_52) rfl ?_
            refine V_iload_n (pc := 122) dX11_door_122 rfl rfl rfl ?_
            refine V_cSz (md' := mX11_isBit) (pc := 123) dX11_door_123 mlX11_148 mSX11_isBit (tX11_isBit rfl) rfl rfl (Nat.le_of_ble_eq_true rfl) rfl ?_
            refine V_if_eq (pc := 126) (tgt := 133) dX11_door_126 (by decide) rfl (fun hc => ?_) (fun hc => ?_)
            · replace hf := (if_pos hc).symm.trans hf
              refine V_iconst (pc := 133) dX11_door_133 ic_0 rfl ?_
              cases hf
              exact V_iret (pc := 134) dX11_door_134 rfl PoI_mk
            · replace hf := (if_neg hc).symm.trans hf
              refine V_iconst (pc := 129) dX11_door_129 ic_1 rfl ?_
              refine V_goto (pc := 130) (tgt := 134) dX11_door_130 (by decide) ?_
              cases hf
              exact V_iret (pc := 134) dX11_door_134 rfl PoI_mk
          · replace hf := (if_neg hc8).symm.trans hf
            have KD9 : V g mX11_door (d + 2) 0 0 n (RT tw dr sk tl ff) I L 135 [some (.ref 0), some (.int v1), some (.int v2)] [] (PoI n (RT tw dr sk tl ff) res I L) := by
              refine V_iconst (pc := 135) dX11_door_135 ic_m1 rfl ?_
              cases hf
              exact V_iret (pc := 136) dX11_door_136 rfl PoI_mk
            refine V_tsOut (pc := 17) (tgt := 135) dX11_door_17 (by have e0 := swn (k := (0 : Int32)) (z := 0) hc1 rfl; have e1 := swn (k := (1 : Int32)) (z := 1) hc3 rfl; have e2 := swn (k := (2 : Int32)) (z := 2) hc5 rfl; have e3 := swn (k := (3 : Int32)) (z := 3) hc8 rfl; omega) (by decide) KD9
  · replace hf := (if_pos hc).symm.trans hf
    refine V_iconst (pc := 14) dX11_door_14 ic_m1 rfl ?_
    cases hf
    exact V_iret (pc := 15) dX11_door_15 rfl PoI_mk
/-! ShadowDoors.lamp -/
noncomputable def fX11_lamp (tw : Nat) (v1 : Int32) (v2 : Int32) (I : HI) : Option (Int32) :=
  if (b2i (fX8_has (tw + 7) v1 I)) = 0 then
    some (-1 : Int32)
  else
    if v2 = (0 : Int32) then
      if inb v1 (capT (tw + 7)) = true then
        some (I (tw + 7 + 2) v1.toNatClampNeg)
      else none
    else
      if v2 = (1 : Int32) then
        Option.bind (fX8_isInHours (tw + 7) v1 (fX4_hourOfDay  I) I) fun q4 =>
        Option.bind (
          if (b2i q4) = 0 then
            some true
          else
            if (b2i (fX11_isBit (I 52 3) v1)) = 0 then
              some false
            else
              some true
        ) fun b5 =>
        if b5 = true then
          some (0 : Int32)
        else
          some (1 : Int32)
      else
        if v2 = (2 : Int32) then
          if (b2i (fX11_isBit (I 52 3) v1)) = 0 then
            some (0 : Int32)
          else
            some (1 : Int32)
        else
          some (-1 : Int32)
set_option maxRecDepth 100000 in
set_option maxHeartbeats 4000000 in
theorem tX11_lamp {g : GG} {n d : Nat} {tw dr sk tl ff : Nat} (hG : RG tw dr sk tl ff) (hn : 116 ≤ n) {v1 : Int32} {v2 : Int32} {I : HI} {L : HL} {res : Int32} (hf : fX11_lamp tw v1 v2 I = some res) : CT g mX11_lamp (d + 2) 0 0 n (RT tw dr sk tl ff) I L [.ref 0, .int v1, .int v2] (PoI n (RT tw dr sk tl ff) res I L) := by
  refine CT.of rfl (Nat.le_of_ble_eq_true rfl) ?_
  show V g mX11_lamp (d + 2) 0 0 n (RT tw dr sk tl ff) I L 0 [some (.ref 0), some (.int v1), some (.int v2)] [] (PoI n (RT tw dr sk tl ff) res I L)
  refine V_aload_n (pc := 0) dX11_lamp_0 rfl rfl rfl ?_
  refine V_getR (pc := 1) dX11_lamp_1 flX11_16 rfl (by omega) (congrArg Prod.fst sh_0) rt_0_3 rfl ?_
  refine V_getR (pc := 4) dX11_lamp_4 flX11_151 rfl (by omega) (congrArg Prod.fst (shQ hG.1)) (rQ_7 (rQ_RT hG.1)) rfl ?_
  refine V_iload_n (pc := 7) dX11_lamp_7 rfl rfl rfl ?_
  refine V_cVz (md' := mX8_has) (pc := 8) dX11_lamp_8 mlX11_126 mVX8_has (tX8_has (qT_7 hG.1) (rQ_s7 (rQ_RT hG.1)) (by omega) rfl) rfl (by omega) (congrArg Prod.fst (shT (qT_7 hG.1))) rfl (Nat.le_of_ble_eq_true rfl) rfl ?_
  refine V_if_ne (pc := 11) (tgt := 16) dX11_lamp_11 (by decide) rfl (fun hc => ?_) (fun hc => ?_)
  · replace hf := (if_neg hc).symm.trans hf
    refine V_iload_n (pc := 16) dX11_lamp_16 rfl rfl rfl ?_
    by_cases hc1 : v2 = (0 : Int32)
    · replace hf := (if_pos hc1).symm.trans hf
      refine V_tsIn (pc := 17) (tgt := 44) dX11_lamp_17 (by rw [hc1]; decide) (by rw [hc1]; decide) (by rw [hc1]; first | done | rfl) (by decide) ?_
      refine V_aload_n (pc := 44) dX11_lamp_44 rfl rfl rfl ?_
      refine V_getR (pc := 45) dX11_lamp_45 flX11_16 rfl (by omega) (congrArg Prod.fst sh_0) rt_0_3 rfl ?_
      refine V_getR (pc := 48) dX11_lamp_48 flX11_151 rfl (by omega) (congrArg Prod.fst (shQ hG.1)) (rQ_7 (rQ_RT hG.1)) rfl ?_
      refine V_getR (pc := 51) dX11_lamp_51 flX11_130 rfl (by omega) (congrArg Prod.fst (shT (qT_7 hG.1))) (rT_2 (rQ_s7 (rQ_RT hG.1))) rfl ?_
      refine V_iload_n (pc := 54) dX11_lamp_54 rfl rfl rfl ?_
      obtain ⟨hc2, hf⟩ := pif hf
      refine V_iald (pc := 55) dX11_lamp_55 (by omega) (shT2 (qT_7 hG.1)) hc2 rfl ?_
      cases hf
      exact V_iret (pc := 56) dX11_lamp_56 rfl PoI_mk
    · replace hf := (if_neg hc1).symm.trans hf
      by_cases hc3 : v2 = (1 : Int32)
      · replace hf := (if_pos hc3).symm.trans hf
        refine V_tsIn (pc := 17) (tgt := 57) dX11_lamp_17 (by rw [hc3]; decide) (by rw [hc3]; decide) (by rw [hc3]; first | done | rfl) (by decide) ?_
        refine V_aload_n (pc := 57) dX11_lamp_57 rfl rfl rfl ?_
        refine V_getR (pc := 58) dX11_lamp_58 flX11_16 rfl (by omega) (congrArg Prod.fst sh_0) rt_0_3 rfl ?_
        refine V_getR (pc := 61) dX11_lamp_61 flX11_151 rfl (by omega) (congrArg Prod.fst (shQ hG.1)) (rQ_7 (rQ_RT hG.1)) rfl ?_
        refine V_iload_n (pc := 64) dX11_lamp_64 rfl rfl rfl ?_
        refine V_aload_n (pc := 65) dX11_lamp_65 rfl rfl rfl ?_
        refine V_getR (pc := 66) dX11_lamp_66 flX11_40 rfl (by omega) (congrArg Prod.fst sh_0) rt_0_5 rfl ?_
        refine V_cVi (md' := mX4_hourOfDay) (pc := 69) dX11_lamp_69 mlX11_137 mVX4_hourOfDay (tX4_hourOfDay rN_RT (by omega) rfl) rfl (by omega) (congrArg Prod.fst sh_52) rfl (Nat.le_of_ble_eq_true rfl) rfl ?_
        obtain ⟨q4, hq4, hf⟩ := bnd hf
        refine V_cVz (md' := mX8_isInHours) (pc := 72) dX11_lamp_72 mlX11_141 mVX8_isInHours (tX8_isInHours (qT_7 hG.1) (rQ_s7 (rQ_RT hG.1)) (by omega) hq4) rfl (by omega) (congrArg Prod.fst (shT (qT_7 hG.1))) rfl (Nat.le_of_ble_eq_true rfl) rfl ?_
        obtain ⟨b5, hb5, hf⟩ := bnd hf
        have KTb5 : b5 = true → V g mX11_lamp (d + 2) 0 0 n (RT tw dr sk tl ff) I L 96 [some (.ref 0), some (.int v1), some (.int v2)] [] (PoI n (RT tw dr sk tl ff) res I L) := fun hc => by
          replace hf := (if_pos hc).symm.trans hf
          refine V_iconst (pc := 96) dX11_lamp_96 ic_0 rfl ?_
          cases hf
          exact V_iret (pc := 97) dX11_lamp_97 rfl PoI_mk
        have KFb5 : ¬ b5 = true → V g mX11_lamp (d + 2) 0 0 n (RT tw dr sk tl ff) I L 92 [some (.ref 0), some (.int v1), some (.int v2)] [] (PoI n (RT tw dr sk tl ff) res I L) := fun hc => by
          replace hf := (if_neg hc).symm.trans hf
          refine V_iconst (pc := 92) dX11_lamp_92 ic_1 rfl ?_
          refine V_goto (pc := 93) (tgt := 97) dX11_lamp_93 (by decide) ?_
          cases hf
          exact V_iret (pc := 97) dX11_lamp_97 rfl PoI_mk
        refine V_if_eq (pc := 75) (tgt := 96) dX11_lamp_75 (by decide) rfl (fun hc => ?_) (fun hc => ?_)
        · replace hb5 := (if_pos hc).symm.trans hb5
          cases hb5
          exact KTb5 rfl
        · replace hb5 := (if_neg hc).symm.trans hb5
          refine V_aload_n (pc := 78) dX11_lamp_78 rfl rfl rfl ?_
          refine V_getR (pc := 79) dX11_lamp_79 flX11_40 rfl (by omega) (congrArg Prod.fst sh_0) rt_0_5 rfl ?_
          refine V_getI (pc := 82) dX11_lamp_82 flX11_154 rfl (by omega) (congrArg Prod.fst sh_52) rfl ?_
          refine V_iload_n (pc := 85) dX11_lamp_85 rfl rfl rfl ?_
          refine V_cSz (md' := mX11_isBit) (pc := 86) dX11_lamp_86 mlX11_148 mSX11_isBit (tX11_isBit rfl) rfl rfl (Nat.le_of_ble_eq_true rfl) rfl ?_
          refine V_if_ne (pc := 89) (tgt := 96) dX11_lamp_89 (by decide) rfl (fun hc => ?_) (fun hc => ?_)
          · replace hb5 := (if_neg hc).symm.trans hb5
            cases hb5
            exact KTb5 rfl
          · replace hb5 := (if_pos hc).symm.trans hb5
            cases hb5
            exact KFb5 (nbt rfl)
      · replace hf := (if_neg hc3).symm.trans hf
        by_cases hc6 : v2 = (2 : Int32)
        · replace hf := (if_pos hc6).symm.trans hf
          refine V_tsIn (pc := 17) (tgt := 98) dX11_lamp_17 (by rw [hc6]; decide) (by rw [hc6]; decide) (by rw [hc6]; first | done | rfl) (by decide) ?_
          refine V_aload_n (pc := 98) dX11_lamp_98 rfl rfl rfl ?_
          refine V_getR (pc := 99) dX11_lamp_99 flX11_40 rfl (by omega) (congrArg Prod.fst sh_0) rt_0_5 rfl ?_
          refine V_getI (pc := 102) dX11_lamp_102 flX11_154 rfl (by omega) (congrArg Prod.fst sh_52) rfl ?_
          refine V_iload_n (pc := 105) dX11_lamp_105 rfl rfl rfl ?_
          refine V_cSz (md' := mX11_isBit) (pc := 106) dX11_lamp_106 mlX11_148 mSX11_isBit (tX11_isBit rfl) rfl rfl (Nat.le_of_ble_eq_true rfl) rfl ?_
          refine V_if_eq (pc := 109) (tgt := 116) dX11_lamp_109 (by decide) rfl (fun hc => ?_) (fun hc => ?_)
          · replace hf := (if_pos hc).symm.trans hf
            refine V_iconst (pc := 116) dX11_lamp_116 ic_0 rfl ?_
            cases hf
            exact V_iret (pc := 117) dX11_lamp_117 rfl PoI_mk
          · replace hf := (if_neg hc).symm.trans hf
            refine V_iconst (pc := 112) dX11_lamp_112 ic_1 rfl ?_
            refine V_goto (pc := 113) (tgt := 117) dX11_lamp_113 (by decide) ?_
            cases hf
            exact V_iret (pc := 117) dX11_lamp_117 rfl PoI_mk
        · replace hf := (if_neg hc6).symm.trans hf
          have KD7 : V g mX11_lamp (d + 2) 0 0 n (RT tw dr sk tl ff) I L 118 [some (.ref 0), some (.int v1), some (.int v2)] [] (PoI n (RT tw dr sk tl ff) res I L) := by
            refine V_iconst (pc := 118) dX11_lamp_118 ic_m1 rfl ?_
            cases hf
            exact V_iret (pc := 119) dX11_lamp_119 rfl PoI_mk
          refine V_tsOut (pc := 17) (tgt := 118) dX11_lamp_17 (by have e0 := swn (k := (0 : Int32)) (z := 0) hc1 rfl; have e1 := swn (k := (1 : Int32)) (z := 1) hc3 rfl; have e2 := swn (k := (2 : Int32)) (z := 2) hc6 rfl; omega) (by decide) KD7
  · replace hf := (if_pos hc).symm.trans hf
    refine V_iconst (pc := 14) dX11_lamp_14 ic_m1 rfl ?_
    cases hf
    exact V_iret (pc := 15) dX11_lamp_15 rfl PoI_mk
/-! ShadowDoors.person -/
noncomputable def fX11_person (tw : Nat) (v1 : Int32) (v2 : Int32) (I : HI) : Option (Int32) :=
  if (b2i (fX8_has (tw + 13) v1 I)) = 0 then
    some (-1 : Int32)
  else
    if v2 = (0 : Int32) then
      if inb v1 4 = true then
        some (I 53 v1.toNatClampNeg)
      else none
    else
      if v2 = (1 : Int32) then
        if (b2i (fX11_isBit (I 52 1) v1)) = 0 then
          some (0 : Int32)
        else
          some (1 : Int32)
      else
        some (-1 : Int32)
set_option maxRecDepth 100000 in
set_option maxHeartbeats 4000000 in
theorem tX11_person {g : GG} {n d : Nat} {tw dr sk tl ff : Nat} (hG : RG tw dr sk tl ff) (hn : 116 ≤ n) {v1 : Int32} {v2 : Int32} {I : HI} {L : HL} {res : Int32} (hf : fX11_person tw v1 v2 I = some res) : CT g mX11_person (d + 2) 0 0 n (RT tw dr sk tl ff) I L [.ref 0, .int v1, .int v2] (PoI n (RT tw dr sk tl ff) res I L) := by
  refine CT.of rfl (Nat.le_of_ble_eq_true rfl) ?_
  show V g mX11_person (d + 2) 0 0 n (RT tw dr sk tl ff) I L 0 [some (.ref 0), some (.int v1), some (.int v2)] [] (PoI n (RT tw dr sk tl ff) res I L)
  refine V_aload_n (pc := 0) dX11_person_0 rfl rfl rfl ?_
  refine V_getR (pc := 1) dX11_person_1 flX11_16 rfl (by omega) (congrArg Prod.fst sh_0) rt_0_3 rfl ?_
  refine V_getR (pc := 4) dX11_person_4 flX11_157 rfl (by omega) (congrArg Prod.fst (shQ hG.1)) (rQ_8 (rQ_RT hG.1)) rfl ?_
  refine V_iload_n (pc := 7) dX11_person_7 rfl rfl rfl ?_
  refine V_cVz (md' := mX8_has) (pc := 8) dX11_person_8 mlX11_126 mVX8_has (tX8_has (qT_8 hG.1) (rQ_s8 (rQ_RT hG.1)) (by omega) rfl) rfl (by omega) (congrArg Prod.fst (shT (qT_8 hG.1))) rfl (Nat.le_of_ble_eq_true rfl) rfl ?_
  refine V_if_ne (pc := 11) (tgt := 16) dX11_person_11 (by decide) rfl (fun hc => ?_) (fun hc => ?_)
  · replace hf := (if_neg hc).symm.trans hf
    refine V_iload_n (pc := 16) dX11_person_16 rfl rfl rfl ?_
    by_cases hc1 : v2 = (0 : Int32)
    · replace hf := (if_pos hc1).symm.trans hf
      refine V_lsw (off := 27) (pc := 17) (tgt := 44) dX11_person_17 (by decide) (by rw [hc1]; first | done | rfl) (by decide) ?_
      refine V_aload_n (pc := 44) dX11_person_44 rfl rfl rfl ?_
      refine V_getR (pc := 45) dX11_person_45 flX11_40 rfl (by omega) (congrArg Prod.fst sh_0) rt_0_5 rfl ?_
      refine V_getR (pc := 48) dX11_person_48 flX11_160 rfl (by omega) (congrArg Prod.fst sh_52) rt_52_0 rfl ?_
      refine V_iload_n (pc := 51) dX11_person_51 rfl rfl rfl ?_
      obtain ⟨hc2, hf⟩ := pif hf
      refine V_iald (pc := 52) dX11_person_52 (by omega) sh_53 hc2 rfl ?_
      cases hf
      exact V_iret (pc := 53) dX11_person_53 rfl PoI_mk
    · replace hf := (if_neg hc1).symm.trans hf
      by_cases hc3 : v2 = (1 : Int32)
      · replace hf := (if_pos hc3).symm.trans hf
        refine V_lsw (off := 37) (pc := 17) (tgt := 54) dX11_person_17 (by decide) (by rw [hc3]; first | done | rfl) (by decide) ?_
        refine V_aload_n (pc := 54) dX11_person_54 rfl rfl rfl ?_
        refine V_getR (pc := 55) dX11_person_55 flX11_40 rfl (by omega) (congrArg Prod.fst sh_0) rt_0_5 rfl ?_
        refine V_getI (pc := 58) dX11_person_58 flX11_163 rfl (by omega) (congrArg Prod.fst sh_52) rfl ?_
        refine V_iload_n (pc := 61) dX11_person_61 rfl rfl rfl ?_
        refine V_cSz (md' := mX11_isBit) (pc := 62) dX11_person_62 mlX11_148 mSX11_isBit (tX11_isBit rfl) rfl rfl (Nat.le_of_ble_eq_true rfl) rfl ?_
        refine V_if_eq (pc := 65) (tgt := 72) dX11_person_65 (by decide) rfl (fun hc => ?_) (fun hc => ?_)
        · replace hf := (if_pos hc).symm.trans hf
          refine V_iconst (pc := 72) dX11_person_72 ic_0 rfl ?_
          cases hf
          exact V_iret (pc := 73) dX11_person_73 rfl PoI_mk
        · replace hf := (if_neg hc).symm.trans hf
          refine V_iconst (pc := 68) dX11_person_68 ic_1 rfl ?_
          refine V_goto (pc := 69) (tgt := 73) dX11_person_69 (by decide) ?_
          cases hf
          exact V_iret (pc := 73) dX11_person_73 rfl PoI_mk
      · replace hf := (if_neg hc3).symm.trans hf
        have KD4 : V g mX11_person (d + 2) 0 0 n (RT tw dr sk tl ff) I L 74 [some (.ref 0), some (.int v1), some (.int v2)] [] (PoI n (RT tw dr sk tl ff) res I L) := by
          refine V_iconst (pc := 74) dX11_person_74 ic_m1 rfl ?_
          cases hf
          exact V_iret (pc := 75) dX11_person_75 rfl PoI_mk
        refine V_lsw (off := 57) (pc := 17) (tgt := 74) dX11_person_17 (by decide) (by have e0 := swn (k := (0 : Int32)) (z := 0) hc1 rfl; have e1 := swn (k := (1 : Int32)) (z := 1) hc3 rfl; simp only [Op.lookupswitch.offset_cons, Op.lookupswitch.offset_nil]; rw [if_neg (fun z => e0 z.symm)]; rw [if_neg (fun z => e1 z.symm)]) (by decide) KD4
  · replace hf := (if_pos hc).symm.trans hf
    refine V_iconst (pc := 14) dX11_person_14 ic_m1 rfl ?_
    cases hf
    exact V_iret (pc := 15) dX11_person_15 rfl PoI_mk
/-! ShadowDoors.isAhead -/
noncomputable def fX11_isAhead (v1 : Int32) : Bool :=
  tbn (
    if v1 < 0 then
      true
    else
      if (48 : Int32) < v1 then
        true
      else
        false
  ) fun b1 =>
  if b1 = true then
    false
  else
    true
set_option maxRecDepth 100000 in
set_option maxHeartbeats 4000000 in
theorem tX11_isAhead {g : GG} {n d : Nat} {r : HR}  {v1 : Int32} {I : HI} {L : HL} {res : Bool} (hf : fX11_isAhead v1 = res) : CT g mX11_isAhead (d + 1) 0 0 n r I L [.int v1] (PoB n r res I L) := by
  refine CT.of rfl (Nat.le_of_ble_eq_true rfl) ?_
  show V g mX11_isAhead (d + 1) 0 0 n r I L 0 [some (.int v1)] [] (PoB n r res I L)
  refine V_iload_n (pc := 0) dX11_isAhead_0 rfl rfl rfl ?_
  obtain ⟨b1, hb1, hf⟩ := tbd hf
  have KTb1 : b1 = true → V g mX11_isAhead (d + 1) 0 0 n r I L 14 [some (.int v1)] [] (PoB n r res I L) := fun hc => by
    replace hf := (if_pos hc).symm.trans hf
    refine V_iconst (pc := 14) dX11_isAhead_14 ic_0 rfl ?_
    cases hf
    exact V_zretE (pc := 15) dX11_isAhead_15 rfl (show (0 : Int32) = b2i false from rfl) PoB_mk
  have KFb1 : ¬ b1 = true → V g mX11_isAhead (d + 1) 0 0 n r I L 10 [some (.int v1)] [] (PoB n r res I L) := fun hc => by
    replace hf := (if_neg hc).symm.trans hf
    refine V_iconst (pc := 10) dX11_isAhead_10 ic_1 rfl ?_
    refine V_goto (pc := 11) (tgt := 15) dX11_isAhead_11 (by decide) ?_
    cases hf
    exact V_zretE (pc := 15) dX11_isAhead_15 rfl (show (1 : Int32) = b2i true from rfl) PoB_mk
  refine V_if_lt (pc := 1) (tgt := 14) dX11_isAhead_1 (by decide) rfl (fun hc => ?_) (fun hc => ?_)
  · replace hb1 := (if_pos hc).symm.trans hb1
    cases hb1
    exact KTb1 rfl
  · replace hb1 := (if_neg hc).symm.trans hb1
    refine V_iload_n (pc := 4) dX11_isAhead_4 rfl rfl rfl ?_
    refine V_bipush (pc := 5) dX11_isAhead_5 bp_48 rfl ?_
    refine V_icmp_gt (pc := 7) (tgt := 14) dX11_isAhead_7 (by decide) rfl (fun hc => ?_) (fun hc => ?_)
    · replace hb1 := (if_pos hc).symm.trans hb1
      cases hb1
      exact KTb1 rfl
    · replace hb1 := (if_neg hc).symm.trans hb1
      cases hb1
      exact KFb1 (nbt rfl)
/-! ShadowDoors.shade -/
noncomputable def fX11_shade (tw : Nat) (v1 : Int32) (v2 : Int32) (I : HI) : Option (Int32 × HI) :=
  Option.bind (
    if (b2i (fX8_has (tw + 1) v1 I)) = 0 then
      some true
    else
      if (b2i (fX11_isAhead v2)) = 0 then
        some true
      else
        some false
  ) fun b1 =>
  if b1 = true then
    some ((-1000000 : Int32), I)
  else
    if inb v1 (capT (tw + 1)) = true then
      Option.bind (fX1_valueFor (tw + 19) (I (tw + 1 + 3) v1.toNatClampNeg) (((I 52 5) + v2) - ((I 52 5) + v2) / (24 : Int32) * (24 : Int32)) (((I 52 5) + v2) / (24 : Int32)) I) fun q3 =>
      some (q3.1, q3.2)
    else none
set_option maxRecDepth 100000 in
set_option maxHeartbeats 4000000 in
theorem tX11_shade {g : GG} {n d : Nat} {tw dr sk tl ff : Nat} (hG : RG tw dr sk tl ff) (hn : 116 ≤ n) {v1 : Int32} {v2 : Int32} {I : HI} {L : HL} {res : Int32 × HI} (hf : fX11_shade tw v1 v2 I = some res) : CT g mX11_shade (d + 3) 0 0 n (RT tw dr sk tl ff) I L [.ref 0, .int v1, .int v2] (PoI n (RT tw dr sk tl ff) res.1 res.2 L) := by
  refine CT.of rfl (Nat.le_of_ble_eq_true rfl) ?_
  show V g mX11_shade (d + 3) 0 0 n (RT tw dr sk tl ff) I L 0 [some (.ref 0), some (.int v1), some (.int v2)] [] (PoI n (RT tw dr sk tl ff) res.1 res.2 L)
  refine V_aload_n (pc := 0) dX11_shade_0 rfl rfl rfl ?_
  refine V_getR (pc := 1) dX11_shade_1 flX11_16 rfl (by omega) (congrArg Prod.fst sh_0) rt_0_3 rfl ?_
  refine V_getR (pc := 4) dX11_shade_4 flX11_111 rfl (by omega) (congrArg Prod.fst (shQ hG.1)) (rQ_6 (rQ_RT hG.1)) rfl ?_
  refine V_iload_n (pc := 7) dX11_shade_7 rfl rfl rfl ?_
  refine V_cVz (md' := mX8_has) (pc := 8) dX11_shade_8 mlX11_126 mVX8_has (tX8_has (qT_6 hG.1) (rQ_s6 (rQ_RT hG.1)) (by omega) rfl) rfl (by omega) (congrArg Prod.fst (shT (qT_6 hG.1))) rfl (Nat.le_of_ble_eq_true rfl) rfl ?_
  obtain ⟨b1, hb1, hf⟩ := bnd hf
  have KTb1 : b1 = true → V g mX11_shade (d + 3) 0 0 n (RT tw dr sk tl ff) I L 21 [some (.ref 0), some (.int v1), some (.int v2)] [] (PoI n (RT tw dr sk tl ff) res.1 res.2 L) := fun hc => by
    replace hf := (if_pos hc).symm.trans hf
    refine V_ldc (pc := 21) dX11_shade_21 kcX11_169 rfl ?_
    cases hf
    exact V_iret (pc := 23) dX11_shade_23 rfl PoI_mk
  have KFb1 : ¬ b1 = true → V g mX11_shade (d + 3) 0 0 n (RT tw dr sk tl ff) I L 24 [some (.ref 0), some (.int v1), some (.int v2)] [] (PoI n (RT tw dr sk tl ff) res.1 res.2 L) := fun hc => by
    replace hf := (if_neg hc).symm.trans hf
    refine V_aload_n (pc := 24) dX11_shade_24 rfl rfl rfl ?_
    refine V_getR (pc := 25) dX11_shade_25 flX11_40 rfl (by omega) (congrArg Prod.fst sh_0) rt_0_5 rfl ?_
    refine V_getI (pc := 28) dX11_shade_28 flX11_170 rfl (by omega) (congrArg Prod.fst sh_52) rfl ?_
    refine V_iload_n (pc := 31) dX11_shade_31 rfl rfl rfl ?_
    refine V_iadd (pc := 32) dX11_shade_32 rfl ?_
    refine V_istore_n (ls' := [some _, some _, some _, some _]) (pc := 33) dX11_shade_33 rfl (Nat.le_of_ble_eq_true rfl) rfl rfl ?_
    refine V_aload_n (pc := 34) dX11_shade_34 rfl rfl rfl ?_
    refine V_getR (pc := 35) dX11_shade_35 flX11_16 rfl (by omega) (congrArg Prod.fst sh_0) rt_0_3 rfl ?_
    refine V_getR (pc := 38) dX11_shade_38 flX11_173 rfl (by omega) (congrArg Prod.fst (shQ hG.1)) (rQ_9 (rQ_RT hG.1)) rfl ?_
    refine V_aload_n (pc := 41) dX11_shade_41 rfl rfl rfl ?_
    refine V_getR (pc := 42) dX11_shade_42 flX11_16 rfl (by omega) (congrArg Prod.fst sh_0) rt_0_3 rfl ?_
    refine V_getR (pc := 45) dX11_shade_45 flX11_111 rfl (by omega) (congrArg Prod.fst (shQ hG.1)) (rQ_6 (rQ_RT hG.1)) rfl ?_
    refine V_getR (pc := 48) dX11_shade_48 flX11_134 rfl (by omega) (congrArg Prod.fst (shT (qT_6 hG.1))) (rT_3 (rQ_s6 (rQ_RT hG.1))) rfl ?_
    refine V_iload_n (pc := 51) dX11_shade_51 rfl rfl rfl ?_
    obtain ⟨hc2, hf⟩ := pif hf
    refine V_iald (pc := 52) dX11_shade_52 (by omega) (shT3 (qT_6 hG.1)) hc2 rfl ?_
    refine V_iload_n (pc := 53) dX11_shade_53 rfl rfl rfl ?_
    refine V_bipush (pc := 54) dX11_shade_54 bp_24 rfl ?_
    refine V_irem (pc := 56) dX11_shade_56 (by decide) rfl ?_
    refine V_iload_n (pc := 57) dX11_shade_57 rfl rfl rfl ?_
    refine V_bipush (pc := 58) dX11_shade_58 bp_24 rfl ?_
    refine V_idiv (pc := 60) dX11_shade_60 (by decide) rfl ?_
    obtain ⟨q3, hq3, hf⟩ := bnd hf
    refine V_cVi (md' := mX1_valueFor) (pc := 61) dX11_shade_61 mlX11_177 mVX1_valueFor (tX1_valueFor (qF_9 hG.1) (rQ_s9 (rQ_RT hG.1)) (by omega) hq3) rfl (by omega) (congrArg Prod.fst (shF (qF_9 hG.1))) rfl (Nat.le_of_ble_eq_true rfl) rfl ?_
    cases hf
    exact V_iret (pc := 64) dX11_shade_64 rfl PoI_mk
  refine V_if_eq (pc := 11) (tgt := 21) dX11_shade_11 (by decide) rfl (fun hc => ?_) (fun hc => ?_)
  · replace hb1 := (if_pos hc).symm.trans hb1
    cases hb1
    exact KTb1 rfl
  · replace hb1 := (if_neg hc).symm.trans hb1
    refine V_iload_n (pc := 14) dX11_shade_14 rfl rfl rfl ?_
    refine V_cSz (md' := mX11_isAhead) (pc := 15) dX11_shade_15 mlX11_166 mSX11_isAhead (tX11_isAhead rfl) rfl rfl (Nat.le_of_ble_eq_true rfl) rfl ?_
    refine V_if_ne (pc := 18) (tgt := 24) dX11_shade_18 (by decide) rfl (fun hc => ?_) (fun hc => ?_)
    · replace hb1 := (if_neg hc).symm.trans hb1
      cases hb1
      exact KFb1 (nbt rfl)
    · replace hb1 := (if_pos hc).symm.trans hb1
      cases hb1
      exact KTb1 rfl
/-! ShadowDoors.shadow -/
noncomputable def fX11_shadow (tw : Nat) (sk : Nat) (v1 : Int32) (v2 : Int32) (I : HI) (L : HL) : Option (Int64 × HI × HL) :=
  Option.bind (
    if (b2i (fX8_has (tw + 1) v1 I)) = 0 then
      some true
    else
      if (b2i (fX11_isAhead v2)) = 0 then
        some true
      else
        some false
  ) fun b1 =>
  if b1 = true then
    some ((0 : Int64), I, L)
  else
    Option.bind (fX7_aimAt  I L) fun q2 =>
    Option.bind (fX7_shadowOf sk v1 v2 q2.1 q2.2) fun q3 =>
    some (q3.1, q3.2.1, q3.2.2)
set_option maxRecDepth 100000 in
set_option maxHeartbeats 4000000 in
theorem tX11_shadow {g : GG} {n d : Nat} {tw dr sk tl ff : Nat} (hG : RG tw dr sk tl ff) (hn : 116 ≤ n) {v1 : Int32} {v2 : Int32} {I : HI} {L : HL} {res : Int64 × HI × HL} (hf : fX11_shadow tw sk v1 v2 I L = some res) : CT g mX11_shadow (d + 6) 0 0 n (RT tw dr sk tl ff) I L [.ref 0, .int v1, .int v2] (PoL n (RT tw dr sk tl ff) res.1 res.2.1 res.2.2) := by
  refine CT.of rfl (Nat.le_of_ble_eq_true rfl) ?_
  show V g mX11_shadow (d + 6) 0 0 n (RT tw dr sk tl ff) I L 0 [some (.ref 0), some (.int v1), some (.int v2)] [] (PoL n (RT tw dr sk tl ff) res.1 res.2.1 res.2.2)
  refine V_aload_n (pc := 0) dX11_shadow_0 rfl rfl rfl ?_
  refine V_getR (pc := 1) dX11_shadow_1 flX11_16 rfl (by omega) (congrArg Prod.fst sh_0) rt_0_3 rfl ?_
  refine V_getR (pc := 4) dX11_shadow_4 flX11_111 rfl (by omega) (congrArg Prod.fst (shQ hG.1)) (rQ_6 (rQ_RT hG.1)) rfl ?_
  refine V_iload_n (pc := 7) dX11_shadow_7 rfl rfl rfl ?_
  refine V_cVz (md' := mX8_has) (pc := 8) dX11_shadow_8 mlX11_126 mVX8_has (tX8_has (qT_6 hG.1) (rQ_s6 (rQ_RT hG.1)) (by omega) rfl) rfl (by omega) (congrArg Prod.fst (shT (qT_6 hG.1))) rfl (Nat.le_of_ble_eq_true rfl) rfl ?_
  obtain ⟨b1, hb1, hf⟩ := bnd hf
  have KTb1 : b1 = true → V g mX11_shadow (d + 6) 0 0 n (RT tw dr sk tl ff) I L 21 [some (.ref 0), some (.int v1), some (.int v2)] [] (PoL n (RT tw dr sk tl ff) res.1 res.2.1 res.2.2) := fun hc => by
    replace hf := (if_pos hc).symm.trans hf
    refine V_lconst (pc := 21) dX11_shadow_21 lc_0 rfl ?_
    cases hf
    exact V_lret (pc := 22) dX11_shadow_22 rfl PoL_mk
  have KFb1 : ¬ b1 = true → V g mX11_shadow (d + 6) 0 0 n (RT tw dr sk tl ff) I L 23 [some (.ref 0), some (.int v1), some (.int v2)] [] (PoL n (RT tw dr sk tl ff) res.1 res.2.1 res.2.2) := fun hc => by
    replace hf := (if_neg hc).symm.trans hf
    refine V_aload_n (pc := 23) dX11_shadow_23 rfl rfl rfl ?_
    refine V_getR (pc := 24) dX11_shadow_24 flX11_70 rfl (by omega) (congrArg Prod.fst sh_0) rt_0_9 rfl ?_
    refine V_aload_n (pc := 27) dX11_shadow_27 rfl rfl rfl ?_
    refine V_getR (pc := 28) dX11_shadow_28 flX11_40 rfl (by omega) (congrArg Prod.fst sh_0) rt_0_5 rfl ?_
    obtain ⟨q2, hq2, hf⟩ := bnd hf
    refine V_cVv (md' := mX7_aimAt) (pc := 31) dX11_shadow_31 mlX11_183 mVX7_aimAt (tX7_aimAt hG hn hq2) rfl (by omega) (congrArg Prod.fst sh_57) rfl (Nat.le_of_ble_eq_true rfl) rfl ?_
    refine V_aload_n (pc := 34) dX11_shadow_34 rfl rfl rfl ?_
    refine V_getR (pc := 35) dX11_shadow_35 flX11_70 rfl (by omega) (congrArg Prod.fst sh_0) rt_0_9 rfl ?_
    refine V_iload_n (pc := 38) dX11_shadow_38 rfl rfl rfl ?_
    refine V_iload_n (pc := 39) dX11_shadow_39 rfl rfl rfl ?_
    obtain ⟨q3, hq3, hf⟩ := bnd hf
    refine V_cVl (md' := mX7_shadowOf) (pc := 40) dX11_shadow_40 mlX11_187 mVX7_shadowOf (tX7_shadowOf hG hn hq3) rfl (by omega) (congrArg Prod.fst sh_57) rfl (Nat.le_of_ble_eq_true rfl) rfl ?_
    cases hf
    exact V_lret (pc := 43) dX11_shadow_43 rfl PoL_mk
  refine V_if_eq (pc := 11) (tgt := 21) dX11_shadow_11 (by decide) rfl (fun hc => ?_) (fun hc => ?_)
  · replace hb1 := (if_pos hc).symm.trans hb1
    cases hb1
    exact KTb1 rfl
  · replace hb1 := (if_neg hc).symm.trans hb1
    refine V_iload_n (pc := 14) dX11_shadow_14 rfl rfl rfl ?_
    refine V_cSz (md' := mX11_isAhead) (pc := 15) dX11_shadow_15 mlX11_166 mSX11_isAhead (tX11_isAhead rfl) rfl rfl (Nat.le_of_ble_eq_true rfl) rfl ?_
    refine V_if_ne (pc := 18) (tgt := 23) dX11_shadow_18 (by decide) rfl (fun hc => ?_) (fun hc => ?_)
    · replace hb1 := (if_neg hc).symm.trans hb1
      cases hb1
      exact KFb1 (nbt rfl)
    · replace hb1 := (if_pos hc).symm.trans hb1
      cases hb1
      exact KTb1 rfl
/-! ShadowDoors.shades -/
noncomputable def fX11_shades_43 (tw : Nat) (sk : Nat) : Nat → Int32 → Int32 → Int64 → Int32 → HI → HL → Option (Int64 × HI × HL)
  | 0, _, _, _, _, _, _ => none
  | fu + 1, y1, y3, y4, y6, I, L =>
    if (I (tw + 1) 0) ≤ y6 then
      some (y4, I, L)
    else
      if (b2i (fX11_isBit y3 y6)) = 0 then
        fX11_shades_43 tw sk fu y1 y3 y4 (y6 + (1 : Int32)) I L
      else
        Option.bind (fX7_shadowOf sk y6 y1 I L) fun q5 =>
        fX11_shades_43 tw sk fu y1 y3 (y4 ||| q5.1) (y6 + (1 : Int32)) q5.2.1 q5.2.2
set_option maxRecDepth 100000 in
set_option maxHeartbeats 4000000 in
theorem lX11_shades_43 {g : GG} {n d : Nat} {tw dr sk tl ff : Nat} (hG : RG tw dr sk tl ff) (hn : 116 ≤ n) {P : PP} : ∀ (fu : Nat) (y1 : Int32) (y3 : Int32) (y4 : Int64) (y6 : Int32) (I : HI) (L : HL) (res : Int64 × HI × HL), fX11_shades_43 tw sk fu y1 y3 y4 y6 I L = some res → P (some (.long res.1)) n (RT tw dr sk tl ff) res.2.1 res.2.2 → V g mX11_shades (d + 6) 0 0 n (RT tw dr sk tl ff) I L 43 [some (.ref 0), some (.int y1), none, some (.int y3), some (.long y4), none, some (.int y6)] [] P := by
  intro fu
  induction fu with
  | zero => intro y1 y3 y4 y6 I L res hf; cases (show none = some res from hf)
  | succ fu ih =>
    intro y1 y3 y4 y6 I L res hf K
    refine V_iload (pc := 43) dX11_shades_43 rfl rfl ?_
    refine V_aload_n (pc := 45) dX11_shades_45 rfl rfl rfl ?_
    refine V_getR (pc := 46) dX11_shades_46 flX11_16 rfl (by omega) (congrArg Prod.fst sh_0) rt_0_3 rfl ?_
    refine V_getR (pc := 49) dX11_shades_49 flX11_111 rfl (by omega) (congrArg Prod.fst (shQ hG.1)) (rQ_6 (rQ_RT hG.1)) rfl ?_
    refine V_getI (pc := 52) dX11_shades_52 flX11_115 rfl (by omega) (congrArg Prod.fst (shT (qT_6 hG.1))) rfl ?_
    refine V_icmp_ge (pc := 55) (tgt := 88) dX11_shades_55 (by decide) rfl (fun hc => ?_) (fun hc => ?_)
    · replace hf := (if_pos hc).symm.trans hf
      refine V_lload (pc := 88) dX11_shades_88 rfl rfl ?_
      cases hf
      exact V_lret (pc := 90) dX11_shades_90 rfl K
    · replace hf := (if_neg hc).symm.trans hf
      refine V_iload_n (pc := 58) dX11_shades_58 rfl rfl rfl ?_
      refine V_iload (pc := 59) dX11_shades_59 rfl rfl ?_
      refine V_cSz (md' := mX11_isBit) (pc := 61) dX11_shades_61 mlX11_148 mSX11_isBit (tX11_isBit rfl) rfl rfl (Nat.le_of_ble_eq_true rfl) rfl ?_
      refine V_if_eq (pc := 64) (tgt := 82) dX11_shades_64 (by decide) rfl (fun hc => ?_) (fun hc => ?_)
      · replace hf := (if_pos hc).symm.trans hf
        refine V_iinc (ls' := [some _, some _, none, some _, some _, none, some _]) (pc := 82) dX11_shades_82 rfl (Nat.le_of_ble_eq_true rfl) (congrArg _ ic_1) rfl rfl ?_
        refine V_goto (pc := 85) (tgt := 43) dX11_shades_85 (by decide) ?_
        exact V_wk (ih _ _ _ _ _ _ _ hf K) ⟨rfl, ⟨rfl, ⟨rfl, ⟨rfl, ⟨rfl, trivial⟩⟩⟩⟩⟩
      · replace hf := (if_neg hc).symm.trans hf
        refine V_lload (pc := 67) dX11_shades_67 rfl rfl ?_
        refine V_aload_n (pc := 69) dX11_shades_69 rfl rfl rfl ?_
        refine V_getR (pc := 70) dX11_shades_70 flX11_70 rfl (by omega) (congrArg Prod.fst sh_0) rt_0_9 rfl ?_
        refine V_iload (pc := 73) dX11_shades_73 rfl rfl ?_
        refine V_iload_n (pc := 75) dX11_shades_75 rfl rfl rfl ?_
        obtain ⟨q5, hq5, hf⟩ := bnd hf
        refine V_cVl (md' := mX7_shadowOf) (pc := 76) dX11_shades_76 mlX11_187 mVX7_shadowOf (tX7_shadowOf hG hn hq5) rfl (by omega) (congrArg Prod.fst sh_57) rfl (Nat.le_of_ble_eq_true rfl) rfl ?_
        refine V_lor (pc := 79) dX11_shades_79 rfl ?_
        refine V_lstore (ls' := [some _, some _, none, some _, some _, none, some _]) (pc := 80) dX11_shades_80 (Nat.le_of_ble_eq_true rfl) rfl rfl ?_
        refine V_iinc (ls' := [some _, some _, none, some _, some _, none, some _]) (pc := 82) dX11_shades_82 rfl (Nat.le_of_ble_eq_true rfl) (congrArg _ ic_1) rfl rfl ?_
        refine V_goto (pc := 85) (tgt := 43) dX11_shades_85 (by decide) ?_
        exact V_wk (ih _ _ _ _ _ _ _ hf K) ⟨rfl, ⟨rfl, ⟨rfl, ⟨rfl, ⟨rfl, trivial⟩⟩⟩⟩⟩
noncomputable def fX11_shades (tw : Nat) (sk : Nat) (v1 : Int32) (v2 : Int32) (I : HI) (L : HL) : Option (Int64 × HI × HL) :=
  if (b2i (fX11_isAhead v1)) = 0 then
    some ((0 : Int64), I, L)
  else
    Option.bind (fX7_aimAt  I L) fun q1 =>
    Option.bind (
      if v2 = 0 then
        some ((-1 : Int32), q1.1, q1.2)
      else
        Option.bind (fX7_openIn sk v1 q1.1 q1.2) fun q4 =>
        some (q4.1, q4.2.1, q4.2.2)
    ) fun q3 =>
    Option.bind (fX11_shades_43 tw sk FUEL v1 q3.1 (0 : Int64) (0 : Int32) q3.2.1 q3.2.2) fun q6 =>
    some (q6.1, q6.2.1, q6.2.2)
set_option maxRecDepth 100000 in
set_option maxHeartbeats 4000000 in
theorem tX11_shades {g : GG} {n d : Nat} {tw dr sk tl ff : Nat} (hG : RG tw dr sk tl ff) (hn : 116 ≤ n) {v1 : Int32} {v2 : Int32} {I : HI} {L : HL} {res : Int64 × HI × HL} (hf : fX11_shades tw sk v1 v2 I L = some res) : CT g mX11_shades (d + 6) 0 0 n (RT tw dr sk tl ff) I L [.ref 0, .int v1, .int v2] (PoL n (RT tw dr sk tl ff) res.1 res.2.1 res.2.2) := by
  refine CT.of rfl (Nat.le_of_ble_eq_true rfl) ?_
  show V g mX11_shades (d + 6) 0 0 n (RT tw dr sk tl ff) I L 0 [some (.ref 0), some (.int v1), some (.int v2)] [] (PoL n (RT tw dr sk tl ff) res.1 res.2.1 res.2.2)
  refine V_iload_n (pc := 0) dX11_shades_0 rfl rfl rfl ?_
  refine V_cSz (md' := mX11_isAhead) (pc := 1) dX11_shades_1 mlX11_166 mSX11_isAhead (tX11_isAhead rfl) rfl rfl (Nat.le_of_ble_eq_true rfl) rfl ?_
  refine V_if_ne (pc := 4) (tgt := 9) dX11_shades_4 (by decide) rfl (fun hc => ?_) (fun hc => ?_)
  · replace hf := (if_neg hc).symm.trans hf
    refine V_aload_n (pc := 9) dX11_shades_9 rfl rfl rfl ?_
    refine V_getR (pc := 10) dX11_shades_10 flX11_70 rfl (by omega) (congrArg Prod.fst sh_0) rt_0_9 rfl ?_
    refine V_aload_n (pc := 13) dX11_shades_13 rfl rfl rfl ?_
    refine V_getR (pc := 14) dX11_shades_14 flX11_40 rfl (by omega) (congrArg Prod.fst sh_0) rt_0_5 rfl ?_
    obtain ⟨q1, hq1, hf⟩ := bnd hf
    refine V_cVv (md' := mX7_aimAt) (pc := 17) dX11_shades_17 mlX11_183 mVX7_aimAt (tX7_aimAt hG hn hq1) rfl (by omega) (congrArg Prod.fst sh_57) rfl (Nat.le_of_ble_eq_true rfl) rfl ?_
    refine V_iload_n (pc := 20) dX11_shades_20 rfl rfl rfl ?_
    obtain ⟨q3, hq3, hf⟩ := bnd hf
    have Kq3 : V g mX11_shades (d + 6) 0 0 n (RT tw dr sk tl ff) q3.2.1 q3.2.2 36 [some (.ref 0), some (.int v1)] [.int q3.1] (PoL n (RT tw dr sk tl ff) res.1 res.2.1 res.2.2) := by
      refine V_istore_n (ls' := [some _, some _, none, some _]) (pc := 36) dX11_shades_36 rfl (Nat.le_of_ble_eq_true rfl) rfl rfl ?_
      refine V_lconst (pc := 37) dX11_shades_37 lc_0 rfl ?_
      refine V_lstore (ls' := [some _, some _, none, some _, some _, none]) (pc := 38) dX11_shades_38 (Nat.le_of_ble_eq_true rfl) rfl rfl ?_
      refine V_iconst (pc := 40) dX11_shades_40 ic_0 rfl ?_
      refine V_istore (ls' := [some _, some _, none, some _, some _, none, some _]) (pc := 41) dX11_shades_41 (Nat.le_of_ble_eq_true rfl) rfl rfl ?_
      obtain ⟨q6, hq6, hf⟩ := bnd hf
      refine V_wk (lX11_shades_43 hG hn FUEL _ _ _ _ _ _ _ hq6 ?_) ⟨rfl, ⟨rfl, ⟨rfl, ⟨rfl, ⟨rfl, trivial⟩⟩⟩⟩⟩
      cases hf
      exact PoL_mk
    refine V_if_eq (pc := 21) (tgt := 35) dX11_shades_21 (by decide) rfl (fun hc => ?_) (fun hc => ?_)
    · replace hq3 := (if_pos hc).symm.trans hq3
      refine V_iconst (pc := 35) dX11_shades_35 ic_m1 rfl ?_
      cases hq3
      exact V_wk Kq3 ⟨rfl, ⟨rfl, trivial⟩⟩
    · replace hq3 := (if_neg hc).symm.trans hq3
      refine V_aload_n (pc := 24) dX11_shades_24 rfl rfl rfl ?_
      refine V_getR (pc := 25) dX11_shades_25 flX11_70 rfl (by omega) (congrArg Prod.fst sh_0) rt_0_9 rfl ?_
      refine V_iload_n (pc := 28) dX11_shades_28 rfl rfl rfl ?_
      obtain ⟨q4, hq4, hq3⟩ := bnd hq3
      refine V_cVi (md' := mX7_openIn) (pc := 29) dX11_shades_29 mlX11_191 mVX7_openIn (tX7_openIn hG hn hq4) rfl (by omega) (congrArg Prod.fst sh_57) rfl (Nat.le_of_ble_eq_true rfl) rfl ?_
      refine V_goto (pc := 32) (tgt := 36) dX11_shades_32 (by decide) ?_
      cases hq3
      exact V_wk Kq3 ⟨rfl, ⟨rfl, trivial⟩⟩
  · replace hf := (if_pos hc).symm.trans hf
    refine V_lconst (pc := 7) dX11_shades_7 lc_0 rfl ?_
    cases hf
    exact V_lret (pc := 8) dX11_shades_8 rfl PoL_mk
/-! ShadowDoors.moves -/
noncomputable def fX11_moves (tw : Nat) (sk : Nat) (v1 : Int32) (v2 : Int32) (I : HI) (L : HL) : Option (Int64 × HI × HL) :=
  Option.bind (
    if (b2i (fX5_canStand tw v1 I L)) = 0 then
      some true
    else
      if (b2i (fX11_isAhead v2)) = 0 then
        some true
      else
        some false
  ) fun b1 =>
  if b1 = true then
    some ((0 : Int64), I, L)
  else
    Option.bind (fX7_aimAt  I L) fun q2 =>
    Option.bind (fX7_stepFrom sk ((1 : Int64) <<< (v1.toInt64 &&& 63)) v2 (0 : Int32) q2.1 q2.2) fun q3 =>
    some (q3.1, q3.2.1, q3.2.2)
set_option maxRecDepth 100000 in
set_option maxHeartbeats 4000000 in
theorem tX11_moves {g : GG} {n d : Nat} {tw dr sk tl ff : Nat} (hG : RG tw dr sk tl ff) (hn : 116 ≤ n) {v1 : Int32} {v2 : Int32} {I : HI} {L : HL} {res : Int64 × HI × HL} (hf : fX11_moves tw sk v1 v2 I L = some res) : CT g mX11_moves (d + 6) 0 0 n (RT tw dr sk tl ff) I L [.ref 0, .int v1, .int v2] (PoL n (RT tw dr sk tl ff) res.1 res.2.1 res.2.2) := by
  refine CT.of rfl (Nat.le_of_ble_eq_true rfl) ?_
  show V g mX11_moves (d + 6) 0 0 n (RT tw dr sk tl ff) I L 0 [some (.ref 0), some (.int v1), some (.int v2)] [] (PoL n (RT tw dr sk tl ff) res.1 res.2.1 res.2.2)
  refine V_aload_n (pc := 0) dX11_moves_0 rfl rfl rfl ?_
  refine V_getR (pc := 1) dX11_moves_1 flX11_16 rfl (by omega) (congrArg Prod.fst sh_0) rt_0_3 rfl ?_
  refine V_iload_n (pc := 4) dX11_moves_4 rfl rfl rfl ?_
  refine V_cVz (md' := mX5_canStand) (pc := 5) dX11_moves_5 mlX11_195 mVX5_canStand (tX5_canStand hG.1 (rQ_RT hG.1) (by omega) rfl) rfl (by omega) (congrArg Prod.fst (shQ hG.1)) rfl (Nat.le_of_ble_eq_true rfl) rfl ?_
  obtain ⟨b1, hb1, hf⟩ := bnd hf
  have KTb1 : b1 = true → V g mX11_moves (d + 6) 0 0 n (RT tw dr sk tl ff) I L 18 [some (.ref 0), some (.int v1), some (.int v2)] [] (PoL n (RT tw dr sk tl ff) res.1 res.2.1 res.2.2) := fun hc => by
    replace hf := (if_pos hc).symm.trans hf
    refine V_lconst (pc := 18) dX11_moves_18 lc_0 rfl ?_
    cases hf
    exact V_lret (pc := 19) dX11_moves_19 rfl PoL_mk
  have KFb1 : ¬ b1 = true → V g mX11_moves (d + 6) 0 0 n (RT tw dr sk tl ff) I L 20 [some (.ref 0), some (.int v1), some (.int v2)] [] (PoL n (RT tw dr sk tl ff) res.1 res.2.1 res.2.2) := fun hc => by
    replace hf := (if_neg hc).symm.trans hf
    refine V_aload_n (pc := 20) dX11_moves_20 rfl rfl rfl ?_
    refine V_getR (pc := 21) dX11_moves_21 flX11_70 rfl (by omega) (congrArg Prod.fst sh_0) rt_0_9 rfl ?_
    refine V_aload_n (pc := 24) dX11_moves_24 rfl rfl rfl ?_
    refine V_getR (pc := 25) dX11_moves_25 flX11_40 rfl (by omega) (congrArg Prod.fst sh_0) rt_0_5 rfl ?_
    obtain ⟨q2, hq2, hf⟩ := bnd hf
    refine V_cVv (md' := mX7_aimAt) (pc := 28) dX11_moves_28 mlX11_183 mVX7_aimAt (tX7_aimAt hG hn hq2) rfl (by omega) (congrArg Prod.fst sh_57) rfl (Nat.le_of_ble_eq_true rfl) rfl ?_
    refine V_aload_n (pc := 31) dX11_moves_31 rfl rfl rfl ?_
    refine V_getR (pc := 32) dX11_moves_32 flX11_70 rfl (by omega) (congrArg Prod.fst sh_0) rt_0_9 rfl ?_
    refine V_lconst (pc := 35) dX11_moves_35 lc_1 rfl ?_
    refine V_iload_n (pc := 36) dX11_moves_36 rfl rfl rfl ?_
    refine V_lshl (pc := 37) dX11_moves_37 rfl ?_
    refine V_iload_n (pc := 38) dX11_moves_38 rfl rfl rfl ?_
    refine V_iconst (pc := 39) dX11_moves_39 ic_0 rfl ?_
    obtain ⟨q3, hq3, hf⟩ := bnd hf
    refine V_cVl (md' := mX7_stepFrom) (pc := 40) dX11_moves_40 mlX11_198 mVX7_stepFrom (tX7_stepFrom hG hn hq3) rfl (by omega) (congrArg Prod.fst sh_57) rfl (Nat.le_of_ble_eq_true rfl) rfl ?_
    cases hf
    exact V_lret (pc := 43) dX11_moves_43 rfl PoL_mk
  refine V_if_eq (pc := 8) (tgt := 18) dX11_moves_8 (by decide) rfl (fun hc => ?_) (fun hc => ?_)
  · replace hb1 := (if_pos hc).symm.trans hb1
    cases hb1
    exact KTb1 rfl
  · replace hb1 := (if_neg hc).symm.trans hb1
    refine V_iload_n (pc := 11) dX11_moves_11 rfl rfl rfl ?_
    refine V_cSz (md' := mX11_isAhead) (pc := 12) dX11_moves_12 mlX11_166 mSX11_isAhead (tX11_isAhead rfl) rfl rfl (Nat.le_of_ble_eq_true rfl) rfl ?_
    refine V_if_ne (pc := 15) (tgt := 20) dX11_moves_15 (by decide) rfl (fun hc => ?_) (fun hc => ?_)
    · replace hb1 := (if_neg hc).symm.trans hb1
      cases hb1
      exact KFb1 (nbt rfl)
    · replace hb1 := (if_pos hc).symm.trans hb1
      cases hb1
      exact KTb1 rfl
/-! ShadowDoors.go -/
noncomputable def fX11_go (tw : Nat) (sk : Nat) (v1 : Int32) (v2 : Int32) (I : HI) (L : HL) : Option (Int32 × HI × HL) :=
  Option.bind (
    if (b2i (fX8_has (tw + 13) v1 I)) = 0 then
      some true
    else
      if (b2i (fX5_canStand tw v2 I L)) = 0 then
        some true
      else
        if (b2i (fX11_isBit (I 52 1) v1)) = 0 then
          some false
        else
          some true
  ) fun b1 =>
  if b1 = true then
    some ((-1 : Int32), I, L)
  else
    Option.bind (fX7_aimAt  I L) fun q2 =>
    if inb v1 4 = true then
      let x4 : Int32 := (q2.1 53 v1.toNatClampNeg)
      Option.bind (fX7_stepFrom sk ((1 : Int64) <<< (x4.toInt64 &&& 63)) (0 : Int32) (0 : Int32) q2.1 q2.2) fun q5 =>
      if ((q5.1.toUInt64 >>> (v2.toInt64.toUInt64 &&& Int64.toUInt64 63)).toInt64 &&& (1 : Int64)) = (0 : Int64) then
        some ((-1 : Int32), q5.2.1, q5.2.2)
      else
        if inb v1 4 = true then
          let I7 : HI := up2 q5.2.1 53 v1.toNatClampNeg v2
          let I8 : HI := up2 I7 52 1 ((I7 52 1) ||| ((1 : Int32) <<< (v1 &&& 31)))
          Option.bind (fX4_packed  I8) fun q9 =>
          Option.bind (fX0_add q9 I8 q5.2.2) fun q10 =>
          if v2 = x4 then
            some ((0 : Int32), q10.1, q10.2)
          else
            if (((fX5_spread tw ((1 : Int64) <<< (x4.toInt64 &&& 63)) q10.1 q10.2).toUInt64 >>> (v2.toInt64.toUInt64 &&& Int64.toUInt64 63)).toInt64 &&& (1 : Int64)) = (0 : Int64) then
              some ((2 : Int32), q10.1, q10.2)
            else
              some ((1 : Int32), q10.1, q10.2)
        else none
    else none
set_option maxRecDepth 100000 in
set_option maxHeartbeats 4000000 in
theorem tX11_go {g : GG} {n d : Nat} {tw dr sk tl ff : Nat} (hG : RG tw dr sk tl ff) (hn : 116 ≤ n) {v1 : Int32} {v2 : Int32} {I : HI} {L : HL} {res : Int32 × HI × HL} (hf : fX11_go tw sk v1 v2 I L = some res) : CT g mX11_go (d + 6) 0 0 n (RT tw dr sk tl ff) I L [.ref 0, .int v1, .int v2] (PoI n (RT tw dr sk tl ff) res.1 res.2.1 res.2.2) := by
  refine CT.of rfl (Nat.le_of_ble_eq_true rfl) ?_
  show V g mX11_go (d + 6) 0 0 n (RT tw dr sk tl ff) I L 0 [some (.ref 0), some (.int v1), some (.int v2)] [] (PoI n (RT tw dr sk tl ff) res.1 res.2.1 res.2.2)
  refine V_aload_n (pc := 0) dX11_go_0 rfl rfl rfl ?_
  refine V_getR (pc := 1) dX11_go_1 flX11_16 rfl (by omega) (congrArg Prod.fst sh_0) rt_0_3 rfl ?_
  refine V_getR (pc := 4) dX11_go_4 flX11_157 rfl (by omega) (congrArg Prod.fst (shQ hG.1)) (rQ_8 (rQ_RT hG.1)) rfl ?_
  refine V_iload_n (pc := 7) dX11_go_7 rfl rfl rfl ?_
  refine V_cVz (md' := mX8_has) (pc := 8) dX11_go_8 mlX11_126 mVX8_has (tX8_has (qT_8 hG.1) (rQ_s8 (rQ_RT hG.1)) (by omega) rfl) rfl (by omega) (congrArg Prod.fst (shT (qT_8 hG.1))) rfl (Nat.le_of_ble_eq_true rfl) rfl ?_
  obtain ⟨b1, hb1, hf⟩ := bnd hf
  have KTb1 : b1 = true → V g mX11_go (d + 6) 0 0 n (RT tw dr sk tl ff) I L 39 [some (.ref 0), some (.int v1), some (.int v2)] [] (PoI n (RT tw dr sk tl ff) res.1 res.2.1 res.2.2) := fun hc => by
    replace hf := (if_pos hc).symm.trans hf
    refine V_iconst (pc := 39) dX11_go_39 ic_m1 rfl ?_
    cases hf
    exact V_iret (pc := 40) dX11_go_40 rfl PoI_mk
  have KFb1 : ¬ b1 = true → V g mX11_go (d + 6) 0 0 n (RT tw dr sk tl ff) I L 41 [some (.ref 0), some (.int v1), some (.int v2)] [] (PoI n (RT tw dr sk tl ff) res.1 res.2.1 res.2.2) := fun hc => by
    replace hf := (if_neg hc).symm.trans hf
    refine V_aload_n (pc := 41) dX11_go_41 rfl rfl rfl ?_
    refine V_getR (pc := 42) dX11_go_42 flX11_70 rfl (by omega) (congrArg Prod.fst sh_0) rt_0_9 rfl ?_
    refine V_aload_n (pc := 45) dX11_go_45 rfl rfl rfl ?_
    refine V_getR (pc := 46) dX11_go_46 flX11_40 rfl (by omega) (congrArg Prod.fst sh_0) rt_0_5 rfl ?_
    obtain ⟨q2, hq2, hf⟩ := bnd hf
    refine V_cVv (md' := mX7_aimAt) (pc := 49) dX11_go_49 mlX11_183 mVX7_aimAt (tX7_aimAt hG hn hq2) rfl (by omega) (congrArg Prod.fst sh_57) rfl (Nat.le_of_ble_eq_true rfl) rfl ?_
    refine V_aload_n (pc := 52) dX11_go_52 rfl rfl rfl ?_
    refine V_getR (pc := 53) dX11_go_53 flX11_40 rfl (by omega) (congrArg Prod.fst sh_0) rt_0_5 rfl ?_
    refine V_getR (pc := 56) dX11_go_56 flX11_160 rfl (by omega) (congrArg Prod.fst sh_52) rt_52_0 rfl ?_
    refine V_iload_n (pc := 59) dX11_go_59 rfl rfl rfl ?_
    obtain ⟨hc3, hf⟩ := pif hf
    refine V_iald (pc := 60) dX11_go_60 (by omega) sh_53 hc3 rfl ?_
    let x4 : Int32 := (q2.1 53 v1.toNatClampNeg)
    refine V_istore_n (ls' := [some _, some _, some _, some _]) (pc := 61) dX11_go_61 rfl (Nat.le_of_ble_eq_true rfl) rfl rfl ?_
    refine V_aload_n (pc := 62) dX11_go_62 rfl rfl rfl ?_
    refine V_getR (pc := 63) dX11_go_63 flX11_70 rfl (by omega) (congrArg Prod.fst sh_0) rt_0_9 rfl ?_
    refine V_lconst (pc := 66) dX11_go_66 lc_1 rfl ?_
    refine V_iload_n (pc := 67) dX11_go_67 rfl rfl rfl ?_
    refine V_lshl (pc := 68) dX11_go_68 rfl ?_
    refine V_iconst (pc := 69) dX11_go_69 ic_0 rfl ?_
    refine V_iconst (pc := 70) dX11_go_70 ic_0 rfl ?_
    obtain ⟨q5, hq5, hf⟩ := bnd hf
    refine V_cVl (md' := mX7_stepFrom) (pc := 71) dX11_go_71 mlX11_198 mVX7_stepFrom (tX7_stepFrom hG hn hq5) rfl (by omega) (congrArg Prod.fst sh_57) rfl (Nat.le_of_ble_eq_true rfl) rfl ?_
    refine V_iload_n (pc := 74) dX11_go_74 rfl rfl rfl ?_
    refine V_lushr (pc := 75) dX11_go_75 rfl ?_
    refine V_lconst (pc := 76) dX11_go_76 lc_1 rfl ?_
    refine V_land (pc := 77) dX11_go_77 rfl ?_
    refine V_lconst (pc := 78) dX11_go_78 lc_0 rfl ?_
    refine V_lc_ne (pc := 79) (tgt := 85) dX11_go_79 rfl dX11_go_80 (by decide) rfl (fun hc => ?_) (fun hc => ?_)
    · replace hf := (if_neg hc).symm.trans hf
      refine V_aload_n (pc := 85) dX11_go_85 rfl rfl rfl ?_
      refine V_getR (pc := 86) dX11_go_86 flX11_40 rfl (by omega) (congrArg Prod.fst sh_0) rt_0_5 rfl ?_
      refine V_getR (pc := 89) dX11_go_89 flX11_160 rfl (by omega) (congrArg Prod.fst sh_52) rt_52_0 rfl ?_
      refine V_iload_n (pc := 92) dX11_go_92 rfl rfl rfl ?_
      refine V_iload_n (pc := 93) dX11_go_93 rfl rfl rfl ?_
      obtain ⟨hc6, hf⟩ := pif hf
      let I7 : HI := up2 q5.2.1 53 v1.toNatClampNeg v2
      refine V_iast (pc := 94) dX11_go_94 (by omega) sh_53 hc6 rfl ?_
      refine V_aload_n (pc := 95) dX11_go_95 rfl rfl rfl ?_
      refine V_getR (pc := 96) dX11_go_96 flX11_40 rfl (by omega) (congrArg Prod.fst sh_0) rt_0_5 rfl ?_
      refine V_dup (pc := 99) dX11_go_99 rfl rfl ?_
      refine V_getI (pc := 100) dX11_go_100 flX11_163 rfl (by omega) (congrArg Prod.fst sh_52) rfl ?_
      refine V_iconst (pc := 103) dX11_go_103 ic_1 rfl ?_
      refine V_iload_n (pc := 104) dX11_go_104 rfl rfl rfl ?_
      refine V_ishl (pc := 105) dX11_go_105 rfl ?_
      refine V_ior (pc := 106) dX11_go_106 rfl ?_
      let I8 : HI := up2 I7 52 1 ((I7 52 1) ||| ((1 : Int32) <<< (v1 &&& 31)))
      refine V_putI (pc := 107) dX11_go_107 flX11_163 rfl rfl (by omega) (congrArg Prod.fst sh_52) rfl ?_
      refine V_aload_n (pc := 110) dX11_go_110 rfl rfl rfl ?_
      refine V_getR (pc := 111) dX11_go_111 flX11_51 rfl (by omega) (congrArg Prod.fst sh_0) rt_0_6 rfl ?_
      refine V_aload_n (pc := 114) dX11_go_114 rfl rfl rfl ?_
      refine V_getR (pc := 115) dX11_go_115 flX11_40 rfl (by omega) (congrArg Prod.fst sh_0) rt_0_5 rfl ?_
      obtain ⟨q9, hq9, hf⟩ := bnd hf
      refine V_cVl (md' := mX4_packed) (pc := 118) dX11_go_118 mlX11_55 mVX4_packed (tX4_packed rN_RT (by omega) hq9) rfl (by omega) (congrArg Prod.fst sh_52) rfl (Nat.le_of_ble_eq_true rfl) rfl ?_
      obtain ⟨q10, hq10, hf⟩ := bnd hf
      refine V_cVv (md' := mX0_add) (pc := 121) dX11_go_121 mlX11_202 mVX0_add (tX0_add rA_RT (by omega) hq10) rfl (by omega) (congrArg Prod.fst sh_54) rfl (Nat.le_of_ble_eq_true rfl) rfl ?_
      refine V_iload_n (pc := 124) dX11_go_124 rfl rfl rfl ?_
      refine V_iload_n (pc := 125) dX11_go_125 rfl rfl rfl ?_
      refine V_icmp_ne (pc := 126) (tgt := 131) dX11_go_126 (by decide) rfl (fun hc => ?_) (fun hc => ?_)
      · replace hf := (if_neg hc).symm.trans hf
        refine V_aload_n (pc := 131) dX11_go_131 rfl rfl rfl ?_
        refine V_getR (pc := 132) dX11_go_132 flX11_16 rfl (by omega) (congrArg Prod.fst sh_0) rt_0_3 rfl ?_
        refine V_lconst (pc := 135) dX11_go_135 lc_1 rfl ?_
        refine V_iload_n (pc := 136) dX11_go_136 rfl rfl rfl ?_
        refine V_lshl (pc := 137) dX11_go_137 rfl ?_
        refine V_cVl (md' := mX5_spread) (pc := 138) dX11_go_138 mlX11_205 mVX5_spread (tX5_spread hG.1 (rQ_RT hG.1) (by omega) rfl) rfl (by omega) (congrArg Prod.fst (shQ hG.1)) rfl (Nat.le_of_ble_eq_true rfl) rfl ?_
        refine V_iload_n (pc := 141) dX11_go_141 rfl rfl rfl ?_
        refine V_lushr (pc := 142) dX11_go_142 rfl ?_
        refine V_lconst (pc := 143) dX11_go_143 lc_1 rfl ?_
        refine V_land (pc := 144) dX11_go_144 rfl ?_
        refine V_lconst (pc := 145) dX11_go_145 lc_0 rfl ?_
        refine V_lc_eq (pc := 146) (tgt := 154) dX11_go_146 rfl dX11_go_147 (by decide) rfl (fun hc => ?_) (fun hc => ?_)
        · replace hf := (if_pos hc).symm.trans hf
          refine V_iconst (pc := 154) dX11_go_154 ic_2 rfl ?_
          cases hf
          exact V_iret (pc := 155) dX11_go_155 rfl PoI_mk
        · replace hf := (if_neg hc).symm.trans hf
          refine V_iconst (pc := 150) dX11_go_150 ic_1 rfl ?_
          refine V_goto (pc := 151) (tgt := 155) dX11_go_151 (by decide) ?_
          cases hf
          exact V_iret (pc := 155) dX11_go_155 rfl PoI_mk
      · replace hf := (if_pos hc).symm.trans hf
        refine V_iconst (pc := 129) dX11_go_129 ic_0 rfl ?_
        cases hf
        exact V_iret (pc := 130) dX11_go_130 rfl PoI_mk
    · replace hf := (if_pos hc).symm.trans hf
      refine V_iconst (pc := 83) dX11_go_83 ic_m1 rfl ?_
      cases hf
      exact V_iret (pc := 84) dX11_go_84 rfl PoI_mk
  refine V_if_eq (pc := 11) (tgt := 39) dX11_go_11 (by decide) rfl (fun hc => ?_) (fun hc => ?_)
  · replace hb1 := (if_pos hc).symm.trans hb1
    cases hb1
    exact KTb1 rfl
  · replace hb1 := (if_neg hc).symm.trans hb1
    refine V_aload_n (pc := 14) dX11_go_14 rfl rfl rfl ?_
    refine V_getR (pc := 15) dX11_go_15 flX11_16 rfl (by omega) (congrArg Prod.fst sh_0) rt_0_3 rfl ?_
    refine V_iload_n (pc := 18) dX11_go_18 rfl rfl rfl ?_
    refine V_cVz (md' := mX5_canStand) (pc := 19) dX11_go_19 mlX11_195 mVX5_canStand (tX5_canStand hG.1 (rQ_RT hG.1) (by omega) rfl) rfl (by omega) (congrArg Prod.fst (shQ hG.1)) rfl (Nat.le_of_ble_eq_true rfl) rfl ?_
    refine V_if_eq (pc := 22) (tgt := 39) dX11_go_22 (by decide) rfl (fun hc => ?_) (fun hc => ?_)
    · replace hb1 := (if_pos hc).symm.trans hb1
      cases hb1
      exact KTb1 rfl
    · replace hb1 := (if_neg hc).symm.trans hb1
      refine V_aload_n (pc := 25) dX11_go_25 rfl rfl rfl ?_
      refine V_getR (pc := 26) dX11_go_26 flX11_40 rfl (by omega) (congrArg Prod.fst sh_0) rt_0_5 rfl ?_
      refine V_getI (pc := 29) dX11_go_29 flX11_163 rfl (by omega) (congrArg Prod.fst sh_52) rfl ?_
      refine V_iload_n (pc := 32) dX11_go_32 rfl rfl rfl ?_
      refine V_cSz (md' := mX11_isBit) (pc := 33) dX11_go_33 mlX11_148 mSX11_isBit (tX11_isBit rfl) rfl rfl (Nat.le_of_ble_eq_true rfl) rfl ?_
      refine V_if_eq (pc := 36) (tgt := 41) dX11_go_36 (by decide) rfl (fun hc => ?_) (fun hc => ?_)
      · replace hb1 := (if_pos hc).symm.trans hb1
        cases hb1
        exact KFb1 (nbt rfl)
      · replace hb1 := (if_neg hc).symm.trans hb1
        cases hb1
        exact KTb1 rfl
/-! ShadowDoors.hour -/
noncomputable def fX11_hour (I : HI) (L : HL) : Option (Int32 × HI × HL) :=
  if (I 52 5) < (2000 : Int32) then
    let I1 : HI := up2 I 52 5 ((I 52 5) + (1 : Int32))
    let I2 : HI := up2 I1 52 1 (0 : Int32)
    Option.bind (fX4_packed  I2) fun q3 =>
    Option.bind (fX0_add q3 I2 L) fun q4 =>
    some ((q4.1 52 5), q4.1, q4.2)
  else
    some ((-1 : Int32), I, L)
set_option maxRecDepth 100000 in
set_option maxHeartbeats 4000000 in
theorem tX11_hour {g : GG} {n d : Nat} {tw dr sk tl ff : Nat} (hG : RG tw dr sk tl ff) (hn : 116 ≤ n) {I : HI} {L : HL} {res : Int32 × HI × HL} (hf : fX11_hour I L = some res) : CT g mX11_hour (d + 3) 0 0 n (RT tw dr sk tl ff) I L [.ref 0] (PoI n (RT tw dr sk tl ff) res.1 res.2.1 res.2.2) := by
  refine CT.of rfl (Nat.le_of_ble_eq_true rfl) ?_
  show V g mX11_hour (d + 3) 0 0 n (RT tw dr sk tl ff) I L 0 [some (.ref 0)] [] (PoI n (RT tw dr sk tl ff) res.1 res.2.1 res.2.2)
  refine V_aload_n (pc := 0) dX11_hour_0 rfl rfl rfl ?_
  refine V_getR (pc := 1) dX11_hour_1 flX11_40 rfl (by omega) (congrArg Prod.fst sh_0) rt_0_5 rfl ?_
  refine V_getI (pc := 4) dX11_hour_4 flX11_170 rfl (by omega) (congrArg Prod.fst sh_52) rfl ?_
  refine V_sipush (pc := 7) dX11_hour_7 sp_2000 rfl ?_
  refine V_icmp_lt (pc := 10) (tgt := 15) dX11_hour_10 (by decide) rfl (fun hc => ?_) (fun hc => ?_)
  · replace hf := (if_pos hc).symm.trans hf
    refine V_aload_n (pc := 15) dX11_hour_15 rfl rfl rfl ?_
    refine V_getR (pc := 16) dX11_hour_16 flX11_40 rfl (by omega) (congrArg Prod.fst sh_0) rt_0_5 rfl ?_
    refine V_dup (pc := 19) dX11_hour_19 rfl rfl ?_
    refine V_getI (pc := 20) dX11_hour_20 flX11_170 rfl (by omega) (congrArg Prod.fst sh_52) rfl ?_
    refine V_iconst (pc := 23) dX11_hour_23 ic_1 rfl ?_
    refine V_iadd (pc := 24) dX11_hour_24 rfl ?_
    let I1 : HI := up2 I 52 5 ((I 52 5) + (1 : Int32))
    refine V_putI (pc := 25) dX11_hour_25 flX11_170 rfl rfl (by omega) (congrArg Prod.fst sh_52) rfl ?_
    refine V_aload_n (pc := 28) dX11_hour_28 rfl rfl rfl ?_
    refine V_getR (pc := 29) dX11_hour_29 flX11_40 rfl (by omega) (congrArg Prod.fst sh_0) rt_0_5 rfl ?_
    refine V_iconst (pc := 32) dX11_hour_32 ic_0 rfl ?_
    let I2 : HI := up2 I1 52 1 (0 : Int32)
    refine V_putI (pc := 33) dX11_hour_33 flX11_163 rfl rfl (by omega) (congrArg Prod.fst sh_52) rfl ?_
    refine V_aload_n (pc := 36) dX11_hour_36 rfl rfl rfl ?_
    refine V_getR (pc := 37) dX11_hour_37 flX11_51 rfl (by omega) (congrArg Prod.fst sh_0) rt_0_6 rfl ?_
    refine V_aload_n (pc := 40) dX11_hour_40 rfl rfl rfl ?_
    refine V_getR (pc := 41) dX11_hour_41 flX11_40 rfl (by omega) (congrArg Prod.fst sh_0) rt_0_5 rfl ?_
    obtain ⟨q3, hq3, hf⟩ := bnd hf
    refine V_cVl (md' := mX4_packed) (pc := 44) dX11_hour_44 mlX11_55 mVX4_packed (tX4_packed rN_RT (by omega) hq3) rfl (by omega) (congrArg Prod.fst sh_52) rfl (Nat.le_of_ble_eq_true rfl) rfl ?_
    obtain ⟨q4, hq4, hf⟩ := bnd hf
    refine V_cVv (md' := mX0_add) (pc := 47) dX11_hour_47 mlX11_202 mVX0_add (tX0_add rA_RT (by omega) hq4) rfl (by omega) (congrArg Prod.fst sh_54) rfl (Nat.le_of_ble_eq_true rfl) rfl ?_
    refine V_aload_n (pc := 50) dX11_hour_50 rfl rfl rfl ?_
    refine V_getR (pc := 51) dX11_hour_51 flX11_40 rfl (by omega) (congrArg Prod.fst sh_0) rt_0_5 rfl ?_
    refine V_getI (pc := 54) dX11_hour_54 flX11_170 rfl (by omega) (congrArg Prod.fst sh_52) rfl ?_
    cases hf
    exact V_iret (pc := 57) dX11_hour_57 rfl PoI_mk
  · replace hf := (if_neg hc).symm.trans hf
    refine V_iconst (pc := 13) dX11_hour_13 ic_m1 rfl ?_
    cases hf
    exact V_iret (pc := 14) dX11_hour_14 rfl PoI_mk
/-! ShadowDoors.shut -/
noncomputable def fX11_shut (tw : Nat) (v1 : Int32) (I : HI) (L : HL) : Option (Int32 × HI × HL) :=
  if (b2i (fX8_has (tw + 1) v1 I)) = 0 then
    some ((-1 : Int32), I, L)
  else
    let I1 : HI := up2 I 52 2 ((I 52 2) ^^^ ((1 : Int32) <<< (v1 &&& 31)))
    Option.bind (fX4_packed  I1) fun q2 =>
    Option.bind (fX0_add q2 I1 L) fun q3 =>
    some ((((q3.1 52 2).toUInt32 >>> (v1.toUInt32 &&& Int32.toUInt32 31)).toInt32 &&& (1 : Int32)), q3.1, q3.2)
set_option maxRecDepth 100000 in
set_option maxHeartbeats 4000000 in
theorem tX11_shut {g : GG} {n d : Nat} {tw dr sk tl ff : Nat} (hG : RG tw dr sk tl ff) (hn : 116 ≤ n) {v1 : Int32} {I : HI} {L : HL} {res : Int32 × HI × HL} (hf : fX11_shut tw v1 I L = some res) : CT g mX11_shut (d + 3) 0 0 n (RT tw dr sk tl ff) I L [.ref 0, .int v1] (PoI n (RT tw dr sk tl ff) res.1 res.2.1 res.2.2) := by
  refine CT.of rfl (Nat.le_of_ble_eq_true rfl) ?_
  show V g mX11_shut (d + 3) 0 0 n (RT tw dr sk tl ff) I L 0 [some (.ref 0), some (.int v1)] [] (PoI n (RT tw dr sk tl ff) res.1 res.2.1 res.2.2)
  refine V_aload_n (pc := 0) dX11_shut_0 rfl rfl rfl ?_
  refine V_getR (pc := 1) dX11_shut_1 flX11_16 rfl (by omega) (congrArg Prod.fst sh_0) rt_0_3 rfl ?_
  refine V_getR (pc := 4) dX11_shut_4 flX11_111 rfl (by omega) (congrArg Prod.fst (shQ hG.1)) (rQ_6 (rQ_RT hG.1)) rfl ?_
  refine V_iload_n (pc := 7) dX11_shut_7 rfl rfl rfl ?_
  refine V_cVz (md' := mX8_has) (pc := 8) dX11_shut_8 mlX11_126 mVX8_has (tX8_has (qT_6 hG.1) (rQ_s6 (rQ_RT hG.1)) (by omega) rfl) rfl (by omega) (congrArg Prod.fst (shT (qT_6 hG.1))) rfl (Nat.le_of_ble_eq_true rfl) rfl ?_
  refine V_if_ne (pc := 11) (tgt := 16) dX11_shut_11 (by decide) rfl (fun hc => ?_) (fun hc => ?_)
  · replace hf := (if_neg hc).symm.trans hf
    refine V_aload_n (pc := 16) dX11_shut_16 rfl rfl rfl ?_
    refine V_getR (pc := 17) dX11_shut_17 flX11_40 rfl (by omega) (congrArg Prod.fst sh_0) rt_0_5 rfl ?_
    refine V_dup (pc := 20) dX11_shut_20 rfl rfl ?_
    refine V_getI (pc := 21) dX11_shut_21 flX11_145 rfl (by omega) (congrArg Prod.fst sh_52) rfl ?_
    refine V_iconst (pc := 24) dX11_shut_24 ic_1 rfl ?_
    refine V_iload_n (pc := 25) dX11_shut_25 rfl rfl rfl ?_
    refine V_ishl (pc := 26) dX11_shut_26 rfl ?_
    refine V_ixor (pc := 27) dX11_shut_27 rfl ?_
    let I1 : HI := up2 I 52 2 ((I 52 2) ^^^ ((1 : Int32) <<< (v1 &&& 31)))
    refine V_putI (pc := 28) dX11_shut_28 flX11_145 rfl rfl (by omega) (congrArg Prod.fst sh_52) rfl ?_
    refine V_aload_n (pc := 31) dX11_shut_31 rfl rfl rfl ?_
    refine V_getR (pc := 32) dX11_shut_32 flX11_51 rfl (by omega) (congrArg Prod.fst sh_0) rt_0_6 rfl ?_
    refine V_aload_n (pc := 35) dX11_shut_35 rfl rfl rfl ?_
    refine V_getR (pc := 36) dX11_shut_36 flX11_40 rfl (by omega) (congrArg Prod.fst sh_0) rt_0_5 rfl ?_
    obtain ⟨q2, hq2, hf⟩ := bnd hf
    refine V_cVl (md' := mX4_packed) (pc := 39) dX11_shut_39 mlX11_55 mVX4_packed (tX4_packed rN_RT (by omega) hq2) rfl (by omega) (congrArg Prod.fst sh_52) rfl (Nat.le_of_ble_eq_true rfl) rfl ?_
    obtain ⟨q3, hq3, hf⟩ := bnd hf
    refine V_cVv (md' := mX0_add) (pc := 42) dX11_shut_42 mlX11_202 mVX0_add (tX0_add rA_RT (by omega) hq3) rfl (by omega) (congrArg Prod.fst sh_54) rfl (Nat.le_of_ble_eq_true rfl) rfl ?_
    refine V_aload_n (pc := 45) dX11_shut_45 rfl rfl rfl ?_
    refine V_getR (pc := 46) dX11_shut_46 flX11_40 rfl (by omega) (congrArg Prod.fst sh_0) rt_0_5 rfl ?_
    refine V_getI (pc := 49) dX11_shut_49 flX11_145 rfl (by omega) (congrArg Prod.fst sh_52) rfl ?_
    refine V_iload_n (pc := 52) dX11_shut_52 rfl rfl rfl ?_
    refine V_iushr (pc := 53) dX11_shut_53 rfl ?_
    refine V_iconst (pc := 54) dX11_shut_54 ic_1 rfl ?_
    refine V_iand (pc := 55) dX11_shut_55 rfl ?_
    cases hf
    exact V_iret (pc := 56) dX11_shut_56 rfl PoI_mk
  · replace hf := (if_pos hc).symm.trans hf
    refine V_iconst (pc := 14) dX11_shut_14 ic_m1 rfl ?_
    cases hf
    exact V_iret (pc := 15) dX11_shut_15 rfl PoI_mk
/-! ShadowDoors.out -/
noncomputable def fX11_out (tw : Nat) (v1 : Int32) (I : HI) (L : HL) : Option (Int32 × HI × HL) :=
  if (b2i (fX8_has (tw + 7) v1 I)) = 0 then
    some ((-1 : Int32), I, L)
  else
    let I1 : HI := up2 I 52 3 ((I 52 3) ^^^ ((1 : Int32) <<< (v1 &&& 31)))
    Option.bind (fX4_packed  I1) fun q2 =>
    Option.bind (fX0_add q2 I1 L) fun q3 =>
    some ((((q3.1 52 3).toUInt32 >>> (v1.toUInt32 &&& Int32.toUInt32 31)).toInt32 &&& (1 : Int32)), q3.1, q3.2)
set_option maxRecDepth 100000 in
set_option maxHeartbeats 4000000 in
theorem tX11_out {g : GG} {n d : Nat} {tw dr sk tl ff : Nat} (hG : RG tw dr sk tl ff) (hn : 116 ≤ n) {v1 : Int32} {I : HI} {L : HL} {res : Int32 × HI × HL} (hf : fX11_out tw v1 I L = some res) : CT g mX11_out (d + 3) 0 0 n (RT tw dr sk tl ff) I L [.ref 0, .int v1] (PoI n (RT tw dr sk tl ff) res.1 res.2.1 res.2.2) := by
  refine CT.of rfl (Nat.le_of_ble_eq_true rfl) ?_
  show V g mX11_out (d + 3) 0 0 n (RT tw dr sk tl ff) I L 0 [some (.ref 0), some (.int v1)] [] (PoI n (RT tw dr sk tl ff) res.1 res.2.1 res.2.2)
  refine V_aload_n (pc := 0) dX11_out_0 rfl rfl rfl ?_
  refine V_getR (pc := 1) dX11_out_1 flX11_16 rfl (by omega) (congrArg Prod.fst sh_0) rt_0_3 rfl ?_
  refine V_getR (pc := 4) dX11_out_4 flX11_151 rfl (by omega) (congrArg Prod.fst (shQ hG.1)) (rQ_7 (rQ_RT hG.1)) rfl ?_
  refine V_iload_n (pc := 7) dX11_out_7 rfl rfl rfl ?_
  refine V_cVz (md' := mX8_has) (pc := 8) dX11_out_8 mlX11_126 mVX8_has (tX8_has (qT_7 hG.1) (rQ_s7 (rQ_RT hG.1)) (by omega) rfl) rfl (by omega) (congrArg Prod.fst (shT (qT_7 hG.1))) rfl (Nat.le_of_ble_eq_true rfl) rfl ?_
  refine V_if_ne (pc := 11) (tgt := 16) dX11_out_11 (by decide) rfl (fun hc => ?_) (fun hc => ?_)
  · replace hf := (if_neg hc).symm.trans hf
    refine V_aload_n (pc := 16) dX11_out_16 rfl rfl rfl ?_
    refine V_getR (pc := 17) dX11_out_17 flX11_40 rfl (by omega) (congrArg Prod.fst sh_0) rt_0_5 rfl ?_
    refine V_dup (pc := 20) dX11_out_20 rfl rfl ?_
    refine V_getI (pc := 21) dX11_out_21 flX11_154 rfl (by omega) (congrArg Prod.fst sh_52) rfl ?_
    refine V_iconst (pc := 24) dX11_out_24 ic_1 rfl ?_
    refine V_iload_n (pc := 25) dX11_out_25 rfl rfl rfl ?_
    refine V_ishl (pc := 26) dX11_out_26 rfl ?_
    refine V_ixor (pc := 27) dX11_out_27 rfl ?_
    let I1 : HI := up2 I 52 3 ((I 52 3) ^^^ ((1 : Int32) <<< (v1 &&& 31)))
    refine V_putI (pc := 28) dX11_out_28 flX11_154 rfl rfl (by omega) (congrArg Prod.fst sh_52) rfl ?_
    refine V_aload_n (pc := 31) dX11_out_31 rfl rfl rfl ?_
    refine V_getR (pc := 32) dX11_out_32 flX11_51 rfl (by omega) (congrArg Prod.fst sh_0) rt_0_6 rfl ?_
    refine V_aload_n (pc := 35) dX11_out_35 rfl rfl rfl ?_
    refine V_getR (pc := 36) dX11_out_36 flX11_40 rfl (by omega) (congrArg Prod.fst sh_0) rt_0_5 rfl ?_
    obtain ⟨q2, hq2, hf⟩ := bnd hf
    refine V_cVl (md' := mX4_packed) (pc := 39) dX11_out_39 mlX11_55 mVX4_packed (tX4_packed rN_RT (by omega) hq2) rfl (by omega) (congrArg Prod.fst sh_52) rfl (Nat.le_of_ble_eq_true rfl) rfl ?_
    obtain ⟨q3, hq3, hf⟩ := bnd hf
    refine V_cVv (md' := mX0_add) (pc := 42) dX11_out_42 mlX11_202 mVX0_add (tX0_add rA_RT (by omega) hq3) rfl (by omega) (congrArg Prod.fst sh_54) rfl (Nat.le_of_ble_eq_true rfl) rfl ?_
    refine V_aload_n (pc := 45) dX11_out_45 rfl rfl rfl ?_
    refine V_getR (pc := 46) dX11_out_46 flX11_40 rfl (by omega) (congrArg Prod.fst sh_0) rt_0_5 rfl ?_
    refine V_getI (pc := 49) dX11_out_49 flX11_154 rfl (by omega) (congrArg Prod.fst sh_52) rfl ?_
    refine V_iload_n (pc := 52) dX11_out_52 rfl rfl rfl ?_
    refine V_iushr (pc := 53) dX11_out_53 rfl ?_
    refine V_iconst (pc := 54) dX11_out_54 ic_1 rfl ?_
    refine V_iand (pc := 55) dX11_out_55 rfl ?_
    cases hf
    exact V_iret (pc := 56) dX11_out_56 rfl PoI_mk
  · replace hf := (if_pos hc).symm.trans hf
    refine V_iconst (pc := 14) dX11_out_14 ic_m1 rfl ?_
    cases hf
    exact V_iret (pc := 15) dX11_out_15 rfl PoI_mk
/-! ShadowDoors.eclipse -/
noncomputable def fX11_eclipse (I : HI) (L : HL) : Option (Bool × HI × HL) :=
  Option.bind (
    if (I 52 4) = 0 then
      some true
    else
      some false
  ) fun q1 =>
  let I2 : HI := up2 I 52 4 (b2i q1)
  Option.bind (fX4_packed  I2) fun q3 =>
  Option.bind (fX0_add q3 I2 L) fun q4 =>
  Option.bind (i2b (q4.1 52 4)) fun b5 =>
  some (b5, q4.1, q4.2)
set_option maxRecDepth 100000 in
set_option maxHeartbeats 4000000 in
theorem tX11_eclipse {g : GG} {n d : Nat} {tw dr sk tl ff : Nat} (hG : RG tw dr sk tl ff) (hn : 116 ≤ n) {I : HI} {L : HL} {res : Bool × HI × HL} (hf : fX11_eclipse I L = some res) : CT g mX11_eclipse (d + 3) 0 0 n (RT tw dr sk tl ff) I L [.ref 0] (PoB n (RT tw dr sk tl ff) res.1 res.2.1 res.2.2) := by
  refine CT.of rfl (Nat.le_of_ble_eq_true rfl) ?_
  show V g mX11_eclipse (d + 3) 0 0 n (RT tw dr sk tl ff) I L 0 [some (.ref 0)] [] (PoB n (RT tw dr sk tl ff) res.1 res.2.1 res.2.2)
  refine V_aload_n (pc := 0) dX11_eclipse_0 rfl rfl rfl ?_
  refine V_getR (pc := 1) dX11_eclipse_1 flX11_40 rfl (by omega) (congrArg Prod.fst sh_0) rt_0_5 rfl ?_
  refine V_aload_n (pc := 4) dX11_eclipse_4 rfl rfl rfl ?_
  refine V_getR (pc := 5) dX11_eclipse_5 flX11_40 rfl (by omega) (congrArg Prod.fst sh_0) rt_0_5 rfl ?_
  refine V_getI (pc := 8) dX11_eclipse_8 flX11_209 rfl (by omega) (congrArg Prod.fst sh_52) rfl ?_
  obtain ⟨q1, hq1, hf⟩ := bnd hf
  have Kq1 : V g mX11_eclipse (d + 3) 0 0 n (RT tw dr sk tl ff) I L 19 [some (.ref 0)] [.int (b2i q1), .ref 52] (PoB n (RT tw dr sk tl ff) res.1 res.2.1 res.2.2) := by
    let I2 : HI := up2 I 52 4 (b2i q1)
    refine V_putZE (pc := 19) dX11_eclipse_19 flX11_209 rfl rfl (by omega) (congrArg Prod.fst sh_52) rfl rfl ?_
    refine V_aload_n (pc := 22) dX11_eclipse_22 rfl rfl rfl ?_
    refine V_getR (pc := 23) dX11_eclipse_23 flX11_51 rfl (by omega) (congrArg Prod.fst sh_0) rt_0_6 rfl ?_
    refine V_aload_n (pc := 26) dX11_eclipse_26 rfl rfl rfl ?_
    refine V_getR (pc := 27) dX11_eclipse_27 flX11_40 rfl (by omega) (congrArg Prod.fst sh_0) rt_0_5 rfl ?_
    obtain ⟨q3, hq3, hf⟩ := bnd hf
    refine V_cVl (md' := mX4_packed) (pc := 30) dX11_eclipse_30 mlX11_55 mVX4_packed (tX4_packed rN_RT (by omega) hq3) rfl (by omega) (congrArg Prod.fst sh_52) rfl (Nat.le_of_ble_eq_true rfl) rfl ?_
    obtain ⟨q4, hq4, hf⟩ := bnd hf
    refine V_cVv (md' := mX0_add) (pc := 33) dX11_eclipse_33 mlX11_202 mVX0_add (tX0_add rA_RT (by omega) hq4) rfl (by omega) (congrArg Prod.fst sh_54) rfl (Nat.le_of_ble_eq_true rfl) rfl ?_
    refine V_aload_n (pc := 36) dX11_eclipse_36 rfl rfl rfl ?_
    refine V_getR (pc := 37) dX11_eclipse_37 flX11_40 rfl (by omega) (congrArg Prod.fst sh_0) rt_0_5 rfl ?_
    refine V_getI (pc := 40) dX11_eclipse_40 flX11_209 rfl (by omega) (congrArg Prod.fst sh_52) rfl ?_
    obtain ⟨b5, hb5, hf⟩ := bnd hf
    cases hf
    exact V_zretE (pc := 43) dX11_eclipse_43 rfl (i2b_eq hb5) PoB_mk
  refine V_if_ne (pc := 11) (tgt := 18) dX11_eclipse_11 (by decide) rfl (fun hc => ?_) (fun hc => ?_)
  · replace hq1 := (if_neg hc).symm.trans hq1
    refine V_iconst (pc := 18) dX11_eclipse_18 ic_0 rfl ?_
    cases hq1
    exact V_wk Kq1 ⟨rfl, trivial⟩
  · replace hq1 := (if_pos hc).symm.trans hq1
    refine V_iconst (pc := 14) dX11_eclipse_14 ic_1 rfl ?_
    refine V_goto (pc := 15) (tgt := 19) dX11_eclipse_15 (by decide) ?_
    cases hq1
    exact V_wk Kq1 ⟨rfl, trivial⟩
