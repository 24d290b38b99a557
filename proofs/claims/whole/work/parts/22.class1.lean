/-! ShadowDoors$Quarter.clear -/
noncomputable def fX5_clear (qq : Nat) (I : HI) (L : HL) : HI × HL :=
  tbn (fX5_setSize qq (6 : Int32) (6 : Int32) I) fun q1 =>
  let L2 : HL := up2 L qq 3 (0 : Int64)
  let I3 : HI := up2 q1 (qq + 1) 0 (0 : Int32)
  let I4 : HI := up2 I3 (qq + 7) 0 (0 : Int32)
  let I5 : HI := up2 I4 (qq + 13) 0 (0 : Int32)
  tbn (fX1_clear (qq + 19) I5) fun q6 =>
  let I7 : HI := up2 q6 qq 10 (0 : Int32)
  (I7, L2)
set_option maxRecDepth 100000 in
set_option maxHeartbeats 4000000 in
theorem tX5_clear {g : GG} {n d : Nat} {r : HR} {qq : Nat} (hqq : isQ qq) (hr : rQ r qq) (hn : qq + 23 ≤ n) {I : HI} {L : HL} {res : HI × HL} (hf : fX5_clear qq I L = res) : CT g mX5_clear (d + 2) 0 0 n r I L [.ref qq] (PoV n r res.1 res.2) := by
  refine CT.of rfl (Nat.le_of_ble_eq_true rfl) ?_
  show V g mX5_clear (d + 2) 0 0 n r I L 0 [some (.ref qq)] [] (PoV n r res.1 res.2)
  refine V_aload_n (pc := 0) dX5_clear_0 rfl rfl rfl ?_
  refine V_bipush (pc := 1) dX5_clear_1 bp_6 rfl ?_
  refine V_bipush (pc := 3) dX5_clear_3 bp_6 rfl ?_
  obtain ⟨q1, hq1, hf⟩ := tbd hf
  refine V_cVv (md' := mX5_setSize) (pc := 5) dX5_clear_5 mlX5_43 mVX5_setSize (tX5_setSize hqq hr (by omega) hq1) rfl (by omega) (congrArg Prod.fst (shQ hqq)) rfl (Nat.le_of_ble_eq_true rfl) rfl ?_
  refine V_aload_n (pc := 8) dX5_clear_8 rfl rfl rfl ?_
  refine V_lconst (pc := 9) dX5_clear_9 lc_0 rfl ?_
  let L2 : HL := up2 L qq 3 (0 : Int64)
  refine V_putL (pc := 10) dX5_clear_10 flX5_47 rfl rfl (by omega) (congrArg Prod.fst (shQ hqq)) rfl ?_
  refine V_aload_n (pc := 13) dX5_clear_13 rfl rfl rfl ?_
  refine V_getR (pc := 14) dX5_clear_14 flX5_14 rfl (by omega) (congrArg Prod.fst (shQ hqq)) (rQ_6 hr) rfl ?_
  refine V_iconst (pc := 17) dX5_clear_17 ic_0 rfl ?_
  let I3 : HI := up2 q1 (qq + 1) 0 (0 : Int32)
  refine V_putI (pc := 18) dX5_clear_18 flX5_51 rfl rfl (by omega) (congrArg Prod.fst (shT (qT_6 hqq))) rfl ?_
  refine V_aload_n (pc := 21) dX5_clear_21 rfl rfl rfl ?_
  refine V_getR (pc := 22) dX5_clear_22 flX5_20 rfl (by omega) (congrArg Prod.fst (shQ hqq)) (rQ_7 hr) rfl ?_
  refine V_iconst (pc := 25) dX5_clear_25 ic_0 rfl ?_
  let I4 : HI := up2 I3 (qq + 7) 0 (0 : Int32)
  refine V_putI (pc := 26) dX5_clear_26 flX5_51 rfl rfl (by omega) (congrArg Prod.fst (shT (qT_7 hqq))) rfl ?_
  refine V_aload_n (pc := 29) dX5_clear_29 rfl rfl rfl ?_
  refine V_getR (pc := 30) dX5_clear_30 flX5_23 rfl (by omega) (congrArg Prod.fst (shQ hqq)) (rQ_8 hr) rfl ?_
  refine V_iconst (pc := 33) dX5_clear_33 ic_0 rfl ?_
  let I5 : HI := up2 I4 (qq + 13) 0 (0 : Int32)
  refine V_putI (pc := 34) dX5_clear_34 flX5_51 rfl rfl (by omega) (congrArg Prod.fst (shT (qT_8 hqq))) rfl ?_
  refine V_aload_n (pc := 37) dX5_clear_37 rfl rfl rfl ?_
  refine V_getR (pc := 38) dX5_clear_38 flX5_29 rfl (by omega) (congrArg Prod.fst (shQ hqq)) (rQ_9 hr) rfl ?_
  obtain ⟨q6, hq6, hf⟩ := tbd hf
  refine V_cVv (md' := mX1_clear) (pc := 41) dX5_clear_41 mlX5_55 mVX1_clear (tX1_clear (qF_9 hqq) (rQ_s9 hr) (by omega) hq6) rfl (by omega) (congrArg Prod.fst (shF (qF_9 hqq))) rfl (Nat.le_of_ble_eq_true rfl) rfl ?_
  refine V_aload_n (pc := 44) dX5_clear_44 rfl rfl rfl ?_
  refine V_iconst (pc := 45) dX5_clear_45 ic_0 rfl ?_
  let I7 : HI := up2 q6 qq 10 (0 : Int32)
  refine V_putI (pc := 46) dX5_clear_46 flX5_56 rfl rfl (by omega) (congrArg Prod.fst (shQ hqq)) rfl ?_
  cases hf
  exact V_vret (pc := 49) dX5_clear_49 rfl PoV_mk
/-! ShadowDoors$Quarter.columnBits -/
noncomputable def fX5_columnBits_34 (qq : Nat) : Nat → Int32 → Int32 → Int64 → Int32 → Int32 → HI → Option (Int64)
  | 0, _, _, _, _, _, _ => none
  | fu + 1, y3, y4, y5, y7, y8, I =>
    Option.bind (
      if y4 ≤ y8 then
        some true
      else
        if y7 < 0 then
          some true
        else
          if (I qq 2) ≤ y7 then
            some true
          else
            some false
    ) fun b3 =>
    if b3 = true then
      some y5
    else
      let x4 : Int64 := (y5 ||| ((1 : Int64) <<< (y7.toInt64 &&& 63)))
      fX5_columnBits_34 qq fu y3 y4 x4 (y7 + y3) (y8 + (1 : Int32)) I
set_option maxRecDepth 100000 in
set_option maxHeartbeats 4000000 in
theorem lX5_columnBits_34 {g : GG} {n d : Nat} {r : HR} {qq : Nat} (hqq : isQ qq) (hr : rQ r qq) (hn : qq + 23 ≤ n) {P : PP} : ∀ (fu : Nat) (y3 : Int32) (y4 : Int32) (y5 : Int64) (y7 : Int32) (y8 : Int32) (I : HI) (L : HL) (res : Int64), fX5_columnBits_34 qq fu y3 y4 y5 y7 y8 I = some res → P (some (.long res)) n r I L → V g mX5_columnBits (d + 2) 0 0 n r I L 34 [some (.ref qq), none, none, some (.int y3), some (.int y4), some (.long y5), none, some (.int y7), some (.int y8)] [] P := by
  intro fu
  induction fu with
  | zero => intro y3 y4 y5 y7 y8 I L res hf; cases (show none = some res from hf)
  | succ fu ih =>
    intro y3 y4 y5 y7 y8 I L res hf K
    refine V_iload (pc := 34) dX5_columnBits_34 rfl rfl ?_
    refine V_iload (pc := 36) dX5_columnBits_36 rfl rfl ?_
    obtain ⟨b3, hb3, hf⟩ := bnd hf
    have KTb3 : b3 = true → V g mX5_columnBits (d + 2) 0 0 n r I L 76 [some (.ref qq), none, none, some (.int y3), some (.int y4), some (.long y5), none, some (.int y7), some (.int y8)] [] P := fun hc => by
      replace hf := (if_pos hc).symm.trans hf
      refine V_lload (pc := 76) dX5_columnBits_76 rfl rfl ?_
      cases hf
      exact V_lret (pc := 78) dX5_columnBits_78 rfl K
    have KFb3 : ¬ b3 = true → V g mX5_columnBits (d + 2) 0 0 n r I L 55 [some (.ref qq), none, none, some (.int y3), some (.int y4), some (.long y5), none, some (.int y7), some (.int y8)] [] P := fun hc => by
      replace hf := (if_neg hc).symm.trans hf
      refine V_lload (pc := 55) dX5_columnBits_55 rfl rfl ?_
      refine V_lconst (pc := 57) dX5_columnBits_57 lc_1 rfl ?_
      refine V_iload (pc := 58) dX5_columnBits_58 rfl rfl ?_
      refine V_lshl (pc := 60) dX5_columnBits_60 rfl ?_
      refine V_lor (pc := 61) dX5_columnBits_61 rfl ?_
      let x4 : Int64 := (y5 ||| ((1 : Int64) <<< (y7.toInt64 &&& 63)))
      refine V_lstore (ls' := [some _, none, none, some _, some _, some _, none, some _, some _]) (pc := 62) dX5_columnBits_62 (Nat.le_of_ble_eq_true rfl) rfl rfl ?_
      refine V_iload (pc := 64) dX5_columnBits_64 rfl rfl ?_
      refine V_iload_n (pc := 66) dX5_columnBits_66 rfl rfl rfl ?_
      refine V_iadd (pc := 67) dX5_columnBits_67 rfl ?_
      refine V_istore (ls' := [some _, none, none, some _, some _, some _, none, some _, some _]) (pc := 68) dX5_columnBits_68 (Nat.le_of_ble_eq_true rfl) rfl rfl ?_
      refine V_iinc (ls' := [some _, none, none, some _, some _, some _, none, some _, some _]) (pc := 70) dX5_columnBits_70 rfl (Nat.le_of_ble_eq_true rfl) (congrArg _ ic_1) rfl rfl ?_
      refine V_goto (pc := 73) (tgt := 34) dX5_columnBits_73 (by decide) ?_
      exact V_wk (ih _ _ _ _ _ _ _ _ hf K) ⟨rfl, ⟨rfl, ⟨rfl, ⟨rfl, ⟨rfl, ⟨rfl, trivial⟩⟩⟩⟩⟩⟩
    refine V_icmp_ge (pc := 38) (tgt := 76) dX5_columnBits_38 (by decide) rfl (fun hc => ?_) (fun hc => ?_)
    · replace hb3 := (if_pos hc).symm.trans hb3
      cases hb3
      exact KTb3 rfl
    · replace hb3 := (if_neg hc).symm.trans hb3
      refine V_iload (pc := 41) dX5_columnBits_41 rfl rfl ?_
      refine V_if_lt (pc := 43) (tgt := 76) dX5_columnBits_43 (by decide) rfl (fun hc => ?_) (fun hc => ?_)
      · replace hb3 := (if_pos hc).symm.trans hb3
        cases hb3
        exact KTb3 rfl
      · replace hb3 := (if_neg hc).symm.trans hb3
        refine V_iload (pc := 46) dX5_columnBits_46 rfl rfl ?_
        refine V_aload_n (pc := 48) dX5_columnBits_48 rfl rfl rfl ?_
        refine V_getI (pc := 49) dX5_columnBits_49 flX5_65 rfl (by omega) (congrArg Prod.fst (shQ hqq)) rfl ?_
        refine V_icmp_ge (pc := 52) (tgt := 76) dX5_columnBits_52 (by decide) rfl (fun hc => ?_) (fun hc => ?_)
        · replace hb3 := (if_pos hc).symm.trans hb3
          cases hb3
          exact KTb3 rfl
        · replace hb3 := (if_neg hc).symm.trans hb3
          cases hb3
          exact KFb3 (nbt rfl)
noncomputable def fX5_columnBits (qq : Nat) (v1 : Int32) (v2 : Int32) (I : HI) : Option (Int64) :=
  Option.bind (
    if 0 ≤ v2 then
      some (I qq 0)
    else
      some (-(I qq 0))
  ) fun q1 =>
  let x2 : Int32 := (if 0 ≤ v2 then v2 else 0 - v2)
  Option.bind (fX5_columnBits_34 qq FUEL q1 x2 (0 : Int64) (v1 + q1) (0 : Int32) I) fun q5 =>
  some q5
set_option maxRecDepth 100000 in
set_option maxHeartbeats 4000000 in
theorem tX5_columnBits {g : GG} {n d : Nat} {r : HR} {qq : Nat} (hqq : isQ qq) (hr : rQ r qq) (hn : qq + 23 ≤ n) {v1 : Int32} {v2 : Int32} {I : HI} {L : HL} {res : Int64} (hf : fX5_columnBits qq v1 v2 I = some res) : CT g mX5_columnBits (d + 2) 0 0 n r I L [.ref qq, .int v1, .int v2] (PoL n r res I L) := by
  refine CT.of rfl (Nat.le_of_ble_eq_true rfl) ?_
  show V g mX5_columnBits (d + 2) 0 0 n r I L 0 [some (.ref qq), some (.int v1), some (.int v2)] [] (PoL n r res I L)
  refine V_iload_n (pc := 0) dX5_columnBits_0 rfl rfl rfl ?_
  obtain ⟨q1, hq1, hf⟩ := bnd hf
  have Kq1 : V g mX5_columnBits (d + 2) 0 0 n r I L 16 [some (.ref qq), some (.int v1), some (.int v2)] [.int q1] (PoL n r res I L) := by
    refine V_istore_n (ls' := [some _, some _, some _, some _]) (pc := 16) dX5_columnBits_16 rfl (Nat.le_of_ble_eq_true rfl) rfl rfl ?_
    refine V_iload_n (pc := 17) dX5_columnBits_17 rfl rfl rfl ?_
    refine V_mabs (pc := 18) dX5_columnBits_18 mlX5_95 (Nat.le_of_ble_eq_true rfl) rfl ?_
    let x2 : Int32 := (if 0 ≤ v2 then v2 else 0 - v2)
    refine V_istore (ls' := [some _, some _, some _, some _, some _]) (pc := 21) dX5_columnBits_21 (Nat.le_of_ble_eq_true rfl) rfl rfl ?_
    refine V_lconst (pc := 23) dX5_columnBits_23 lc_0 rfl ?_
    refine V_lstore (ls' := [some _, some _, some _, some _, some _, some _, none]) (pc := 24) dX5_columnBits_24 (Nat.le_of_ble_eq_true rfl) rfl rfl ?_
    refine V_iload_n (pc := 26) dX5_columnBits_26 rfl rfl rfl ?_
    refine V_iload_n (pc := 27) dX5_columnBits_27 rfl rfl rfl ?_
    refine V_iadd (pc := 28) dX5_columnBits_28 rfl ?_
    refine V_istore (ls' := [some _, some _, some _, some _, some _, some _, none, some _]) (pc := 29) dX5_columnBits_29 (Nat.le_of_ble_eq_true rfl) rfl rfl ?_
    refine V_iconst (pc := 31) dX5_columnBits_31 ic_0 rfl ?_
    refine V_istore (ls' := [some _, some _, some _, some _, some _, some _, none, some _, some _]) (pc := 32) dX5_columnBits_32 (Nat.le_of_ble_eq_true rfl) rfl rfl ?_
    obtain ⟨q5, hq5, hf⟩ := bnd hf
    refine V_wk (lX5_columnBits_34 hqq hr hn FUEL _ _ _ _ _ _ _ _ hq5 ?_) ⟨rfl, ⟨rfl, ⟨rfl, ⟨rfl, ⟨rfl, ⟨rfl, trivial⟩⟩⟩⟩⟩⟩
    cases hf
    exact PoL_mk
  refine V_if_ge (pc := 1) (tgt := 12) dX5_columnBits_1 (by decide) rfl (fun hc => ?_) (fun hc => ?_)
  · replace hq1 := (if_pos hc).symm.trans hq1
    refine V_aload_n (pc := 12) dX5_columnBits_12 rfl rfl rfl ?_
    refine V_getI (pc := 13) dX5_columnBits_13 flX5_59 rfl (by omega) (congrArg Prod.fst (shQ hqq)) rfl ?_
    cases hq1
    exact V_wk Kq1 ⟨rfl, ⟨rfl, ⟨rfl, trivial⟩⟩⟩
  · replace hq1 := (if_neg hc).symm.trans hq1
    refine V_aload_n (pc := 4) dX5_columnBits_4 rfl rfl rfl ?_
    refine V_getI (pc := 5) dX5_columnBits_5 flX5_59 rfl (by omega) (congrArg Prod.fst (shQ hqq)) rfl ?_
    refine V_ineg (pc := 8) dX5_columnBits_8 rfl ?_
    refine V_goto (pc := 9) (tgt := 16) dX5_columnBits_9 (by decide) ?_
    cases hq1
    exact V_wk Kq1 ⟨rfl, ⟨rfl, ⟨rfl, trivial⟩⟩⟩
/-! ShadowDoors$Quarter.castBy -/
noncomputable def fX5_castBy (qq : Nat) (v1 : Int32) (v2 : Int32) (v3 : Int32) (I : HI) (L : HL) : Option (Int64) :=
  if 0 < (I qq 0) then
    if (I qq 0) = 0 then none else
    if (I qq 0) = 0 then none else
    let x3 : Int32 := ((v1 - v1 / (I qq 0) * (I qq 0)) - (v2 - v2 / (I qq 0) * (I qq 0)))
    if (I qq 0) = 0 then none else
    if (I qq 0) = 0 then none else
    let x6 : Int32 := ((v1 / (I qq 0)) - (v2 / (I qq 0)))
    Option.bind (
      if x3 = 0 then
        some true
      else
        if x6 = 0 then
          some true
        else
          some false
    ) fun b7 =>
    if b7 = true then
      if v1 = v2 then
        some (0 : Int64)
      else
        Option.bind (
          if x6 = 0 then
            Option.bind (fX5_rowBits qq v2 x3 I) fun q12 =>
            some q12
          else
            Option.bind (fX5_columnBits qq v2 x6 I) fun q11 =>
            some q11
        ) fun q10 =>
        if (q10 &&& (L qq 3)) = (0 : Int64) then
          if x6 = 0 then
            Option.bind (
              if 0 ≤ x3 then
                some (-v3)
              else
                some v3
            ) fun q15 =>
            Option.bind (fX5_rowBits qq v2 q15 I) fun q16 =>
            some (q16 &&& (L qq 4))
          else
            Option.bind (
              if 0 ≤ x6 then
                some (-v3)
              else
                some v3
            ) fun q13 =>
            Option.bind (fX5_columnBits qq v2 q13 I) fun q14 =>
            some (q14 &&& (L qq 4))
        else
          some (0 : Int64)
    else
      some (0 : Int64)
  else
    some (0 : Int64)
set_option maxRecDepth 100000 in
set_option maxHeartbeats 4000000 in
theorem tX5_castBy {g : GG} {n d : Nat} {r : HR} {qq : Nat} (hqq : isQ qq) (hr : rQ r qq) (hn : qq + 23 ≤ n) {v1 : Int32} {v2 : Int32} {v3 : Int32} {I : HI} {L : HL} {res : Int64} (hf : fX5_castBy qq v1 v2 v3 I L = some res) : CT g mX5_castBy (d + 3) 0 0 n r I L [.ref qq, .int v1, .int v2, .int v3] (PoL n r res I L) := by
  refine CT.of rfl (Nat.le_of_ble_eq_true rfl) ?_
  show V g mX5_castBy (d + 3) 0 0 n r I L 0 [some (.ref qq), some (.int v1), some (.int v2), some (.int v3)] [] (PoL n r res I L)
  refine V_aload_n (pc := 0) dX5_castBy_0 rfl rfl rfl ?_
  refine V_getI (pc := 1) dX5_castBy_1 flX5_59 rfl (by omega) (congrArg Prod.fst (shQ hqq)) rfl ?_
  refine V_if_gt (pc := 4) (tgt := 9) dX5_castBy_4 (by decide) rfl (fun hc => ?_) (fun hc => ?_)
  · replace hf := (if_pos hc).symm.trans hf
    refine V_iload_n (pc := 9) dX5_castBy_9 rfl rfl rfl ?_
    refine V_aload_n (pc := 10) dX5_castBy_10 rfl rfl rfl ?_
    refine V_getI (pc := 11) dX5_castBy_11 flX5_59 rfl (by omega) (congrArg Prod.fst (shQ hqq)) rfl ?_
    obtain ⟨hc1, hf⟩ := nif hf
    refine V_irem (pc := 14) dX5_castBy_14 hc1 rfl ?_
    refine V_iload_n (pc := 15) dX5_castBy_15 rfl rfl rfl ?_
    refine V_aload_n (pc := 16) dX5_castBy_16 rfl rfl rfl ?_
    refine V_getI (pc := 17) dX5_castBy_17 flX5_59 rfl (by omega) (congrArg Prod.fst (shQ hqq)) rfl ?_
    obtain ⟨hc2, hf⟩ := nif hf
    refine V_irem (pc := 20) dX5_castBy_20 hc2 rfl ?_
    refine V_isub (pc := 21) dX5_castBy_21 rfl ?_
    let x3 : Int32 := ((v1 - v1 / (I qq 0) * (I qq 0)) - (v2 - v2 / (I qq 0) * (I qq 0)))
    refine V_istore (ls' := [some _, some _, some _, some _, some _]) (pc := 22) dX5_castBy_22 (Nat.le_of_ble_eq_true rfl) rfl rfl ?_
    refine V_iload_n (pc := 24) dX5_castBy_24 rfl rfl rfl ?_
    refine V_aload_n (pc := 25) dX5_castBy_25 rfl rfl rfl ?_
    refine V_getI (pc := 26) dX5_castBy_26 flX5_59 rfl (by omega) (congrArg Prod.fst (shQ hqq)) rfl ?_
    obtain ⟨hc4, hf⟩ := nif hf
    refine V_idiv (pc := 29) dX5_castBy_29 hc4 rfl ?_
    refine V_iload_n (pc := 30) dX5_castBy_30 rfl rfl rfl ?_
    refine V_aload_n (pc := 31) dX5_castBy_31 rfl rfl rfl ?_
    refine V_getI (pc := 32) dX5_castBy_32 flX5_59 rfl (by omega) (congrArg Prod.fst (shQ hqq)) rfl ?_
    obtain ⟨hc5, hf⟩ := nif hf
    refine V_idiv (pc := 35) dX5_castBy_35 hc5 rfl ?_
    refine V_isub (pc := 36) dX5_castBy_36 rfl ?_
    let x6 : Int32 := ((v1 / (I qq 0)) - (v2 / (I qq 0)))
    refine V_istore (ls' := [some _, some _, some _, some _, some _, some _]) (pc := 37) dX5_castBy_37 (Nat.le_of_ble_eq_true rfl) rfl rfl ?_
    refine V_iload (pc := 39) dX5_castBy_39 rfl rfl ?_
    obtain ⟨b7, hb7, hf⟩ := bnd hf
    have KTb7 : b7 = true → V g mX5_castBy (d + 3) 0 0 n r I L 49 [some (.ref qq), some (.int v1), some (.int v2), some (.int v3), some (.int x3), some (.int x6)] [] (PoL n r res I L) := fun hc => by
      replace hf := (if_pos hc).symm.trans hf
      refine V_iload_n (pc := 49) dX5_castBy_49 rfl rfl rfl ?_
      refine V_iload_n (pc := 50) dX5_castBy_50 rfl rfl rfl ?_
      refine V_icmp_ne (pc := 51) (tgt := 56) dX5_castBy_51 (by decide) rfl (fun hc => ?_) (fun hc => ?_)
      · replace hf := (if_neg hc).symm.trans hf
        refine V_iload (pc := 56) dX5_castBy_56 rfl rfl ?_
        obtain ⟨q10, hq10, hf⟩ := bnd hf
        have Kq10 : V g mX5_castBy (d + 3) 0 0 n r I L 78 [some (.ref qq), none, some (.int v2), some (.int v3), some (.int x3), some (.int x6)] [.long q10] (PoL n r res I L) := by
          refine V_lstore (ls' := [some _, none, some _, some _, some _, some _, some _, none]) (pc := 78) dX5_castBy_78 (Nat.le_of_ble_eq_true rfl) rfl rfl ?_
          refine V_lload (pc := 80) dX5_castBy_80 rfl rfl ?_
          refine V_aload_n (pc := 82) dX5_castBy_82 rfl rfl rfl ?_
          refine V_getL (pc := 83) dX5_castBy_83 flX5_47 rfl (by omega) (congrArg Prod.fst (shQ hqq)) rfl ?_
          refine V_land (pc := 86) dX5_castBy_86 rfl ?_
          refine V_lconst (pc := 87) dX5_castBy_87 lc_0 rfl ?_
          refine V_lc_eq (pc := 88) (tgt := 94) dX5_castBy_88 rfl dX5_castBy_89 (by decide) rfl (fun hc => ?_) (fun hc => ?_)
          · replace hf := (if_pos hc).symm.trans hf
            refine V_iload (pc := 94) dX5_castBy_94 rfl rfl ?_
            refine V_if_ne (pc := 96) (tgt := 121) dX5_castBy_96 (by decide) rfl (fun hc => ?_) (fun hc => ?_)
            · replace hf := (if_neg hc).symm.trans hf
              refine V_aload_n (pc := 121) dX5_castBy_121 rfl rfl rfl ?_
              refine V_iload_n (pc := 122) dX5_castBy_122 rfl rfl rfl ?_
              refine V_iload (pc := 123) dX5_castBy_123 rfl rfl ?_
              obtain ⟨q13, hq13, hf⟩ := bnd hf
              have Kq13 : V g mX5_castBy (d + 3) 0 0 n r I L 134 [some (.ref qq)] [.int q13, .int v2, .ref qq] (PoL n r res I L) := by
                obtain ⟨q14, hq14, hf⟩ := bnd hf
                refine V_cVl (md' := mX5_columnBits) (pc := 134) dX5_castBy_134 mlX5_103 mVX5_columnBits (tX5_columnBits hqq hr (by omega) hq14) rfl (by omega) (congrArg Prod.fst (shQ hqq)) rfl (Nat.le_of_ble_eq_true rfl) rfl ?_
                refine V_aload_n (pc := 137) dX5_castBy_137 rfl rfl rfl ?_
                refine V_getL (pc := 138) dX5_castBy_138 flX5_70 rfl (by omega) (congrArg Prod.fst (shQ hqq)) rfl ?_
                refine V_land (pc := 141) dX5_castBy_141 rfl ?_
                cases hf
                exact V_lret (pc := 142) dX5_castBy_142 rfl PoL_mk
              refine V_if_ge (pc := 125) (tgt := 132) dX5_castBy_125 (by decide) rfl (fun hc => ?_) (fun hc => ?_)
              · replace hq13 := (if_pos hc).symm.trans hq13
                refine V_iload_n (pc := 132) dX5_castBy_132 rfl rfl rfl ?_
                refine V_ineg (pc := 133) dX5_castBy_133 rfl ?_
                cases hq13
                exact V_wk Kq13 ⟨rfl, trivial⟩
              · replace hq13 := (if_neg hc).symm.trans hq13
                refine V_iload_n (pc := 128) dX5_castBy_128 rfl rfl rfl ?_
                refine V_goto (pc := 129) (tgt := 134) dX5_castBy_129 (by decide) ?_
                cases hq13
                exact V_wk Kq13 ⟨rfl, trivial⟩
            · replace hf := (if_pos hc).symm.trans hf
              refine V_aload_n (pc := 99) dX5_castBy_99 rfl rfl rfl ?_
              refine V_iload_n (pc := 100) dX5_castBy_100 rfl rfl rfl ?_
              refine V_iload (pc := 101) dX5_castBy_101 rfl rfl ?_
              obtain ⟨q15, hq15, hf⟩ := bnd hf
              have Kq15 : V g mX5_castBy (d + 3) 0 0 n r I L 112 [some (.ref qq)] [.int q15, .int v2, .ref qq] (PoL n r res I L) := by
                obtain ⟨q16, hq16, hf⟩ := bnd hf
                refine V_cVl (md' := mX5_rowBits) (pc := 112) dX5_castBy_112 mlX5_99 mVX5_rowBits (tX5_rowBits hqq hr (by omega) hq16) rfl (by omega) (congrArg Prod.fst (shQ hqq)) rfl (Nat.le_of_ble_eq_true rfl) rfl ?_
                refine V_aload_n (pc := 115) dX5_castBy_115 rfl rfl rfl ?_
                refine V_getL (pc := 116) dX5_castBy_116 flX5_70 rfl (by omega) (congrArg Prod.fst (shQ hqq)) rfl ?_
                refine V_land (pc := 119) dX5_castBy_119 rfl ?_
                cases hf
                exact V_lret (pc := 120) dX5_castBy_120 rfl PoL_mk
              refine V_if_ge (pc := 103) (tgt := 110) dX5_castBy_103 (by decide) rfl (fun hc => ?_) (fun hc => ?_)
              · replace hq15 := (if_pos hc).symm.trans hq15
                refine V_iload_n (pc := 110) dX5_castBy_110 rfl rfl rfl ?_
                refine V_ineg (pc := 111) dX5_castBy_111 rfl ?_
                cases hq15
                exact V_wk Kq15 ⟨rfl, trivial⟩
              · replace hq15 := (if_neg hc).symm.trans hq15
                refine V_iload_n (pc := 106) dX5_castBy_106 rfl rfl rfl ?_
                refine V_goto (pc := 107) (tgt := 112) dX5_castBy_107 (by decide) ?_
                cases hq15
                exact V_wk Kq15 ⟨rfl, trivial⟩
          · replace hf := (if_neg hc).symm.trans hf
            refine V_lconst (pc := 92) dX5_castBy_92 lc_0 rfl ?_
            cases hf
            exact V_lret (pc := 93) dX5_castBy_93 rfl PoL_mk
        refine V_if_ne (pc := 58) (tgt := 71) dX5_castBy_58 (by decide) rfl (fun hc => ?_) (fun hc => ?_)
        · replace hq10 := (if_neg hc).symm.trans hq10
          refine V_aload_n (pc := 71) dX5_castBy_71 rfl rfl rfl ?_
          refine V_iload_n (pc := 72) dX5_castBy_72 rfl rfl rfl ?_
          refine V_iload (pc := 73) dX5_castBy_73 rfl rfl ?_
          obtain ⟨q11, hq11, hq10⟩ := bnd hq10
          refine V_cVl (md' := mX5_columnBits) (pc := 75) dX5_castBy_75 mlX5_103 mVX5_columnBits (tX5_columnBits hqq hr (by omega) hq11) rfl (by omega) (congrArg Prod.fst (shQ hqq)) rfl (Nat.le_of_ble_eq_true rfl) rfl ?_
          cases hq10
          exact V_wk Kq10 ⟨rfl, ⟨rfl, ⟨rfl, ⟨rfl, ⟨rfl, trivial⟩⟩⟩⟩⟩
        · replace hq10 := (if_pos hc).symm.trans hq10
          refine V_aload_n (pc := 61) dX5_castBy_61 rfl rfl rfl ?_
          refine V_iload_n (pc := 62) dX5_castBy_62 rfl rfl rfl ?_
          refine V_iload (pc := 63) dX5_castBy_63 rfl rfl ?_
          obtain ⟨q12, hq12, hq10⟩ := bnd hq10
          refine V_cVl (md' := mX5_rowBits) (pc := 65) dX5_castBy_65 mlX5_99 mVX5_rowBits (tX5_rowBits hqq hr (by omega) hq12) rfl (by omega) (congrArg Prod.fst (shQ hqq)) rfl (Nat.le_of_ble_eq_true rfl) rfl ?_
          refine V_goto (pc := 68) (tgt := 78) dX5_castBy_68 (by decide) ?_
          cases hq10
          exact V_wk Kq10 ⟨rfl, ⟨rfl, ⟨rfl, ⟨rfl, ⟨rfl, trivial⟩⟩⟩⟩⟩
      · replace hf := (if_pos hc).symm.trans hf
        refine V_lconst (pc := 54) dX5_castBy_54 lc_0 rfl ?_
        cases hf
        exact V_lret (pc := 55) dX5_castBy_55 rfl PoL_mk
    have KFb7 : ¬ b7 = true → V g mX5_castBy (d + 3) 0 0 n r I L 54 [some (.ref qq), some (.int v1), some (.int v2), some (.int v3), some (.int x3), some (.int x6)] [] (PoL n r res I L) := fun hc => by
      replace hf := (if_neg hc).symm.trans hf
      refine V_lconst (pc := 54) dX5_castBy_54 lc_0 rfl ?_
      cases hf
      exact V_lret (pc := 55) dX5_castBy_55 rfl PoL_mk
    refine V_if_eq (pc := 41) (tgt := 49) dX5_castBy_41 (by decide) rfl (fun hc => ?_) (fun hc => ?_)
    · replace hb7 := (if_pos hc).symm.trans hb7
      cases hb7
      exact KTb7 rfl
    · replace hb7 := (if_neg hc).symm.trans hb7
      refine V_iload (pc := 44) dX5_castBy_44 rfl rfl ?_
      refine V_if_ne (pc := 46) (tgt := 54) dX5_castBy_46 (by decide) rfl (fun hc => ?_) (fun hc => ?_)
      · replace hb7 := (if_neg hc).symm.trans hb7
        cases hb7
        exact KFb7 (nbt rfl)
      · replace hb7 := (if_pos hc).symm.trans hb7
        cases hb7
        exact KTb7 rfl
  · replace hf := (if_neg hc).symm.trans hf
    refine V_lconst (pc := 7) dX5_castBy_7 lc_0 rfl ?_
    cases hf
    exact V_lret (pc := 8) dX5_castBy_8 rfl PoL_mk
/-! ShadowDoors$Quarter.settle -/
noncomputable def fX5_settle_43 (qq : Nat) : Nat → Int32 → HI → HL → Option (HL)
  | 0, _, _, _ => none
  | fu + 1, y1, I, L =>
    if (I qq 1) ≤ y1 then
      some L
    else
      let L4 : HL := up2 L qq 5 ((L qq 5) ||| ((1 : Int64) <<< ((y1 * (I qq 0)).toInt64 &&& 63)))
      fX5_settle_43 qq fu (y1 + (1 : Int32)) I L4
set_option maxRecDepth 100000 in
set_option maxHeartbeats 4000000 in
theorem lX5_settle_43 {g : GG} {n d : Nat} {r : HR} {qq : Nat} (hqq : isQ qq) (hr : rQ r qq) (hn : qq + 23 ≤ n) {P : PP} : ∀ (fu : Nat) (y1 : Int32) (I : HI) (L : HL) (res : HL), fX5_settle_43 qq fu y1 I L = some res → V g mX5_settle (d + 4) 0 0 n r I res 74 [some (.ref qq)] [] P → V g mX5_settle (d + 4) 0 0 n r I L 43 [some (.ref qq), some (.int y1)] [] P := by
  intro fu
  induction fu with
  | zero => intro y1 I L res hf; cases (show none = some res from hf)
  | succ fu ih =>
    intro y1 I L res hf K
    refine V_iload_n (pc := 43) dX5_settle_43 rfl rfl rfl ?_
    refine V_aload_n (pc := 44) dX5_settle_44 rfl rfl rfl ?_
    refine V_getI (pc := 45) dX5_settle_45 flX5_62 rfl (by omega) (congrArg Prod.fst (shQ hqq)) rfl ?_
    refine V_icmp_ge (pc := 48) (tgt := 74) dX5_settle_48 (by decide) rfl (fun hc => ?_) (fun hc => ?_)
    · replace hf := (if_pos hc).symm.trans hf
      cases hf
      exact V_wk K ⟨rfl, trivial⟩
    · replace hf := (if_neg hc).symm.trans hf
      refine V_aload_n (pc := 51) dX5_settle_51 rfl rfl rfl ?_
      refine V_dup (pc := 52) dX5_settle_52 rfl rfl ?_
      refine V_getL (pc := 53) dX5_settle_53 flX5_73 rfl (by omega) (congrArg Prod.fst (shQ hqq)) rfl ?_
      refine V_lconst (pc := 56) dX5_settle_56 lc_1 rfl ?_
      refine V_iload_n (pc := 57) dX5_settle_57 rfl rfl rfl ?_
      refine V_aload_n (pc := 58) dX5_settle_58 rfl rfl rfl ?_
      refine V_getI (pc := 59) dX5_settle_59 flX5_59 rfl (by omega) (congrArg Prod.fst (shQ hqq)) rfl ?_
      refine V_imul (pc := 62) dX5_settle_62 rfl ?_
      refine V_lshl (pc := 63) dX5_settle_63 rfl ?_
      refine V_lor (pc := 64) dX5_settle_64 rfl ?_
      let L4 : HL := up2 L qq 5 ((L qq 5) ||| ((1 : Int64) <<< ((y1 * (I qq 0)).toInt64 &&& 63)))
      refine V_putL (pc := 65) dX5_settle_65 flX5_73 rfl rfl (by omega) (congrArg Prod.fst (shQ hqq)) rfl ?_
      refine V_iinc (ls' := [some _, some _]) (pc := 68) dX5_settle_68 rfl (Nat.le_of_ble_eq_true rfl) (congrArg _ ic_1) rfl rfl ?_
      refine V_goto (pc := 71) (tgt := 43) dX5_settle_71 (by decide) ?_
      exact V_wk (ih _ _ _ _ hf K) ⟨rfl, ⟨rfl, trivial⟩⟩
noncomputable def fX5_settle_89 (qq : Nat) : Nat → Int32 → Int32 → HI → HL → Option (HL)
  | 0, _, _, _, _ => none
  | fu + 1, y1, y2, I, L =>
    if (I (qq + 7) 0) ≤ y2 then
      some L
    else
      if inb y2 (capT (qq + 7)) = true then
        if inb y1 (capT (qq + 1)) = true then
          if inb y1 (capT (qq + 1)) = true then
            Option.bind (fX5_castBy qq (I (qq + 7 + 2) y2.toNatClampNeg) (I (qq + 1 + 2) y1.toNatClampNeg) (I (qq + 1 + 3) y1.toNatClampNeg) I L) fun q9 =>
            if inb ((y1 * (4 : Int32)) + y2) 32 = true then
              let L11 : HL := up2 L (qq + 22) ((y1 * (4 : Int32)) + y2).toNatClampNeg q9
              fX5_settle_89 qq fu y1 (y2 + (1 : Int32)) I L11
            else none
          else none
        else none
      else none
set_option maxRecDepth 100000 in
set_option maxHeartbeats 4000000 in
theorem lX5_settle_89 {g : GG} {n d : Nat} {r : HR} {qq : Nat} (hqq : isQ qq) (hr : rQ r qq) (hn : qq + 23 ≤ n) {P : PP} : ∀ (fu : Nat) (y1 : Int32) (y2 : Int32) (I : HI) (L : HL) (res : HL), fX5_settle_89 qq fu y1 y2 I L = some res → V g mX5_settle (d + 4) 0 0 n r I res 147 [some (.ref qq), some (.int y1)] [] P → V g mX5_settle (d + 4) 0 0 n r I L 89 [some (.ref qq), some (.int y1), some (.int y2)] [] P := by
  intro fu
  induction fu with
  | zero => intro y1 y2 I L res hf; cases (show none = some res from hf)
  | succ fu ih =>
    intro y1 y2 I L res hf K
    refine V_iload_n (pc := 89) dX5_settle_89 rfl rfl rfl ?_
    refine V_aload_n (pc := 90) dX5_settle_90 rfl rfl rfl ?_
    refine V_getR (pc := 91) dX5_settle_91 flX5_20 rfl (by omega) (congrArg Prod.fst (shQ hqq)) (rQ_7 hr) rfl ?_
    refine V_getI (pc := 94) dX5_settle_94 flX5_51 rfl (by omega) (congrArg Prod.fst (shT (qT_7 hqq))) rfl ?_
    refine V_icmp_ge (pc := 97) (tgt := 147) dX5_settle_97 (by decide) rfl (fun hc => ?_) (fun hc => ?_)
    · replace hf := (if_pos hc).symm.trans hf
      cases hf
      exact V_wk K ⟨rfl, ⟨rfl, trivial⟩⟩
    · replace hf := (if_neg hc).symm.trans hf
      refine V_aload_n (pc := 100) dX5_settle_100 rfl rfl rfl ?_
      refine V_getR (pc := 101) dX5_settle_101 flX5_33 rfl (by omega) (congrArg Prod.fst (shQ hqq)) (rQ_11 hr) rfl ?_
      refine V_iload_n (pc := 104) dX5_settle_104 rfl rfl rfl ?_
      refine V_iconst (pc := 105) dX5_settle_105 ic_4 rfl ?_
      refine V_imul (pc := 106) dX5_settle_106 rfl ?_
      refine V_iload_n (pc := 107) dX5_settle_107 rfl rfl rfl ?_
      refine V_iadd (pc := 108) dX5_settle_108 rfl ?_
      refine V_aload_n (pc := 109) dX5_settle_109 rfl rfl rfl ?_
      refine V_aload_n (pc := 110) dX5_settle_110 rfl rfl rfl ?_
      refine V_getR (pc := 111) dX5_settle_111 flX5_20 rfl (by omega) (congrArg Prod.fst (shQ hqq)) (rQ_7 hr) rfl ?_
      refine V_getR (pc := 114) dX5_settle_114 flX5_76 rfl (by omega) (congrArg Prod.fst (shT (qT_7 hqq))) (rT_2 (rQ_s7 hr)) rfl ?_
      refine V_iload_n (pc := 117) dX5_settle_117 rfl rfl rfl ?_
      obtain ⟨hc6, hf⟩ := pif hf
      refine V_iald (pc := 118) dX5_settle_118 (by omega) (shT2 (qT_7 hqq)) hc6 rfl ?_
      refine V_aload_n (pc := 119) dX5_settle_119 rfl rfl rfl ?_
      refine V_getR (pc := 120) dX5_settle_120 flX5_14 rfl (by omega) (congrArg Prod.fst (shQ hqq)) (rQ_6 hr) rfl ?_
      refine V_getR (pc := 123) dX5_settle_123 flX5_76 rfl (by omega) (congrArg Prod.fst (shT (qT_6 hqq))) (rT_2 (rQ_s6 hr)) rfl ?_
      refine V_iload_n (pc := 126) dX5_settle_126 rfl rfl rfl ?_
      obtain ⟨hc7, hf⟩ := pif hf
      refine V_iald (pc := 127) dX5_settle_127 (by omega) (shT2 (qT_6 hqq)) hc7 rfl ?_
      refine V_aload_n (pc := 128) dX5_settle_128 rfl rfl rfl ?_
      refine V_getR (pc := 129) dX5_settle_129 flX5_14 rfl (by omega) (congrArg Prod.fst (shQ hqq)) (rQ_6 hr) rfl ?_
      refine V_getR (pc := 132) dX5_settle_132 flX5_79 rfl (by omega) (congrArg Prod.fst (shT (qT_6 hqq))) (rT_3 (rQ_s6 hr)) rfl ?_
      refine V_iload_n (pc := 135) dX5_settle_135 rfl rfl rfl ?_
      obtain ⟨hc8, hf⟩ := pif hf
      refine V_iald (pc := 136) dX5_settle_136 (by omega) (shT3 (qT_6 hqq)) hc8 rfl ?_
      obtain ⟨q9, hq9, hf⟩ := bnd hf
      refine V_cVl (md' := mX5_castBy) (pc := 137) dX5_settle_137 mlX5_82 mVX5_castBy (tX5_castBy hqq hr (by omega) hq9) rfl (by omega) (congrArg Prod.fst (shQ hqq)) rfl (Nat.le_of_ble_eq_true rfl) rfl ?_
      obtain ⟨hc10, hf⟩ := pif hf
      let L11 : HL := up2 L (qq + 22) ((y1 * (4 : Int32)) + y2).toNatClampNeg q9
      refine V_last (pc := 140) dX5_settle_140 (by omega) (shQ22 hqq) hc10 rfl ?_
      refine V_iinc (ls' := [some _, some _, some _]) (pc := 141) dX5_settle_141 rfl (Nat.le_of_ble_eq_true rfl) (congrArg _ ic_1) rfl rfl ?_
      refine V_goto (pc := 144) (tgt := 89) dX5_settle_144 (by decide) ?_
      exact V_wk (ih _ _ _ _ _ hf K) ⟨rfl, ⟨rfl, ⟨rfl, trivial⟩⟩⟩
noncomputable def fX5_settle_76 (qq : Nat) : Nat → Int32 → HI → HL → Option (HL)
  | 0, _, _, _ => none
  | fu + 1, y1, I, L =>
    if (I (qq + 1) 0) ≤ y1 then
      some L
    else
      Option.bind (fX5_settle_89 qq FUEL y1 (0 : Int32) I L) fun q12 =>
      fX5_settle_76 qq fu (y1 + (1 : Int32)) I q12
set_option maxRecDepth 100000 in
set_option maxHeartbeats 4000000 in
theorem lX5_settle_76 {g : GG} {n d : Nat} {r : HR} {qq : Nat} (hqq : isQ qq) (hr : rQ r qq) (hn : qq + 23 ≤ n) {P : PP} : ∀ (fu : Nat) (y1 : Int32) (I : HI) (L : HL) (res : HL), fX5_settle_76 qq fu y1 I L = some res → P none n r I res → V g mX5_settle (d + 4) 0 0 n r I L 76 [some (.ref qq), some (.int y1)] [] P := by
  intro fu
  induction fu with
  | zero => intro y1 I L res hf; cases (show none = some res from hf)
  | succ fu ih =>
    intro y1 I L res hf K
    refine V_iload_n (pc := 76) dX5_settle_76 rfl rfl rfl ?_
    refine V_aload_n (pc := 77) dX5_settle_77 rfl rfl rfl ?_
    refine V_getR (pc := 78) dX5_settle_78 flX5_14 rfl (by omega) (congrArg Prod.fst (shQ hqq)) (rQ_6 hr) rfl ?_
    refine V_getI (pc := 81) dX5_settle_81 flX5_51 rfl (by omega) (congrArg Prod.fst (shT (qT_6 hqq))) rfl ?_
    refine V_icmp_ge (pc := 84) (tgt := 153) dX5_settle_84 (by decide) rfl (fun hc => ?_) (fun hc => ?_)
    · replace hf := (if_pos hc).symm.trans hf
      cases hf
      exact V_vret (pc := 153) dX5_settle_153 rfl K
    · replace hf := (if_neg hc).symm.trans hf
      refine V_iconst (pc := 87) dX5_settle_87 ic_0 rfl ?_
      refine V_istore_n (ls' := [some _, some _, some _]) (pc := 88) dX5_settle_88 rfl (Nat.le_of_ble_eq_true rfl) rfl rfl ?_
      obtain ⟨q12, hq12, hf⟩ := bnd hf
      refine V_wk (lX5_settle_89 hqq hr hn FUEL _ _ _ _ _ hq12 ?_) ⟨rfl, ⟨rfl, ⟨rfl, trivial⟩⟩⟩
      refine V_iinc (ls' := [some _, some _]) (pc := 147) dX5_settle_147 rfl (Nat.le_of_ble_eq_true rfl) (congrArg _ ic_1) rfl rfl ?_
      refine V_goto (pc := 150) (tgt := 76) dX5_settle_150 (by decide) ?_
      exact V_wk (ih _ _ _ _ hf K) ⟨rfl, ⟨rfl, trivial⟩⟩
noncomputable def fX5_settle (qq : Nat) (I : HI) (L : HL) : Option (HL) :=
  Option.bind (
    if (I qq 2) < (64 : Int32) then
      some (((1 : Int64) <<< ((I qq 2).toInt64 &&& 63)) - (1 : Int64))
    else
      some (-1 : Int64)
  ) fun q1 =>
  let L2 : HL := up2 L qq 4 (q1 &&& ((L qq 3) ^^^ (-1 : Int64)))
  let L3 : HL := up2 L2 qq 5 (0 : Int64)
  Option.bind (fX5_settle_43 qq FUEL (0 : Int32) I L3) fun q5 =>
  Option.bind (fX5_settle_76 qq FUEL (0 : Int32) I q5) fun q13 =>
  some q13
set_option maxRecDepth 100000 in
set_option maxHeartbeats 4000000 in
theorem tX5_settle {g : GG} {n d : Nat} {r : HR} {qq : Nat} (hqq : isQ qq) (hr : rQ r qq) (hn : qq + 23 ≤ n) {I : HI} {L : HL} {res : HL} (hf : fX5_settle qq I L = some res) : CT g mX5_settle (d + 4) 0 0 n r I L [.ref qq] (PoV n r I res) := by
  refine CT.of rfl (Nat.le_of_ble_eq_true rfl) ?_
  show V g mX5_settle (d + 4) 0 0 n r I L 0 [some (.ref qq)] [] (PoV n r I res)
  refine V_aload_n (pc := 0) dX5_settle_0 rfl rfl rfl ?_
  refine V_aload_n (pc := 1) dX5_settle_1 rfl rfl rfl ?_
  refine V_getI (pc := 2) dX5_settle_2 flX5_65 rfl (by omega) (congrArg Prod.fst (shQ hqq)) rfl ?_
  refine V_bipush (pc := 5) dX5_settle_5 bp_64 rfl ?_
  obtain ⟨q1, hq1, hf⟩ := bnd hf
  have Kq1 : V g mX5_settle (d + 4) 0 0 n r I L 24 [some (.ref qq)] [.long q1, .ref qq] (PoV n r I res) := by
    refine V_aload_n (pc := 24) dX5_settle_24 rfl rfl rfl ?_
    refine V_getL (pc := 25) dX5_settle_25 flX5_47 rfl (by omega) (congrArg Prod.fst (shQ hqq)) rfl ?_
    refine V_ldc2 (pc := 28) dX5_settle_28 klX5_68 rfl ?_
    refine V_lxor (pc := 31) dX5_settle_31 rfl ?_
    refine V_land (pc := 32) dX5_settle_32 rfl ?_
    let L2 : HL := up2 L qq 4 (q1 &&& ((L qq 3) ^^^ (-1 : Int64)))
    refine V_putL (pc := 33) dX5_settle_33 flX5_70 rfl rfl (by omega) (congrArg Prod.fst (shQ hqq)) rfl ?_
    refine V_aload_n (pc := 36) dX5_settle_36 rfl rfl rfl ?_
    refine V_lconst (pc := 37) dX5_settle_37 lc_0 rfl ?_
    let L3 : HL := up2 L2 qq 5 (0 : Int64)
    refine V_putL (pc := 38) dX5_settle_38 flX5_73 rfl rfl (by omega) (congrArg Prod.fst (shQ hqq)) rfl ?_
    refine V_iconst (pc := 41) dX5_settle_41 ic_0 rfl ?_
    refine V_istore_n (ls' := [some _, some _]) (pc := 42) dX5_settle_42 rfl (Nat.le_of_ble_eq_true rfl) rfl rfl ?_
    obtain ⟨q5, hq5, hf⟩ := bnd hf
    refine V_wk (lX5_settle_43 hqq hr hn FUEL _ _ _ _ hq5 ?_) ⟨rfl, ⟨rfl, trivial⟩⟩
    refine V_iconst (pc := 74) dX5_settle_74 ic_0 rfl ?_
    refine V_istore_n (ls' := [some _, some _]) (pc := 75) dX5_settle_75 rfl (Nat.le_of_ble_eq_true rfl) rfl rfl ?_
    obtain ⟨q13, hq13, hf⟩ := bnd hf
    refine V_wk (lX5_settle_76 hqq hr hn FUEL _ _ _ _ hq13 ?_) ⟨rfl, ⟨rfl, trivial⟩⟩
    cases hf
    exact PoV_mk
  refine V_icmp_lt (pc := 7) (tgt := 16) dX5_settle_7 (by decide) rfl (fun hc => ?_) (fun hc => ?_)
  · replace hq1 := (if_pos hc).symm.trans hq1
    refine V_lconst (pc := 16) dX5_settle_16 lc_1 rfl ?_
    refine V_aload_n (pc := 17) dX5_settle_17 rfl rfl rfl ?_
    refine V_getI (pc := 18) dX5_settle_18 flX5_65 rfl (by omega) (congrArg Prod.fst (shQ hqq)) rfl ?_
    refine V_lshl (pc := 21) dX5_settle_21 rfl ?_
    refine V_lconst (pc := 22) dX5_settle_22 lc_1 rfl ?_
    refine V_lsub (pc := 23) dX5_settle_23 rfl ?_
    cases hq1
    exact V_wk Kq1 ⟨rfl, trivial⟩
  · replace hq1 := (if_neg hc).symm.trans hq1
    refine V_ldc2 (pc := 10) dX5_settle_10 klX5_68 rfl ?_
    refine V_goto (pc := 13) (tgt := 24) dX5_settle_13 (by decide) ?_
    cases hq1
    exact V_wk Kq1 ⟨rfl, trivial⟩
/-! ShadowDoors$Quarter.shadowBy -/
noncomputable def fX5_shadowBy_24 (qq : Nat) : Nat → Int32 → Int32 → Int64 → Int32 → HI → HL → Option (Int64)
  | 0, _, _, _, _, _, _ => none
  | fu + 1, y1, y3, y4, y6, I, L =>
    if (I (qq + 7) 0) ≤ y6 then
      some y4
    else
      if (b2i (fX11_isBit y3 y6)) = 0 then
        fX5_shadowBy_24 qq fu y1 y3 y4 (y6 + (1 : Int32)) I L
      else
        if inb ((y1 * (4 : Int32)) + y6) 32 = true then
          let x4 : Int64 := (y4 ||| (L (qq + 22) ((y1 * (4 : Int32)) + y6).toNatClampNeg))
          fX5_shadowBy_24 qq fu y1 y3 x4 (y6 + (1 : Int32)) I L
        else none
set_option maxRecDepth 100000 in
set_option maxHeartbeats 4000000 in
theorem lX5_shadowBy_24 {g : GG} {n d : Nat} {r : HR} {qq : Nat} (hqq : isQ qq) (hr : rQ r qq) (hn : qq + 23 ≤ n) {P : PP} : ∀ (fu : Nat) (y1 : Int32) (y3 : Int32) (y4 : Int64) (y6 : Int32) (I : HI) (L : HL) (res : Int64), fX5_shadowBy_24 qq fu y1 y3 y4 y6 I L = some res → P (some (.long res)) n r I L → V g mX5_shadowBy (d + 3) 0 0 n r I L 24 [some (.ref qq), some (.int y1), none, some (.int y3), some (.long y4), none, some (.int y6)] [] P := by
  intro fu
  induction fu with
  | zero => intro y1 y3 y4 y6 I L res hf; cases (show none = some res from hf)
  | succ fu ih =>
    intro y1 y3 y4 y6 I L res hf K
    refine V_iload (pc := 24) dX5_shadowBy_24 rfl rfl ?_
    refine V_aload_n (pc := 26) dX5_shadowBy_26 rfl rfl rfl ?_
    refine V_getR (pc := 27) dX5_shadowBy_27 flX5_20 rfl (by omega) (congrArg Prod.fst (shQ hqq)) (rQ_7 hr) rfl ?_
    refine V_getI (pc := 30) dX5_shadowBy_30 flX5_51 rfl (by omega) (congrArg Prod.fst (shT (qT_7 hqq))) rfl ?_
    refine V_icmp_ge (pc := 33) (tgt := 67) dX5_shadowBy_33 (by decide) rfl (fun hc => ?_) (fun hc => ?_)
    · replace hf := (if_pos hc).symm.trans hf
      refine V_lload (pc := 67) dX5_shadowBy_67 rfl rfl ?_
      cases hf
      exact V_lret (pc := 69) dX5_shadowBy_69 rfl K
    · replace hf := (if_neg hc).symm.trans hf
      refine V_iload_n (pc := 36) dX5_shadowBy_36 rfl rfl rfl ?_
      refine V_iload (pc := 37) dX5_shadowBy_37 rfl rfl ?_
      refine V_cNz (md' := mX11_isBit) (k := 4) (pc := 39) dX5_shadowBy_39 rfl mSX11_isBit (tX11_isBit rfl) rfl rfl (Nat.le_of_ble_eq_true rfl) rfl ?_
      refine V_if_eq (pc := 42) (tgt := 61) dX5_shadowBy_42 (by decide) rfl (fun hc => ?_) (fun hc => ?_)
      · replace hf := (if_pos hc).symm.trans hf
        refine V_iinc (ls' := [some _, some _, none, some _, some _, none, some _]) (pc := 61) dX5_shadowBy_61 rfl (Nat.le_of_ble_eq_true rfl) (congrArg _ ic_1) rfl rfl ?_
        refine V_goto (pc := 64) (tgt := 24) dX5_shadowBy_64 (by decide) ?_
        exact V_wk (ih _ _ _ _ _ _ _ hf K) ⟨rfl, ⟨rfl, ⟨rfl, ⟨rfl, ⟨rfl, trivial⟩⟩⟩⟩⟩
      · replace hf := (if_neg hc).symm.trans hf
        refine V_lload (pc := 45) dX5_shadowBy_45 rfl rfl ?_
        refine V_aload_n (pc := 47) dX5_shadowBy_47 rfl rfl rfl ?_
        refine V_getR (pc := 48) dX5_shadowBy_48 flX5_33 rfl (by omega) (congrArg Prod.fst (shQ hqq)) (rQ_11 hr) rfl ?_
        refine V_iload_n (pc := 51) dX5_shadowBy_51 rfl rfl rfl ?_
        refine V_iconst (pc := 52) dX5_shadowBy_52 ic_4 rfl ?_
        refine V_imul (pc := 53) dX5_shadowBy_53 rfl ?_
        refine V_iload (pc := 54) dX5_shadowBy_54 rfl rfl ?_
        refine V_iadd (pc := 56) dX5_shadowBy_56 rfl ?_
        obtain ⟨hc3, hf⟩ := pif hf
        refine V_lald (pc := 57) dX5_shadowBy_57 (by omega) (shQ22 hqq) hc3 rfl ?_
        refine V_lor (pc := 58) dX5_shadowBy_58 rfl ?_
        let x4 : Int64 := (y4 ||| (L (qq + 22) ((y1 * (4 : Int32)) + y6).toNatClampNeg))
        refine V_lstore (ls' := [some _, some _, none, some _, some _, none, some _]) (pc := 59) dX5_shadowBy_59 (Nat.le_of_ble_eq_true rfl) rfl rfl ?_
        refine V_iinc (ls' := [some _, some _, none, some _, some _, none, some _]) (pc := 61) dX5_shadowBy_61 rfl (Nat.le_of_ble_eq_true rfl) (congrArg _ ic_1) rfl rfl ?_
        refine V_goto (pc := 64) (tgt := 24) dX5_shadowBy_64 (by decide) ?_
        exact V_wk (ih _ _ _ _ _ _ _ hf K) ⟨rfl, ⟨rfl, ⟨rfl, ⟨rfl, ⟨rfl, trivial⟩⟩⟩⟩⟩
noncomputable def fX5_shadowBy (qq : Nat) (v1 : Int32) (v2 : Int32) (v3 : Int32) (I : HI) (L : HL) : Option (Int64) :=
  if inb v1 (capT (qq + 1)) = true then
    Option.bind (fX5_rowBits qq (I (qq + 1 + 2) v1.toNatClampNeg) v2 I) fun q2 =>
    Option.bind (fX5_shadowBy_24 qq FUEL v1 v3 (q2 &&& (L qq 4)) (0 : Int32) I L) fun q5 =>
    some q5
  else none
set_option maxRecDepth 100000 in
set_option maxHeartbeats 4000000 in
theorem tX5_shadowBy {g : GG} {n d : Nat} {r : HR} {qq : Nat} (hqq : isQ qq) (hr : rQ r qq) (hn : qq + 23 ≤ n) {v1 : Int32} {v2 : Int32} {v3 : Int32} {I : HI} {L : HL} {res : Int64} (hf : fX5_shadowBy qq v1 v2 v3 I L = some res) : CT g mX5_shadowBy (d + 3) 0 0 n r I L [.ref qq, .int v1, .int v2, .int v3] (PoL n r res I L) := by
  refine CT.of rfl (Nat.le_of_ble_eq_true rfl) ?_
  show V g mX5_shadowBy (d + 3) 0 0 n r I L 0 [some (.ref qq), some (.int v1), some (.int v2), some (.int v3)] [] (PoL n r res I L)
  refine V_aload_n (pc := 0) dX5_shadowBy_0 rfl rfl rfl ?_
  refine V_aload_n (pc := 1) dX5_shadowBy_1 rfl rfl rfl ?_
  refine V_getR (pc := 2) dX5_shadowBy_2 flX5_14 rfl (by omega) (congrArg Prod.fst (shQ hqq)) (rQ_6 hr) rfl ?_
  refine V_getR (pc := 5) dX5_shadowBy_5 flX5_76 rfl (by omega) (congrArg Prod.fst (shT (qT_6 hqq))) (rT_2 (rQ_s6 hr)) rfl ?_
  refine V_iload_n (pc := 8) dX5_shadowBy_8 rfl rfl rfl ?_
  obtain ⟨hc1, hf⟩ := pif hf
  refine V_iald (pc := 9) dX5_shadowBy_9 (by omega) (shT2 (qT_6 hqq)) hc1 rfl ?_
  refine V_iload_n (pc := 10) dX5_shadowBy_10 rfl rfl rfl ?_
  obtain ⟨q2, hq2, hf⟩ := bnd hf
  refine V_cVl (md' := mX5_rowBits) (pc := 11) dX5_shadowBy_11 mlX5_99 mVX5_rowBits (tX5_rowBits hqq hr (by omega) hq2) rfl (by omega) (congrArg Prod.fst (shQ hqq)) rfl (Nat.le_of_ble_eq_true rfl) rfl ?_
  refine V_aload_n (pc := 14) dX5_shadowBy_14 rfl rfl rfl ?_
  refine V_getL (pc := 15) dX5_shadowBy_15 flX5_70 rfl (by omega) (congrArg Prod.fst (shQ hqq)) rfl ?_
  refine V_land (pc := 18) dX5_shadowBy_18 rfl ?_
  refine V_lstore (ls' := [some _, some _, some _, some _, some _, none]) (pc := 19) dX5_shadowBy_19 (Nat.le_of_ble_eq_true rfl) rfl rfl ?_
  refine V_iconst (pc := 21) dX5_shadowBy_21 ic_0 rfl ?_
  refine V_istore (ls' := [some _, some _, some _, some _, some _, none, some _]) (pc := 22) dX5_shadowBy_22 (Nat.le_of_ble_eq_true rfl) rfl rfl ?_
  obtain ⟨q5, hq5, hf⟩ := bnd hf
  refine V_wk (lX5_shadowBy_24 hqq hr hn FUEL _ _ _ _ _ _ _ hq5 ?_) ⟨rfl, ⟨rfl, ⟨rfl, ⟨rfl, ⟨rfl, trivial⟩⟩⟩⟩⟩
  cases hf
  exact PoL_mk
/-! ShadowDoors$Quarter.spread -/
noncomputable def fX5_spread (qq : Nat) (v1 : Int64) (I : HI) (L : HL) : Int64 :=
  let x1 : Int64 := ((L qq 5) <<< (((I qq 0) - (1 : Int32)).toInt64 &&& 63))
  let x2 : Int64 := (((v1 &&& ((L qq 5) ^^^ (-1 : Int64))).toUInt64 >>> ((1 : Int32).toInt64.toUInt64 &&& Int64.toUInt64 63)).toInt64 ||| ((v1 &&& (x1 ^^^ (-1 : Int64))) <<< ((1 : Int32).toInt64 &&& 63)))
  ((((v1 ||| x2) ||| (v1.toUInt64 >>> ((I qq 0).toInt64.toUInt64 &&& Int64.toUInt64 63)).toInt64) ||| (v1 <<< ((I qq 0).toInt64 &&& 63))) &&& (L qq 4))
set_option maxRecDepth 100000 in
set_option maxHeartbeats 4000000 in
theorem tX5_spread {g : GG} {n d : Nat} {r : HR} {qq : Nat} (hqq : isQ qq) (hr : rQ r qq) (hn : qq + 23 ≤ n) {v1 : Int64} {I : HI} {L : HL} {res : Int64} (hf : fX5_spread qq v1 I L = res) : CT g mX5_spread (d + 1) 0 0 n r I L [.ref qq, .long v1] (PoL n r res I L) := by
  refine CT.of rfl (Nat.le_of_ble_eq_true rfl) ?_
  show V g mX5_spread (d + 1) 0 0 n r I L 0 [some (.ref qq), some (.long v1), none] [] (PoL n r res I L)
  refine V_aload_n (pc := 0) dX5_spread_0 rfl rfl rfl ?_
  refine V_getL (pc := 1) dX5_spread_1 flX5_73 rfl (by omega) (congrArg Prod.fst (shQ hqq)) rfl ?_
  refine V_aload_n (pc := 4) dX5_spread_4 rfl rfl rfl ?_
  refine V_getI (pc := 5) dX5_spread_5 flX5_59 rfl (by omega) (congrArg Prod.fst (shQ hqq)) rfl ?_
  refine V_iconst (pc := 8) dX5_spread_8 ic_1 rfl ?_
  refine V_isub (pc := 9) dX5_spread_9 rfl ?_
  refine V_lshl (pc := 10) dX5_spread_10 rfl ?_
  let x1 : Int64 := ((L qq 5) <<< (((I qq 0) - (1 : Int32)).toInt64 &&& 63))
  refine V_lstore_n (ls' := [some _, some _, none, some _, none]) (pc := 11) dX5_spread_11 rfl (Nat.le_of_ble_eq_true rfl) rfl rfl ?_
  refine V_lload_n (pc := 12) dX5_spread_12 rfl rfl rfl ?_
  refine V_aload_n (pc := 13) dX5_spread_13 rfl rfl rfl ?_
  refine V_getL (pc := 14) dX5_spread_14 flX5_73 rfl (by omega) (congrArg Prod.fst (shQ hqq)) rfl ?_
  refine V_ldc2 (pc := 17) dX5_spread_17 klX5_68 rfl ?_
  refine V_lxor (pc := 20) dX5_spread_20 rfl ?_
  refine V_land (pc := 21) dX5_spread_21 rfl ?_
  refine V_iconst (pc := 22) dX5_spread_22 ic_1 rfl ?_
  refine V_lushr (pc := 23) dX5_spread_23 rfl ?_
  refine V_lload_n (pc := 24) dX5_spread_24 rfl rfl rfl ?_
  refine V_lload_n (pc := 25) dX5_spread_25 rfl rfl rfl ?_
  refine V_ldc2 (pc := 26) dX5_spread_26 klX5_68 rfl ?_
  refine V_lxor (pc := 29) dX5_spread_29 rfl ?_
  refine V_land (pc := 30) dX5_spread_30 rfl ?_
  refine V_iconst (pc := 31) dX5_spread_31 ic_1 rfl ?_
  refine V_lshl (pc := 32) dX5_spread_32 rfl ?_
  refine V_lor (pc := 33) dX5_spread_33 rfl ?_
  let x2 : Int64 := (((v1 &&& ((L qq 5) ^^^ (-1 : Int64))).toUInt64 >>> ((1 : Int32).toInt64.toUInt64 &&& Int64.toUInt64 63)).toInt64 ||| ((v1 &&& (x1 ^^^ (-1 : Int64))) <<< ((1 : Int32).toInt64 &&& 63)))
  refine V_lstore (ls' := [some _, some _, none, some _, none, some _, none]) (pc := 34) dX5_spread_34 (Nat.le_of_ble_eq_true rfl) rfl rfl ?_
  refine V_lload_n (pc := 36) dX5_spread_36 rfl rfl rfl ?_
  refine V_lload (pc := 37) dX5_spread_37 rfl rfl ?_
  refine V_lor (pc := 39) dX5_spread_39 rfl ?_
  refine V_lload_n (pc := 40) dX5_spread_40 rfl rfl rfl ?_
  refine V_aload_n (pc := 41) dX5_spread_41 rfl rfl rfl ?_
  refine V_getI (pc := 42) dX5_spread_42 flX5_59 rfl (by omega) (congrArg Prod.fst (shQ hqq)) rfl ?_
  refine V_lushr (pc := 45) dX5_spread_45 rfl ?_
  refine V_lor (pc := 46) dX5_spread_46 rfl ?_
  refine V_lload_n (pc := 47) dX5_spread_47 rfl rfl rfl ?_
  refine V_aload_n (pc := 48) dX5_spread_48 rfl rfl rfl ?_
  refine V_getI (pc := 49) dX5_spread_49 flX5_59 rfl (by omega) (congrArg Prod.fst (shQ hqq)) rfl ?_
  refine V_lshl (pc := 52) dX5_spread_52 rfl ?_
  refine V_lor (pc := 53) dX5_spread_53 rfl ?_
  refine V_aload_n (pc := 54) dX5_spread_54 rfl rfl rfl ?_
  refine V_getL (pc := 55) dX5_spread_55 flX5_70 rfl (by omega) (congrArg Prod.fst (shQ hqq)) rfl ?_
  refine V_land (pc := 58) dX5_spread_58 rfl ?_
  cases hf
  exact V_lret (pc := 59) dX5_spread_59 rfl PoL_mk
/-! ShadowDoors$Things.isFull -/
noncomputable def fX8_isFull (tt : Nat) (I : HI) : Bool :=
  if (I tt 0) < (Int32.ofNat (capT tt)) then
    false
  else
    true
set_option maxRecDepth 100000 in
set_option maxHeartbeats 4000000 in
theorem tX8_isFull {g : GG} {n d : Nat} {r : HR} {tt : Nat} (htt : isT tt) (hr : rT r tt) (hn : tt + 6 ≤ n) {I : HI} {L : HL} {res : Bool} (hf : fX8_isFull tt I = res) : CT g mX8_isFull (d + 1) 0 0 n r I L [.ref tt] (PoB n r res I L) := by
  refine CT.of rfl (Nat.le_of_ble_eq_true rfl) ?_
  show V g mX8_isFull (d + 1) 0 0 n r I L 0 [some (.ref tt)] [] (PoB n r res I L)
  refine V_aload_n (pc := 0) dX8_isFull_0 rfl rfl rfl ?_
  refine V_getI (pc := 1) dX8_isFull_1 flX8_26 rfl (by omega) (congrArg Prod.fst (shT htt)) rfl ?_
  refine V_aload_n (pc := 4) dX8_isFull_4 rfl rfl rfl ?_
  refine V_getR (pc := 5) dX8_isFull_5 flX8_7 rfl (by omega) (congrArg Prod.fst (shT htt)) (rT_1 hr) rfl ?_
  refine V_alen (pc := 8) dX8_isFull_8 (by omega) (shT1 htt) (by decide) rfl ?_
  refine V_icmp_lt (pc := 9) (tgt := 16) dX8_isFull_9 (by decide) rfl (fun hc => ?_) (fun hc => ?_)
  · replace hf := (if_pos hc).symm.trans hf
    refine V_iconst (pc := 16) dX8_isFull_16 ic_0 rfl ?_
    cases hf
    exact V_zretE (pc := 17) dX8_isFull_17 rfl (show (0 : Int32) = b2i false from rfl) PoB_mk
  · replace hf := (if_neg hc).symm.trans hf
    refine V_iconst (pc := 12) dX8_isFull_12 ic_1 rfl ?_
    refine V_goto (pc := 13) (tgt := 17) dX8_isFull_13 (by decide) ?_
    cases hf
    exact V_zretE (pc := 17) dX8_isFull_17 rfl (show (1 : Int32) = b2i true from rfl) PoB_mk
/-! ShadowDoors$Reader.mayBegin -/
noncomputable def fX6_mayBegin (tl : Nat) (v1 : Int32) (v2 : Int32) (I : HI) : Bool :=
  if v1 = (0 : Int32) then
    if v2 = 0 then
      true
    else
      false
  else
    if v1 = (2 : Int32) then
      true
    else
      if v1 = (3 : Int32) then
        if (b2i (fX8_isFull (tl + 1) I)) = 0 then
          true
        else
          false
      else
        if v1 = (8 : Int32) then
          if (b2i (fX8_isFull (tl + 7) I)) = 0 then
            true
          else
            false
        else
          if v1 = (10 : Int32) then
            if (b2i (fX8_isFull (tl + 13) I)) = 0 then
              true
            else
              false
          else
            if v1 = (11 : Int32) then
              if (I 48 6) = 0 then
                true
              else
                false
            else
              if v1 = (12 : Int32) then
                if (I 48 7) = 0 then
                  true
                else
                  false
              else
                false
set_option maxRecDepth 100000 in
set_option maxHeartbeats 4000000 in
theorem tX6_mayBegin {g : GG} {n d : Nat} {tw dr sk tl ff : Nat} (hG : RG tw dr sk tl ff) (hn : 116 ≤ n) {v1 : Int32} {v2 : Int32} {I : HI} {L : HL} {res : Bool} (hf : fX6_mayBegin tl v1 v2 I = res) : CT g mX6_mayBegin (d + 2) 0 0 n (RT tw dr sk tl ff) I L [.ref 48, .int v1, .int v2] (PoB n (RT tw dr sk tl ff) res I L) := by
  refine CT.of rfl (Nat.le_of_ble_eq_true rfl) ?_
  show V g mX6_mayBegin (d + 2) 0 0 n (RT tw dr sk tl ff) I L 0 [some (.ref 48), some (.int v1), some (.int v2)] [] (PoB n (RT tw dr sk tl ff) res I L)
  refine V_iload_n (pc := 0) dX6_mayBegin_0 rfl rfl rfl ?_
  by_cases hc1 : v1 = (0 : Int32)
  · replace hf := (if_pos hc1).symm.trans hf
    refine V_tsIn (pc := 1) (tgt := 68) dX6_mayBegin_1 (by rw [hc1]; decide) (by rw [hc1]; decide) (by rw [hc1]; first | done | rfl) (by decide) ?_
    refine V_iload_n (pc := 68) dX6_mayBegin_68 rfl rfl rfl ?_
    refine V_if_ne (pc := 69) (tgt := 76) dX6_mayBegin_69 (by decide) rfl (fun hc => ?_) (fun hc => ?_)
    · replace hf := (if_neg hc).symm.trans hf
      refine V_iconst (pc := 76) dX6_mayBegin_76 ic_0 rfl ?_
      cases hf
      exact V_zretE (pc := 77) dX6_mayBegin_77 rfl (show (0 : Int32) = b2i false from rfl) PoB_mk
    · replace hf := (if_pos hc).symm.trans hf
      refine V_iconst (pc := 72) dX6_mayBegin_72 ic_1 rfl ?_
      refine V_goto (pc := 73) (tgt := 77) dX6_mayBegin_73 (by decide) ?_
      cases hf
      exact V_zretE (pc := 77) dX6_mayBegin_77 rfl (show (1 : Int32) = b2i true from rfl) PoB_mk
  · replace hf := (if_neg hc1).symm.trans hf
    by_cases hc2 : v1 = (2 : Int32)
    · replace hf := (if_pos hc2).symm.trans hf
      refine V_tsIn (pc := 1) (tgt := 78) dX6_mayBegin_1 (by rw [hc2]; decide) (by rw [hc2]; decide) (by rw [hc2]; first | done | rfl) (by decide) ?_
      refine V_iconst (pc := 78) dX6_mayBegin_78 ic_1 rfl ?_
      cases hf
      exact V_zretE (pc := 79) dX6_mayBegin_79 rfl (show (1 : Int32) = b2i true from rfl) PoB_mk
    · replace hf := (if_neg hc2).symm.trans hf
      by_cases hc3 : v1 = (3 : Int32)
      · replace hf := (if_pos hc3).symm.trans hf
        refine V_tsIn (pc := 1) (tgt := 80) dX6_mayBegin_1 (by rw [hc3]; decide) (by rw [hc3]; decide) (by rw [hc3]; first | done | rfl) (by decide) ?_
        refine V_aload_n (pc := 80) dX6_mayBegin_80 rfl rfl rfl ?_
        refine V_getR (pc := 81) dX6_mayBegin_81 flX6_30 rfl (by omega) (congrArg Prod.fst sh_48) rt_48_2 rfl ?_
        refine V_getR (pc := 84) dX6_mayBegin_84 flX6_96 rfl (by omega) (congrArg Prod.fst (shQ hG.2.2.2)) (rQ_6 (rQ_RT hG.2.2.2)) rfl ?_
        refine V_cVz (md' := mX8_isFull) (pc := 87) dX6_mayBegin_87 mlX6_100 mVX8_isFull (tX8_isFull (qT_6 hG.2.2.2) (rQ_s6 (rQ_RT hG.2.2.2)) (by omega) rfl) rfl (by omega) (congrArg Prod.fst (shT (qT_6 hG.2.2.2))) rfl (Nat.le_of_ble_eq_true rfl) rfl ?_
        refine V_if_ne (pc := 90) (tgt := 97) dX6_mayBegin_90 (by decide) rfl (fun hc => ?_) (fun hc => ?_)
        · replace hf := (if_neg hc).symm.trans hf
          refine V_iconst (pc := 97) dX6_mayBegin_97 ic_0 rfl ?_
          cases hf
          exact V_zretE (pc := 98) dX6_mayBegin_98 rfl (show (0 : Int32) = b2i false from rfl) PoB_mk
        · replace hf := (if_pos hc).symm.trans hf
          refine V_iconst (pc := 93) dX6_mayBegin_93 ic_1 rfl ?_
          refine V_goto (pc := 94) (tgt := 98) dX6_mayBegin_94 (by decide) ?_
          cases hf
          exact V_zretE (pc := 98) dX6_mayBegin_98 rfl (show (1 : Int32) = b2i true from rfl) PoB_mk
      · replace hf := (if_neg hc3).symm.trans hf
        by_cases hc4 : v1 = (8 : Int32)
        · replace hf := (if_pos hc4).symm.trans hf
          refine V_tsIn (pc := 1) (tgt := 99) dX6_mayBegin_1 (by rw [hc4]; decide) (by rw [hc4]; decide) (by rw [hc4]; first | done | rfl) (by decide) ?_
          refine V_aload_n (pc := 99) dX6_mayBegin_99 rfl rfl rfl ?_
          refine V_getR (pc := 100) dX6_mayBegin_100 flX6_30 rfl (by omega) (congrArg Prod.fst sh_48) rt_48_2 rfl ?_
          refine V_getR (pc := 103) dX6_mayBegin_103 flX6_105 rfl (by omega) (congrArg Prod.fst (shQ hG.2.2.2)) (rQ_7 (rQ_RT hG.2.2.2)) rfl ?_
          refine V_cVz (md' := mX8_isFull) (pc := 106) dX6_mayBegin_106 mlX6_100 mVX8_isFull (tX8_isFull (qT_7 hG.2.2.2) (rQ_s7 (rQ_RT hG.2.2.2)) (by omega) rfl) rfl (by omega) (congrArg Prod.fst (shT (qT_7 hG.2.2.2))) rfl (Nat.le_of_ble_eq_true rfl) rfl ?_
          refine V_if_ne (pc := 109) (tgt := 116) dX6_mayBegin_109 (by decide) rfl (fun hc => ?_) (fun hc => ?_)
          · replace hf := (if_neg hc).symm.trans hf
            refine V_iconst (pc := 116) dX6_mayBegin_116 ic_0 rfl ?_
            cases hf
            exact V_zretE (pc := 117) dX6_mayBegin_117 rfl (show (0 : Int32) = b2i false from rfl) PoB_mk
          · replace hf := (if_pos hc).symm.trans hf
            refine V_iconst (pc := 112) dX6_mayBegin_112 ic_1 rfl ?_
            refine V_goto (pc := 113) (tgt := 117) dX6_mayBegin_113 (by decide) ?_
            cases hf
            exact V_zretE (pc := 117) dX6_mayBegin_117 rfl (show (1 : Int32) = b2i true from rfl) PoB_mk
        · replace hf := (if_neg hc4).symm.trans hf
          by_cases hc5 : v1 = (10 : Int32)
          · replace hf := (if_pos hc5).symm.trans hf
            refine V_tsIn (pc := 1) (tgt := 118) dX6_mayBegin_1 (by rw [hc5]; decide) (by rw [hc5]; decide) (by rw [hc5]; first | done | rfl) (by decide) ?_
            refine V_aload_n (pc := 118) dX6_mayBegin_118 rfl rfl rfl ?_
            refine V_getR (pc := 119) dX6_mayBegin_119 flX6_30 rfl (by omega) (congrArg Prod.fst sh_48) rt_48_2 rfl ?_
            refine V_getR (pc := 122) dX6_mayBegin_122 flX6_108 rfl (by omega) (congrArg Prod.fst (shQ hG.2.2.2)) (rQ_8 (rQ_RT hG.2.2.2)) rfl ?_
            refine V_cVz (md' := mX8_isFull) (pc := 125) dX6_mayBegin_125 mlX6_100 mVX8_isFull (tX8_isFull (qT_8 hG.2.2.2) (rQ_s8 (rQ_RT hG.2.2.2)) (by omega) rfl) rfl (by omega) (congrArg Prod.fst (shT (qT_8 hG.2.2.2))) rfl (Nat.le_of_ble_eq_true rfl) rfl ?_
            refine V_if_ne (pc := 128) (tgt := 135) dX6_mayBegin_128 (by decide) rfl (fun hc => ?_) (fun hc => ?_)
            · replace hf := (if_neg hc).symm.trans hf
              refine V_iconst (pc := 135) dX6_mayBegin_135 ic_0 rfl ?_
              cases hf
              exact V_zretE (pc := 136) dX6_mayBegin_136 rfl (show (0 : Int32) = b2i false from rfl) PoB_mk
            · replace hf := (if_pos hc).symm.trans hf
              refine V_iconst (pc := 131) dX6_mayBegin_131 ic_1 rfl ?_
              refine V_goto (pc := 132) (tgt := 136) dX6_mayBegin_132 (by decide) ?_
              cases hf
              exact V_zretE (pc := 136) dX6_mayBegin_136 rfl (show (1 : Int32) = b2i true from rfl) PoB_mk
          · replace hf := (if_neg hc5).symm.trans hf
            by_cases hc6 : v1 = (11 : Int32)
            · replace hf := (if_pos hc6).symm.trans hf
              refine V_tsIn (pc := 1) (tgt := 137) dX6_mayBegin_1 (by rw [hc6]; decide) (by rw [hc6]; decide) (by rw [hc6]; first | done | rfl) (by decide) ?_
              refine V_aload_n (pc := 137) dX6_mayBegin_137 rfl rfl rfl ?_
              refine V_getI (pc := 138) dX6_mayBegin_138 flX6_41 rfl (by omega) (congrArg Prod.fst sh_48) rfl ?_
              refine V_if_ne (pc := 141) (tgt := 148) dX6_mayBegin_141 (by decide) rfl (fun hc => ?_) (fun hc => ?_)
              · replace hf := (if_neg hc).symm.trans hf
                refine V_iconst (pc := 148) dX6_mayBegin_148 ic_0 rfl ?_
                cases hf
                exact V_zretE (pc := 149) dX6_mayBegin_149 rfl (show (0 : Int32) = b2i false from rfl) PoB_mk
              · replace hf := (if_pos hc).symm.trans hf
                refine V_iconst (pc := 144) dX6_mayBegin_144 ic_1 rfl ?_
                refine V_goto (pc := 145) (tgt := 149) dX6_mayBegin_145 (by decide) ?_
                cases hf
                exact V_zretE (pc := 149) dX6_mayBegin_149 rfl (show (1 : Int32) = b2i true from rfl) PoB_mk
            · replace hf := (if_neg hc6).symm.trans hf
              by_cases hc7 : v1 = (12 : Int32)
              · replace hf := (if_pos hc7).symm.trans hf
                refine V_tsIn (pc := 1) (tgt := 150) dX6_mayBegin_1 (by rw [hc7]; decide) (by rw [hc7]; decide) (by rw [hc7]; first | done | rfl) (by decide) ?_
                refine V_aload_n (pc := 150) dX6_mayBegin_150 rfl rfl rfl ?_
                refine V_getI (pc := 151) dX6_mayBegin_151 flX6_45 rfl (by omega) (congrArg Prod.fst sh_48) rfl ?_
                refine V_if_ne (pc := 154) (tgt := 161) dX6_mayBegin_154 (by decide) rfl (fun hc => ?_) (fun hc => ?_)
                · replace hf := (if_neg hc).symm.trans hf
                  refine V_iconst (pc := 161) dX6_mayBegin_161 ic_0 rfl ?_
                  cases hf
                  exact V_zretE (pc := 162) dX6_mayBegin_162 rfl (show (0 : Int32) = b2i false from rfl) PoB_mk
                · replace hf := (if_pos hc).symm.trans hf
                  refine V_iconst (pc := 157) dX6_mayBegin_157 ic_1 rfl ?_
                  refine V_goto (pc := 158) (tgt := 162) dX6_mayBegin_158 (by decide) ?_
                  cases hf
                  exact V_zretE (pc := 162) dX6_mayBegin_162 rfl (show (1 : Int32) = b2i true from rfl) PoB_mk
              · replace hf := (if_neg hc7).symm.trans hf
                have KD8 : V g mX6_mayBegin (d + 2) 0 0 n (RT tw dr sk tl ff) I L 163 [some (.ref 48), some (.int v1), some (.int v2)] [] (PoB n (RT tw dr sk tl ff) res I L) := by
                  refine V_iconst (pc := 163) dX6_mayBegin_163 ic_0 rfl ?_
                  cases hf
                  exact V_zretE (pc := 164) dX6_mayBegin_164 rfl (show (0 : Int32) = b2i false from rfl) PoB_mk
                by_cases hc9 : v1 = (1 : Int32)
                · exact V_tsIn (pc := 1) (tgt := 163) dX6_mayBegin_1 (by rw [hc9]; decide) (by rw [hc9]; decide) (by rw [hc9]; first | done | rfl) (by decide) KD8
                by_cases hc10 : v1 = (4 : Int32)
                · exact V_tsIn (pc := 1) (tgt := 163) dX6_mayBegin_1 (by rw [hc10]; decide) (by rw [hc10]; decide) (by rw [hc10]; first | done | rfl) (by decide) KD8
                by_cases hc11 : v1 = (5 : Int32)
                · exact V_tsIn (pc := 1) (tgt := 163) dX6_mayBegin_1 (by rw [hc11]; decide) (by rw [hc11]; decide) (by rw [hc11]; first | done | rfl) (by decide) KD8
                by_cases hc12 : v1 = (6 : Int32)
                · exact V_tsIn (pc := 1) (tgt := 163) dX6_mayBegin_1 (by rw [hc12]; decide) (by rw [hc12]; decide) (by rw [hc12]; first | done | rfl) (by decide) KD8
                by_cases hc13 : v1 = (7 : Int32)
                · exact V_tsIn (pc := 1) (tgt := 163) dX6_mayBegin_1 (by rw [hc13]; decide) (by rw [hc13]; decide) (by rw [hc13]; first | done | rfl) (by decide) KD8
                by_cases hc14 : v1 = (9 : Int32)
                · exact V_tsIn (pc := 1) (tgt := 163) dX6_mayBegin_1 (by rw [hc14]; decide) (by rw [hc14]; decide) (by rw [hc14]; first | done | rfl) (by decide) KD8
                refine V_tsOut (pc := 1) (tgt := 163) dX6_mayBegin_1 (by have e0 := swn (k := (0 : Int32)) (z := 0) hc1 rfl; have e1 := swn (k := (2 : Int32)) (z := 2) hc2 rfl; have e2 := swn (k := (3 : Int32)) (z := 3) hc3 rfl; have e3 := swn (k := (8 : Int32)) (z := 8) hc4 rfl; have e4 := swn (k := (10 : Int32)) (z := 10) hc5 rfl; have e5 := swn (k := (11 : Int32)) (z := 11) hc6 rfl; have e6 := swn (k := (12 : Int32)) (z := 12) hc7 rfl; have e7 := swn (k := (1 : Int32)) (z := 1) hc9 rfl; have e8 := swn (k := (4 : Int32)) (z := 4) hc10 rfl; have e9 := swn (k := (5 : Int32)) (z := 5) hc11 rfl; have e10 := swn (k := (6 : Int32)) (z := 6) hc12 rfl; have e11 := swn (k := (7 : Int32)) (z := 7) hc13 rfl; have e12 := swn (k := (9 : Int32)) (z := 9) hc14 rfl; omega) (by decide) KD8
/-! ShadowDoors$Reader.refuse -/
noncomputable def fX6_refuse (v1 : Int32) (I : HI) : Bool × HI :=
  tbn (
    if (I 49 4) = (23 : Int32) then
      (1 : Int32)
    else
      v1
  ) fun q1 =>
  let I2 : HI := up2 I 48 8 q1
  let I3 : HI := up2 I2 48 9 (I2 49 5)
  (false, I3)
set_option maxRecDepth 100000 in
set_option maxHeartbeats 4000000 in
theorem tX6_refuse {g : GG} {n d : Nat} {tw dr sk tl ff : Nat} (hG : RG tw dr sk tl ff) (hn : 116 ≤ n) {v1 : Int32} {I : HI} {L : HL} {res : Bool × HI} (hf : fX6_refuse v1 I = res) : CT g mX6_refuse (d + 1) 0 0 n (RT tw dr sk tl ff) I L [.ref 48, .int v1] (PoB n (RT tw dr sk tl ff) res.1 res.2 L) := by
  refine CT.of rfl (Nat.le_of_ble_eq_true rfl) ?_
  show V g mX6_refuse (d + 1) 0 0 n (RT tw dr sk tl ff) I L 0 [some (.ref 48), some (.int v1)] [] (PoB n (RT tw dr sk tl ff) res.1 res.2 L)
  refine V_aload_n (pc := 0) dX6_refuse_0 rfl rfl rfl ?_
  refine V_aload_n (pc := 1) dX6_refuse_1 rfl rfl rfl ?_
  refine V_getR (pc := 2) dX6_refuse_2 flX6_9 rfl (by omega) (congrArg Prod.fst sh_48) rt_48_0 rfl ?_
  refine V_getI (pc := 5) dX6_refuse_5 flX6_57 rfl (by omega) (congrArg Prod.fst sh_49) rfl ?_
  refine V_bipush (pc := 8) dX6_refuse_8 bp_23 rfl ?_
  obtain ⟨q1, hq1, hf⟩ := tbd hf
  have Kq1 : V g mX6_refuse (d + 1) 0 0 n (RT tw dr sk tl ff) I L 18 [some (.ref 48)] [.int q1, .ref 48] (PoB n (RT tw dr sk tl ff) res.1 res.2 L) := by
    let I2 : HI := up2 I 48 8 q1
    refine V_putI (pc := 18) dX6_refuse_18 flX6_48 rfl rfl (by omega) (congrArg Prod.fst sh_48) rfl ?_
    refine V_aload_n (pc := 21) dX6_refuse_21 rfl rfl rfl ?_
    refine V_aload_n (pc := 22) dX6_refuse_22 rfl rfl rfl ?_
    refine V_getR (pc := 23) dX6_refuse_23 flX6_9 rfl (by omega) (congrArg Prod.fst sh_48) rt_48_0 rfl ?_
    refine V_getI (pc := 26) dX6_refuse_26 flX6_182 rfl (by omega) (congrArg Prod.fst sh_49) rfl ?_
    let I3 : HI := up2 I2 48 9 (I2 49 5)
    refine V_putI (pc := 29) dX6_refuse_29 flX6_34 rfl rfl (by omega) (congrArg Prod.fst sh_48) rfl ?_
    refine V_iconst (pc := 32) dX6_refuse_32 ic_0 rfl ?_
    cases hf
    exact V_zretE (pc := 33) dX6_refuse_33 rfl (show (0 : Int32) = b2i false from rfl) PoB_mk
  refine V_icmp_ne (pc := 10) (tgt := 17) dX6_refuse_10 (by decide) rfl (fun hc => ?_) (fun hc => ?_)
  · replace hq1 := (if_neg hc).symm.trans hq1
    refine V_iload_n (pc := 17) dX6_refuse_17 rfl rfl rfl ?_
    cases hq1
    exact V_wk Kq1 ⟨rfl, trivial⟩
  · replace hq1 := (if_pos hc).symm.trans hq1
    refine V_iconst (pc := 13) dX6_refuse_13 ic_1 rfl ?_
    refine V_goto (pc := 14) (tgt := 18) dX6_refuse_14 (by decide) ?_
    cases hq1
    exact V_wk Kq1 ⟨rfl, trivial⟩
/-! ShadowDoors$Things.standAt -/
noncomputable def fX8_standAt_2 (tt : Nat) : Nat → Int32 → Int32 → HI → Option (Bool)
  | 0, _, _, _ => none
  | fu + 1, y1, y2, I =>
    if (I tt 0) ≤ y2 then
      some false
    else
      if inb y2 (capT tt) = true then
        if (I (tt + 2) y2.toNatClampNeg) = y1 then
          some true
        else
          fX8_standAt_2 tt fu y1 (y2 + (1 : Int32)) I
      else none
set_option maxRecDepth 100000 in
set_option maxHeartbeats 4000000 in
theorem lX8_standAt_2 {g : GG} {n d : Nat} {r : HR} {tt : Nat} (htt : isT tt) (hr : rT r tt) (hn : tt + 6 ≤ n) {P : PP} : ∀ (fu : Nat) (y1 : Int32) (y2 : Int32) (I : HI) (L : HL) (res : Bool), fX8_standAt_2 tt fu y1 y2 I = some res → P (some (.int (b2i res))) n r I L → V g mX8_standAt (d + 1) 0 0 n r I L 2 [some (.ref tt), some (.int y1), some (.int y2)] [] P := by
  intro fu
  induction fu with
  | zero => intro y1 y2 I L res hf; cases (show none = some res from hf)
  | succ fu ih =>
    intro y1 y2 I L res hf K
    refine V_iload_n (pc := 2) dX8_standAt_2 rfl rfl rfl ?_
    refine V_aload_n (pc := 3) dX8_standAt_3 rfl rfl rfl ?_
    refine V_getI (pc := 4) dX8_standAt_4 flX8_26 rfl (by omega) (congrArg Prod.fst (shT htt)) rfl ?_
    refine V_icmp_ge (pc := 7) (tgt := 28) dX8_standAt_7 (by decide) rfl (fun hc => ?_) (fun hc => ?_)
    · replace hf := (if_pos hc).symm.trans hf
      refine V_iconst (pc := 28) dX8_standAt_28 ic_0 rfl ?_
      cases hf
      exact V_zretE (pc := 29) dX8_standAt_29 rfl (show (0 : Int32) = b2i false from rfl) K
    · replace hf := (if_neg hc).symm.trans hf
      refine V_aload_n (pc := 10) dX8_standAt_10 rfl rfl rfl ?_
      refine V_getR (pc := 11) dX8_standAt_11 flX8_13 rfl (by omega) (congrArg Prod.fst (shT htt)) (rT_2 hr) rfl ?_
      refine V_iload_n (pc := 14) dX8_standAt_14 rfl rfl rfl ?_
      obtain ⟨hc1, hf⟩ := pif hf
      refine V_iald (pc := 15) dX8_standAt_15 (by omega) (shT2 htt) hc1 rfl ?_
      refine V_iload_n (pc := 16) dX8_standAt_16 rfl rfl rfl ?_
      refine V_icmp_ne (pc := 17) (tgt := 22) dX8_standAt_17 (by decide) rfl (fun hc => ?_) (fun hc => ?_)
      · replace hf := (if_neg hc).symm.trans hf
        refine V_iinc (ls' := [some _, some _, some _]) (pc := 22) dX8_standAt_22 rfl (Nat.le_of_ble_eq_true rfl) (congrArg _ ic_1) rfl rfl ?_
        refine V_goto (pc := 25) (tgt := 2) dX8_standAt_25 (by decide) ?_
        exact V_wk (ih _ _ _ _ _ hf K) ⟨rfl, ⟨rfl, ⟨rfl, trivial⟩⟩⟩
      · replace hf := (if_pos hc).symm.trans hf
        refine V_iconst (pc := 20) dX8_standAt_20 ic_1 rfl ?_
        cases hf
        exact V_zretE (pc := 21) dX8_standAt_21 rfl (show (1 : Int32) = b2i true from rfl) K
noncomputable def fX8_standAt (tt : Nat) (v1 : Int32) (I : HI) : Option (Bool) :=
  Option.bind (fX8_standAt_2 tt FUEL v1 (0 : Int32) I) fun q2 =>
  some q2
set_option maxRecDepth 100000 in
set_option maxHeartbeats 4000000 in
theorem tX8_standAt {g : GG} {n d : Nat} {r : HR} {tt : Nat} (htt : isT tt) (hr : rT r tt) (hn : tt + 6 ≤ n) {v1 : Int32} {I : HI} {L : HL} {res : Bool} (hf : fX8_standAt tt v1 I = some res) : CT g mX8_standAt (d + 1) 0 0 n r I L [.ref tt, .int v1] (PoB n r res I L) := by
  refine CT.of rfl (Nat.le_of_ble_eq_true rfl) ?_
  show V g mX8_standAt (d + 1) 0 0 n r I L 0 [some (.ref tt), some (.int v1)] [] (PoB n r res I L)
  refine V_iconst (pc := 0) dX8_standAt_0 ic_0 rfl ?_
  refine V_istore_n (ls' := [some _, some _, some _]) (pc := 1) dX8_standAt_1 rfl (Nat.le_of_ble_eq_true rfl) rfl rfl ?_
  obtain ⟨q2, hq2, hf⟩ := bnd hf
  refine V_wk (lX8_standAt_2 htt hr hn FUEL _ _ _ _ _ hq2 ?_) ⟨rfl, ⟨rfl, ⟨rfl, trivial⟩⟩⟩
  cases hf
  exact PoB_mk
/-! ShadowDoors$Reader.isTaken -/
noncomputable def fX6_isTaken (tl : Nat) (v1 : Int32) (I : HI) (L : HL) : Option (Bool) :=
  if (((L tl 3).toUInt64 >>> ((I 48 4).toInt64.toUInt64 &&& Int64.toUInt64 63)).toInt64 &&& (1 : Int64)) = (0 : Int64) then
    if v1 = (2 : Int32) then
      Option.bind (fX8_standAt (tl + 1) (I 48 4) I) fun q3 =>
      Option.bind (
        if (b2i q3) = 0 then
          Option.bind (fX8_standAt (tl + 7) (I 48 4) I) fun q5 =>
          if (b2i q5) = 0 then
            Option.bind (fX8_standAt (tl + 13) (I 48 4) I) fun q6 =>
            if (b2i q6) = 0 then
              some false
            else
              some true
          else
            some true
        else
          some true
      ) fun b4 =>
      if b4 = true then
        some true
      else
        some false
    else
      Option.bind (
        if v1 = (3 : Int32) then
          Option.bind (fX8_standAt (tl + 1) (I 48 4) I) fun q2 =>
          if (b2i q2) = 0 then
            some true
          else
            some false
        else
          some true
      ) fun b1 =>
      if b1 = true then
        some false
      else
        some true
  else
    some true
set_option maxRecDepth 100000 in
set_option maxHeartbeats 4000000 in
theorem tX6_isTaken {g : GG} {n d : Nat} {tw dr sk tl ff : Nat} (hG : RG tw dr sk tl ff) (hn : 116 ≤ n) {v1 : Int32} {I : HI} {L : HL} {res : Bool} (hf : fX6_isTaken tl v1 I L = some res) : CT g mX6_isTaken (d + 2) 0 0 n (RT tw dr sk tl ff) I L [.ref 48, .int v1] (PoB n (RT tw dr sk tl ff) res I L) := by
  refine CT.of rfl (Nat.le_of_ble_eq_true rfl) ?_
  show V g mX6_isTaken (d + 2) 0 0 n (RT tw dr sk tl ff) I L 0 [some (.ref 48), some (.int v1)] [] (PoB n (RT tw dr sk tl ff) res I L)
  refine V_aload_n (pc := 0) dX6_isTaken_0 rfl rfl rfl ?_
  refine V_getR (pc := 1) dX6_isTaken_1 flX6_30 rfl (by omega) (congrArg Prod.fst sh_48) rt_48_2 rfl ?_
  refine V_getL (pc := 4) dX6_isTaken_4 flX6_124 rfl (by omega) (congrArg Prod.fst (shQ hG.2.2.2)) rfl ?_
  refine V_aload_n (pc := 7) dX6_isTaken_7 rfl rfl rfl ?_
  refine V_getI (pc := 8) dX6_isTaken_8 flX6_137 rfl (by omega) (congrArg Prod.fst sh_48) rfl ?_
  refine V_lushr (pc := 11) dX6_isTaken_11 rfl ?_
  refine V_lconst (pc := 12) dX6_isTaken_12 lc_1 rfl ?_
  refine V_land (pc := 13) dX6_isTaken_13 rfl ?_
  refine V_lconst (pc := 14) dX6_isTaken_14 lc_0 rfl ?_
  refine V_lc_eq (pc := 15) (tgt := 21) dX6_isTaken_15 rfl dX6_isTaken_16 (by decide) rfl (fun hc => ?_) (fun hc => ?_)
  · replace hf := (if_pos hc).symm.trans hf
    refine V_iload_n (pc := 21) dX6_isTaken_21 rfl rfl rfl ?_
    refine V_iconst (pc := 22) dX6_isTaken_22 ic_2 rfl ?_
    refine V_icmp_ne (pc := 23) (tgt := 83) dX6_isTaken_23 (by decide) rfl (fun hc => ?_) (fun hc => ?_)
    · replace hf := (if_neg hc).symm.trans hf
      refine V_iload_n (pc := 83) dX6_isTaken_83 rfl rfl rfl ?_
      refine V_iconst (pc := 84) dX6_isTaken_84 ic_3 rfl ?_
      obtain ⟨b1, hb1, hf⟩ := bnd hf
      have KTb1 : b1 = true → V g mX6_isTaken (d + 2) 0 0 n (RT tw dr sk tl ff) I L 109 [some (.ref 48), some (.int v1)] [] (PoB n (RT tw dr sk tl ff) res I L) := fun hc => by
        replace hf := (if_pos hc).symm.trans hf
        refine V_iconst (pc := 109) dX6_isTaken_109 ic_0 rfl ?_
        cases hf
        exact V_zretE (pc := 110) dX6_isTaken_110 rfl (show (0 : Int32) = b2i false from rfl) PoB_mk
      have KFb1 : ¬ b1 = true → V g mX6_isTaken (d + 2) 0 0 n (RT tw dr sk tl ff) I L 105 [some (.ref 48), some (.int v1)] [] (PoB n (RT tw dr sk tl ff) res I L) := fun hc => by
        replace hf := (if_neg hc).symm.trans hf
        refine V_iconst (pc := 105) dX6_isTaken_105 ic_1 rfl ?_
        refine V_goto (pc := 106) (tgt := 110) dX6_isTaken_106 (by decide) ?_
        cases hf
        exact V_zretE (pc := 110) dX6_isTaken_110 rfl (show (1 : Int32) = b2i true from rfl) PoB_mk
      refine V_icmp_ne (pc := 85) (tgt := 109) dX6_isTaken_85 (by decide) rfl (fun hc => ?_) (fun hc => ?_)
      · replace hb1 := (if_neg hc).symm.trans hb1
        cases hb1
        exact KTb1 rfl
      · replace hb1 := (if_pos hc).symm.trans hb1
        refine V_aload_n (pc := 88) dX6_isTaken_88 rfl rfl rfl ?_
        refine V_getR (pc := 89) dX6_isTaken_89 flX6_30 rfl (by omega) (congrArg Prod.fst sh_48) rt_48_2 rfl ?_
        refine V_getR (pc := 92) dX6_isTaken_92 flX6_96 rfl (by omega) (congrArg Prod.fst (shQ hG.2.2.2)) (rQ_6 (rQ_RT hG.2.2.2)) rfl ?_
        refine V_aload_n (pc := 95) dX6_isTaken_95 rfl rfl rfl ?_
        refine V_getI (pc := 96) dX6_isTaken_96 flX6_137 rfl (by omega) (congrArg Prod.fst sh_48) rfl ?_
        obtain ⟨q2, hq2, hb1⟩ := bnd hb1
        refine V_cVz (md' := mX8_standAt) (pc := 99) dX6_isTaken_99 mlX6_179 mVX8_standAt (tX8_standAt (qT_6 hG.2.2.2) (rQ_s6 (rQ_RT hG.2.2.2)) (by omega) hq2) rfl (by omega) (congrArg Prod.fst (shT (qT_6 hG.2.2.2))) rfl (Nat.le_of_ble_eq_true rfl) rfl ?_
        refine V_if_eq (pc := 102) (tgt := 109) dX6_isTaken_102 (by decide) rfl (fun hc => ?_) (fun hc => ?_)
        · replace hb1 := (if_pos hc).symm.trans hb1
          cases hb1
          exact KTb1 rfl
        · replace hb1 := (if_neg hc).symm.trans hb1
          cases hb1
          exact KFb1 (nbt rfl)
    · replace hf := (if_pos hc).symm.trans hf
      refine V_aload_n (pc := 26) dX6_isTaken_26 rfl rfl rfl ?_
      refine V_getR (pc := 27) dX6_isTaken_27 flX6_30 rfl (by omega) (congrArg Prod.fst sh_48) rt_48_2 rfl ?_
      refine V_getR (pc := 30) dX6_isTaken_30 flX6_96 rfl (by omega) (congrArg Prod.fst (shQ hG.2.2.2)) (rQ_6 (rQ_RT hG.2.2.2)) rfl ?_
      refine V_aload_n (pc := 33) dX6_isTaken_33 rfl rfl rfl ?_
      refine V_getI (pc := 34) dX6_isTaken_34 flX6_137 rfl (by omega) (congrArg Prod.fst sh_48) rfl ?_
      obtain ⟨q3, hq3, hf⟩ := bnd hf
      refine V_cVz (md' := mX8_standAt) (pc := 37) dX6_isTaken_37 mlX6_179 mVX8_standAt (tX8_standAt (qT_6 hG.2.2.2) (rQ_s6 (rQ_RT hG.2.2.2)) (by omega) hq3) rfl (by omega) (congrArg Prod.fst (shT (qT_6 hG.2.2.2))) rfl (Nat.le_of_ble_eq_true rfl) rfl ?_
      obtain ⟨b4, hb4, hf⟩ := bnd hf
      have KTb4 : b4 = true → V g mX6_isTaken (d + 2) 0 0 n (RT tw dr sk tl ff) I L 77 [some (.ref 48), some (.int v1)] [] (PoB n (RT tw dr sk tl ff) res I L) := fun hc => by
        replace hf := (if_pos hc).symm.trans hf
        refine V_iconst (pc := 77) dX6_isTaken_77 ic_1 rfl ?_
        refine V_goto (pc := 78) (tgt := 82) dX6_isTaken_78 (by decide) ?_
        cases hf
        exact V_zretE (pc := 82) dX6_isTaken_82 rfl (show (1 : Int32) = b2i true from rfl) PoB_mk
      have KFb4 : ¬ b4 = true → V g mX6_isTaken (d + 2) 0 0 n (RT tw dr sk tl ff) I L 81 [some (.ref 48), some (.int v1)] [] (PoB n (RT tw dr sk tl ff) res I L) := fun hc => by
        replace hf := (if_neg hc).symm.trans hf
        refine V_iconst (pc := 81) dX6_isTaken_81 ic_0 rfl ?_
        cases hf
        exact V_zretE (pc := 82) dX6_isTaken_82 rfl (show (0 : Int32) = b2i false from rfl) PoB_mk
      refine V_if_ne (pc := 40) (tgt := 77) dX6_isTaken_40 (by decide) rfl (fun hc => ?_) (fun hc => ?_)
      · replace hb4 := (if_neg hc).symm.trans hb4
        cases hb4
        exact KTb4 rfl
      · replace hb4 := (if_pos hc).symm.trans hb4
        refine V_aload_n (pc := 43) dX6_isTaken_43 rfl rfl rfl ?_
        refine V_getR (pc := 44) dX6_isTaken_44 flX6_30 rfl (by omega) (congrArg Prod.fst sh_48) rt_48_2 rfl ?_
        refine V_getR (pc := 47) dX6_isTaken_47 flX6_105 rfl (by omega) (congrArg Prod.fst (shQ hG.2.2.2)) (rQ_7 (rQ_RT hG.2.2.2)) rfl ?_
        refine V_aload_n (pc := 50) dX6_isTaken_50 rfl rfl rfl ?_
        refine V_getI (pc := 51) dX6_isTaken_51 flX6_137 rfl (by omega) (congrArg Prod.fst sh_48) rfl ?_
        obtain ⟨q5, hq5, hb4⟩ := bnd hb4
        refine V_cVz (md' := mX8_standAt) (pc := 54) dX6_isTaken_54 mlX6_179 mVX8_standAt (tX8_standAt (qT_7 hG.2.2.2) (rQ_s7 (rQ_RT hG.2.2.2)) (by omega) hq5) rfl (by omega) (congrArg Prod.fst (shT (qT_7 hG.2.2.2))) rfl (Nat.le_of_ble_eq_true rfl) rfl ?_
        refine V_if_ne (pc := 57) (tgt := 77) dX6_isTaken_57 (by decide) rfl (fun hc => ?_) (fun hc => ?_)
        · replace hb4 := (if_neg hc).symm.trans hb4
          cases hb4
          exact KTb4 rfl
        · replace hb4 := (if_pos hc).symm.trans hb4
          refine V_aload_n (pc := 60) dX6_isTaken_60 rfl rfl rfl ?_
          refine V_getR (pc := 61) dX6_isTaken_61 flX6_30 rfl (by omega) (congrArg Prod.fst sh_48) rt_48_2 rfl ?_
          refine V_getR (pc := 64) dX6_isTaken_64 flX6_108 rfl (by omega) (congrArg Prod.fst (shQ hG.2.2.2)) (rQ_8 (rQ_RT hG.2.2.2)) rfl ?_
          refine V_aload_n (pc := 67) dX6_isTaken_67 rfl rfl rfl ?_
          refine V_getI (pc := 68) dX6_isTaken_68 flX6_137 rfl (by omega) (congrArg Prod.fst sh_48) rfl ?_
          obtain ⟨q6, hq6, hb4⟩ := bnd hb4
          refine V_cVz (md' := mX8_standAt) (pc := 71) dX6_isTaken_71 mlX6_179 mVX8_standAt (tX8_standAt (qT_8 hG.2.2.2) (rQ_s8 (rQ_RT hG.2.2.2)) (by omega) hq6) rfl (by omega) (congrArg Prod.fst (shT (qT_8 hG.2.2.2))) rfl (Nat.le_of_ble_eq_true rfl) rfl ?_
          refine V_if_eq (pc := 74) (tgt := 81) dX6_isTaken_74 (by decide) rfl (fun hc => ?_) (fun hc => ?_)
          · replace hb4 := (if_pos hc).symm.trans hb4
            cases hb4
            exact KFb4 (nbt rfl)
          · replace hb4 := (if_neg hc).symm.trans hb4
            cases hb4
            exact KTb4 rfl
  · replace hf := (if_neg hc).symm.trans hf
    refine V_iconst (pc := 19) dX6_isTaken_19 ic_1 rfl ?_
    cases hf
    exact V_zretE (pc := 20) dX6_isTaken_20 rfl (show (1 : Int32) = b2i true from rfl) PoB_mk
/-! ShadowDoors$Things.isNamed -/
noncomputable def fX8_isNamed_2 (tt : Nat) : Nat → Int64 → Int32 → HI → HL → Option (Bool)
  | 0, _, _, _, _ => none
  | fu + 1, y1, y3, I, L =>
    if (I tt 0) ≤ y3 then
      some false
    else
      if inb y3 (capT tt) = true then
        if (L (tt + 1) y3.toNatClampNeg) = y1 then
          some true
        else
          fX8_isNamed_2 tt fu y1 (y3 + (1 : Int32)) I L
      else none
set_option maxRecDepth 100000 in
set_option maxHeartbeats 4000000 in
theorem lX8_isNamed_2 {g : GG} {n d : Nat} {r : HR} {tt : Nat} (htt : isT tt) (hr : rT r tt) (hn : tt + 6 ≤ n) {P : PP} : ∀ (fu : Nat) (y1 : Int64) (y3 : Int32) (I : HI) (L : HL) (res : Bool), fX8_isNamed_2 tt fu y1 y3 I L = some res → P (some (.int (b2i res))) n r I L → V g mX8_isNamed (d + 1) 0 0 n r I L 2 [some (.ref tt), some (.long y1), none, some (.int y3)] [] P := by
  intro fu
  induction fu with
  | zero => intro y1 y3 I L res hf; cases (show none = some res from hf)
  | succ fu ih =>
    intro y1 y3 I L res hf K
    refine V_iload_n (pc := 2) dX8_isNamed_2 rfl rfl rfl ?_
    refine V_aload_n (pc := 3) dX8_isNamed_3 rfl rfl rfl ?_
    refine V_getI (pc := 4) dX8_isNamed_4 flX8_26 rfl (by omega) (congrArg Prod.fst (shT htt)) rfl ?_
    refine V_icmp_ge (pc := 7) (tgt := 29) dX8_isNamed_7 (by decide) rfl (fun hc => ?_) (fun hc => ?_)
    · replace hf := (if_pos hc).symm.trans hf
      refine V_iconst (pc := 29) dX8_isNamed_29 ic_0 rfl ?_
      cases hf
      exact V_zretE (pc := 30) dX8_isNamed_30 rfl (show (0 : Int32) = b2i false from rfl) K
    · replace hf := (if_neg hc).symm.trans hf
      refine V_aload_n (pc := 10) dX8_isNamed_10 rfl rfl rfl ?_
      refine V_getR (pc := 11) dX8_isNamed_11 flX8_7 rfl (by omega) (congrArg Prod.fst (shT htt)) (rT_1 hr) rfl ?_
      refine V_iload_n (pc := 14) dX8_isNamed_14 rfl rfl rfl ?_
      obtain ⟨hc1, hf⟩ := pif hf
      refine V_lald (pc := 15) dX8_isNamed_15 (by omega) (shT1 htt) hc1 rfl ?_
      refine V_lload_n (pc := 16) dX8_isNamed_16 rfl rfl rfl ?_
      refine V_lc_ne (pc := 17) (tgt := 23) dX8_isNamed_17 rfl dX8_isNamed_18 (by decide) rfl (fun hc => ?_) (fun hc => ?_)
      · replace hf := (if_neg hc).symm.trans hf
        refine V_iinc (ls' := [some _, some _, none, some _]) (pc := 23) dX8_isNamed_23 rfl (Nat.le_of_ble_eq_true rfl) (congrArg _ ic_1) rfl rfl ?_
        refine V_goto (pc := 26) (tgt := 2) dX8_isNamed_26 (by decide) ?_
        exact V_wk (ih _ _ _ _ _ hf K) ⟨rfl, ⟨rfl, ⟨rfl, trivial⟩⟩⟩
      · replace hf := (if_pos hc).symm.trans hf
        refine V_iconst (pc := 21) dX8_isNamed_21 ic_1 rfl ?_
        cases hf
        exact V_zretE (pc := 22) dX8_isNamed_22 rfl (show (1 : Int32) = b2i true from rfl) K
noncomputable def fX8_isNamed (tt : Nat) (v1 : Int64) (I : HI) (L : HL) : Option (Bool) :=
  Option.bind (fX8_isNamed_2 tt FUEL v1 (0 : Int32) I L) fun q2 =>
  some q2
set_option maxRecDepth 100000 in
set_option maxHeartbeats 4000000 in
theorem tX8_isNamed {g : GG} {n d : Nat} {r : HR} {tt : Nat} (htt : isT tt) (hr : rT r tt) (hn : tt + 6 ≤ n) {v1 : Int64} {I : HI} {L : HL} {res : Bool} (hf : fX8_isNamed tt v1 I L = some res) : CT g mX8_isNamed (d + 1) 0 0 n r I L [.ref tt, .long v1] (PoB n r res I L) := by
  refine CT.of rfl (Nat.le_of_ble_eq_true rfl) ?_
  show V g mX8_isNamed (d + 1) 0 0 n r I L 0 [some (.ref tt), some (.long v1), none] [] (PoB n r res I L)
  refine V_iconst (pc := 0) dX8_isNamed_0 ic_0 rfl ?_
  refine V_istore_n (ls' := [some _, some _, none, some _]) (pc := 1) dX8_isNamed_1 rfl (Nat.le_of_ble_eq_true rfl) rfl rfl ?_
  obtain ⟨q2, hq2, hf⟩ := bnd hf
  refine V_wk (lX8_isNamed_2 htt hr hn FUEL _ _ _ _ _ hq2 ?_) ⟨rfl, ⟨rfl, ⟨rfl, trivial⟩⟩⟩
  cases hf
  exact PoB_mk
/-! ShadowDoors$Things.add -/
noncomputable def fX8_add (tt : Nat) (v1 : Int64) (v2 : Int32) (v3 : Int32) (v4 : Int32) (v5 : Int32) (I : HI) (L : HL) : Option (HI × HL) :=
  if (b2i (fX8_isFull tt I)) = 0 then
    if inb (I tt 0) (capT tt) = true then
      let L2 : HL := up2 L (tt + 1) (I tt 0).toNatClampNeg v1
      if inb (I tt 0) (capT tt) = true then
        let I4 : HI := up2 I (tt + 2) (I tt 0).toNatClampNeg v2
        if inb (I4 tt 0) (capT tt) = true then
          let I6 : HI := up2 I4 (tt + 3) (I4 tt 0).toNatClampNeg v3
          if inb (I6 tt 0) (capT tt) = true then
            let I8 : HI := up2 I6 (tt + 4) (I6 tt 0).toNatClampNeg v4
            if inb (I8 tt 0) (capT tt) = true then
              let I10 : HI := up2 I8 (tt + 5) (I8 tt 0).toNatClampNeg v5
              let I11 : HI := up2 I10 tt 0 ((I10 tt 0) + (1 : Int32))
              some (I11, L2)
            else none
          else none
        else none
      else none
    else none
  else
    some (I, L)
set_option maxRecDepth 100000 in
set_option maxHeartbeats 4000000 in
theorem tX8_add {g : GG} {n d : Nat} {r : HR} {tt : Nat} (htt : isT tt) (hr : rT r tt) (hn : tt + 6 ≤ n) {v1 : Int64} {v2 : Int32} {v3 : Int32} {v4 : Int32} {v5 : Int32} {I : HI} {L : HL} {res : HI × HL} (hf : fX8_add tt v1 v2 v3 v4 v5 I L = some res) : CT g mX8_add (d + 2) 0 0 n r I L [.ref tt, .long v1, .int v2, .int v3, .int v4, .int v5] (PoV n r res.1 res.2) := by
  refine CT.of rfl (Nat.le_of_ble_eq_true rfl) ?_
  show V g mX8_add (d + 2) 0 0 n r I L 0 [some (.ref tt), some (.long v1), none, some (.int v2), some (.int v3), some (.int v4), some (.int v5)] [] (PoV n r res.1 res.2)
  refine V_aload_n (pc := 0) dX8_add_0 rfl rfl rfl ?_
  refine V_cVz (md' := mX8_isFull) (pc := 1) dX8_add_1 mlX8_30 mVX8_isFull (tX8_isFull htt hr (by omega) rfl) rfl (by omega) (congrArg Prod.fst (shT htt)) rfl (Nat.le_of_ble_eq_true rfl) rfl ?_
  refine V_if_eq (pc := 4) (tgt := 8) dX8_add_4 (by decide) rfl (fun hc => ?_) (fun hc => ?_)
  · replace hf := (if_pos hc).symm.trans hf
    refine V_aload_n (pc := 8) dX8_add_8 rfl rfl rfl ?_
    refine V_getR (pc := 9) dX8_add_9 flX8_7 rfl (by omega) (congrArg Prod.fst (shT htt)) (rT_1 hr) rfl ?_
    refine V_aload_n (pc := 12) dX8_add_12 rfl rfl rfl ?_
    refine V_getI (pc := 13) dX8_add_13 flX8_26 rfl (by omega) (congrArg Prod.fst (shT htt)) rfl ?_
    refine V_lload_n (pc := 16) dX8_add_16 rfl rfl rfl ?_
    obtain ⟨hc1, hf⟩ := pif hf
    let L2 : HL := up2 L (tt + 1) (I tt 0).toNatClampNeg v1
    refine V_last (pc := 17) dX8_add_17 (by omega) (shT1 htt) hc1 rfl ?_
    refine V_aload_n (pc := 18) dX8_add_18 rfl rfl rfl ?_
    refine V_getR (pc := 19) dX8_add_19 flX8_13 rfl (by omega) (congrArg Prod.fst (shT htt)) (rT_2 hr) rfl ?_
    refine V_aload_n (pc := 22) dX8_add_22 rfl rfl rfl ?_
    refine V_getI (pc := 23) dX8_add_23 flX8_26 rfl (by omega) (congrArg Prod.fst (shT htt)) rfl ?_
    refine V_iload_n (pc := 26) dX8_add_26 rfl rfl rfl ?_
    obtain ⟨hc3, hf⟩ := pif hf
    let I4 : HI := up2 I (tt + 2) (I tt 0).toNatClampNeg v2
    refine V_iast (pc := 27) dX8_add_27 (by omega) (shT2 htt) hc3 rfl ?_
    refine V_aload_n (pc := 28) dX8_add_28 rfl rfl rfl ?_
    refine V_getR (pc := 29) dX8_add_29 flX8_17 rfl (by omega) (congrArg Prod.fst (shT htt)) (rT_3 hr) rfl ?_
    refine V_aload_n (pc := 32) dX8_add_32 rfl rfl rfl ?_
    refine V_getI (pc := 33) dX8_add_33 flX8_26 rfl (by omega) (congrArg Prod.fst (shT htt)) rfl ?_
    refine V_iload (pc := 36) dX8_add_36 rfl rfl ?_
    obtain ⟨hc5, hf⟩ := pif hf
    let I6 : HI := up2 I4 (tt + 3) (I4 tt 0).toNatClampNeg v3
    refine V_iast (pc := 38) dX8_add_38 (by omega) (shT3 htt) hc5 rfl ?_
    refine V_aload_n (pc := 39) dX8_add_39 rfl rfl rfl ?_
    refine V_getR (pc := 40) dX8_add_40 flX8_20 rfl (by omega) (congrArg Prod.fst (shT htt)) (rT_4 hr) rfl ?_
    refine V_aload_n (pc := 43) dX8_add_43 rfl rfl rfl ?_
    refine V_getI (pc := 44) dX8_add_44 flX8_26 rfl (by omega) (congrArg Prod.fst (shT htt)) rfl ?_
    refine V_iload (pc := 47) dX8_add_47 rfl rfl ?_
    obtain ⟨hc7, hf⟩ := pif hf
    let I8 : HI := up2 I6 (tt + 4) (I6 tt 0).toNatClampNeg v4
    refine V_iast (pc := 49) dX8_add_49 (by omega) (shT4 htt) hc7 rfl ?_
    refine V_aload_n (pc := 50) dX8_add_50 rfl rfl rfl ?_
    refine V_getR (pc := 51) dX8_add_51 flX8_23 rfl (by omega) (congrArg Prod.fst (shT htt)) (rT_5 hr) rfl ?_
    refine V_aload_n (pc := 54) dX8_add_54 rfl rfl rfl ?_
    refine V_getI (pc := 55) dX8_add_55 flX8_26 rfl (by omega) (congrArg Prod.fst (shT htt)) rfl ?_
    refine V_iload (pc := 58) dX8_add_58 rfl rfl ?_
    obtain ⟨hc9, hf⟩ := pif hf
    let I10 : HI := up2 I8 (tt + 5) (I8 tt 0).toNatClampNeg v5
    refine V_iast (pc := 60) dX8_add_60 (by omega) (shT5 htt) hc9 rfl ?_
    refine V_aload_n (pc := 61) dX8_add_61 rfl rfl rfl ?_
    refine V_dup (pc := 62) dX8_add_62 rfl rfl ?_
    refine V_getI (pc := 63) dX8_add_63 flX8_26 rfl (by omega) (congrArg Prod.fst (shT htt)) rfl ?_
    refine V_iconst (pc := 66) dX8_add_66 ic_1 rfl ?_
    refine V_iadd (pc := 67) dX8_add_67 rfl ?_
    let I11 : HI := up2 I10 tt 0 ((I10 tt 0) + (1 : Int32))
    refine V_putI (pc := 68) dX8_add_68 flX8_26 rfl rfl (by omega) (congrArg Prod.fst (shT htt)) rfl ?_
    cases hf
    exact V_vret (pc := 71) dX8_add_71 rfl PoV_mk
  · replace hf := (if_neg hc).symm.trans hf
    cases hf
    exact V_vret (pc := 7) dX8_add_7 rfl PoV_mk
/-! ShadowDoors$Sky.forget -/
noncomputable def fX7_forget (qq1 : Nat) (sk : Nat) (L : HL) : HL :=
  let L1 : HL := up2 L 57 6 (0 : Int64)
  L1
set_option maxRecDepth 100000 in
set_option maxHeartbeats 4000000 in
theorem tX7_forget {g : GG} {n d : Nat} {tw dr sk tl ff : Nat} {qq1 : Nat} (hG : RG tw dr sk tl ff) (hn : 116 ≤ n) (hqq1 : isQ qq1) {I : HI} {L : HL} {res : HL} (hf : fX7_forget qq1 sk L = res) : CT g mX7_forget (d + 1) 0 0 n (RT tw dr sk tl ff) I L [.ref 57, .ref qq1] (PoV n (RT tw dr qq1 tl ff) I res) := by
  refine CT.of rfl (Nat.le_of_ble_eq_true rfl) ?_
  show V g mX7_forget (d + 1) 0 0 n (RT tw dr sk tl ff) I L 0 [some (.ref 57), some (.ref qq1)] [] (PoV n (RT tw dr qq1 tl ff) I res)
  refine V_aload_n (pc := 0) dX7_forget_0 rfl rfl rfl ?_
  refine V_aload_n (pc := 1) dX7_forget_1 rfl rfl rfl ?_
  refine V_putRE (pc := 2) dX7_forget_2 flX7_22 (by first | exact Or.inl ⟨_, rfl⟩ | exact Or.inr ⟨_, rfl⟩) rfl (by omega) (congrArg Prod.fst sh_57) rts_sk rfl ?_
  refine V_aload_n (pc := 5) dX7_forget_5 rfl rfl rfl ?_
  refine V_lconst (pc := 6) dX7_forget_6 lc_0 rfl ?_
  let L1 : HL := up2 L 57 6 (0 : Int64)
  refine V_putL (pc := 7) dX7_forget_7 flX7_26 rfl rfl (by omega) (congrArg Prod.fst sh_57) rfl ?_
  cases hf
  exact V_vret (pc := 10) dX7_forget_10 rfl PoV_mk
/-! ShadowDoors$Sky.aimAt -/
noncomputable def fX7_aimAt (I : HI) (L : HL) : Option (HI × HL) :=
  let I1 : HI := up2 I 57 2 (I 52 2)
  Option.bind (
    Option.bind (
      if (I1 57 1) = (I1 52 5) then
        if (I1 57 3) = (I1 52 3) then
          if (I1 57 5) = (I1 52 4) then
            if (I1 57 4) = 0 then
              some false
            else
              some true
          else
            some true
        else
          some true
      else
        some true
    ) fun b5 =>
    if b5 = true then
      let L6 : HL := up2 L 57 6 (0 : Int64)
      some L6
    else
      some L
  ) fun q4 =>
  let I7 : HI := up2 I1 57 1 (I1 52 5)
  let I8 : HI := up2 I7 57 3 (I7 52 3)
  Option.bind (i2b (I8 52 4)) fun b10 =>
  let I9 : HI := up2 I8 57 5 (b2i b10)
  let I11 : HI := up2 I9 57 4 (0 : Int32)
  some (I11, q4)
set_option maxRecDepth 100000 in
set_option maxHeartbeats 4000000 in
theorem tX7_aimAt {g : GG} {n d : Nat} {tw dr sk tl ff : Nat} (hG : RG tw dr sk tl ff) (hn : 116 ≤ n) {I : HI} {L : HL} {res : HI × HL} (hf : fX7_aimAt I L = some res) : CT g mX7_aimAt (d + 1) 0 0 n (RT tw dr sk tl ff) I L [.ref 57, .ref 52] (PoV n (RT tw dr sk tl ff) res.1 res.2) := by
  refine CT.of rfl (Nat.le_of_ble_eq_true rfl) ?_
  show V g mX7_aimAt (d + 1) 0 0 n (RT tw dr sk tl ff) I L 0 [some (.ref 57), some (.ref 52)] [] (PoV n (RT tw dr sk tl ff) res.1 res.2)
  refine V_aload_n (pc := 0) dX7_aimAt_0 rfl rfl rfl ?_
  refine V_aload_n (pc := 1) dX7_aimAt_1 rfl rfl rfl ?_
  refine V_getI (pc := 2) dX7_aimAt_2 flX7_30 rfl (by omega) (congrArg Prod.fst sh_52) rfl ?_
  let I1 : HI := up2 I 57 2 (I 52 2)
  refine V_putI (pc := 5) dX7_aimAt_5 flX7_36 rfl rfl (by omega) (congrArg Prod.fst sh_57) rfl ?_
  refine V_aload_n (pc := 8) dX7_aimAt_8 rfl rfl rfl ?_
  refine V_getI (pc := 9) dX7_aimAt_9 flX7_37 rfl (by omega) (congrArg Prod.fst sh_57) rfl ?_
  refine V_aload_n (pc := 12) dX7_aimAt_12 rfl rfl rfl ?_
  refine V_getI (pc := 13) dX7_aimAt_13 flX7_40 rfl (by omega) (congrArg Prod.fst sh_52) rfl ?_
  obtain ⟨q4, hq4, hf⟩ := bnd hf
  have Kq4 : V g mX7_aimAt (d + 1) 0 0 n (RT tw dr sk tl ff) I1 q4 53 [some (.ref 57), some (.ref 52)] [] (PoV n (RT tw dr sk tl ff) res.1 res.2) := by
    refine V_aload_n (pc := 53) dX7_aimAt_53 rfl rfl rfl ?_
    refine V_aload_n (pc := 54) dX7_aimAt_54 rfl rfl rfl ?_
    refine V_getI (pc := 55) dX7_aimAt_55 flX7_40 rfl (by omega) (congrArg Prod.fst sh_52) rfl ?_
    let I7 : HI := up2 I1 57 1 (I1 52 5)
    refine V_putI (pc := 58) dX7_aimAt_58 flX7_37 rfl rfl (by omega) (congrArg Prod.fst sh_57) rfl ?_
    refine V_aload_n (pc := 61) dX7_aimAt_61 rfl rfl rfl ?_
    refine V_aload_n (pc := 62) dX7_aimAt_62 rfl rfl rfl ?_
    refine V_getI (pc := 63) dX7_aimAt_63 flX7_46 rfl (by omega) (congrArg Prod.fst sh_52) rfl ?_
    let I8 : HI := up2 I7 57 3 (I7 52 3)
    refine V_putI (pc := 66) dX7_aimAt_66 flX7_43 rfl rfl (by omega) (congrArg Prod.fst sh_57) rfl ?_
    refine V_aload_n (pc := 69) dX7_aimAt_69 rfl rfl rfl ?_
    refine V_aload_n (pc := 70) dX7_aimAt_70 rfl rfl rfl ?_
    refine V_getI (pc := 71) dX7_aimAt_71 flX7_51 rfl (by omega) (congrArg Prod.fst sh_52) rfl ?_
    obtain ⟨b10, hb10, hf⟩ := bnd hf
    let I9 : HI := up2 I8 57 5 (b2i b10)
    refine V_putZE (pc := 74) dX7_aimAt_74 flX7_47 rfl rfl (by omega) (congrArg Prod.fst sh_57) (i2b_eq hb10) rfl ?_
    refine V_aload_n (pc := 77) dX7_aimAt_77 rfl rfl rfl ?_
    refine V_iconst (pc := 78) dX7_aimAt_78 ic_0 rfl ?_
    let I11 : HI := up2 I9 57 4 (0 : Int32)
    refine V_putI (pc := 79) dX7_aimAt_79 flX7_54 rfl rfl (by omega) (congrArg Prod.fst sh_57) rfl ?_
    cases hf
    exact V_vret (pc := 82) dX7_aimAt_82 rfl PoV_mk
  obtain ⟨b5, hb5, hq4⟩ := bnd hq4
  have KTb5 : b5 = true → V g mX7_aimAt (d + 1) 0 0 n (RT tw dr sk tl ff) I1 L 48 [some (.ref 57), some (.ref 52)] [] (PoV n (RT tw dr sk tl ff) res.1 res.2) := fun hc => by
    replace hq4 := (if_pos hc).symm.trans hq4
    refine V_aload_n (pc := 48) dX7_aimAt_48 rfl rfl rfl ?_
    refine V_lconst (pc := 49) dX7_aimAt_49 lc_0 rfl ?_
    let L6 : HL := up2 L 57 6 (0 : Int64)
    refine V_putL (pc := 50) dX7_aimAt_50 flX7_26 rfl rfl (by omega) (congrArg Prod.fst sh_57) rfl ?_
    cases hq4
    exact V_wk Kq4 ⟨rfl, ⟨rfl, trivial⟩⟩
  have KFb5 : ¬ b5 = true → V g mX7_aimAt (d + 1) 0 0 n (RT tw dr sk tl ff) I1 L 53 [some (.ref 57), some (.ref 52)] [] (PoV n (RT tw dr sk tl ff) res.1 res.2) := fun hc => by
    replace hq4 := (if_neg hc).symm.trans hq4
    cases hq4
    exact V_wk Kq4 ⟨rfl, ⟨rfl, trivial⟩⟩
  refine V_icmp_ne (pc := 16) (tgt := 48) dX7_aimAt_16 (by decide) rfl (fun hc => ?_) (fun hc => ?_)
  · replace hb5 := (if_neg hc).symm.trans hb5
    cases hb5
    exact KTb5 rfl
  · replace hb5 := (if_pos hc).symm.trans hb5
    refine V_aload_n (pc := 19) dX7_aimAt_19 rfl rfl rfl ?_
    refine V_getI (pc := 20) dX7_aimAt_20 flX7_43 rfl (by omega) (congrArg Prod.fst sh_57) rfl ?_
    refine V_aload_n (pc := 23) dX7_aimAt_23 rfl rfl rfl ?_
    refine V_getI (pc := 24) dX7_aimAt_24 flX7_46 rfl (by omega) (congrArg Prod.fst sh_52) rfl ?_
    refine V_icmp_ne (pc := 27) (tgt := 48) dX7_aimAt_27 (by decide) rfl (fun hc => ?_) (fun hc => ?_)
    · replace hb5 := (if_neg hc).symm.trans hb5
      cases hb5
      exact KTb5 rfl
    · replace hb5 := (if_pos hc).symm.trans hb5
      refine V_aload_n (pc := 30) dX7_aimAt_30 rfl rfl rfl ?_
      refine V_getI (pc := 31) dX7_aimAt_31 flX7_47 rfl (by omega) (congrArg Prod.fst sh_57) rfl ?_
      refine V_aload_n (pc := 34) dX7_aimAt_34 rfl rfl rfl ?_
      refine V_getI (pc := 35) dX7_aimAt_35 flX7_51 rfl (by omega) (congrArg Prod.fst sh_52) rfl ?_
      refine V_icmp_ne (pc := 38) (tgt := 48) dX7_aimAt_38 (by decide) rfl (fun hc => ?_) (fun hc => ?_)
      · replace hb5 := (if_neg hc).symm.trans hb5
        cases hb5
        exact KTb5 rfl
      · replace hb5 := (if_pos hc).symm.trans hb5
        refine V_aload_n (pc := 41) dX7_aimAt_41 rfl rfl rfl ?_
        refine V_getI (pc := 42) dX7_aimAt_42 flX7_54 rfl (by omega) (congrArg Prod.fst sh_57) rfl ?_
        refine V_if_eq (pc := 45) (tgt := 53) dX7_aimAt_45 (by decide) rfl (fun hc => ?_) (fun hc => ?_)
        · replace hb5 := (if_pos hc).symm.trans hb5
          cases hb5
          exact KFb5 (nbt rfl)
        · replace hb5 := (if_neg hc).symm.trans hb5
          cases hb5
          exact KTb5 rfl
/-! ShadowDoors$Sky.startOn -/
noncomputable def fX7_startOn (v1 : Int32) (I : HI) (L : HL) : HI × HL :=
  let I1 : HI := up2 I 57 1 ((v1 * (24 : Int32)) + ((I 57 1) - (I 57 1) / (24 : Int32) * (24 : Int32)))
  let L2 : HL := up2 L 57 6 (0 : Int64)
  (I1, L2)
set_option maxRecDepth 100000 in
set_option maxHeartbeats 4000000 in
theorem tX7_startOn {g : GG} {n d : Nat} {tw dr sk tl ff : Nat} (hG : RG tw dr sk tl ff) (hn : 116 ≤ n) {v1 : Int32} {I : HI} {L : HL} {res : HI × HL} (hf : fX7_startOn v1 I L = res) : CT g mX7_startOn (d + 1) 0 0 n (RT tw dr sk tl ff) I L [.ref 57, .int v1] (PoV n (RT tw dr sk tl ff) res.1 res.2) := by
  refine CT.of rfl (Nat.le_of_ble_eq_true rfl) ?_
  show V g mX7_startOn (d + 1) 0 0 n (RT tw dr sk tl ff) I L 0 [some (.ref 57), some (.int v1)] [] (PoV n (RT tw dr sk tl ff) res.1 res.2)
  refine V_aload_n (pc := 0) dX7_startOn_0 rfl rfl rfl ?_
  refine V_iload_n (pc := 1) dX7_startOn_1 rfl rfl rfl ?_
  refine V_bipush (pc := 2) dX7_startOn_2 bp_24 rfl ?_
  refine V_imul (pc := 4) dX7_startOn_4 rfl ?_
  refine V_aload_n (pc := 5) dX7_startOn_5 rfl rfl rfl ?_
  refine V_getI (pc := 6) dX7_startOn_6 flX7_37 rfl (by omega) (congrArg Prod.fst sh_57) rfl ?_
  refine V_bipush (pc := 9) dX7_startOn_9 bp_24 rfl ?_
  refine V_irem (pc := 11) dX7_startOn_11 (by decide) rfl ?_
  refine V_iadd (pc := 12) dX7_startOn_12 rfl ?_
  let I1 : HI := up2 I 57 1 ((v1 * (24 : Int32)) + ((I 57 1) - (I 57 1) / (24 : Int32) * (24 : Int32)))
  refine V_putI (pc := 13) dX7_startOn_13 flX7_37 rfl rfl (by omega) (congrArg Prod.fst sh_57) rfl ?_
  refine V_aload_n (pc := 16) dX7_startOn_16 rfl rfl rfl ?_
  refine V_lconst (pc := 17) dX7_startOn_17 lc_0 rfl ?_
  let L2 : HL := up2 L 57 6 (0 : Int64)
  refine V_putL (pc := 18) dX7_startOn_18 flX7_26 rfl rfl (by omega) (congrArg Prod.fst sh_57) rfl ?_
  cases hf
  exact V_vret (pc := 21) dX7_startOn_21 rfl PoV_mk
/-! ShadowDoors$Sky.burn -/
noncomputable def fX7_burn (v1 : Int32) (I : HI) (L : HL) : HI × HL :=
  let I1 : HI := up2 I 57 4 v1
  let L2 : HL := up2 L 57 6 (0 : Int64)
  (I1, L2)
set_option maxRecDepth 100000 in
set_option maxHeartbeats 4000000 in
theorem tX7_burn {g : GG} {n d : Nat} {tw dr sk tl ff : Nat} (hG : RG tw dr sk tl ff) (hn : 116 ≤ n) {v1 : Int32} {I : HI} {L : HL} {res : HI × HL} (hf : fX7_burn v1 I L = res) : CT g mX7_burn (d + 1) 0 0 n (RT tw dr sk tl ff) I L [.ref 57, .int v1] (PoV n (RT tw dr sk tl ff) res.1 res.2) := by
  refine CT.of rfl (Nat.le_of_ble_eq_true rfl) ?_
  show V g mX7_burn (d + 1) 0 0 n (RT tw dr sk tl ff) I L 0 [some (.ref 57), some (.int v1)] [] (PoV n (RT tw dr sk tl ff) res.1 res.2)
  refine V_aload_n (pc := 0) dX7_burn_0 rfl rfl rfl ?_
  refine V_iload_n (pc := 1) dX7_burn_1 rfl rfl rfl ?_
  let I1 : HI := up2 I 57 4 v1
  refine V_putI (pc := 2) dX7_burn_2 flX7_54 rfl rfl (by omega) (congrArg Prod.fst sh_57) rfl ?_
  refine V_aload_n (pc := 5) dX7_burn_5 rfl rfl rfl ?_
  refine V_lconst (pc := 6) dX7_burn_6 lc_0 rfl ?_
  let L2 : HL := up2 L 57 6 (0 : Int64)
  refine V_putL (pc := 7) dX7_burn_7 flX7_26 rfl rfl (by omega) (congrArg Prod.fst sh_57) rfl ?_
  cases hf
  exact V_vret (pc := 10) dX7_burn_10 rfl PoV_mk
/-! ShadowDoors$Sky.isDark -/
noncomputable def fX7_isDark (I : HI) : Option (Bool) :=
  Option.bind (i2b (I 57 5)) fun b1 =>
  some b1
set_option maxRecDepth 100000 in
set_option maxHeartbeats 4000000 in
theorem tX7_isDark {g : GG} {n d : Nat} {tw dr sk tl ff : Nat} (hG : RG tw dr sk tl ff) (hn : 116 ≤ n) {I : HI} {L : HL} {res : Bool} (hf : fX7_isDark I = some res) : CT g mX7_isDark (d + 1) 0 0 n (RT tw dr sk tl ff) I L [.ref 57] (PoB n (RT tw dr sk tl ff) res I L) := by
  refine CT.of rfl (Nat.le_of_ble_eq_true rfl) ?_
  show V g mX7_isDark (d + 1) 0 0 n (RT tw dr sk tl ff) I L 0 [some (.ref 57)] [] (PoB n (RT tw dr sk tl ff) res I L)
  refine V_aload_n (pc := 0) dX7_isDark_0 rfl rfl rfl ?_
  refine V_getI (pc := 1) dX7_isDark_1 flX7_47 rfl (by omega) (congrArg Prod.fst sh_57) rfl ?_
  obtain ⟨b1, hb1, hf⟩ := bnd hf
  cases hf
  exact V_zretE (pc := 4) dX7_isDark_4 rfl (i2b_eq hb1) PoB_mk
/-! ShadowDoors$Sky.darken -/
noncomputable def fX7_darken (v1 : Int32) (I : HI) (L : HL) : Option (HI × HL) :=
  Option.bind (i2b v1) fun b2 =>
  let I1 : HI := up2 I 57 5 (b2i b2)
  let L3 : HL := up2 L 57 6 (0 : Int64)
  some (I1, L3)
set_option maxRecDepth 100000 in
set_option maxHeartbeats 4000000 in
theorem tX7_darken {g : GG} {n d : Nat} {tw dr sk tl ff : Nat} (hG : RG tw dr sk tl ff) (hn : 116 ≤ n) {v1 : Int32} {I : HI} {L : HL} {res : HI × HL} (hf : fX7_darken v1 I L = some res) : CT g mX7_darken (d + 1) 0 0 n (RT tw dr sk tl ff) I L [.ref 57, .int v1] (PoV n (RT tw dr sk tl ff) res.1 res.2) := by
  refine CT.of rfl (Nat.le_of_ble_eq_true rfl) ?_
  show V g mX7_darken (d + 1) 0 0 n (RT tw dr sk tl ff) I L 0 [some (.ref 57), some (.int v1)] [] (PoV n (RT tw dr sk tl ff) res.1 res.2)
  refine V_aload_n (pc := 0) dX7_darken_0 rfl rfl rfl ?_
  refine V_iload_n (pc := 1) dX7_darken_1 rfl rfl rfl ?_
  obtain ⟨b2, hb2, hf⟩ := bnd hf
  let I1 : HI := up2 I 57 5 (b2i b2)
  refine V_putZE (pc := 2) dX7_darken_2 flX7_47 rfl rfl (by omega) (congrArg Prod.fst sh_57) (i2b_eq hb2) rfl ?_
  refine V_aload_n (pc := 5) dX7_darken_5 rfl rfl rfl ?_
  refine V_lconst (pc := 6) dX7_darken_6 lc_0 rfl ?_
  let L3 : HL := up2 L 57 6 (0 : Int64)
  refine V_putL (pc := 7) dX7_darken_7 flX7_26 rfl rfl (by omega) (congrArg Prod.fst sh_57) rfl ?_
  cases hf
  exact V_vret (pc := 10) dX7_darken_10 rfl PoV_mk
/-! ShadowDoors$Things.isInHours -/
noncomputable def fX8_isInHours (tt : Nat) (v1 : Int32) (v2 : Int32) (I : HI) : Option (Bool) :=
  if inb v1 (capT tt) = true then
    Option.bind (
      if v2 < (I (tt + 4) v1.toNatClampNeg) then
        some true
      else
        if inb v1 (capT tt) = true then
          if (I (tt + 5) v1.toNatClampNeg) ≤ v2 then
            some true
          else
            some false
        else none
    ) fun b2 =>
    if b2 = true then
      some false
    else
      some true
  else none
set_option maxRecDepth 100000 in
set_option maxHeartbeats 4000000 in
theorem tX8_isInHours {g : GG} {n d : Nat} {r : HR} {tt : Nat} (htt : isT tt) (hr : rT r tt) (hn : tt + 6 ≤ n) {v1 : Int32} {v2 : Int32} {I : HI} {L : HL} {res : Bool} (hf : fX8_isInHours tt v1 v2 I = some res) : CT g mX8_isInHours (d + 1) 0 0 n r I L [.ref tt, .int v1, .int v2] (PoB n r res I L) := by
  refine CT.of rfl (Nat.le_of_ble_eq_true rfl) ?_
  show V g mX8_isInHours (d + 1) 0 0 n r I L 0 [some (.ref tt), some (.int v1), some (.int v2)] [] (PoB n r res I L)
  refine V_iload_n (pc := 0) dX8_isInHours_0 rfl rfl rfl ?_
  refine V_aload_n (pc := 1) dX8_isInHours_1 rfl rfl rfl ?_
  refine V_getR (pc := 2) dX8_isInHours_2 flX8_20 rfl (by omega) (congrArg Prod.fst (shT htt)) (rT_4 hr) rfl ?_
  refine V_iload_n (pc := 5) dX8_isInHours_5 rfl rfl rfl ?_
  obtain ⟨hc1, hf⟩ := pif hf
  refine V_iald (pc := 6) dX8_isInHours_6 (by omega) (shT4 htt) hc1 rfl ?_
  obtain ⟨b2, hb2, hf⟩ := bnd hf
  have KTb2 : b2 = true → V g mX8_isInHours (d + 1) 0 0 n r I L 24 [some (.ref tt), some (.int v1), some (.int v2)] [] (PoB n r res I L) := fun hc => by
    replace hf := (if_pos hc).symm.trans hf
    refine V_iconst (pc := 24) dX8_isInHours_24 ic_0 rfl ?_
    cases hf
    exact V_zretE (pc := 25) dX8_isInHours_25 rfl (show (0 : Int32) = b2i false from rfl) PoB_mk
  have KFb2 : ¬ b2 = true → V g mX8_isInHours (d + 1) 0 0 n r I L 20 [some (.ref tt), some (.int v1), some (.int v2)] [] (PoB n r res I L) := fun hc => by
    replace hf := (if_neg hc).symm.trans hf
    refine V_iconst (pc := 20) dX8_isInHours_20 ic_1 rfl ?_
    refine V_goto (pc := 21) (tgt := 25) dX8_isInHours_21 (by decide) ?_
    cases hf
    exact V_zretE (pc := 25) dX8_isInHours_25 rfl (show (1 : Int32) = b2i true from rfl) PoB_mk
  refine V_icmp_lt (pc := 7) (tgt := 24) dX8_isInHours_7 (by decide) rfl (fun hc => ?_) (fun hc => ?_)
  · replace hb2 := (if_pos hc).symm.trans hb2
    cases hb2
    exact KTb2 rfl
  · replace hb2 := (if_neg hc).symm.trans hb2
    refine V_iload_n (pc := 10) dX8_isInHours_10 rfl rfl rfl ?_
    refine V_aload_n (pc := 11) dX8_isInHours_11 rfl rfl rfl ?_
    refine V_getR (pc := 12) dX8_isInHours_12 flX8_23 rfl (by omega) (congrArg Prod.fst (shT htt)) (rT_5 hr) rfl ?_
    refine V_iload_n (pc := 15) dX8_isInHours_15 rfl rfl rfl ?_
    obtain ⟨hc3, hb2⟩ := pif hb2
    refine V_iald (pc := 16) dX8_isInHours_16 (by omega) (shT5 htt) hc3 rfl ?_
    refine V_icmp_ge (pc := 17) (tgt := 24) dX8_isInHours_17 (by decide) rfl (fun hc => ?_) (fun hc => ?_)
    · replace hb2 := (if_pos hc).symm.trans hb2
      cases hb2
      exact KTb2 rfl
    · replace hb2 := (if_neg hc).symm.trans hb2
      cases hb2
      exact KFb2 (nbt rfl)
/-! ShadowDoors$Sky.litIn -/
noncomputable def fX7_litIn_4 (sk : Nat) : Nat → Int32 → Int32 → Int32 → HI → Option (Int32)
  | 0, _, _, _, _ => none
  | fu + 1, y1, y2, y3, I =>
    if (I (sk + 7) 0) ≤ y3 then
      some ((y2 &&& ((I 57 3) ^^^ (-1 : Int32))) ||| (I 57 4))
    else
      Option.bind (fX8_isInHours (sk + 7) y3 y1 I) fun q1 =>
      if (b2i q1) = 0 then
        fX7_litIn_4 sk fu y1 y2 (y3 + (1 : Int32)) I
      else
        let x2 : Int32 := (y2 ||| ((1 : Int32) <<< (y3 &&& 31)))
        fX7_litIn_4 sk fu y1 x2 (y3 + (1 : Int32)) I
set_option maxRecDepth 100000 in
set_option maxHeartbeats 4000000 in
theorem lX7_litIn_4 {g : GG} {n d : Nat} {tw dr sk tl ff : Nat} (hG : RG tw dr sk tl ff) (hn : 116 ≤ n) {P : PP} : ∀ (fu : Nat) (y1 : Int32) (y2 : Int32) (y3 : Int32) (I : HI) (L : HL) (res : Int32), fX7_litIn_4 sk fu y1 y2 y3 I = some res → P (some (.int res)) n (RT tw dr sk tl ff) I L → V g mX7_litIn (d + 2) 0 0 n (RT tw dr sk tl ff) I L 4 [some (.ref 57), some (.int y1), some (.int y2), some (.int y3)] [] P := by
  intro fu
  induction fu with
  | zero => intro y1 y2 y3 I L res hf; cases (show none = some res from hf)
  | succ fu ih =>
    intro y1 y2 y3 I L res hf K
    refine V_iload_n (pc := 4) dX7_litIn_4 rfl rfl rfl ?_
    refine V_aload_n (pc := 5) dX7_litIn_5 rfl rfl rfl ?_
    refine V_getR (pc := 6) dX7_litIn_6 flX7_22 rfl (by omega) (congrArg Prod.fst sh_57) rt_57_0 rfl ?_
    refine V_getR (pc := 9) dX7_litIn_9 flX7_116 rfl (by omega) (congrArg Prod.fst (shQ hG.2.2.1)) (rQ_7 (rQ_RT hG.2.2.1)) rfl ?_
    refine V_getI (pc := 12) dX7_litIn_12 flX7_78 rfl (by omega) (congrArg Prod.fst (shT (qT_7 hG.2.2.1))) rfl ?_
    refine V_icmp_ge (pc := 15) (tgt := 45) dX7_litIn_15 (by decide) rfl (fun hc => ?_) (fun hc => ?_)
    · replace hf := (if_pos hc).symm.trans hf
      refine V_iload_n (pc := 45) dX7_litIn_45 rfl rfl rfl ?_
      refine V_aload_n (pc := 46) dX7_litIn_46 rfl rfl rfl ?_
      refine V_getI (pc := 47) dX7_litIn_47 flX7_43 rfl (by omega) (congrArg Prod.fst sh_57) rfl ?_
      refine V_iconst (pc := 50) dX7_litIn_50 ic_m1 rfl ?_
      refine V_ixor (pc := 51) dX7_litIn_51 rfl ?_
      refine V_iand (pc := 52) dX7_litIn_52 rfl ?_
      refine V_aload_n (pc := 53) dX7_litIn_53 rfl rfl rfl ?_
      refine V_getI (pc := 54) dX7_litIn_54 flX7_54 rfl (by omega) (congrArg Prod.fst sh_57) rfl ?_
      refine V_ior (pc := 57) dX7_litIn_57 rfl ?_
      cases hf
      exact V_iret (pc := 58) dX7_litIn_58 rfl K
    · replace hf := (if_neg hc).symm.trans hf
      refine V_aload_n (pc := 18) dX7_litIn_18 rfl rfl rfl ?_
      refine V_getR (pc := 19) dX7_litIn_19 flX7_22 rfl (by omega) (congrArg Prod.fst sh_57) rt_57_0 rfl ?_
      refine V_getR (pc := 22) dX7_litIn_22 flX7_116 rfl (by omega) (congrArg Prod.fst (shQ hG.2.2.1)) (rQ_7 (rQ_RT hG.2.2.1)) rfl ?_
      refine V_iload_n (pc := 25) dX7_litIn_25 rfl rfl rfl ?_
      refine V_iload_n (pc := 26) dX7_litIn_26 rfl rfl rfl ?_
      obtain ⟨q1, hq1, hf⟩ := bnd hf
      refine V_cVz (md' := mX8_isInHours) (pc := 27) dX7_litIn_27 mlX7_103 mVX8_isInHours (tX8_isInHours (qT_7 hG.2.2.1) (rQ_s7 (rQ_RT hG.2.2.1)) (by omega) hq1) rfl (by omega) (congrArg Prod.fst (shT (qT_7 hG.2.2.1))) rfl (Nat.le_of_ble_eq_true rfl) rfl ?_
      refine V_if_eq (pc := 30) (tgt := 39) dX7_litIn_30 (by decide) rfl (fun hc => ?_) (fun hc => ?_)
      · replace hf := (if_pos hc).symm.trans hf
        refine V_iinc (ls' := [some _, some _, some _, some _]) (pc := 39) dX7_litIn_39 rfl (Nat.le_of_ble_eq_true rfl) (congrArg _ ic_1) rfl rfl ?_
        refine V_goto (pc := 42) (tgt := 4) dX7_litIn_42 (by decide) ?_
        exact V_wk (ih _ _ _ _ _ _ hf K) ⟨rfl, ⟨rfl, ⟨rfl, ⟨rfl, trivial⟩⟩⟩⟩
      · replace hf := (if_neg hc).symm.trans hf
        refine V_iload_n (pc := 33) dX7_litIn_33 rfl rfl rfl ?_
        refine V_iconst (pc := 34) dX7_litIn_34 ic_1 rfl ?_
        refine V_iload_n (pc := 35) dX7_litIn_35 rfl rfl rfl ?_
        refine V_ishl (pc := 36) dX7_litIn_36 rfl ?_
        refine V_ior (pc := 37) dX7_litIn_37 rfl ?_
        let x2 : Int32 := (y2 ||| ((1 : Int32) <<< (y3 &&& 31)))
        refine V_istore_n (ls' := [some _, some _, some _, some _]) (pc := 38) dX7_litIn_38 rfl (Nat.le_of_ble_eq_true rfl) rfl rfl ?_
        refine V_iinc (ls' := [some _, some _, some _, some _]) (pc := 39) dX7_litIn_39 rfl (Nat.le_of_ble_eq_true rfl) (congrArg _ ic_1) rfl rfl ?_
        refine V_goto (pc := 42) (tgt := 4) dX7_litIn_42 (by decide) ?_
        exact V_wk (ih _ _ _ _ _ _ hf K) ⟨rfl, ⟨rfl, ⟨rfl, ⟨rfl, trivial⟩⟩⟩⟩
noncomputable def fX7_litIn (sk : Nat) (v1 : Int32) (I : HI) : Option (Int32) :=
  Option.bind (fX7_litIn_4 sk FUEL v1 (0 : Int32) (0 : Int32) I) fun q3 =>
  some q3
set_option maxRecDepth 100000 in
set_option maxHeartbeats 4000000 in
theorem tX7_litIn {g : GG} {n d : Nat} {tw dr sk tl ff : Nat} (hG : RG tw dr sk tl ff) (hn : 116 ≤ n) {v1 : Int32} {I : HI} {L : HL} {res : Int32} (hf : fX7_litIn sk v1 I = some res) : CT g mX7_litIn (d + 2) 0 0 n (RT tw dr sk tl ff) I L [.ref 57, .int v1] (PoI n (RT tw dr sk tl ff) res I L) := by
  refine CT.of rfl (Nat.le_of_ble_eq_true rfl) ?_
  show V g mX7_litIn (d + 2) 0 0 n (RT tw dr sk tl ff) I L 0 [some (.ref 57), some (.int v1)] [] (PoI n (RT tw dr sk tl ff) res I L)
  refine V_iconst (pc := 0) dX7_litIn_0 ic_0 rfl ?_
  refine V_istore_n (ls' := [some _, some _, some _]) (pc := 1) dX7_litIn_1 rfl (Nat.le_of_ble_eq_true rfl) rfl rfl ?_
  refine V_iconst (pc := 2) dX7_litIn_2 ic_0 rfl ?_
  refine V_istore_n (ls' := [some _, some _, some _, some _]) (pc := 3) dX7_litIn_3 rfl (Nat.le_of_ble_eq_true rfl) rfl rfl ?_
  obtain ⟨q3, hq3, hf⟩ := bnd hf
  refine V_wk (lX7_litIn_4 hG hn FUEL _ _ _ _ _ _ hq3 ?_) ⟨rfl, ⟨rfl, ⟨rfl, ⟨rfl, trivial⟩⟩⟩⟩
  cases hf
  exact PoI_mk
/-! ShadowDoors$Sky.prepare -/
noncomputable def fX7_prepare_81 (sk : Nat) : Nat → Int32 → Int32 → Int32 → Int32 → Int32 → HI → HL → Option (HI × HL)
  | 0, _, _, _, _, _, _, _ => none
  | fu + 1, y1, y2, y3, y4, y6, I, L =>
    if (I (sk + 1) 0) ≤ y6 then
      some (I, L)
    else
      if inb y6 (capT (sk + 1)) = true then
        let x9 : Int32 := (I (sk + 1 + 3) y6.toNatClampNeg)
        if inb x9 10 = true then
          Option.bind (
            if (I 60 x9.toNatClampNeg) = (-1000000 : Int32) then
              if (I 57 5) = 0 then
                Option.bind (fX1_valueFor (sk + 19) x9 y2 y3 I) fun q17 =>
                if inb x9 10 = true then
                  let I19 : HI := up2 q17.2 60 x9.toNatClampNeg (fX7_cut q17.1)
                  some I19
                else none
              else
                if inb x9 10 = true then
                  let I21 : HI := up2 I 60 x9.toNatClampNeg (0 : Int32)
                  some I21
                else none
            else
              some I
          ) fun q16 =>
          if inb x9 10 = true then
            Option.bind (fX5_shadowBy sk y6 (q16 60 x9.toNatClampNeg) y4 q16 L) fun q23 =>
            if inb ((y1 * (8 : Int32)) + y6) 392 = true then
              let L25 : HL := up2 L 58 ((y1 * (8 : Int32)) + y6).toNatClampNeg q23
              Option.bind (fX8_isInHours (sk + 1) y6 y2 q16) fun q26 =>
              if (b2i q26) = 0 then
                fX7_prepare_81 sk fu y1 y2 y3 y4 (y6 + (1 : Int32)) q16 L25
              else
                if inb y1 49 = true then
                  if inb y1 49 = true then
                    let I29 : HI := up2 q16 59 y1.toNatClampNeg ((q16 59 y1.toNatClampNeg) ||| ((1 : Int32) <<< (y6 &&& 31)))
                    fX7_prepare_81 sk fu y1 y2 y3 y4 (y6 + (1 : Int32)) I29 L25
                  else none
                else none
            else none
          else none
        else none
      else none
set_option maxRecDepth 100000 in
set_option maxHeartbeats 4000000 in
theorem lX7_prepare_81 {g : GG} {n d : Nat} {tw dr sk tl ff : Nat} (hG : RG tw dr sk tl ff) (hn : 116 ≤ n) {P : PP} : ∀ (fu : Nat) (y1 : Int32) (y2 : Int32) (y3 : Int32) (y4 : Int32) (y6 : Int32) (I : HI) (L : HL) (res : HI × HL), fX7_prepare_81 sk fu y1 y2 y3 y4 y6 I L = some res → P none n (RT tw dr sk tl ff) res.1 res.2 → V g mX7_prepare (d + 4) 0 0 n (RT tw dr sk tl ff) I L 81 [some (.ref 57), some (.int y1), some (.int y2), some (.int y3), some (.int y4), some (.ref (sk + 1)), some (.int y6)] [] P := by
  intro fu
  induction fu with
  | zero => intro y1 y2 y3 y4 y6 I L res hf; cases (show none = some res from hf)
  | succ fu ih =>
    intro y1 y2 y3 y4 y6 I L res hf K
    refine V_iload (pc := 81) dX7_prepare_81 rfl rfl ?_
    refine V_aload (pc := 83) dX7_prepare_83 rfl rfl ?_
    refine V_getI (pc := 85) dX7_prepare_85 flX7_78 rfl (by omega) (congrArg Prod.fst (shT (qT_6 hG.2.2.1))) rfl ?_
    refine V_icmp_ge (pc := 88) (tgt := 208) dX7_prepare_88 (by decide) rfl (fun hc => ?_) (fun hc => ?_)
    · replace hf := (if_pos hc).symm.trans hf
      cases hf
      exact V_vret (pc := 208) dX7_prepare_208 rfl K
    · replace hf := (if_neg hc).symm.trans hf
      refine V_aload (pc := 91) dX7_prepare_91 rfl rfl ?_
      refine V_getR (pc := 93) dX7_prepare_93 flX7_83 rfl (by omega) (congrArg Prod.fst (shT (qT_6 hG.2.2.1))) (rT_3 (rQ_s6 (rQ_RT hG.2.2.1))) rfl ?_
      refine V_iload (pc := 96) dX7_prepare_96 rfl rfl ?_
      obtain ⟨hc8, hf⟩ := pif hf
      refine V_iald (pc := 98) dX7_prepare_98 (by omega) (shT3 (qT_6 hG.2.2.1)) hc8 rfl ?_
      let x9 : Int32 := (I (sk + 1 + 3) y6.toNatClampNeg)
      refine V_istore (ls' := [some _, some _, some _, some _, some _, some _, some _, some _]) (pc := 99) dX7_prepare_99 (Nat.le_of_ble_eq_true rfl) rfl rfl ?_
      refine V_aload_n (pc := 101) dX7_prepare_101 rfl rfl rfl ?_
      refine V_getR (pc := 102) dX7_prepare_102 flX7_19 rfl (by omega) (congrArg Prod.fst sh_57) rt_57_9 rfl ?_
      refine V_iload (pc := 105) dX7_prepare_105 rfl rfl ?_
      obtain ⟨hc10, hf⟩ := pif hf
      refine V_iald (pc := 107) dX7_prepare_107 (by omega) sh_60 hc10 rfl ?_
      refine V_ldc (pc := 108) dX7_prepare_108 kcX7_65 rfl ?_
      obtain ⟨q16, hq16, hf⟩ := bnd hf
      have Kq16 : V g mX7_prepare (d + 4) 0 0 n (RT tw dr sk tl ff) q16 L 148 [some (.ref 57), some (.int y1), some (.int y2), some (.int y3), some (.int y4), some (.ref (sk + 1)), some (.int y6), some (.int x9)] [] P := by
        refine V_aload_n (pc := 148) dX7_prepare_148 rfl rfl rfl ?_
        refine V_getR (pc := 149) dX7_prepare_149 flX7_9 rfl (by omega) (congrArg Prod.fst sh_57) rt_57_7 rfl ?_
        refine V_iload_n (pc := 152) dX7_prepare_152 rfl rfl rfl ?_
        refine V_bipush (pc := 153) dX7_prepare_153 bp_8 rfl ?_
        refine V_imul (pc := 155) dX7_prepare_155 rfl ?_
        refine V_iload (pc := 156) dX7_prepare_156 rfl rfl ?_
        refine V_iadd (pc := 158) dX7_prepare_158 rfl ?_
        refine V_aload_n (pc := 159) dX7_prepare_159 rfl rfl rfl ?_
        refine V_getR (pc := 160) dX7_prepare_160 flX7_22 rfl (by omega) (congrArg Prod.fst sh_57) rt_57_0 rfl ?_
        refine V_iload (pc := 163) dX7_prepare_163 rfl rfl ?_
        refine V_aload_n (pc := 165) dX7_prepare_165 rfl rfl rfl ?_
        refine V_getR (pc := 166) dX7_prepare_166 flX7_19 rfl (by omega) (congrArg Prod.fst sh_57) rt_57_9 rfl ?_
        refine V_iload (pc := 169) dX7_prepare_169 rfl rfl ?_
        obtain ⟨hc22, hf⟩ := pif hf
        refine V_iald (pc := 171) dX7_prepare_171 (by omega) sh_60 hc22 rfl ?_
        refine V_iload (pc := 172) dX7_prepare_172 rfl rfl ?_
        obtain ⟨q23, hq23, hf⟩ := bnd hf
        refine V_cVl (md' := mX5_shadowBy) (pc := 174) dX7_prepare_174 mlX7_99 mVX5_shadowBy (tX5_shadowBy hG.2.2.1 (rQ_RT hG.2.2.1) (by omega) hq23) rfl (by omega) (congrArg Prod.fst (shQ hG.2.2.1)) rfl (Nat.le_of_ble_eq_true rfl) rfl ?_
        obtain ⟨hc24, hf⟩ := pif hf
        let L25 : HL := up2 L 58 ((y1 * (8 : Int32)) + y6).toNatClampNeg q23
        refine V_last (pc := 177) dX7_prepare_177 (by omega) sh_58 hc24 rfl ?_
        refine V_aload (pc := 178) dX7_prepare_178 rfl rfl ?_
        refine V_iload (pc := 180) dX7_prepare_180 rfl rfl ?_
        refine V_iload_n (pc := 182) dX7_prepare_182 rfl rfl rfl ?_
        obtain ⟨q26, hq26, hf⟩ := bnd hf
        refine V_cVz (md' := mX8_isInHours) (pc := 183) dX7_prepare_183 mlX7_103 mVX8_isInHours (tX8_isInHours (qT_6 hG.2.2.1) (rQ_s6 (rQ_RT hG.2.2.1)) (by omega) hq26) rfl (by omega) (congrArg Prod.fst (shT (qT_6 hG.2.2.1))) rfl (Nat.le_of_ble_eq_true rfl) rfl ?_
        refine V_if_eq (pc := 186) (tgt := 202) dX7_prepare_186 (by decide) rfl (fun hc => ?_) (fun hc => ?_)
        · replace hf := (if_pos hc).symm.trans hf
          refine V_iinc (ls' := [some _, some _, some _, some _, some _, some _, some _, some _]) (pc := 202) dX7_prepare_202 rfl (Nat.le_of_ble_eq_true rfl) (congrArg _ ic_1) rfl rfl ?_
          refine V_goto (pc := 205) (tgt := 81) dX7_prepare_205 (by decide) ?_
          exact V_wk (ih _ _ _ _ _ _ _ _ hf K) ⟨rfl, ⟨rfl, ⟨rfl, ⟨rfl, ⟨rfl, ⟨rfl, ⟨rfl, trivial⟩⟩⟩⟩⟩⟩⟩
        · replace hf := (if_neg hc).symm.trans hf
          refine V_aload_n (pc := 189) dX7_prepare_189 rfl rfl rfl ?_
          refine V_getR (pc := 190) dX7_prepare_190 flX7_15 rfl (by omega) (congrArg Prod.fst sh_57) rt_57_8 rfl ?_
          refine V_iload_n (pc := 193) dX7_prepare_193 rfl rfl rfl ?_
          refine V_dup2_11 (pc := 194) dX7_prepare_194 rfl rfl rfl ?_
          obtain ⟨hc27, hf⟩ := pif hf
          refine V_iald (pc := 195) dX7_prepare_195 (by omega) sh_59 hc27 rfl ?_
          refine V_iconst (pc := 196) dX7_prepare_196 ic_1 rfl ?_
          refine V_iload (pc := 197) dX7_prepare_197 rfl rfl ?_
          refine V_ishl (pc := 199) dX7_prepare_199 rfl ?_
          refine V_ior (pc := 200) dX7_prepare_200 rfl ?_
          obtain ⟨hc28, hf⟩ := pif hf
          let I29 : HI := up2 q16 59 y1.toNatClampNeg ((q16 59 y1.toNatClampNeg) ||| ((1 : Int32) <<< (y6 &&& 31)))
          refine V_iast (pc := 201) dX7_prepare_201 (by omega) sh_59 hc28 rfl ?_
          refine V_iinc (ls' := [some _, some _, some _, some _, some _, some _, some _, some _]) (pc := 202) dX7_prepare_202 rfl (Nat.le_of_ble_eq_true rfl) (congrArg _ ic_1) rfl rfl ?_
          refine V_goto (pc := 205) (tgt := 81) dX7_prepare_205 (by decide) ?_
          exact V_wk (ih _ _ _ _ _ _ _ _ hf K) ⟨rfl, ⟨rfl, ⟨rfl, ⟨rfl, ⟨rfl, ⟨rfl, ⟨rfl, trivial⟩⟩⟩⟩⟩⟩⟩
      refine V_icmp_ne (pc := 110) (tgt := 148) dX7_prepare_110 (by decide) rfl (fun hc => ?_) (fun hc => ?_)
      · replace hq16 := (if_neg hc).symm.trans hq16
        cases hq16
        exact V_wk Kq16 ⟨rfl, ⟨rfl, ⟨rfl, ⟨rfl, ⟨rfl, ⟨rfl, ⟨rfl, ⟨rfl, trivial⟩⟩⟩⟩⟩⟩⟩⟩
      · replace hq16 := (if_pos hc).symm.trans hq16
        refine V_aload_n (pc := 113) dX7_prepare_113 rfl rfl rfl ?_
        refine V_getR (pc := 114) dX7_prepare_114 flX7_19 rfl (by omega) (congrArg Prod.fst sh_57) rt_57_9 rfl ?_
        refine V_iload (pc := 117) dX7_prepare_117 rfl rfl ?_
        refine V_aload_n (pc := 119) dX7_prepare_119 rfl rfl rfl ?_
        refine V_getI (pc := 120) dX7_prepare_120 flX7_47 rfl (by omega) (congrArg Prod.fst sh_57) rfl ?_
        refine V_if_eq (pc := 123) (tgt := 130) dX7_prepare_123 (by decide) rfl (fun hc => ?_) (fun hc => ?_)
        · replace hq16 := (if_pos hc).symm.trans hq16
          refine V_aload_n (pc := 130) dX7_prepare_130 rfl rfl rfl ?_
          refine V_getR (pc := 131) dX7_prepare_131 flX7_22 rfl (by omega) (congrArg Prod.fst sh_57) rt_57_0 rfl ?_
          refine V_getR (pc := 134) dX7_prepare_134 flX7_86 rfl (by omega) (congrArg Prod.fst (shQ hG.2.2.1)) (rQ_9 (rQ_RT hG.2.2.1)) rfl ?_
          refine V_iload (pc := 137) dX7_prepare_137 rfl rfl ?_
          refine V_iload_n (pc := 139) dX7_prepare_139 rfl rfl rfl ?_
          refine V_iload_n (pc := 140) dX7_prepare_140 rfl rfl rfl ?_
          obtain ⟨q17, hq17, hq16⟩ := bnd hq16
          refine V_cVi (md' := mX1_valueFor) (pc := 141) dX7_prepare_141 mlX7_90 mVX1_valueFor (tX1_valueFor (qF_9 hG.2.2.1) (rQ_s9 (rQ_RT hG.2.2.1)) (by omega) hq17) rfl (by omega) (congrArg Prod.fst (shF (qF_9 hG.2.2.1))) rfl (Nat.le_of_ble_eq_true rfl) rfl ?_
          refine V_cSi (md' := mX7_cut) (pc := 144) dX7_prepare_144 mlX7_96 mSX7_cut (tX7_cut rfl) rfl rfl (Nat.le_of_ble_eq_true rfl) rfl ?_
          obtain ⟨hc18, hq16⟩ := pif hq16
          let I19 : HI := up2 q17.2 60 x9.toNatClampNeg (fX7_cut q17.1)
          refine V_iast (pc := 147) dX7_prepare_147 (by omega) sh_60 hc18 rfl ?_
          cases hq16
          exact V_wk Kq16 ⟨rfl, ⟨rfl, ⟨rfl, ⟨rfl, ⟨rfl, ⟨rfl, ⟨rfl, ⟨rfl, trivial⟩⟩⟩⟩⟩⟩⟩⟩
        · replace hq16 := (if_neg hc).symm.trans hq16
          refine V_iconst (pc := 126) dX7_prepare_126 ic_0 rfl ?_
          refine V_goto (pc := 127) (tgt := 147) dX7_prepare_127 (by decide) ?_
          obtain ⟨hc20, hq16⟩ := pif hq16
          let I21 : HI := up2 I 60 x9.toNatClampNeg (0 : Int32)
          refine V_iast (pc := 147) dX7_prepare_147 (by omega) sh_60 hc20 rfl ?_
          cases hq16
          exact V_wk Kq16 ⟨rfl, ⟨rfl, ⟨rfl, ⟨rfl, ⟨rfl, ⟨rfl, ⟨rfl, ⟨rfl, trivial⟩⟩⟩⟩⟩⟩⟩⟩
noncomputable def fX7_prepare (sk : Nat) (v1 : Int32) (I : HI) (L : HL) : Option (HI × HL) :=
  if (((L 57 6).toUInt64 >>> (v1.toInt64.toUInt64 &&& Int64.toUInt64 63)).toInt64 &&& (1 : Int64)) = (0 : Int64) then
    let L1 : HL := up2 L 57 6 ((L 57 6) ||| ((1 : Int64) <<< (v1.toInt64 &&& 63)))
    let x2 : Int32 := (((I 57 1) + v1) - ((I 57 1) + v1) / (24 : Int32) * (24 : Int32))
    let x3 : Int32 := (((I 57 1) + v1) / (24 : Int32))
    Option.bind (fX7_litIn sk x2 I) fun q4 =>
    Option.bind (fJ7_fill_53178 60 10 (-1000000 : Int32) I) fun q5 =>
    if inb v1 49 = true then
      let I7 : HI := up2 q5 59 v1.toNatClampNeg (0 : Int32)
      Option.bind (fX7_prepare_81 sk FUEL v1 x2 x3 q4 (0 : Int32) I7 L1) fun q30 =>
      some (q30.1, q30.2)
    else none
  else
    some (I, L)
set_option maxRecDepth 100000 in
set_option maxHeartbeats 4000000 in
theorem tX7_prepare {g : GG} {n d : Nat} {tw dr sk tl ff : Nat} (hG : RG tw dr sk tl ff) (hn : 116 ≤ n) {v1 : Int32} {I : HI} {L : HL} {res : HI × HL} (hf : fX7_prepare sk v1 I L = some res) : CT g mX7_prepare (d + 4) 0 0 n (RT tw dr sk tl ff) I L [.ref 57, .int v1] (PoV n (RT tw dr sk tl ff) res.1 res.2) := by
  refine CT.of rfl (Nat.le_of_ble_eq_true rfl) ?_
  show V g mX7_prepare (d + 4) 0 0 n (RT tw dr sk tl ff) I L 0 [some (.ref 57), some (.int v1)] [] (PoV n (RT tw dr sk tl ff) res.1 res.2)
  refine V_aload_n (pc := 0) dX7_prepare_0 rfl rfl rfl ?_
  refine V_getL (pc := 1) dX7_prepare_1 flX7_26 rfl (by omega) (congrArg Prod.fst sh_57) rfl ?_
  refine V_iload_n (pc := 4) dX7_prepare_4 rfl rfl rfl ?_
  refine V_lushr (pc := 5) dX7_prepare_5 rfl ?_
  refine V_lconst (pc := 6) dX7_prepare_6 lc_1 rfl ?_
  refine V_land (pc := 7) dX7_prepare_7 rfl ?_
  refine V_lconst (pc := 8) dX7_prepare_8 lc_0 rfl ?_
  refine V_lc_eq (pc := 9) (tgt := 14) dX7_prepare_9 rfl dX7_prepare_10 (by decide) rfl (fun hc => ?_) (fun hc => ?_)
  · replace hf := (if_pos hc).symm.trans hf
    refine V_aload_n (pc := 14) dX7_prepare_14 rfl rfl rfl ?_
    refine V_dup (pc := 15) dX7_prepare_15 rfl rfl ?_
    refine V_getL (pc := 16) dX7_prepare_16 flX7_26 rfl (by omega) (congrArg Prod.fst sh_57) rfl ?_
    refine V_lconst (pc := 19) dX7_prepare_19 lc_1 rfl ?_
    refine V_iload_n (pc := 20) dX7_prepare_20 rfl rfl rfl ?_
    refine V_lshl (pc := 21) dX7_prepare_21 rfl ?_
    refine V_lor (pc := 22) dX7_prepare_22 rfl ?_
    let L1 : HL := up2 L 57 6 ((L 57 6) ||| ((1 : Int64) <<< (v1.toInt64 &&& 63)))
    refine V_putL (pc := 23) dX7_prepare_23 flX7_26 rfl rfl (by omega) (congrArg Prod.fst sh_57) rfl ?_
    refine V_aload_n (pc := 26) dX7_prepare_26 rfl rfl rfl ?_
    refine V_getI (pc := 27) dX7_prepare_27 flX7_37 rfl (by omega) (congrArg Prod.fst sh_57) rfl ?_
    refine V_iload_n (pc := 30) dX7_prepare_30 rfl rfl rfl ?_
    refine V_iadd (pc := 31) dX7_prepare_31 rfl ?_
    refine V_bipush (pc := 32) dX7_prepare_32 bp_24 rfl ?_
    refine V_irem (pc := 34) dX7_prepare_34 (by decide) rfl ?_
    let x2 : Int32 := (((I 57 1) + v1) - ((I 57 1) + v1) / (24 : Int32) * (24 : Int32))
    refine V_istore_n (ls' := [some _, some _, some _]) (pc := 35) dX7_prepare_35 rfl (Nat.le_of_ble_eq_true rfl) rfl rfl ?_
    refine V_aload_n (pc := 36) dX7_prepare_36 rfl rfl rfl ?_
    refine V_getI (pc := 37) dX7_prepare_37 flX7_37 rfl (by omega) (congrArg Prod.fst sh_57) rfl ?_
    refine V_iload_n (pc := 40) dX7_prepare_40 rfl rfl rfl ?_
    refine V_iadd (pc := 41) dX7_prepare_41 rfl ?_
    refine V_bipush (pc := 42) dX7_prepare_42 bp_24 rfl ?_
    refine V_idiv (pc := 44) dX7_prepare_44 (by decide) rfl ?_
    let x3 : Int32 := (((I 57 1) + v1) / (24 : Int32))
    refine V_istore_n (ls' := [some _, some _, some _, some _]) (pc := 45) dX7_prepare_45 rfl (Nat.le_of_ble_eq_true rfl) rfl rfl ?_
    refine V_aload_n (pc := 46) dX7_prepare_46 rfl rfl rfl ?_
    refine V_iload_n (pc := 47) dX7_prepare_47 rfl rfl rfl ?_
    obtain ⟨q4, hq4, hf⟩ := bnd hf
    refine V_cVi (md' := mX7_litIn) (pc := 48) dX7_prepare_48 mlX7_61 mVX7_litIn (tX7_litIn hG hn hq4) rfl (by omega) (congrArg Prod.fst sh_57) rfl (Nat.le_of_ble_eq_true rfl) rfl ?_
    refine V_istore (ls' := [some _, some _, some _, some _, some _]) (pc := 51) dX7_prepare_51 (Nat.le_of_ble_eq_true rfl) rfl rfl ?_
    refine V_aload_n (pc := 53) dX7_prepare_53 rfl rfl rfl ?_
    refine V_getR (pc := 54) dX7_prepare_54 flX7_19 rfl (by omega) (congrArg Prod.fst sh_57) rt_57_9 rfl ?_
    refine V_ldc (pc := 57) dX7_prepare_57 kcX7_65 rfl ?_
    obtain ⟨q5, hq5, hf⟩ := bnd hf
    refine V_cSv (md' := mJ7_fill_53178) (pc := 59) dX7_prepare_59 mlX7_66 mSJ7_fill_53178 (tJ7_fill_53178 sh_60 (by omega) hq5) rfl rfl (Nat.le_of_ble_eq_true rfl) rfl ?_
    refine V_aload_n (pc := 62) dX7_prepare_62 rfl rfl rfl ?_
    refine V_getR (pc := 63) dX7_prepare_63 flX7_15 rfl (by omega) (congrArg Prod.fst sh_57) rt_57_8 rfl ?_
    refine V_iload_n (pc := 66) dX7_prepare_66 rfl rfl rfl ?_
    refine V_iconst (pc := 67) dX7_prepare_67 ic_0 rfl ?_
    obtain ⟨hc6, hf⟩ := pif hf
    let I7 : HI := up2 q5 59 v1.toNatClampNeg (0 : Int32)
    refine V_iast (pc := 68) dX7_prepare_68 (by omega) sh_59 hc6 rfl ?_
    refine V_aload_n (pc := 69) dX7_prepare_69 rfl rfl rfl ?_
    refine V_getR (pc := 70) dX7_prepare_70 flX7_22 rfl (by omega) (congrArg Prod.fst sh_57) rt_57_0 rfl ?_
    refine V_getR (pc := 73) dX7_prepare_73 flX7_72 rfl (by omega) (congrArg Prod.fst (shQ hG.2.2.1)) (rQ_6 (rQ_RT hG.2.2.1)) rfl ?_
    refine V_astore (ls' := [some _, some _, some _, some _, some _, some _]) (pc := 76) dX7_prepare_76 (Nat.le_of_ble_eq_true rfl) rfl rfl ?_
    refine V_iconst (pc := 78) dX7_prepare_78 ic_0 rfl ?_
    refine V_istore (ls' := [some _, some _, some _, some _, some _, some _, some _]) (pc := 79) dX7_prepare_79 (Nat.le_of_ble_eq_true rfl) rfl rfl ?_
    obtain ⟨q30, hq30, hf⟩ := bnd hf
    refine V_wk (lX7_prepare_81 hG hn FUEL _ _ _ _ _ _ _ _ hq30 ?_) ⟨rfl, ⟨rfl, ⟨rfl, ⟨rfl, ⟨rfl, ⟨rfl, ⟨rfl, trivial⟩⟩⟩⟩⟩⟩⟩
    cases hf
    exact PoV_mk
  · replace hf := (if_neg hc).symm.trans hf
    cases hf
    exact V_vret (pc := 13) dX7_prepare_13 rfl PoV_mk
/-! ShadowDoors$Sky.shadowOf -/
noncomputable def fX7_shadowOf (sk : Nat) (v1 : Int32) (v2 : Int32) (I : HI) (L : HL) : Option (Int64 × HI × HL) :=
  Option.bind (fX7_prepare sk v2 I L) fun q1 =>
  if inb ((v2 * (8 : Int32)) + v1) 392 = true then
    some ((q1.2 58 ((v2 * (8 : Int32)) + v1).toNatClampNeg), q1.1, q1.2)
  else none
set_option maxRecDepth 100000 in
set_option maxHeartbeats 4000000 in
theorem tX7_shadowOf {g : GG} {n d : Nat} {tw dr sk tl ff : Nat} (hG : RG tw dr sk tl ff) (hn : 116 ≤ n) {v1 : Int32} {v2 : Int32} {I : HI} {L : HL} {res : Int64 × HI × HL} (hf : fX7_shadowOf sk v1 v2 I L = some res) : CT g mX7_shadowOf (d + 5) 0 0 n (RT tw dr sk tl ff) I L [.ref 57, .int v1, .int v2] (PoL n (RT tw dr sk tl ff) res.1 res.2.1 res.2.2) := by
  refine CT.of rfl (Nat.le_of_ble_eq_true rfl) ?_
  show V g mX7_shadowOf (d + 5) 0 0 n (RT tw dr sk tl ff) I L 0 [some (.ref 57), some (.int v1), some (.int v2)] [] (PoL n (RT tw dr sk tl ff) res.1 res.2.1 res.2.2)
  refine V_aload_n (pc := 0) dX7_shadowOf_0 rfl rfl rfl ?_
  refine V_iload_n (pc := 1) dX7_shadowOf_1 rfl rfl rfl ?_
  obtain ⟨q1, hq1, hf⟩ := bnd hf
  refine V_cVv (md' := mX7_prepare) (pc := 2) dX7_shadowOf_2 mlX7_57 mVX7_prepare (tX7_prepare hG hn hq1) rfl (by omega) (congrArg Prod.fst sh_57) rfl (Nat.le_of_ble_eq_true rfl) rfl ?_
  refine V_aload_n (pc := 5) dX7_shadowOf_5 rfl rfl rfl ?_
  refine V_getR (pc := 6) dX7_shadowOf_6 flX7_9 rfl (by omega) (congrArg Prod.fst sh_57) rt_57_7 rfl ?_
  refine V_iload_n (pc := 9) dX7_shadowOf_9 rfl rfl rfl ?_
  refine V_bipush (pc := 10) dX7_shadowOf_10 bp_8 rfl ?_
  refine V_imul (pc := 12) dX7_shadowOf_12 rfl ?_
  refine V_iload_n (pc := 13) dX7_shadowOf_13 rfl rfl rfl ?_
  refine V_iadd (pc := 14) dX7_shadowOf_14 rfl ?_
  obtain ⟨hc2, hf⟩ := pif hf
  refine V_lald (pc := 15) dX7_shadowOf_15 (by omega) sh_58 hc2 rfl ?_
  cases hf
  exact V_lret (pc := 16) dX7_shadowOf_16 rfl PoL_mk
/-! ShadowDoors$Sky.openIn -/
noncomputable def fX7_openIn (sk : Nat) (v1 : Int32) (I : HI) (L : HL) : Option (Int32 × HI × HL) :=
  Option.bind (fX7_prepare sk v1 I L) fun q1 =>
  if inb v1 49 = true then
    some (((q1.1 59 v1.toNatClampNeg) &&& ((q1.1 57 2) ^^^ (-1 : Int32))), q1.1, q1.2)
  else none
set_option maxRecDepth 100000 in
set_option maxHeartbeats 4000000 in
theorem tX7_openIn {g : GG} {n d : Nat} {tw dr sk tl ff : Nat} (hG : RG tw dr sk tl ff) (hn : 116 ≤ n) {v1 : Int32} {I : HI} {L : HL} {res : Int32 × HI × HL} (hf : fX7_openIn sk v1 I L = some res) : CT g mX7_openIn (d + 5) 0 0 n (RT tw dr sk tl ff) I L [.ref 57, .int v1] (PoI n (RT tw dr sk tl ff) res.1 res.2.1 res.2.2) := by
  refine CT.of rfl (Nat.le_of_ble_eq_true rfl) ?_
  show V g mX7_openIn (d + 5) 0 0 n (RT tw dr sk tl ff) I L 0 [some (.ref 57), some (.int v1)] [] (PoI n (RT tw dr sk tl ff) res.1 res.2.1 res.2.2)
  refine V_aload_n (pc := 0) dX7_openIn_0 rfl rfl rfl ?_
  refine V_iload_n (pc := 1) dX7_openIn_1 rfl rfl rfl ?_
  obtain ⟨q1, hq1, hf⟩ := bnd hf
  refine V_cVv (md' := mX7_prepare) (pc := 2) dX7_openIn_2 mlX7_57 mVX7_prepare (tX7_prepare hG hn hq1) rfl (by omega) (congrArg Prod.fst sh_57) rfl (Nat.le_of_ble_eq_true rfl) rfl ?_
  refine V_aload_n (pc := 5) dX7_openIn_5 rfl rfl rfl ?_
  refine V_getR (pc := 6) dX7_openIn_6 flX7_15 rfl (by omega) (congrArg Prod.fst sh_57) rt_57_8 rfl ?_
  refine V_iload_n (pc := 9) dX7_openIn_9 rfl rfl rfl ?_
  obtain ⟨hc2, hf⟩ := pif hf
  refine V_iald (pc := 10) dX7_openIn_10 (by omega) sh_59 hc2 rfl ?_
  refine V_aload_n (pc := 11) dX7_openIn_11 rfl rfl rfl ?_
  refine V_getI (pc := 12) dX7_openIn_12 flX7_36 rfl (by omega) (congrArg Prod.fst sh_57) rfl ?_
  refine V_iconst (pc := 15) dX7_openIn_15 ic_m1 rfl ?_
  refine V_ixor (pc := 16) dX7_openIn_16 rfl ?_
  refine V_iand (pc := 17) dX7_openIn_17 rfl ?_
  cases hf
  exact V_iret (pc := 18) dX7_openIn_18 rfl PoI_mk
/-! ShadowDoors$Sky.crossed -/
noncomputable def fX7_crossed_6 (sk : Nat) : Nat → Int64 → Int32 → Int32 → Int64 → Int32 → HI → HL → Option (Int64)
  | 0, _, _, _, _, _, _, _ => none
  | fu + 1, y1, y3, y4, y5, y7, I, L =>
    if (I (sk + 1) 0) ≤ y7 then
      some y5
    else
      Option.bind (
        if (b2i (fX11_isBit y4 y7)) = 0 then
          some true
        else
          if inb ((y3 * (8 : Int32)) + y7) 392 = true then
            if (y1 &&& (L 58 ((y3 * (8 : Int32)) + y7).toNatClampNeg)) = (0 : Int64) then
              some true
            else
              some false
          else none
      ) fun b1 =>
      if b1 = true then
        fX7_crossed_6 sk fu y1 y3 y4 y5 (y7 + (1 : Int32)) I L
      else
        if inb y7 (capT (sk + 1)) = true then
          let x4 : Int64 := (y5 ||| ((1 : Int64) <<< ((I (sk + 1 + 2) y7.toNatClampNeg).toInt64 &&& 63)))
          fX7_crossed_6 sk fu y1 y3 y4 x4 (y7 + (1 : Int32)) I L
        else none
set_option maxRecDepth 100000 in
set_option maxHeartbeats 4000000 in
theorem lX7_crossed_6 {g : GG} {n d : Nat} {tw dr sk tl ff : Nat} (hG : RG tw dr sk tl ff) (hn : 116 ≤ n) {P : PP} : ∀ (fu : Nat) (y1 : Int64) (y3 : Int32) (y4 : Int32) (y5 : Int64) (y7 : Int32) (I : HI) (L : HL) (res : Int64), fX7_crossed_6 sk fu y1 y3 y4 y5 y7 I L = some res → P (some (.long res)) n (RT tw dr sk tl ff) I L → V g mX7_crossed (d + 2) 0 0 n (RT tw dr sk tl ff) I L 6 [some (.ref 57), some (.long y1), none, some (.int y3), some (.int y4), some (.long y5), none, some (.int y7)] [] P := by
  intro fu
  induction fu with
  | zero => intro y1 y3 y4 y5 y7 I L res hf; cases (show none = some res from hf)
  | succ fu ih =>
    intro y1 y3 y4 y5 y7 I L res hf K
    refine V_iload (pc := 6) dX7_crossed_6 rfl rfl ?_
    refine V_aload_n (pc := 8) dX7_crossed_8 rfl rfl rfl ?_
    refine V_getR (pc := 9) dX7_crossed_9 flX7_22 rfl (by omega) (congrArg Prod.fst sh_57) rt_57_0 rfl ?_
    refine V_getR (pc := 12) dX7_crossed_12 flX7_72 rfl (by omega) (congrArg Prod.fst (shQ hG.2.2.1)) (rQ_6 (rQ_RT hG.2.2.1)) rfl ?_
    refine V_getI (pc := 15) dX7_crossed_15 flX7_78 rfl (by omega) (congrArg Prod.fst (shT (qT_6 hG.2.2.1))) rfl ?_
    refine V_icmp_ge (pc := 18) (tgt := 76) dX7_crossed_18 (by decide) rfl (fun hc => ?_) (fun hc => ?_)
    · replace hf := (if_pos hc).symm.trans hf
      refine V_lload (pc := 76) dX7_crossed_76 rfl rfl ?_
      cases hf
      exact V_lret (pc := 78) dX7_crossed_78 rfl K
    · replace hf := (if_neg hc).symm.trans hf
      refine V_iload (pc := 21) dX7_crossed_21 rfl rfl ?_
      refine V_iload (pc := 23) dX7_crossed_23 rfl rfl ?_
      refine V_cNz (md' := mX11_isBit) (k := 5) (pc := 25) dX7_crossed_25 rfl mSX11_isBit (tX11_isBit rfl) rfl rfl (Nat.le_of_ble_eq_true rfl) rfl ?_
      obtain ⟨b1, hb1, hf⟩ := bnd hf
      have KTb1 : b1 = true → V g mX7_crossed (d + 2) 0 0 n (RT tw dr sk tl ff) I L 70 [some (.ref 57), some (.long y1), none, some (.int y3), some (.int y4), some (.long y5), none, some (.int y7)] [] P := fun hc => by
        replace hf := (if_pos hc).symm.trans hf
        refine V_iinc (ls' := [some _, some _, none, some _, some _, some _, none, some _]) (pc := 70) dX7_crossed_70 rfl (Nat.le_of_ble_eq_true rfl) (congrArg _ ic_1) rfl rfl ?_
        refine V_goto (pc := 73) (tgt := 6) dX7_crossed_73 (by decide) ?_
        exact V_wk (ih _ _ _ _ _ _ _ _ hf K) ⟨rfl, ⟨rfl, ⟨rfl, ⟨rfl, ⟨rfl, ⟨rfl, trivial⟩⟩⟩⟩⟩⟩
      have KFb1 : ¬ b1 = true → V g mX7_crossed (d + 2) 0 0 n (RT tw dr sk tl ff) I L 50 [some (.ref 57), some (.long y1), none, some (.int y3), some (.int y4), some (.long y5), none, some (.int y7)] [] P := fun hc => by
        replace hf := (if_neg hc).symm.trans hf
        refine V_lload (pc := 50) dX7_crossed_50 rfl rfl ?_
        refine V_lconst (pc := 52) dX7_crossed_52 lc_1 rfl ?_
        refine V_aload_n (pc := 53) dX7_crossed_53 rfl rfl rfl ?_
        refine V_getR (pc := 54) dX7_crossed_54 flX7_22 rfl (by omega) (congrArg Prod.fst sh_57) rt_57_0 rfl ?_
        refine V_getR (pc := 57) dX7_crossed_57 flX7_72 rfl (by omega) (congrArg Prod.fst (shQ hG.2.2.1)) (rQ_6 (rQ_RT hG.2.2.1)) rfl ?_
        refine V_getR (pc := 60) dX7_crossed_60 flX7_126 rfl (by omega) (congrArg Prod.fst (shT (qT_6 hG.2.2.1))) (rT_2 (rQ_s6 (rQ_RT hG.2.2.1))) rfl ?_
        refine V_iload (pc := 63) dX7_crossed_63 rfl rfl ?_
        obtain ⟨hc3, hf⟩ := pif hf
        refine V_iald (pc := 65) dX7_crossed_65 (by omega) (shT2 (qT_6 hG.2.2.1)) hc3 rfl ?_
        refine V_lshl (pc := 66) dX7_crossed_66 rfl ?_
        refine V_lor (pc := 67) dX7_crossed_67 rfl ?_
        let x4 : Int64 := (y5 ||| ((1 : Int64) <<< ((I (sk + 1 + 2) y7.toNatClampNeg).toInt64 &&& 63)))
        refine V_lstore (ls' := [some _, some _, none, some _, some _, some _, none, some _]) (pc := 68) dX7_crossed_68 (Nat.le_of_ble_eq_true rfl) rfl rfl ?_
        refine V_iinc (ls' := [some _, some _, none, some _, some _, some _, none, some _]) (pc := 70) dX7_crossed_70 rfl (Nat.le_of_ble_eq_true rfl) (congrArg _ ic_1) rfl rfl ?_
        refine V_goto (pc := 73) (tgt := 6) dX7_crossed_73 (by decide) ?_
        exact V_wk (ih _ _ _ _ _ _ _ _ hf K) ⟨rfl, ⟨rfl, ⟨rfl, ⟨rfl, ⟨rfl, ⟨rfl, trivial⟩⟩⟩⟩⟩⟩
      refine V_if_eq (pc := 28) (tgt := 70) dX7_crossed_28 (by decide) rfl (fun hc => ?_) (fun hc => ?_)
      · replace hb1 := (if_pos hc).symm.trans hb1
        cases hb1
        exact KTb1 rfl
      · replace hb1 := (if_neg hc).symm.trans hb1
        refine V_lload_n (pc := 31) dX7_crossed_31 rfl rfl rfl ?_
        refine V_aload_n (pc := 32) dX7_crossed_32 rfl rfl rfl ?_
        refine V_getR (pc := 33) dX7_crossed_33 flX7_9 rfl (by omega) (congrArg Prod.fst sh_57) rt_57_7 rfl ?_
        refine V_iload_n (pc := 36) dX7_crossed_36 rfl rfl rfl ?_
        refine V_bipush (pc := 37) dX7_crossed_37 bp_8 rfl ?_
        refine V_imul (pc := 39) dX7_crossed_39 rfl ?_
        refine V_iload (pc := 40) dX7_crossed_40 rfl rfl ?_
        refine V_iadd (pc := 42) dX7_crossed_42 rfl ?_
        obtain ⟨hc2, hb1⟩ := pif hb1
        refine V_lald (pc := 43) dX7_crossed_43 (by omega) sh_58 hc2 rfl ?_
        refine V_land (pc := 44) dX7_crossed_44 rfl ?_
        refine V_lconst (pc := 45) dX7_crossed_45 lc_0 rfl ?_
        refine V_lc_eq (pc := 46) (tgt := 70) dX7_crossed_46 rfl dX7_crossed_47 (by decide) rfl (fun hc => ?_) (fun hc => ?_)
        · replace hb1 := (if_pos hc).symm.trans hb1
          cases hb1
          exact KTb1 rfl
        · replace hb1 := (if_neg hc).symm.trans hb1
          cases hb1
          exact KFb1 (nbt rfl)
noncomputable def fX7_crossed (sk : Nat) (v1 : Int64) (v2 : Int32) (v3 : Int32) (I : HI) (L : HL) : Option (Int64) :=
  Option.bind (fX7_crossed_6 sk FUEL v1 v2 v3 (0 : Int64) (0 : Int32) I L) fun q5 =>
  some q5
set_option maxRecDepth 100000 in
set_option maxHeartbeats 4000000 in
theorem tX7_crossed {g : GG} {n d : Nat} {tw dr sk tl ff : Nat} (hG : RG tw dr sk tl ff) (hn : 116 ≤ n) {v1 : Int64} {v2 : Int32} {v3 : Int32} {I : HI} {L : HL} {res : Int64} (hf : fX7_crossed sk v1 v2 v3 I L = some res) : CT g mX7_crossed (d + 2) 0 0 n (RT tw dr sk tl ff) I L [.ref 57, .long v1, .int v2, .int v3] (PoL n (RT tw dr sk tl ff) res I L) := by
  refine CT.of rfl (Nat.le_of_ble_eq_true rfl) ?_
  show V g mX7_crossed (d + 2) 0 0 n (RT tw dr sk tl ff) I L 0 [some (.ref 57), some (.long v1), none, some (.int v2), some (.int v3)] [] (PoL n (RT tw dr sk tl ff) res I L)
  refine V_lconst (pc := 0) dX7_crossed_0 lc_0 rfl ?_
  refine V_lstore (ls' := [some _, some _, none, some _, some _, some _, none]) (pc := 1) dX7_crossed_1 (Nat.le_of_ble_eq_true rfl) rfl rfl ?_
  refine V_iconst (pc := 3) dX7_crossed_3 ic_0 rfl ?_
  refine V_istore (ls' := [some _, some _, none, some _, some _, some _, none, some _]) (pc := 4) dX7_crossed_4 (Nat.le_of_ble_eq_true rfl) rfl rfl ?_
  obtain ⟨q5, hq5, hf⟩ := bnd hf
  refine V_wk (lX7_crossed_6 hG hn FUEL _ _ _ _ _ _ _ _ hq5 ?_) ⟨rfl, ⟨rfl, ⟨rfl, ⟨rfl, ⟨rfl, ⟨rfl, trivial⟩⟩⟩⟩⟩⟩
  cases hf
  exact PoL_mk
/-! ShadowDoors$Sky.stepFrom -/
noncomputable def fX7_stepFrom_38 (sk : Nat) : Nat → Int64 → Int32 → Int32 → Int64 → Int32 → HI → HL → Option (Int64)
  | 0, _, _, _, _, _, _, _ => none
  | fu + 1, y1, y3, y5, y6, y8, I, L =>
    if (I (sk + 1) 0) ≤ y8 then
      some y6
    else
      if (b2i (fX11_isBit y5 y8)) = 0 then
        fX7_stepFrom_38 sk fu y1 y3 y5 y6 (y8 + (1 : Int32)) I L
      else
        if inb ((y3 * (8 : Int32)) + y8) 392 = true then
          let x6 : Int64 := (L 58 ((y3 * (8 : Int32)) + y8).toNatClampNeg)
          if inb y8 (capT (sk + 1)) = true then
            let x8 : Int32 := (I (sk + 1 + 2) y8.toNatClampNeg)
            Option.bind (
              if (y1 &&& x6) = (0 : Int64) then
                some y6
              else
                let x11 : Int64 := (y6 ||| ((1 : Int64) <<< (x8.toInt64 &&& 63)))
                some x11
            ) fun q10 =>
            if ((y1.toUInt64 >>> (x8.toInt64.toUInt64 &&& Int64.toUInt64 63)).toInt64 &&& (1 : Int64)) = (0 : Int64) then
              fX7_stepFrom_38 sk fu y1 y3 y5 q10 (y8 + (1 : Int32)) I L
            else
              Option.bind (fX7_crossed sk x6 y3 y5 I L) fun q12 =>
              fX7_stepFrom_38 sk fu y1 y3 y5 (q10 ||| (x6 ||| q12)) (y8 + (1 : Int32)) I L
          else none
        else none
set_option maxRecDepth 100000 in
set_option maxHeartbeats 4000000 in
theorem lX7_stepFrom_38 {g : GG} {n d : Nat} {tw dr sk tl ff : Nat} (hG : RG tw dr sk tl ff) (hn : 116 ≤ n) {P : PP} : ∀ (fu : Nat) (y1 : Int64) (y3 : Int32) (y5 : Int32) (y6 : Int64) (y8 : Int32) (I : HI) (L : HL) (res : Int64), fX7_stepFrom_38 sk fu y1 y3 y5 y6 y8 I L = some res → P (some (.long res)) n (RT tw dr sk tl ff) I L → V g mX7_stepFrom (d + 5) 0 0 n (RT tw dr sk tl ff) I L 38 [some (.ref 57), some (.long y1), none, some (.int y3), none, some (.int y5), some (.long y6), none, some (.int y8)] [] P := by
  intro fu
  induction fu with
  | zero => intro y1 y3 y5 y6 y8 I L res hf; cases (show none = some res from hf)
  | succ fu ih =>
    intro y1 y3 y5 y6 y8 I L res hf K
    refine V_iload (pc := 38) dX7_stepFrom_38 rfl rfl ?_
    refine V_aload_n (pc := 40) dX7_stepFrom_40 rfl rfl rfl ?_
    refine V_getR (pc := 41) dX7_stepFrom_41 flX7_22 rfl (by omega) (congrArg Prod.fst sh_57) rt_57_0 rfl ?_
    refine V_getR (pc := 44) dX7_stepFrom_44 flX7_72 rfl (by omega) (congrArg Prod.fst (shQ hG.2.2.1)) (rQ_6 (rQ_RT hG.2.2.1)) rfl ?_
    refine V_getI (pc := 47) dX7_stepFrom_47 flX7_78 rfl (by omega) (congrArg Prod.fst (shT (qT_6 hG.2.2.1))) rfl ?_
    refine V_icmp_ge (pc := 50) (tgt := 147) dX7_stepFrom_50 (by decide) rfl (fun hc => ?_) (fun hc => ?_)
    · replace hf := (if_pos hc).symm.trans hf
      refine V_lload (pc := 147) dX7_stepFrom_147 rfl rfl ?_
      cases hf
      exact V_lret (pc := 149) dX7_stepFrom_149 rfl K
    · replace hf := (if_neg hc).symm.trans hf
      refine V_iload (pc := 53) dX7_stepFrom_53 rfl rfl ?_
      refine V_iload (pc := 55) dX7_stepFrom_55 rfl rfl ?_
      refine V_cNz (md' := mX11_isBit) (k := 5) (pc := 57) dX7_stepFrom_57 rfl mSX11_isBit (tX11_isBit rfl) rfl rfl (Nat.le_of_ble_eq_true rfl) rfl ?_
      refine V_if_ne (pc := 60) (tgt := 66) dX7_stepFrom_60 (by decide) rfl (fun hc => ?_) (fun hc => ?_)
      · replace hf := (if_neg hc).symm.trans hf
        refine V_aload_n (pc := 66) dX7_stepFrom_66 rfl rfl rfl ?_
        refine V_getR (pc := 67) dX7_stepFrom_67 flX7_9 rfl (by omega) (congrArg Prod.fst sh_57) rt_57_7 rfl ?_
        refine V_iload_n (pc := 70) dX7_stepFrom_70 rfl rfl rfl ?_
        refine V_bipush (pc := 71) dX7_stepFrom_71 bp_8 rfl ?_
        refine V_imul (pc := 73) dX7_stepFrom_73 rfl ?_
        refine V_iload (pc := 74) dX7_stepFrom_74 rfl rfl ?_
        refine V_iadd (pc := 76) dX7_stepFrom_76 rfl ?_
        obtain ⟨hc5, hf⟩ := pif hf
        refine V_lald (pc := 77) dX7_stepFrom_77 (by omega) sh_58 hc5 rfl ?_
        let x6 : Int64 := (L 58 ((y3 * (8 : Int32)) + y8).toNatClampNeg)
        refine V_lstore (ls' := [some _, some _, none, some _, none, some _, some _, none, some _, some _, none]) (pc := 78) dX7_stepFrom_78 (Nat.le_of_ble_eq_true rfl) rfl rfl ?_
        refine V_aload_n (pc := 80) dX7_stepFrom_80 rfl rfl rfl ?_
        refine V_getR (pc := 81) dX7_stepFrom_81 flX7_22 rfl (by omega) (congrArg Prod.fst sh_57) rt_57_0 rfl ?_
        refine V_getR (pc := 84) dX7_stepFrom_84 flX7_72 rfl (by omega) (congrArg Prod.fst (shQ hG.2.2.1)) (rQ_6 (rQ_RT hG.2.2.1)) rfl ?_
        refine V_getR (pc := 87) dX7_stepFrom_87 flX7_126 rfl (by omega) (congrArg Prod.fst (shT (qT_6 hG.2.2.1))) (rT_2 (rQ_s6 (rQ_RT hG.2.2.1))) rfl ?_
        refine V_iload (pc := 90) dX7_stepFrom_90 rfl rfl ?_
        obtain ⟨hc7, hf⟩ := pif hf
        refine V_iald (pc := 92) dX7_stepFrom_92 (by omega) (shT2 (qT_6 hG.2.2.1)) hc7 rfl ?_
        let x8 : Int32 := (I (sk + 1 + 2) y8.toNatClampNeg)
        refine V_istore (ls' := [some _, some _, none, some _, none, some _, some _, none, some _, some _, none, some _]) (pc := 93) dX7_stepFrom_93 (Nat.le_of_ble_eq_true rfl) rfl rfl ?_
        refine V_lload_n (pc := 95) dX7_stepFrom_95 rfl rfl rfl ?_
        refine V_lload (pc := 96) dX7_stepFrom_96 rfl rfl ?_
        refine V_land (pc := 98) dX7_stepFrom_98 rfl ?_
        refine V_lconst (pc := 99) dX7_stepFrom_99 lc_0 rfl ?_
        obtain ⟨q10, hq10, hf⟩ := bnd hf
        have Kq10 : V g mX7_stepFrom (d + 5) 0 0 n (RT tw dr sk tl ff) I L 113 [some (.ref 57), some (.long y1), none, some (.int y3), none, some (.int y5), some (.long q10), none, some (.int y8), some (.long x6), none, some (.int x8)] [] P := by
          refine V_lload_n (pc := 113) dX7_stepFrom_113 rfl rfl rfl ?_
          refine V_iload (pc := 114) dX7_stepFrom_114 rfl rfl ?_
          refine V_lushr (pc := 116) dX7_stepFrom_116 rfl ?_
          refine V_lconst (pc := 117) dX7_stepFrom_117 lc_1 rfl ?_
          refine V_land (pc := 118) dX7_stepFrom_118 rfl ?_
          refine V_lconst (pc := 119) dX7_stepFrom_119 lc_0 rfl ?_
          refine V_lc_eq (pc := 120) (tgt := 141) dX7_stepFrom_120 rfl dX7_stepFrom_121 (by decide) rfl (fun hc => ?_) (fun hc => ?_)
          · replace hf := (if_pos hc).symm.trans hf
            refine V_iinc (ls' := [some _, some _, none, some _, none, some _, some _, none, some _, some _, none, some _]) (pc := 141) dX7_stepFrom_141 rfl (Nat.le_of_ble_eq_true rfl) (congrArg _ ic_1) rfl rfl ?_
            refine V_goto (pc := 144) (tgt := 38) dX7_stepFrom_144 (by decide) ?_
            exact V_wk (ih _ _ _ _ _ _ _ _ hf K) ⟨rfl, ⟨rfl, ⟨rfl, ⟨rfl, ⟨rfl, ⟨rfl, trivial⟩⟩⟩⟩⟩⟩
          · replace hf := (if_neg hc).symm.trans hf
            refine V_lload (pc := 124) dX7_stepFrom_124 rfl rfl ?_
            refine V_lload (pc := 126) dX7_stepFrom_126 rfl rfl ?_
            refine V_aload_n (pc := 128) dX7_stepFrom_128 rfl rfl rfl ?_
            refine V_lload (pc := 129) dX7_stepFrom_129 rfl rfl ?_
            refine V_iload_n (pc := 131) dX7_stepFrom_131 rfl rfl rfl ?_
            refine V_iload (pc := 132) dX7_stepFrom_132 rfl rfl ?_
            obtain ⟨q12, hq12, hf⟩ := bnd hf
            refine V_cVl (md' := mX7_crossed) (pc := 134) dX7_stepFrom_134 mlX7_129 mVX7_crossed (tX7_crossed hG hn hq12) rfl (by omega) (congrArg Prod.fst sh_57) rfl (Nat.le_of_ble_eq_true rfl) rfl ?_
            refine V_lor (pc := 137) dX7_stepFrom_137 rfl ?_
            refine V_lor (pc := 138) dX7_stepFrom_138 rfl ?_
            refine V_lstore (ls' := [some _, some _, none, some _, none, some _, some _, none, some _, some _, none, some _]) (pc := 139) dX7_stepFrom_139 (Nat.le_of_ble_eq_true rfl) rfl rfl ?_
            refine V_iinc (ls' := [some _, some _, none, some _, none, some _, some _, none, some _, some _, none, some _]) (pc := 141) dX7_stepFrom_141 rfl (Nat.le_of_ble_eq_true rfl) (congrArg _ ic_1) rfl rfl ?_
            refine V_goto (pc := 144) (tgt := 38) dX7_stepFrom_144 (by decide) ?_
            exact V_wk (ih _ _ _ _ _ _ _ _ hf K) ⟨rfl, ⟨rfl, ⟨rfl, ⟨rfl, ⟨rfl, ⟨rfl, trivial⟩⟩⟩⟩⟩⟩
        refine V_lc_eq (pc := 100) (tgt := 113) dX7_stepFrom_100 rfl dX7_stepFrom_101 (by decide) rfl (fun hc => ?_) (fun hc => ?_)
        · replace hq10 := (if_pos hc).symm.trans hq10
          cases hq10
          exact V_wk Kq10 ⟨rfl, ⟨rfl, ⟨rfl, ⟨rfl, ⟨rfl, ⟨rfl, ⟨rfl, ⟨rfl, trivial⟩⟩⟩⟩⟩⟩⟩⟩
        · replace hq10 := (if_neg hc).symm.trans hq10
          refine V_lload (pc := 104) dX7_stepFrom_104 rfl rfl ?_
          refine V_lconst (pc := 106) dX7_stepFrom_106 lc_1 rfl ?_
          refine V_iload (pc := 107) dX7_stepFrom_107 rfl rfl ?_
          refine V_lshl (pc := 109) dX7_stepFrom_109 rfl ?_
          refine V_lor (pc := 110) dX7_stepFrom_110 rfl ?_
          let x11 : Int64 := (y6 ||| ((1 : Int64) <<< (x8.toInt64 &&& 63)))
          refine V_lstore (ls' := [some _, some _, none, some _, none, some _, some _, none, some _, some _, none, some _]) (pc := 111) dX7_stepFrom_111 (Nat.le_of_ble_eq_true rfl) rfl rfl ?_
          cases hq10
          exact V_wk Kq10 ⟨rfl, ⟨rfl, ⟨rfl, ⟨rfl, ⟨rfl, ⟨rfl, ⟨rfl, ⟨rfl, trivial⟩⟩⟩⟩⟩⟩⟩⟩
      · replace hf := (if_pos hc).symm.trans hf
        refine V_goto (pc := 63) (tgt := 141) dX7_stepFrom_63 (by decide) ?_
        refine V_iinc (ls' := [some _, some _, none, some _, none, some _, some _, none, some _]) (pc := 141) dX7_stepFrom_141 rfl (Nat.le_of_ble_eq_true rfl) (congrArg _ ic_1) rfl rfl ?_
        refine V_goto (pc := 144) (tgt := 38) dX7_stepFrom_144 (by decide) ?_
        exact V_wk (ih _ _ _ _ _ _ _ _ hf K) ⟨rfl, ⟨rfl, ⟨rfl, ⟨rfl, ⟨rfl, ⟨rfl, trivial⟩⟩⟩⟩⟩⟩
noncomputable def fX7_stepFrom (sk : Nat) (v1 : Int64) (v2 : Int32) (v3 : Int32) (I : HI) (L : HL) : Option (Int64 × HI × HL) :=
  Option.bind (fX7_prepare sk v2 I L) fun q1 =>
  if inb v2 49 = true then
    let x3 : Int32 := (((q1.1 59 v2.toNatClampNeg) &&& ((q1.1 57 2) ^^^ (-1 : Int32))) &&& (v3 ^^^ (-1 : Int32)))
    let x4 : Int64 := (fX5_spread sk v1 q1.1 q1.2)
    Option.bind (fX7_stepFrom_38 sk FUEL v1 v2 x3 x4 (0 : Int32) q1.1 q1.2) fun q13 =>
    some (q13, q1.1, q1.2)
  else none
set_option maxRecDepth 100000 in
set_option maxHeartbeats 4000000 in
theorem tX7_stepFrom {g : GG} {n d : Nat} {tw dr sk tl ff : Nat} (hG : RG tw dr sk tl ff) (hn : 116 ≤ n) {v1 : Int64} {v2 : Int32} {v3 : Int32} {I : HI} {L : HL} {res : Int64 × HI × HL} (hf : fX7_stepFrom sk v1 v2 v3 I L = some res) : CT g mX7_stepFrom (d + 5) 0 0 n (RT tw dr sk tl ff) I L [.ref 57, .long v1, .int v2, .int v3] (PoL n (RT tw dr sk tl ff) res.1 res.2.1 res.2.2) := by
  refine CT.of rfl (Nat.le_of_ble_eq_true rfl) ?_
  show V g mX7_stepFrom (d + 5) 0 0 n (RT tw dr sk tl ff) I L 0 [some (.ref 57), some (.long v1), none, some (.int v2), some (.int v3)] [] (PoL n (RT tw dr sk tl ff) res.1 res.2.1 res.2.2)
  refine V_aload_n (pc := 0) dX7_stepFrom_0 rfl rfl rfl ?_
  refine V_iload_n (pc := 1) dX7_stepFrom_1 rfl rfl rfl ?_
  obtain ⟨q1, hq1, hf⟩ := bnd hf
  refine V_cVv (md' := mX7_prepare) (pc := 2) dX7_stepFrom_2 mlX7_57 mVX7_prepare (tX7_prepare hG hn hq1) rfl (by omega) (congrArg Prod.fst sh_57) rfl (Nat.le_of_ble_eq_true rfl) rfl ?_
  refine V_aload_n (pc := 5) dX7_stepFrom_5 rfl rfl rfl ?_
  refine V_getR (pc := 6) dX7_stepFrom_6 flX7_15 rfl (by omega) (congrArg Prod.fst sh_57) rt_57_8 rfl ?_
  refine V_iload_n (pc := 9) dX7_stepFrom_9 rfl rfl rfl ?_
  obtain ⟨hc2, hf⟩ := pif hf
  refine V_iald (pc := 10) dX7_stepFrom_10 (by omega) sh_59 hc2 rfl ?_
  refine V_aload_n (pc := 11) dX7_stepFrom_11 rfl rfl rfl ?_
  refine V_getI (pc := 12) dX7_stepFrom_12 flX7_36 rfl (by omega) (congrArg Prod.fst sh_57) rfl ?_
  refine V_iconst (pc := 15) dX7_stepFrom_15 ic_m1 rfl ?_
  refine V_ixor (pc := 16) dX7_stepFrom_16 rfl ?_
  refine V_iand (pc := 17) dX7_stepFrom_17 rfl ?_
  refine V_iload (pc := 18) dX7_stepFrom_18 rfl rfl ?_
  refine V_iconst (pc := 20) dX7_stepFrom_20 ic_m1 rfl ?_
  refine V_ixor (pc := 21) dX7_stepFrom_21 rfl ?_
  refine V_iand (pc := 22) dX7_stepFrom_22 rfl ?_
  let x3 : Int32 := (((q1.1 59 v2.toNatClampNeg) &&& ((q1.1 57 2) ^^^ (-1 : Int32))) &&& (v3 ^^^ (-1 : Int32)))
  refine V_istore (ls' := [some _, some _, none, some _, some _, some _]) (pc := 23) dX7_stepFrom_23 (Nat.le_of_ble_eq_true rfl) rfl rfl ?_
  refine V_aload_n (pc := 25) dX7_stepFrom_25 rfl rfl rfl ?_
  refine V_getR (pc := 26) dX7_stepFrom_26 flX7_22 rfl (by omega) (congrArg Prod.fst sh_57) rt_57_0 rfl ?_
  refine V_lload_n (pc := 29) dX7_stepFrom_29 rfl rfl rfl ?_
  refine V_cVl (md' := mX5_spread) (pc := 30) dX7_stepFrom_30 mlX7_119 mVX5_spread (tX5_spread hG.2.2.1 (rQ_RT hG.2.2.1) (by omega) rfl) rfl (by omega) (congrArg Prod.fst (shQ hG.2.2.1)) rfl (Nat.le_of_ble_eq_true rfl) rfl ?_
  let x4 : Int64 := (fX5_spread sk v1 q1.1 q1.2)
  refine V_lstore (ls' := [some _, some _, none, some _, some _, some _, some _, none]) (pc := 33) dX7_stepFrom_33 (Nat.le_of_ble_eq_true rfl) rfl rfl ?_
  refine V_iconst (pc := 35) dX7_stepFrom_35 ic_0 rfl ?_
  refine V_istore (ls' := [some _, some _, none, some _, some _, some _, some _, none, some _]) (pc := 36) dX7_stepFrom_36 (Nat.le_of_ble_eq_true rfl) rfl rfl ?_
  obtain ⟨q13, hq13, hf⟩ := bnd hf
  refine V_wk (lX7_stepFrom_38 hG hn FUEL _ _ _ _ _ _ _ _ hq13 ?_) ⟨rfl, ⟨rfl, ⟨rfl, ⟨rfl, ⟨rfl, ⟨rfl, trivial⟩⟩⟩⟩⟩⟩
  cases hf
  exact PoL_mk
/-! ShadowDoors$Things.has -/
noncomputable def fX8_has (tt : Nat) (v1 : Int32) (I : HI) : Bool :=
  tbn (
    if v1 < 0 then
      true
    else
      if (I tt 0) ≤ v1 then
        true
      else
        false
  ) fun b1 =>
  if b1 = true then
    false
  else
    true
set_option maxRecDepth 100000 in
set_option maxHeartbeats 4000000 in
theorem tX8_has {g : GG} {n d : Nat} {r : HR} {tt : Nat} (htt : isT tt) (hr : rT r tt) (hn : tt + 6 ≤ n) {v1 : Int32} {I : HI} {L : HL} {res : Bool} (hf : fX8_has tt v1 I = res) : CT g mX8_has (d + 1) 0 0 n r I L [.ref tt, .int v1] (PoB n r res I L) := by
  refine CT.of rfl (Nat.le_of_ble_eq_true rfl) ?_
  show V g mX8_has (d + 1) 0 0 n r I L 0 [some (.ref tt), some (.int v1)] [] (PoB n r res I L)
  refine V_iload_n (pc := 0) dX8_has_0 rfl rfl rfl ?_
  obtain ⟨b1, hb1, hf⟩ := tbd hf
  have KTb1 : b1 = true → V g mX8_has (d + 1) 0 0 n r I L 16 [some (.ref tt), some (.int v1)] [] (PoB n r res I L) := fun hc => by
    replace hf := (if_pos hc).symm.trans hf
    refine V_iconst (pc := 16) dX8_has_16 ic_0 rfl ?_
    cases hf
    exact V_zretE (pc := 17) dX8_has_17 rfl (show (0 : Int32) = b2i false from rfl) PoB_mk
  have KFb1 : ¬ b1 = true → V g mX8_has (d + 1) 0 0 n r I L 12 [some (.ref tt), some (.int v1)] [] (PoB n r res I L) := fun hc => by
    replace hf := (if_neg hc).symm.trans hf
    refine V_iconst (pc := 12) dX8_has_12 ic_1 rfl ?_
    refine V_goto (pc := 13) (tgt := 17) dX8_has_13 (by decide) ?_
    cases hf
    exact V_zretE (pc := 17) dX8_has_17 rfl (show (1 : Int32) = b2i true from rfl) PoB_mk
  refine V_if_lt (pc := 1) (tgt := 16) dX8_has_1 (by decide) rfl (fun hc => ?_) (fun hc => ?_)
  · replace hb1 := (if_pos hc).symm.trans hb1
    cases hb1
    exact KTb1 rfl
  · replace hb1 := (if_neg hc).symm.trans hb1
    refine V_iload_n (pc := 4) dX8_has_4 rfl rfl rfl ?_
    refine V_aload_n (pc := 5) dX8_has_5 rfl rfl rfl ?_
    refine V_getI (pc := 6) dX8_has_6 flX8_26 rfl (by omega) (congrArg Prod.fst (shT htt)) rfl ?_
    refine V_icmp_ge (pc := 9) (tgt := 16) dX8_has_9 (by decide) rfl (fun hc => ?_) (fun hc => ?_)
    · replace hb1 := (if_pos hc).symm.trans hb1
      cases hb1
      exact KTb1 rfl
    · replace hb1 := (if_neg hc).symm.trans hb1
      cases hb1
      exact KFb1 (nbt rfl)
/-! ShadowDoors$Ways.forget -/
noncomputable def fX10_forget (I : HI) : HI :=
  let I1 : HI := up2 I 61 2 (0 : Int32)
  I1
set_option maxRecDepth 100000 in
set_option maxHeartbeats 4000000 in
theorem tX10_forget {g : GG} {n d : Nat} {tw dr sk tl ff : Nat} (hG : RG tw dr sk tl ff) (hn : 116 ≤ n) {I : HI} {L : HL} {res : HI} (hf : fX10_forget I = res) : CT g mX10_forget (d + 1) 0 0 n (RT tw dr sk tl ff) I L [.ref 61] (PoV n (RT tw dr sk tl ff) res L) := by
  refine CT.of rfl (Nat.le_of_ble_eq_true rfl) ?_
  show V g mX10_forget (d + 1) 0 0 n (RT tw dr sk tl ff) I L 0 [some (.ref 61)] [] (PoV n (RT tw dr sk tl ff) res L)
  refine V_aload_n (pc := 0) dX10_forget_0 rfl rfl rfl ?_
  refine V_iconst (pc := 1) dX10_forget_1 ic_0 rfl ?_
  let I1 : HI := up2 I 61 2 (0 : Int32)
  refine V_putI (pc := 2) dX10_forget_2 flX10_29 rfl rfl (by omega) (congrArg Prod.fst sh_61) rfl ?_
  cases hf
  exact V_vret (pc := 5) dX10_forget_5 rfl PoV_mk
/-! ShadowDoors$Ways.layWay -/
noncomputable def fX10_layWay_7 (sk : Nat) : Nat → Int32 → Int32 → Int64 → Int32 → HI → HL → Option (Int64 × Int32 × HI × HL)
  | 0, _, _, _, _, _, _ => none
  | fu + 1, y1, y2, y3, y5, I, L =>
    Option.bind (
      if (48 : Int32) ≤ y5 then
        some true
      else
        if ((y3.toUInt64 >>> (y2.toInt64.toUInt64 &&& Int64.toUInt64 63)).toInt64 &&& (1 : Int64)) = (0 : Int64) then
          some false
        else
          some true
    ) fun b2 =>
    if b2 = true then
      some (y3, y5, I, L)
    else
      Option.bind (fX7_stepFrom sk y3 y5 (0 : Int32) I L) fun q3 =>
      fX10_layWay_7 sk fu y1 y2 q3.1 (y5 + (1 : Int32)) q3.2.1 q3.2.2
set_option maxRecDepth 100000 in
set_option maxHeartbeats 4000000 in
theorem lX10_layWay_7 {g : GG} {n d : Nat} {tw dr sk tl ff : Nat} (hG : RG tw dr sk tl ff) (hn : 116 ≤ n) {P : PP} : ∀ (fu : Nat) (y1 : Int32) (y2 : Int32) (y3 : Int64) (y5 : Int32) (I : HI) (L : HL) (res : Int64 × Int32 × HI × HL), fX10_layWay_7 sk fu y1 y2 y3 y5 I L = some res → V g mX10_layWay (d + 6) 0 0 n (RT tw dr sk tl ff) res.2.2.1 res.2.2.2 42 [some (.ref 61), some (.int y1), some (.int y2), some (.long res.1), none, some (.int res.2.1)] [] P → V g mX10_layWay (d + 6) 0 0 n (RT tw dr sk tl ff) I L 7 [some (.ref 61), some (.int y1), some (.int y2), some (.long y3), none, some (.int y5)] [] P := by
  intro fu
  induction fu with
  | zero => intro y1 y2 y3 y5 I L res hf; cases (show none = some res from hf)
  | succ fu ih =>
    intro y1 y2 y3 y5 I L res hf K
    refine V_iload (pc := 7) dX10_layWay_7 rfl rfl ?_
    refine V_bipush (pc := 9) dX10_layWay_9 bp_48 rfl ?_
    obtain ⟨b2, hb2, hf⟩ := bnd hf
    have KTb2 : b2 = true → V g mX10_layWay (d + 6) 0 0 n (RT tw dr sk tl ff) I L 42 [some (.ref 61), some (.int y1), some (.int y2), some (.long y3), none, some (.int y5)] [] P := fun hc => by
      replace hf := (if_pos hc).symm.trans hf
      cases hf
      exact V_wk K ⟨rfl, ⟨rfl, ⟨rfl, ⟨rfl, ⟨rfl, trivial⟩⟩⟩⟩⟩
    have KFb2 : ¬ b2 = true → V g mX10_layWay (d + 6) 0 0 n (RT tw dr sk tl ff) I L 24 [some (.ref 61), some (.int y1), some (.int y2), some (.long y3), none, some (.int y5)] [] P := fun hc => by
      replace hf := (if_neg hc).symm.trans hf
      refine V_aload_n (pc := 24) dX10_layWay_24 rfl rfl rfl ?_
      refine V_getR (pc := 25) dX10_layWay_25 flX10_25 rfl (by omega) (congrArg Prod.fst sh_61) rt_61_0 rfl ?_
      refine V_lload_n (pc := 28) dX10_layWay_28 rfl rfl rfl ?_
      refine V_iload (pc := 29) dX10_layWay_29 rfl rfl ?_
      refine V_iconst (pc := 31) dX10_layWay_31 ic_0 rfl ?_
      obtain ⟨q3, hq3, hf⟩ := bnd hf
      refine V_cVl (md' := mX7_stepFrom) (pc := 32) dX10_layWay_32 mlX10_33 mVX7_stepFrom (tX7_stepFrom hG hn hq3) rfl (by omega) (congrArg Prod.fst sh_57) rfl (Nat.le_of_ble_eq_true rfl) rfl ?_
      refine V_lstore_n (ls' := [some _, some _, some _, some _, none, some _]) (pc := 35) dX10_layWay_35 rfl (Nat.le_of_ble_eq_true rfl) rfl rfl ?_
      refine V_iinc (ls' := [some _, some _, some _, some _, none, some _]) (pc := 36) dX10_layWay_36 rfl (Nat.le_of_ble_eq_true rfl) (congrArg _ ic_1) rfl rfl ?_
      refine V_goto (pc := 39) (tgt := 7) dX10_layWay_39 (by decide) ?_
      exact V_wk (ih _ _ _ _ _ _ _ hf K) ⟨rfl, ⟨rfl, ⟨rfl, ⟨rfl, ⟨rfl, trivial⟩⟩⟩⟩⟩
    refine V_icmp_ge (pc := 11) (tgt := 42) dX10_layWay_11 (by decide) rfl (fun hc => ?_) (fun hc => ?_)
    · replace hb2 := (if_pos hc).symm.trans hb2
      cases hb2
      exact KTb2 rfl
    · replace hb2 := (if_neg hc).symm.trans hb2
      refine V_lload_n (pc := 14) dX10_layWay_14 rfl rfl rfl ?_
      refine V_iload_n (pc := 15) dX10_layWay_15 rfl rfl rfl ?_
      refine V_lushr (pc := 16) dX10_layWay_16 rfl ?_
      refine V_lconst (pc := 17) dX10_layWay_17 lc_1 rfl ?_
      refine V_land (pc := 18) dX10_layWay_18 rfl ?_
      refine V_lconst (pc := 19) dX10_layWay_19 lc_0 rfl ?_
      refine V_lc_ne (pc := 20) (tgt := 42) dX10_layWay_20 rfl dX10_layWay_21 (by decide) rfl (fun hc => ?_) (fun hc => ?_)
      · replace hb2 := (if_neg hc).symm.trans hb2
        cases hb2
        exact KTb2 rfl
      · replace hb2 := (if_pos hc).symm.trans hb2
        cases hb2
        exact KFb2 (nbt rfl)
noncomputable def fX10_layWay_70 (sk : Nat) : Nat → Int32 → Int32 → Int32 → HI → HL → Option (HI × HL)
  | 0, _, _, _, _, _ => none
  | fu + 1, y1, y5, y6, I, L =>
    if y6 ≤ 0 then
      some (I, L)
    else
      if inb (y6 + (1 : Int32)) 49 = true then
        Option.bind (fX7_stepFrom sk (L 63 (y6 + (1 : Int32)).toNatClampNeg) y6 (0 : Int32) I L) fun q8 =>
        if inb y6 49 = true then
          let L10 : HL := up2 q8.2.2 63 y6.toNatClampNeg q8.1
          fX10_layWay_70 sk fu y1 y5 (y6 + (-1 : Int32)) q8.2.1 L10
        else none
      else none
set_option maxRecDepth 100000 in
set_option maxHeartbeats 4000000 in
theorem lX10_layWay_70 {g : GG} {n d : Nat} {tw dr sk tl ff : Nat} (hG : RG tw dr sk tl ff) (hn : 116 ≤ n) {P : PP} : ∀ (fu : Nat) (y1 : Int32) (y5 : Int32) (y6 : Int32) (I : HI) (L : HL) (res : HI × HL), fX10_layWay_70 sk fu y1 y5 y6 I L = some res → V g mX10_layWay (d + 6) 0 0 n (RT tw dr sk tl ff) res.1 res.2 107 [some (.ref 61), some (.int y1), none, none, none, some (.int y5)] [] P → V g mX10_layWay (d + 6) 0 0 n (RT tw dr sk tl ff) I L 70 [some (.ref 61), some (.int y1), none, none, none, some (.int y5), some (.int y6)] [] P := by
  intro fu
  induction fu with
  | zero => intro y1 y5 y6 I L res hf; cases (show none = some res from hf)
  | succ fu ih =>
    intro y1 y5 y6 I L res hf K
    refine V_iload (pc := 70) dX10_layWay_70 rfl rfl ?_
    refine V_if_le (pc := 72) (tgt := 107) dX10_layWay_72 (by decide) rfl (fun hc => ?_) (fun hc => ?_)
    · replace hf := (if_pos hc).symm.trans hf
      cases hf
      exact V_wk K ⟨rfl, ⟨rfl, ⟨rfl, trivial⟩⟩⟩
    · replace hf := (if_neg hc).symm.trans hf
      refine V_aload_n (pc := 75) dX10_layWay_75 rfl rfl rfl ?_
      refine V_getR (pc := 76) dX10_layWay_76 flX10_15 rfl (by omega) (congrArg Prod.fst sh_61) rt_61_7 rfl ?_
      refine V_iload (pc := 79) dX10_layWay_79 rfl rfl ?_
      refine V_aload_n (pc := 81) dX10_layWay_81 rfl rfl rfl ?_
      refine V_getR (pc := 82) dX10_layWay_82 flX10_25 rfl (by omega) (congrArg Prod.fst sh_61) rt_61_0 rfl ?_
      refine V_aload_n (pc := 85) dX10_layWay_85 rfl rfl rfl ?_
      refine V_getR (pc := 86) dX10_layWay_86 flX10_15 rfl (by omega) (congrArg Prod.fst sh_61) rt_61_7 rfl ?_
      refine V_iload (pc := 89) dX10_layWay_89 rfl rfl ?_
      refine V_iconst (pc := 91) dX10_layWay_91 ic_1 rfl ?_
      refine V_iadd (pc := 92) dX10_layWay_92 rfl ?_
      obtain ⟨hc7, hf⟩ := pif hf
      refine V_lald (pc := 93) dX10_layWay_93 (by omega) sh_63 hc7 rfl ?_
      refine V_iload (pc := 94) dX10_layWay_94 rfl rfl ?_
      refine V_iconst (pc := 96) dX10_layWay_96 ic_0 rfl ?_
      obtain ⟨q8, hq8, hf⟩ := bnd hf
      refine V_cVl (md' := mX7_stepFrom) (pc := 97) dX10_layWay_97 mlX10_33 mVX7_stepFrom (tX7_stepFrom hG hn hq8) rfl (by omega) (congrArg Prod.fst sh_57) rfl (Nat.le_of_ble_eq_true rfl) rfl ?_
      obtain ⟨hc9, hf⟩ := pif hf
      let L10 : HL := up2 q8.2.2 63 y6.toNatClampNeg q8.1
      refine V_last (pc := 100) dX10_layWay_100 (by omega) sh_63 hc9 rfl ?_
      refine V_iinc (ls' := [some _, some _, none, none, none, some _, some _]) (pc := 101) dX10_layWay_101 rfl (Nat.le_of_ble_eq_true rfl) (congrArg _ ic_m1) rfl rfl ?_
      refine V_goto (pc := 104) (tgt := 70) dX10_layWay_104 (by decide) ?_
      exact V_wk (ih _ _ _ _ _ _ hf K) ⟨rfl, ⟨rfl, ⟨rfl, ⟨rfl, trivial⟩⟩⟩⟩
noncomputable def fX10_layWay_113 (sk : Nat) : Nat → Int32 → Int32 → Int32 → HI → HL → Option (Int32 × HI × HL)
  | 0, _, _, _, _, _ => none
  | fu + 1, y5, y6, y7, I, L =>
    if y5 ≤ y7 then
      let I12 : HI := up2 I 61 2 y5
      some (y5, I12, L)
    else
      Option.bind (fX7_stepFrom sk ((1 : Int64) <<< (y6.toInt64 &&& 63)) y7 (0 : Int32) I L) fun q13 =>
      if inb (y7 + (1 : Int32)) 49 = true then
        let x15 : Int32 := (fJ13_numberOfTrailingZeros_95d88 (q13.1 &&& (q13.2.2 63 (y7 + (1 : Int32)).toNatClampNeg)))
        if inb y7 48 = true then
          let I17 : HI := up2 q13.2.1 62 y7.toNatClampNeg x15
          fX10_layWay_113 sk fu y5 x15 (y7 + (1 : Int32)) I17 q13.2.2
        else none
      else none
set_option maxRecDepth 100000 in
set_option maxHeartbeats 4000000 in
theorem lX10_layWay_113 {g : GG} {n d : Nat} {tw dr sk tl ff : Nat} (hG : RG tw dr sk tl ff) (hn : 116 ≤ n) {P : PP} : ∀ (fu : Nat) (y5 : Int32) (y6 : Int32) (y7 : Int32) (I : HI) (L : HL) (res : Int32 × HI × HL), fX10_layWay_113 sk fu y5 y6 y7 I L = some res → P (some (.int res.1)) n (RT tw dr sk tl ff) res.2.1 res.2.2 → V g mX10_layWay (d + 6) 0 0 n (RT tw dr sk tl ff) I L 113 [some (.ref 61), none, none, none, none, some (.int y5), some (.int y6), some (.int y7)] [] P := by
  intro fu
  induction fu with
  | zero => intro y5 y6 y7 I L res hf; cases (show none = some res from hf)
  | succ fu ih =>
    intro y5 y6 y7 I L res hf K
    refine V_iload (pc := 113) dX10_layWay_113 rfl rfl ?_
    refine V_iload (pc := 115) dX10_layWay_115 rfl rfl ?_
    refine V_icmp_ge (pc := 117) (tgt := 164) dX10_layWay_117 (by decide) rfl (fun hc => ?_) (fun hc => ?_)
    · replace hf := (if_pos hc).symm.trans hf
      refine V_aload_n (pc := 164) dX10_layWay_164 rfl rfl rfl ?_
      refine V_iload (pc := 165) dX10_layWay_165 rfl rfl ?_
      let I12 : HI := up2 I 61 2 y5
      refine V_putI (pc := 167) dX10_layWay_167 flX10_29 rfl rfl (by omega) (congrArg Prod.fst sh_61) rfl ?_
      refine V_iload (pc := 170) dX10_layWay_170 rfl rfl ?_
      cases hf
      exact V_iret (pc := 172) dX10_layWay_172 rfl K
    · replace hf := (if_neg hc).symm.trans hf
      refine V_aload_n (pc := 120) dX10_layWay_120 rfl rfl rfl ?_
      refine V_getR (pc := 121) dX10_layWay_121 flX10_25 rfl (by omega) (congrArg Prod.fst sh_61) rt_61_0 rfl ?_
      refine V_lconst (pc := 124) dX10_layWay_124 lc_1 rfl ?_
      refine V_iload (pc := 125) dX10_layWay_125 rfl rfl ?_
      refine V_lshl (pc := 127) dX10_layWay_127 rfl ?_
      refine V_iload (pc := 128) dX10_layWay_128 rfl rfl ?_
      refine V_iconst (pc := 130) dX10_layWay_130 ic_0 rfl ?_
      obtain ⟨q13, hq13, hf⟩ := bnd hf
      refine V_cVl (md' := mX7_stepFrom) (pc := 131) dX10_layWay_131 mlX10_33 mVX7_stepFrom (tX7_stepFrom hG hn hq13) rfl (by omega) (congrArg Prod.fst sh_57) rfl (Nat.le_of_ble_eq_true rfl) rfl ?_
      refine V_aload_n (pc := 134) dX10_layWay_134 rfl rfl rfl ?_
      refine V_getR (pc := 135) dX10_layWay_135 flX10_15 rfl (by omega) (congrArg Prod.fst sh_61) rt_61_7 rfl ?_
      refine V_iload (pc := 138) dX10_layWay_138 rfl rfl ?_
      refine V_iconst (pc := 140) dX10_layWay_140 ic_1 rfl ?_
      refine V_iadd (pc := 141) dX10_layWay_141 rfl ?_
      obtain ⟨hc14, hf⟩ := pif hf
      refine V_lald (pc := 142) dX10_layWay_142 (by omega) sh_63 hc14 rfl ?_
      refine V_land (pc := 143) dX10_layWay_143 rfl ?_
      refine V_cSi (md' := mJ13_numberOfTrailingZeros_95d88) (pc := 144) dX10_layWay_144 mlX10_39 mSJ13_numberOfTrailingZeros_95d88 (tJ13_numberOfTrailingZeros_95d88 rfl) rfl rfl (Nat.le_of_ble_eq_true rfl) rfl ?_
      let x15 : Int32 := (fJ13_numberOfTrailingZeros_95d88 (q13.1 &&& (q13.2.2 63 (y7 + (1 : Int32)).toNatClampNeg)))
      refine V_istore (ls' := [some _, none, none, none, none, some _, some _, some _]) (pc := 147) dX10_layWay_147 (Nat.le_of_ble_eq_true rfl) rfl rfl ?_
      refine V_aload_n (pc := 149) dX10_layWay_149 rfl rfl rfl ?_
      refine V_getR (pc := 150) dX10_layWay_150 flX10_9 rfl (by omega) (congrArg Prod.fst sh_61) rt_61_1 rfl ?_
      refine V_iload (pc := 153) dX10_layWay_153 rfl rfl ?_
      refine V_iload (pc := 155) dX10_layWay_155 rfl rfl ?_
      obtain ⟨hc16, hf⟩ := pif hf
      let I17 : HI := up2 q13.2.1 62 y7.toNatClampNeg x15
      refine V_iast (pc := 157) dX10_layWay_157 (by omega) sh_62 hc16 rfl ?_
      refine V_iinc (ls' := [some _, none, none, none, none, some _, some _, some _]) (pc := 158) dX10_layWay_158 rfl (Nat.le_of_ble_eq_true rfl) (congrArg _ ic_1) rfl rfl ?_
      refine V_goto (pc := 161) (tgt := 113) dX10_layWay_161 (by decide) ?_
      exact V_wk (ih _ _ _ _ _ _ hf K) ⟨rfl, ⟨rfl, ⟨rfl, ⟨rfl, trivial⟩⟩⟩⟩
noncomputable def fX10_layWay (sk : Nat) (v1 : Int32) (v2 : Int32) (I : HI) (L : HL) : Option (Int32 × HI × HL) :=
  let x1 : Int64 := ((1 : Int64) <<< (v1.toInt64 &&& 63))
  Option.bind (fX10_layWay_7 sk FUEL v1 v2 x1 (0 : Int32) I L) fun q4 =>
  if ((q4.1.toUInt64 >>> (v2.toInt64.toUInt64 &&& Int64.toUInt64 63)).toInt64 &&& (1 : Int64)) = (0 : Int64) then
    some ((-1 : Int32), q4.2.2.1, q4.2.2.2)
  else
    if inb q4.2.1 49 = true then
      let L6 : HL := up2 q4.2.2.2 63 q4.2.1.toNatClampNeg ((1 : Int64) <<< (v2.toInt64 &&& 63))
      Option.bind (fX10_layWay_70 sk FUEL v1 q4.2.1 (q4.2.1 - (1 : Int32)) q4.2.2.1 L6) fun q11 =>
      Option.bind (fX10_layWay_113 sk FUEL q4.2.1 v1 (0 : Int32) q11.1 q11.2) fun q18 =>
      some (q18.1, q18.2.1, q18.2.2)
    else none
set_option maxRecDepth 100000 in
set_option maxHeartbeats 4000000 in
theorem tX10_layWay {g : GG} {n d : Nat} {tw dr sk tl ff : Nat} (hG : RG tw dr sk tl ff) (hn : 116 ≤ n) {v1 : Int32} {v2 : Int32} {I : HI} {L : HL} {res : Int32 × HI × HL} (hf : fX10_layWay sk v1 v2 I L = some res) : CT g mX10_layWay (d + 6) 0 0 n (RT tw dr sk tl ff) I L [.ref 61, .int v1, .int v2] (PoI n (RT tw dr sk tl ff) res.1 res.2.1 res.2.2) := by
  refine CT.of rfl (Nat.le_of_ble_eq_true rfl) ?_
  show V g mX10_layWay (d + 6) 0 0 n (RT tw dr sk tl ff) I L 0 [some (.ref 61), some (.int v1), some (.int v2)] [] (PoI n (RT tw dr sk tl ff) res.1 res.2.1 res.2.2)
  refine V_lconst (pc := 0) dX10_layWay_0 lc_1 rfl ?_
  refine V_iload_n (pc := 1) dX10_layWay_1 rfl rfl rfl ?_
  refine V_lshl (pc := 2) dX10_layWay_2 rfl ?_
  let x1 : Int64 := ((1 : Int64) <<< (v1.toInt64 &&& 63))
  refine V_lstore_n (ls' := [some _, some _, some _, some _, none]) (pc := 3) dX10_layWay_3 rfl (Nat.le_of_ble_eq_true rfl) rfl rfl ?_
  refine V_iconst (pc := 4) dX10_layWay_4 ic_0 rfl ?_
  refine V_istore (ls' := [some _, some _, some _, some _, none, some _]) (pc := 5) dX10_layWay_5 (Nat.le_of_ble_eq_true rfl) rfl rfl ?_
  obtain ⟨q4, hq4, hf⟩ := bnd hf
  refine V_wk (lX10_layWay_7 hG hn FUEL _ _ _ _ _ _ _ hq4 ?_) ⟨rfl, ⟨rfl, ⟨rfl, ⟨rfl, ⟨rfl, trivial⟩⟩⟩⟩⟩
  refine V_lload_n (pc := 42) dX10_layWay_42 rfl rfl rfl ?_
  refine V_iload_n (pc := 43) dX10_layWay_43 rfl rfl rfl ?_
  refine V_lushr (pc := 44) dX10_layWay_44 rfl ?_
  refine V_lconst (pc := 45) dX10_layWay_45 lc_1 rfl ?_
  refine V_land (pc := 46) dX10_layWay_46 rfl ?_
  refine V_lconst (pc := 47) dX10_layWay_47 lc_0 rfl ?_
  refine V_lc_ne (pc := 48) (tgt := 54) dX10_layWay_48 rfl dX10_layWay_49 (by decide) rfl (fun hc => ?_) (fun hc => ?_)
  · replace hf := (if_neg hc).symm.trans hf
    refine V_aload_n (pc := 54) dX10_layWay_54 rfl rfl rfl ?_
    refine V_getR (pc := 55) dX10_layWay_55 flX10_15 rfl (by omega) (congrArg Prod.fst sh_61) rt_61_7 rfl ?_
    refine V_iload (pc := 58) dX10_layWay_58 rfl rfl ?_
    refine V_lconst (pc := 60) dX10_layWay_60 lc_1 rfl ?_
    refine V_iload_n (pc := 61) dX10_layWay_61 rfl rfl rfl ?_
    refine V_lshl (pc := 62) dX10_layWay_62 rfl ?_
    obtain ⟨hc5, hf⟩ := pif hf
    let L6 : HL := up2 q4.2.2.2 63 q4.2.1.toNatClampNeg ((1 : Int64) <<< (v2.toInt64 &&& 63))
    refine V_last (pc := 63) dX10_layWay_63 (by omega) sh_63 hc5 rfl ?_
    refine V_iload (pc := 64) dX10_layWay_64 rfl rfl ?_
    refine V_iconst (pc := 66) dX10_layWay_66 ic_1 rfl ?_
    refine V_isub (pc := 67) dX10_layWay_67 rfl ?_
    refine V_istore (ls' := [some _, some _, some _, some _, none, some _, some _]) (pc := 68) dX10_layWay_68 (Nat.le_of_ble_eq_true rfl) rfl rfl ?_
    obtain ⟨q11, hq11, hf⟩ := bnd hf
    refine V_wk (lX10_layWay_70 hG hn FUEL _ _ _ _ _ _ hq11 ?_) ⟨rfl, ⟨rfl, ⟨rfl, ⟨rfl, trivial⟩⟩⟩⟩
    refine V_iload_n (pc := 107) dX10_layWay_107 rfl rfl rfl ?_
    refine V_istore (ls' := [some _, some _, none, none, none, some _, some _]) (pc := 108) dX10_layWay_108 (Nat.le_of_ble_eq_true rfl) rfl rfl ?_
    refine V_iconst (pc := 110) dX10_layWay_110 ic_0 rfl ?_
    refine V_istore (ls' := [some _, some _, none, none, none, some _, some _, some _]) (pc := 111) dX10_layWay_111 (Nat.le_of_ble_eq_true rfl) rfl rfl ?_
    obtain ⟨q18, hq18, hf⟩ := bnd hf
    refine V_wk (lX10_layWay_113 hG hn FUEL _ _ _ _ _ _ hq18 ?_) ⟨rfl, ⟨rfl, ⟨rfl, ⟨rfl, trivial⟩⟩⟩⟩
    cases hf
    exact PoI_mk
  · replace hf := (if_pos hc).symm.trans hf
    refine V_iconst (pc := 52) dX10_layWay_52 ic_m1 rfl ?_
    cases hf
    exact V_iret (pc := 53) dX10_layWay_53 rfl PoI_mk
/-! ShadowDoors$Ways.goOn -/
noncomputable def fX10_goOn_6 (sk : Nat) : Nat → Int32 → Int64 → Int32 → HI → HL → Option (Int64 × HI × HL)
  | 0, _, _, _, _, _ => none
  | fu + 1, y3, y4, y6, I, L =>
    if y3 ≤ y6 then
      some (y4, I, L)
    else
      Option.bind (fX7_stepFrom sk y4 y6 (0 : Int32) I L) fun q1 =>
      fX10_goOn_6 sk fu y3 q1.1 (y6 + (1 : Int32)) q1.2.1 q1.2.2
set_option maxRecDepth 100000 in
set_option maxHeartbeats 4000000 in
theorem lX10_goOn_6 {g : GG} {n d : Nat} {tw dr sk tl ff : Nat} (hG : RG tw dr sk tl ff) (hn : 116 ≤ n) {P : PP} : ∀ (fu : Nat) (y3 : Int32) (y4 : Int64) (y6 : Int32) (I : HI) (L : HL) (res : Int64 × HI × HL), fX10_goOn_6 sk fu y3 y4 y6 I L = some res → P (some (.long res.1)) n (RT tw dr sk tl ff) res.2.1 res.2.2 → V g mX10_goOn (d + 6) 0 0 n (RT tw dr sk tl ff) I L 6 [some (.ref 61), none, none, some (.int y3), some (.long y4), none, some (.int y6)] [] P := by
  intro fu
  induction fu with
  | zero => intro y3 y4 y6 I L res hf; cases (show none = some res from hf)
  | succ fu ih =>
    intro y3 y4 y6 I L res hf K
    refine V_iload (pc := 6) dX10_goOn_6 rfl rfl ?_
    refine V_iload_n (pc := 8) dX10_goOn_8 rfl rfl rfl ?_
    refine V_icmp_ge (pc := 9) (tgt := 32) dX10_goOn_9 (by decide) rfl (fun hc => ?_) (fun hc => ?_)
    · replace hf := (if_pos hc).symm.trans hf
      refine V_lload (pc := 32) dX10_goOn_32 rfl rfl ?_
      cases hf
      exact V_lret (pc := 34) dX10_goOn_34 rfl K
    · replace hf := (if_neg hc).symm.trans hf
      refine V_aload_n (pc := 12) dX10_goOn_12 rfl rfl rfl ?_
      refine V_getR (pc := 13) dX10_goOn_13 flX10_25 rfl (by omega) (congrArg Prod.fst sh_61) rt_61_0 rfl ?_
      refine V_lload (pc := 16) dX10_goOn_16 rfl rfl ?_
      refine V_iload (pc := 18) dX10_goOn_18 rfl rfl ?_
      refine V_iconst (pc := 20) dX10_goOn_20 ic_0 rfl ?_
      obtain ⟨q1, hq1, hf⟩ := bnd hf
      refine V_cVl (md' := mX7_stepFrom) (pc := 21) dX10_goOn_21 mlX10_33 mVX7_stepFrom (tX7_stepFrom hG hn hq1) rfl (by omega) (congrArg Prod.fst sh_57) rfl (Nat.le_of_ble_eq_true rfl) rfl ?_
      refine V_lstore (ls' := [some _, none, none, some _, some _, none, some _]) (pc := 24) dX10_goOn_24 (Nat.le_of_ble_eq_true rfl) rfl rfl ?_
      refine V_iinc (ls' := [some _, none, none, some _, some _, none, some _]) (pc := 26) dX10_goOn_26 rfl (Nat.le_of_ble_eq_true rfl) (congrArg _ ic_1) rfl rfl ?_
      refine V_goto (pc := 29) (tgt := 6) dX10_goOn_29 (by decide) ?_
      exact V_wk (ih _ _ _ _ _ _ hf K) ⟨rfl, ⟨rfl, ⟨rfl, ⟨rfl, trivial⟩⟩⟩⟩
noncomputable def fX10_goOn (sk : Nat) (v1 : Int64) (v2 : Int32) (I : HI) (L : HL) : Option (Int64 × HI × HL) :=
  Option.bind (fX10_goOn_6 sk FUEL v2 v1 (0 : Int32) I L) fun q2 =>
  some (q2.1, q2.2.1, q2.2.2)
set_option maxRecDepth 100000 in
set_option maxHeartbeats 4000000 in
theorem tX10_goOn {g : GG} {n d : Nat} {tw dr sk tl ff : Nat} (hG : RG tw dr sk tl ff) (hn : 116 ≤ n) {v1 : Int64} {v2 : Int32} {I : HI} {L : HL} {res : Int64 × HI × HL} (hf : fX10_goOn sk v1 v2 I L = some res) : CT g mX10_goOn (d + 6) 0 0 n (RT tw dr sk tl ff) I L [.ref 61, .long v1, .int v2] (PoL n (RT tw dr sk tl ff) res.1 res.2.1 res.2.2) := by
  refine CT.of rfl (Nat.le_of_ble_eq_true rfl) ?_
  show V g mX10_goOn (d + 6) 0 0 n (RT tw dr sk tl ff) I L 0 [some (.ref 61), some (.long v1), none, some (.int v2)] [] (PoL n (RT tw dr sk tl ff) res.1 res.2.1 res.2.2)
  refine V_lload_n (pc := 0) dX10_goOn_0 rfl rfl rfl ?_
  refine V_lstore (ls' := [some _, some _, none, some _, some _, none]) (pc := 1) dX10_goOn_1 (Nat.le_of_ble_eq_true rfl) rfl rfl ?_
  refine V_iconst (pc := 3) dX10_goOn_3 ic_0 rfl ?_
  refine V_istore (ls' := [some _, some _, none, some _, some _, none, some _]) (pc := 4) dX10_goOn_4 (Nat.le_of_ble_eq_true rfl) rfl rfl ?_
  obtain ⟨q2, hq2, hf⟩ := bnd hf
  refine V_wk (lX10_goOn_6 hG hn FUEL _ _ _ _ _ _ hq2 ?_) ⟨rfl, ⟨rfl, ⟨rfl, ⟨rfl, trivial⟩⟩⟩⟩
  cases hf
  exact PoL_mk
