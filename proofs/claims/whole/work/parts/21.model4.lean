/-! ShadowDoorsModel.bestOf -/
noncomputable def fX12_bestOf_5 : Nat → Int32 → Int32 → Int64 → Int32 → HI → HL → Option (Int64)
  | 0, _, _, _, _, _, _ => none
  | fu + 1, y1, y2, y3, y5, I, L =>
    if ((I 73 52) * (I 73 53)) ≤ y5 then
      some y3
    else
      if inb (((64 : Int32) * y2) + y1) 3136 = true then
        Option.bind (
          if (b2i (fX12_has (L 101 (((64 : Int32) * y2) + y1).toNatClampNeg) y5)) = 0 then
            some true
          else
            if inb y5 64 = true then
              if (L 106 y5.toNatClampNeg) ≤ y3 then
                some true
              else
                some false
            else none
        ) fun b2 =>
        if b2 = true then
          fX12_bestOf_5 fu y1 y2 y3 (y5 + (1 : Int32)) I L
        else
          if inb y5 64 = true then
            fX12_bestOf_5 fu y1 y2 (L 106 y5.toNatClampNeg) (y5 + (1 : Int32)) I L
          else none
      else none
set_option maxRecDepth 100000 in
set_option maxHeartbeats 4000000 in
theorem lX12_bestOf_5 {g : GG} {n d : Nat} {tw dr sk tl ff : Nat} (hG : RG tw dr sk tl ff) (hn : 116 ≤ n) {P : PP} : ∀ (fu : Nat) (y1 : Int32) (y2 : Int32) (y3 : Int64) (y5 : Int32) (I : HI) (L : HL) (res : Int64), fX12_bestOf_5 fu y1 y2 y3 y5 I L = some res → P (some (.long res)) n (RT tw dr sk tl ff) I L → V g mX12_bestOf (d + 2) 0 0 n (RT tw dr sk tl ff) I L 5 [some (.ref 73), some (.int y1), some (.int y2), some (.long y3), none, some (.int y5)] [] P := by
  intro fu
  induction fu with
  | zero => intro y1 y2 y3 y5 I L res hf; cases (show none = some res from hf)
  | succ fu ih =>
    intro y1 y2 y3 y5 I L res hf K
    refine V_iload (pc := 5) dX12_bestOf_5 rfl rfl ?_
    refine V_aload_n (pc := 7) dX12_bestOf_7 rfl rfl rfl ?_
    refine V_getI (pc := 8) dX12_bestOf_8 flX12_90 rfl (by omega) (congrArg Prod.fst sh_73) rfl ?_
    refine V_aload_n (pc := 11) dX12_bestOf_11 rfl rfl rfl ?_
    refine V_getI (pc := 12) dX12_bestOf_12 flX12_93 rfl (by omega) (congrArg Prod.fst sh_73) rfl ?_
    refine V_imul (pc := 15) dX12_bestOf_15 rfl ?_
    refine V_icmp_ge (pc := 16) (tgt := 64) dX12_bestOf_16 (by decide) rfl (fun hc => ?_) (fun hc => ?_)
    · replace hf := (if_pos hc).symm.trans hf
      refine V_lload_n (pc := 64) dX12_bestOf_64 rfl rfl rfl ?_
      cases hf
      exact V_lret (pc := 65) dX12_bestOf_65 rfl K
    · replace hf := (if_neg hc).symm.trans hf
      refine V_aload_n (pc := 19) dX12_bestOf_19 rfl rfl rfl ?_
      refine V_getR (pc := 20) dX12_bestOf_20 flX12_102 rfl (by omega) (congrArg Prod.fst sh_73) rt_73_71 rfl ?_
      refine V_bipush (pc := 23) dX12_bestOf_23 bp_64 rfl ?_
      refine V_iload_n (pc := 25) dX12_bestOf_25 rfl rfl rfl ?_
      refine V_imul (pc := 26) dX12_bestOf_26 rfl ?_
      refine V_iload_n (pc := 27) dX12_bestOf_27 rfl rfl rfl ?_
      refine V_iadd (pc := 28) dX12_bestOf_28 rfl ?_
      obtain ⟨hc1, hf⟩ := pif hf
      refine V_lald (pc := 29) dX12_bestOf_29 (by omega) sh_101 hc1 rfl ?_
      refine V_iload (pc := 30) dX12_bestOf_30 rfl rfl ?_
      refine V_cSz (md' := mX12_has) (pc := 32) dX12_bestOf_32 mlX12_330 mSX12_has (tX12_has rfl) rfl rfl (Nat.le_of_ble_eq_true rfl) rfl ?_
      obtain ⟨b2, hb2, hf⟩ := bnd hf
      have KTb2 : b2 = true → V g mX12_bestOf (d + 2) 0 0 n (RT tw dr sk tl ff) I L 58 [some (.ref 73), some (.int y1), some (.int y2), some (.long y3), none, some (.int y5)] [] P := fun hc => by
        replace hf := (if_pos hc).symm.trans hf
        refine V_iinc (ls' := [some _, some _, some _, some _, none, some _]) (pc := 58) dX12_bestOf_58 rfl (Nat.le_of_ble_eq_true rfl) (congrArg _ ic_1) rfl rfl ?_
        refine V_goto (pc := 61) (tgt := 5) dX12_bestOf_61 (by decide) ?_
        exact V_wk (ih _ _ _ _ _ _ _ hf K) ⟨rfl, ⟨rfl, ⟨rfl, ⟨rfl, ⟨rfl, trivial⟩⟩⟩⟩⟩
      have KFb2 : ¬ b2 = true → V g mX12_bestOf (d + 2) 0 0 n (RT tw dr sk tl ff) I L 50 [some (.ref 73), some (.int y1), some (.int y2), some (.long y3), none, some (.int y5)] [] P := fun hc => by
        replace hf := (if_neg hc).symm.trans hf
        refine V_aload_n (pc := 50) dX12_bestOf_50 rfl rfl rfl ?_
        refine V_getR (pc := 51) dX12_bestOf_51 flX12_117 rfl (by omega) (congrArg Prod.fst sh_73) rt_73_79 rfl ?_
        refine V_iload (pc := 54) dX12_bestOf_54 rfl rfl ?_
        obtain ⟨hc4, hf⟩ := pif hf
        refine V_lald (pc := 56) dX12_bestOf_56 (by omega) sh_106 hc4 rfl ?_
        refine V_lstore_n (ls' := [some _, some _, some _, some _, none, some _]) (pc := 57) dX12_bestOf_57 rfl (Nat.le_of_ble_eq_true rfl) rfl rfl ?_
        refine V_iinc (ls' := [some _, some _, some _, some _, none, some _]) (pc := 58) dX12_bestOf_58 rfl (Nat.le_of_ble_eq_true rfl) (congrArg _ ic_1) rfl rfl ?_
        refine V_goto (pc := 61) (tgt := 5) dX12_bestOf_61 (by decide) ?_
        exact V_wk (ih _ _ _ _ _ _ _ hf K) ⟨rfl, ⟨rfl, ⟨rfl, ⟨rfl, ⟨rfl, trivial⟩⟩⟩⟩⟩
      refine V_if_eq (pc := 35) (tgt := 58) dX12_bestOf_35 (by decide) rfl (fun hc => ?_) (fun hc => ?_)
      · replace hb2 := (if_pos hc).symm.trans hb2
        cases hb2
        exact KTb2 rfl
      · replace hb2 := (if_neg hc).symm.trans hb2
        refine V_aload_n (pc := 38) dX12_bestOf_38 rfl rfl rfl ?_
        refine V_getR (pc := 39) dX12_bestOf_39 flX12_117 rfl (by omega) (congrArg Prod.fst sh_73) rt_73_79 rfl ?_
        refine V_iload (pc := 42) dX12_bestOf_42 rfl rfl ?_
        obtain ⟨hc3, hb2⟩ := pif hb2
        refine V_lald (pc := 44) dX12_bestOf_44 (by omega) sh_106 hc3 rfl ?_
        refine V_lload_n (pc := 45) dX12_bestOf_45 rfl rfl rfl ?_
        refine V_lc_le (pc := 46) (tgt := 58) dX12_bestOf_46 rfl dX12_bestOf_47 (by decide) rfl (fun hc => ?_) (fun hc => ?_)
        · replace hb2 := (if_pos hc).symm.trans hb2
          cases hb2
          exact KTb2 rfl
        · replace hb2 := (if_neg hc).symm.trans hb2
          cases hb2
          exact KFb2 (nbt rfl)
noncomputable def fX12_bestOf (v1 : Int32) (v2 : Int32) (I : HI) (L : HL) : Option (Int64) :=
  Option.bind (fX12_bestOf_5 FUEL v1 v2 (0 : Int64) (0 : Int32) I L) fun q5 =>
  some q5
set_option maxRecDepth 100000 in
set_option maxHeartbeats 4000000 in
theorem tX12_bestOf {g : GG} {n d : Nat} {tw dr sk tl ff : Nat} (hG : RG tw dr sk tl ff) (hn : 116 ≤ n) {v1 : Int32} {v2 : Int32} {I : HI} {L : HL} {res : Int64} (hf : fX12_bestOf v1 v2 I L = some res) : CT g mX12_bestOf (d + 2) 0 0 n (RT tw dr sk tl ff) I L [.ref 73, .int v1, .int v2] (PoL n (RT tw dr sk tl ff) res I L) := by
  refine CT.of rfl (Nat.le_of_ble_eq_true rfl) ?_
  show V g mX12_bestOf (d + 2) 0 0 n (RT tw dr sk tl ff) I L 0 [some (.ref 73), some (.int v1), some (.int v2)] [] (PoL n (RT tw dr sk tl ff) res I L)
  refine V_lconst (pc := 0) dX12_bestOf_0 lc_0 rfl ?_
  refine V_lstore_n (ls' := [some _, some _, some _, some _, none]) (pc := 1) dX12_bestOf_1 rfl (Nat.le_of_ble_eq_true rfl) rfl rfl ?_
  refine V_iconst (pc := 2) dX12_bestOf_2 ic_0 rfl ?_
  refine V_istore (ls' := [some _, some _, some _, some _, none, some _]) (pc := 3) dX12_bestOf_3 (Nat.le_of_ble_eq_true rfl) rfl rfl ?_
  obtain ⟨q5, hq5, hf⟩ := bnd hf
  refine V_wk (lX12_bestOf_5 hG hn FUEL _ _ _ _ _ _ _ hq5 ?_) ⟨rfl, ⟨rfl, ⟨rfl, ⟨rfl, ⟨rfl, trivial⟩⟩⟩⟩⟩
  cases hf
  exact PoL_mk
/-! ShadowDoorsModel.common -/
noncomputable def fX12_common_6 : Nat → Int64 → Int64 → Option (Int64)
  | 0, _, _ => none
  | fu + 1, y4, y6 =>
    if y6 ≤ (0 : Int64) then
      some y4
    else
      if y6 = 0 then none else
      fX12_common_6 fu y6 (y4 - y4 / y6 * y6)
set_option maxRecDepth 100000 in
set_option maxHeartbeats 4000000 in
theorem lX12_common_6 {g : GG} {n d : Nat} {r : HR}  {P : PP} : ∀ (fu : Nat) (y4 : Int64) (y6 : Int64) (I : HI) (L : HL) (res : Int64), fX12_common_6 fu y4 y6 = some res → P (some (.long res)) n r I L → V g mX12_common (d + 1) 0 0 n r I L 6 [none, none, none, none, some (.long y4), none, some (.long y6)] [] P := by
  intro fu
  induction fu with
  | zero => intro y4 y6 I L res hf; cases (show none = some res from hf)
  | succ fu ih =>
    intro y4 y6 I L res hf K
    refine V_lload (pc := 6) dX12_common_6 rfl rfl ?_
    refine V_lconst (pc := 8) dX12_common_8 lc_0 rfl ?_
    refine V_lc_le (pc := 9) (tgt := 31) dX12_common_9 rfl dX12_common_10 (by decide) rfl (fun hc => ?_) (fun hc => ?_)
    · replace hf := (if_pos hc).symm.trans hf
      refine V_lload (pc := 31) dX12_common_31 rfl rfl ?_
      cases hf
      exact V_lret (pc := 33) dX12_common_33 rfl K
    · replace hf := (if_neg hc).symm.trans hf
      refine V_lload (pc := 13) dX12_common_13 rfl rfl ?_
      refine V_lload (pc := 15) dX12_common_15 rfl rfl ?_
      obtain ⟨hc1, hf⟩ := nif hf
      refine V_lrem (pc := 17) dX12_common_17 hc1 rfl ?_
      refine V_lstore (ls' := [none, none, none, none, some _, none, some _, none, some _, none]) (pc := 18) dX12_common_18 (Nat.le_of_ble_eq_true rfl) rfl rfl ?_
      refine V_lload (pc := 20) dX12_common_20 rfl rfl ?_
      refine V_lstore (ls' := [none, none, none, none, some _, none, some _, none, some _, none]) (pc := 22) dX12_common_22 (Nat.le_of_ble_eq_true rfl) rfl rfl ?_
      refine V_lload (pc := 24) dX12_common_24 rfl rfl ?_
      refine V_lstore (ls' := [none, none, none, none, some _, none, some _, none, some _, none]) (pc := 26) dX12_common_26 (Nat.le_of_ble_eq_true rfl) rfl rfl ?_
      refine V_goto (pc := 28) (tgt := 6) dX12_common_28 (by decide) ?_
      exact V_wk (ih _ _ _ _ _ hf K) ⟨rfl, ⟨rfl, trivial⟩⟩
noncomputable def fX12_common (v1 : Int64) (v2 : Int64) : Option (Int64) :=
  Option.bind (fX12_common_6 FUEL v1 v2) fun q2 =>
  some q2
set_option maxRecDepth 100000 in
set_option maxHeartbeats 4000000 in
theorem tX12_common {g : GG} {n d : Nat} {r : HR}  {v1 : Int64} {v2 : Int64} {I : HI} {L : HL} {res : Int64} (hf : fX12_common v1 v2 = some res) : CT g mX12_common (d + 1) 0 0 n r I L [.long v1, .long v2] (PoL n r res I L) := by
  refine CT.of rfl (Nat.le_of_ble_eq_true rfl) ?_
  show V g mX12_common (d + 1) 0 0 n r I L 0 [some (.long v1), none, some (.long v2), none] [] (PoL n r res I L)
  refine V_lload_n (pc := 0) dX12_common_0 rfl rfl rfl ?_
  refine V_lstore (ls' := [some _, none, some _, none, some _, none]) (pc := 1) dX12_common_1 (Nat.le_of_ble_eq_true rfl) rfl rfl ?_
  refine V_lload_n (pc := 3) dX12_common_3 rfl rfl rfl ?_
  refine V_lstore (ls' := [some _, none, some _, none, some _, none, some _, none]) (pc := 4) dX12_common_4 (Nat.le_of_ble_eq_true rfl) rfl rfl ?_
  obtain ⟨q2, hq2, hf⟩ := bnd hf
  refine V_wk (lX12_common_6 FUEL _ _ _ _ _ hq2 ?_) ⟨rfl, ⟨rfl, trivial⟩⟩
  cases hf
  exact PoL_mk
/-! ShadowDoorsModel.surest -/
noncomputable def fX12_surest_54 : Nat → Int32 → Int32 → Int32 → Int32 → Int32 → Int32 → HI → HL → Option (HL)
  | 0, _, _, _, _, _, _, _, _ => none
  | fu + 1, y1, y2, y3, y4, y5, y6, I, L =>
    if (64 : Int32) ≤ y6 then
      some L
    else
      if y6 = y2 then
        if inb y6 64 = true then
          let L6 : HL := up2 L 106 y6.toNatClampNeg (1 : Int64)
          fX12_surest_54 fu y1 y2 y3 y4 y5 (y6 + (1 : Int32)) I L6
        else none
      else
        if inb y6 64 = true then
          let L4 : HL := up2 L 106 y6.toNatClampNeg (0 : Int64)
          fX12_surest_54 fu y1 y2 y3 y4 y5 (y6 + (1 : Int32)) I L4
        else none
set_option maxRecDepth 100000 in
set_option maxHeartbeats 4000000 in
theorem lX12_surest_54 {g : GG} {n d : Nat} {tw dr sk tl ff : Nat} (hG : RG tw dr sk tl ff) (hn : 116 ≤ n) {P : PP} : ∀ (fu : Nat) (y1 : Int32) (y2 : Int32) (y3 : Int32) (y4 : Int32) (y5 : Int32) (y6 : Int32) (I : HI) (L : HL) (res : HL), fX12_surest_54 fu y1 y2 y3 y4 y5 y6 I L = some res → V g mX12_surest (d + 7) 0 0 n (RT tw dr sk tl ff) I res 85 [some (.ref 73), some (.int y1), some (.int y2), some (.int y3), some (.int y4), some (.int y5)] [] P → V g mX12_surest (d + 7) 0 0 n (RT tw dr sk tl ff) I L 54 [some (.ref 73), some (.int y1), some (.int y2), some (.int y3), some (.int y4), some (.int y5), some (.int y6)] [] P := by
  intro fu
  induction fu with
  | zero => intro y1 y2 y3 y4 y5 y6 I L res hf; cases (show none = some res from hf)
  | succ fu ih =>
    intro y1 y2 y3 y4 y5 y6 I L res hf K
    refine V_iload (pc := 54) dX12_surest_54 rfl rfl ?_
    refine V_bipush (pc := 56) dX12_surest_56 bp_64 rfl ?_
    refine V_icmp_ge (pc := 58) (tgt := 85) dX12_surest_58 (by decide) rfl (fun hc => ?_) (fun hc => ?_)
    · replace hf := (if_pos hc).symm.trans hf
      cases hf
      exact V_wk K ⟨rfl, ⟨rfl, ⟨rfl, ⟨rfl, ⟨rfl, ⟨rfl, trivial⟩⟩⟩⟩⟩⟩
    · replace hf := (if_neg hc).symm.trans hf
      refine V_aload_n (pc := 61) dX12_surest_61 rfl rfl rfl ?_
      refine V_getR (pc := 62) dX12_surest_62 flX12_117 rfl (by omega) (congrArg Prod.fst sh_73) rt_73_79 rfl ?_
      refine V_iload (pc := 65) dX12_surest_65 rfl rfl ?_
      refine V_iload (pc := 67) dX12_surest_67 rfl rfl ?_
      refine V_iload_n (pc := 69) dX12_surest_69 rfl rfl rfl ?_
      refine V_icmp_ne (pc := 70) (tgt := 77) dX12_surest_70 (by decide) rfl (fun hc => ?_) (fun hc => ?_)
      · replace hf := (if_neg hc).symm.trans hf
        refine V_lconst (pc := 77) dX12_surest_77 lc_0 rfl ?_
        obtain ⟨hc3, hf⟩ := pif hf
        let L4 : HL := up2 L 106 y6.toNatClampNeg (0 : Int64)
        refine V_last (pc := 78) dX12_surest_78 (by omega) sh_106 hc3 rfl ?_
        refine V_iinc (ls' := [some _, some _, some _, some _, some _, some _, some _]) (pc := 79) dX12_surest_79 rfl (Nat.le_of_ble_eq_true rfl) (congrArg _ ic_1) rfl rfl ?_
        refine V_goto (pc := 82) (tgt := 54) dX12_surest_82 (by decide) ?_
        exact V_wk (ih _ _ _ _ _ _ _ _ _ hf K) ⟨rfl, ⟨rfl, ⟨rfl, ⟨rfl, ⟨rfl, ⟨rfl, ⟨rfl, trivial⟩⟩⟩⟩⟩⟩⟩
      · replace hf := (if_pos hc).symm.trans hf
        refine V_lconst (pc := 73) dX12_surest_73 lc_1 rfl ?_
        refine V_goto (pc := 74) (tgt := 78) dX12_surest_74 (by decide) ?_
        obtain ⟨hc5, hf⟩ := pif hf
        let L6 : HL := up2 L 106 y6.toNatClampNeg (1 : Int64)
        refine V_last (pc := 78) dX12_surest_78 (by omega) sh_106 hc5 rfl ?_
        refine V_iinc (ls' := [some _, some _, some _, some _, some _, some _, some _]) (pc := 79) dX12_surest_79 rfl (Nat.le_of_ble_eq_true rfl) (congrArg _ ic_1) rfl rfl ?_
        refine V_goto (pc := 82) (tgt := 54) dX12_surest_82 (by decide) ?_
        exact V_wk (ih _ _ _ _ _ _ _ _ _ hf K) ⟨rfl, ⟨rfl, ⟨rfl, ⟨rfl, ⟨rfl, ⟨rfl, ⟨rfl, trivial⟩⟩⟩⟩⟩⟩⟩
noncomputable def fX12_surest_144 : Nat → Int32 → Int32 → Int32 → Int32 → Int64 → Int32 → Int32 → HI → HL → Option (HL)
  | 0, _, _, _, _, _, _, _, _, _ => none
  | fu + 1, y1, y2, y4, y5, y6, y8, y9, I, L =>
    if ((I 73 52) * (I 73 53)) ≤ y9 then
      some L
    else
      if y9 = y2 then
        if inb y9 64 = true then
          let L22 : HL := up2 L 107 y9.toNatClampNeg y6
          fX12_surest_144 fu y1 y2 y4 y5 y6 y8 (y9 + (1 : Int32)) I L22
        else none
      else
        if (b2i (fX12_has (L 73 44) y9)) = 0 then
          Option.bind (fX12_bestOf y9 (1 : Int32) I L) fun q15 =>
          Option.bind (fX12_bestOf y9 (0 : Int32) I L) fun q16 =>
          if inb y9 64 = true then
            let L18 : HL := up2 L 107 y9.toNatClampNeg (((I 73 58).toInt64 * q15) + (((100 : Int32) - (I 73 58)).toInt64 * q16))
            fX12_surest_144 fu y1 y2 y4 y5 y6 y8 (y9 + (1 : Int32)) I L18
          else none
        else
          if inb y9 64 = true then
            let L20 : HL := up2 L 107 y9.toNatClampNeg (0 : Int64)
            fX12_surest_144 fu y1 y2 y4 y5 y6 y8 (y9 + (1 : Int32)) I L20
          else none
set_option maxRecDepth 100000 in
set_option maxHeartbeats 4000000 in
theorem lX12_surest_144 {g : GG} {n d : Nat} {tw dr sk tl ff : Nat} (hG : RG tw dr sk tl ff) (hn : 116 ≤ n) {P : PP} : ∀ (fu : Nat) (y1 : Int32) (y2 : Int32) (y4 : Int32) (y5 : Int32) (y6 : Int64) (y8 : Int32) (y9 : Int32) (I : HI) (L : HL) (res : HL), fX12_surest_144 fu y1 y2 y4 y5 y6 y8 y9 I L = some res → V g mX12_surest (d + 7) 0 0 n (RT tw dr sk tl ff) I res 228 [some (.ref 73), some (.int y1), some (.int y2), none, some (.int y4), some (.int y5), some (.long y6), none, some (.int y8)] [] P → V g mX12_surest (d + 7) 0 0 n (RT tw dr sk tl ff) I L 144 [some (.ref 73), some (.int y1), some (.int y2), none, some (.int y4), some (.int y5), some (.long y6), none, some (.int y8), some (.int y9)] [] P := by
  intro fu
  induction fu with
  | zero => intro y1 y2 y4 y5 y6 y8 y9 I L res hf; cases (show none = some res from hf)
  | succ fu ih =>
    intro y1 y2 y4 y5 y6 y8 y9 I L res hf K
    refine V_iload (pc := 144) dX12_surest_144 rfl rfl ?_
    refine V_aload_n (pc := 146) dX12_surest_146 rfl rfl rfl ?_
    refine V_getI (pc := 147) dX12_surest_147 flX12_90 rfl (by omega) (congrArg Prod.fst sh_73) rfl ?_
    refine V_aload_n (pc := 150) dX12_surest_150 rfl rfl rfl ?_
    refine V_getI (pc := 151) dX12_surest_151 flX12_93 rfl (by omega) (congrArg Prod.fst sh_73) rfl ?_
    refine V_imul (pc := 154) dX12_surest_154 rfl ?_
    refine V_icmp_ge (pc := 155) (tgt := 228) dX12_surest_155 (by decide) rfl (fun hc => ?_) (fun hc => ?_)
    · replace hf := (if_pos hc).symm.trans hf
      cases hf
      exact V_wk K ⟨rfl, ⟨rfl, ⟨rfl, ⟨rfl, ⟨rfl, ⟨rfl, ⟨rfl, trivial⟩⟩⟩⟩⟩⟩⟩
    · replace hf := (if_neg hc).symm.trans hf
      refine V_aload_n (pc := 158) dX12_surest_158 rfl rfl rfl ?_
      refine V_getR (pc := 159) dX12_surest_159 flX12_120 rfl (by omega) (congrArg Prod.fst sh_73) rt_73_80 rfl ?_
      refine V_iload (pc := 162) dX12_surest_162 rfl rfl ?_
      refine V_iload (pc := 164) dX12_surest_164 rfl rfl ?_
      refine V_iload_n (pc := 166) dX12_surest_166 rfl rfl rfl ?_
      refine V_icmp_ne (pc := 167) (tgt := 175) dX12_surest_167 (by decide) rfl (fun hc => ?_) (fun hc => ?_)
      · replace hf := (if_neg hc).symm.trans hf
        refine V_aload_n (pc := 175) dX12_surest_175 rfl rfl rfl ?_
        refine V_getL (pc := 176) dX12_surest_176 flX12_403 rfl (by omega) (congrArg Prod.fst sh_73) rfl ?_
        refine V_iload (pc := 179) dX12_surest_179 rfl rfl ?_
        refine V_cSz (md' := mX12_has) (pc := 181) dX12_surest_181 mlX12_330 mSX12_has (tX12_has rfl) rfl rfl (Nat.le_of_ble_eq_true rfl) rfl ?_
        refine V_if_eq (pc := 184) (tgt := 191) dX12_surest_184 (by decide) rfl (fun hc => ?_) (fun hc => ?_)
        · replace hf := (if_pos hc).symm.trans hf
          refine V_aload_n (pc := 191) dX12_surest_191 rfl rfl rfl ?_
          refine V_getI (pc := 192) dX12_surest_192 flX12_418 rfl (by omega) (congrArg Prod.fst sh_73) rfl ?_
          refine V_i2l (pc := 195) dX12_surest_195 rfl ?_
          refine V_aload_n (pc := 196) dX12_surest_196 rfl rfl rfl ?_
          refine V_iload (pc := 197) dX12_surest_197 rfl rfl ?_
          refine V_iconst (pc := 199) dX12_surest_199 ic_1 rfl ?_
          obtain ⟨q15, hq15, hf⟩ := bnd hf
          refine V_cVl (md' := mX12_bestOf) (pc := 200) dX12_surest_200 mlX12_564 mVX12_bestOf (tX12_bestOf hG hn hq15) rfl (by omega) (congrArg Prod.fst sh_73) rfl (Nat.le_of_ble_eq_true rfl) rfl ?_
          refine V_lmul (pc := 203) dX12_surest_203 rfl ?_
          refine V_bipush (pc := 204) dX12_surest_204 bp_100 rfl ?_
          refine V_aload_n (pc := 206) dX12_surest_206 rfl rfl rfl ?_
          refine V_getI (pc := 207) dX12_surest_207 flX12_418 rfl (by omega) (congrArg Prod.fst sh_73) rfl ?_
          refine V_isub (pc := 210) dX12_surest_210 rfl ?_
          refine V_i2l (pc := 211) dX12_surest_211 rfl ?_
          refine V_aload_n (pc := 212) dX12_surest_212 rfl rfl rfl ?_
          refine V_iload (pc := 213) dX12_surest_213 rfl rfl ?_
          refine V_iconst (pc := 215) dX12_surest_215 ic_0 rfl ?_
          obtain ⟨q16, hq16, hf⟩ := bnd hf
          refine V_cVl (md' := mX12_bestOf) (pc := 216) dX12_surest_216 mlX12_564 mVX12_bestOf (tX12_bestOf hG hn hq16) rfl (by omega) (congrArg Prod.fst sh_73) rfl (Nat.le_of_ble_eq_true rfl) rfl ?_
          refine V_lmul (pc := 219) dX12_surest_219 rfl ?_
          refine V_ladd (pc := 220) dX12_surest_220 rfl ?_
          obtain ⟨hc17, hf⟩ := pif hf
          let L18 : HL := up2 L 107 y9.toNatClampNeg (((I 73 58).toInt64 * q15) + (((100 : Int32) - (I 73 58)).toInt64 * q16))
          refine V_last (pc := 221) dX12_surest_221 (by omega) sh_107 hc17 rfl ?_
          refine V_iinc (ls' := [some _, some _, some _, none, some _, some _, some _, none, some _, some _]) (pc := 222) dX12_surest_222 rfl (Nat.le_of_ble_eq_true rfl) (congrArg _ ic_1) rfl rfl ?_
          refine V_goto (pc := 225) (tgt := 144) dX12_surest_225 (by decide) ?_
          exact V_wk (ih _ _ _ _ _ _ _ _ _ _ hf K) ⟨rfl, ⟨rfl, ⟨rfl, ⟨rfl, ⟨rfl, ⟨rfl, ⟨rfl, ⟨rfl, trivial⟩⟩⟩⟩⟩⟩⟩⟩
        · replace hf := (if_neg hc).symm.trans hf
          refine V_lconst (pc := 187) dX12_surest_187 lc_0 rfl ?_
          refine V_goto (pc := 188) (tgt := 221) dX12_surest_188 (by decide) ?_
          obtain ⟨hc19, hf⟩ := pif hf
          let L20 : HL := up2 L 107 y9.toNatClampNeg (0 : Int64)
          refine V_last (pc := 221) dX12_surest_221 (by omega) sh_107 hc19 rfl ?_
          refine V_iinc (ls' := [some _, some _, some _, none, some _, some _, some _, none, some _, some _]) (pc := 222) dX12_surest_222 rfl (Nat.le_of_ble_eq_true rfl) (congrArg _ ic_1) rfl rfl ?_
          refine V_goto (pc := 225) (tgt := 144) dX12_surest_225 (by decide) ?_
          exact V_wk (ih _ _ _ _ _ _ _ _ _ _ hf K) ⟨rfl, ⟨rfl, ⟨rfl, ⟨rfl, ⟨rfl, ⟨rfl, ⟨rfl, ⟨rfl, trivial⟩⟩⟩⟩⟩⟩⟩⟩
      · replace hf := (if_pos hc).symm.trans hf
        refine V_lload (pc := 170) dX12_surest_170 rfl rfl ?_
        refine V_goto (pc := 172) (tgt := 221) dX12_surest_172 (by decide) ?_
        obtain ⟨hc21, hf⟩ := pif hf
        let L22 : HL := up2 L 107 y9.toNatClampNeg y6
        refine V_last (pc := 221) dX12_surest_221 (by omega) sh_107 hc21 rfl ?_
        refine V_iinc (ls' := [some _, some _, some _, none, some _, some _, some _, none, some _, some _]) (pc := 222) dX12_surest_222 rfl (Nat.le_of_ble_eq_true rfl) (congrArg _ ic_1) rfl rfl ?_
        refine V_goto (pc := 225) (tgt := 144) dX12_surest_225 (by decide) ?_
        exact V_wk (ih _ _ _ _ _ _ _ _ _ _ hf K) ⟨rfl, ⟨rfl, ⟨rfl, ⟨rfl, ⟨rfl, ⟨rfl, ⟨rfl, ⟨rfl, trivial⟩⟩⟩⟩⟩⟩⟩⟩
noncomputable def fX12_surest_231 : Nat → Int32 → Int32 → Int32 → Int32 → Int64 → Int32 → Int32 → HI → HL → Option (HL)
  | 0, _, _, _, _, _, _, _, _, _ => none
  | fu + 1, y1, y2, y4, y5, y6, y8, y9, I, L =>
    if ((I 73 52) * (I 73 53)) ≤ y9 then
      some L
    else
      if inb y9 64 = true then
        if inb y9 64 = true then
          let L26 : HL := up2 L 106 y9.toNatClampNeg (L 107 y9.toNatClampNeg)
          fX12_surest_231 fu y1 y2 y4 y5 y6 y8 (y9 + (1 : Int32)) I L26
        else none
      else none
set_option maxRecDepth 100000 in
set_option maxHeartbeats 4000000 in
theorem lX12_surest_231 {g : GG} {n d : Nat} {tw dr sk tl ff : Nat} (hG : RG tw dr sk tl ff) (hn : 116 ≤ n) {P : PP} : ∀ (fu : Nat) (y1 : Int32) (y2 : Int32) (y4 : Int32) (y5 : Int32) (y6 : Int64) (y8 : Int32) (y9 : Int32) (I : HI) (L : HL) (res : HL), fX12_surest_231 fu y1 y2 y4 y5 y6 y8 y9 I L = some res → V g mX12_surest (d + 7) 0 0 n (RT tw dr sk tl ff) I res 265 [some (.ref 73), some (.int y1), some (.int y2), none, some (.int y4), some (.int y5), some (.long y6), none, some (.int y8)] [] P → V g mX12_surest (d + 7) 0 0 n (RT tw dr sk tl ff) I L 231 [some (.ref 73), some (.int y1), some (.int y2), none, some (.int y4), some (.int y5), some (.long y6), none, some (.int y8), some (.int y9)] [] P := by
  intro fu
  induction fu with
  | zero => intro y1 y2 y4 y5 y6 y8 y9 I L res hf; cases (show none = some res from hf)
  | succ fu ih =>
    intro y1 y2 y4 y5 y6 y8 y9 I L res hf K
    refine V_iload (pc := 231) dX12_surest_231 rfl rfl ?_
    refine V_aload_n (pc := 233) dX12_surest_233 rfl rfl rfl ?_
    refine V_getI (pc := 234) dX12_surest_234 flX12_90 rfl (by omega) (congrArg Prod.fst sh_73) rfl ?_
    refine V_aload_n (pc := 237) dX12_surest_237 rfl rfl rfl ?_
    refine V_getI (pc := 238) dX12_surest_238 flX12_93 rfl (by omega) (congrArg Prod.fst sh_73) rfl ?_
    refine V_imul (pc := 241) dX12_surest_241 rfl ?_
    refine V_icmp_ge (pc := 242) (tgt := 265) dX12_surest_242 (by decide) rfl (fun hc => ?_) (fun hc => ?_)
    · replace hf := (if_pos hc).symm.trans hf
      cases hf
      exact V_wk K ⟨rfl, ⟨rfl, ⟨rfl, ⟨rfl, ⟨rfl, ⟨rfl, ⟨rfl, trivial⟩⟩⟩⟩⟩⟩⟩
    · replace hf := (if_neg hc).symm.trans hf
      refine V_aload_n (pc := 245) dX12_surest_245 rfl rfl rfl ?_
      refine V_getR (pc := 246) dX12_surest_246 flX12_117 rfl (by omega) (congrArg Prod.fst sh_73) rt_73_79 rfl ?_
      refine V_iload (pc := 249) dX12_surest_249 rfl rfl ?_
      refine V_aload_n (pc := 251) dX12_surest_251 rfl rfl rfl ?_
      refine V_getR (pc := 252) dX12_surest_252 flX12_120 rfl (by omega) (congrArg Prod.fst sh_73) rt_73_80 rfl ?_
      refine V_iload (pc := 255) dX12_surest_255 rfl rfl ?_
      obtain ⟨hc24, hf⟩ := pif hf
      refine V_lald (pc := 257) dX12_surest_257 (by omega) sh_107 hc24 rfl ?_
      obtain ⟨hc25, hf⟩ := pif hf
      let L26 : HL := up2 L 106 y9.toNatClampNeg (L 107 y9.toNatClampNeg)
      refine V_last (pc := 258) dX12_surest_258 (by omega) sh_106 hc25 rfl ?_
      refine V_iinc (ls' := [some _, some _, some _, none, some _, some _, some _, none, some _, some _]) (pc := 259) dX12_surest_259 rfl (Nat.le_of_ble_eq_true rfl) (congrArg _ ic_1) rfl rfl ?_
      refine V_goto (pc := 262) (tgt := 231) dX12_surest_262 (by decide) ?_
      exact V_wk (ih _ _ _ _ _ _ _ _ _ _ hf K) ⟨rfl, ⟨rfl, ⟨rfl, ⟨rfl, ⟨rfl, ⟨rfl, ⟨rfl, ⟨rfl, trivial⟩⟩⟩⟩⟩⟩⟩⟩
noncomputable def fX12_surest_93 : Nat → Int32 → Int32 → Int32 → Int32 → Int64 → Int32 → HI → HL → Option (Int64 × HI × HL)
  | 0, _, _, _, _, _, _, _, _ => none
  | fu + 1, y1, y2, y4, y5, y6, y8, I, L =>
    if y8 < 0 then
      some (y6, I, L)
    else
      if inb (8 : Int32) 10 = true then
        obn (fX12_setHour ((I 99 (8 : Int32).toNatClampNeg) + y8) I) fun q9 =>
        Option.bind (i2b y5) fun b11 =>
        let I10 : HI := up2 q9 73 69 (b2i b11)
        Option.bind (fX12_layMoves (0 : Int32) I10 L) fun q12 =>
        let I13 : HI := up2 q12.1 73 69 (b2i true)
        Option.bind (fX12_layMoves (1 : Int32) I13 q12.2) fun q14 =>
        Option.bind (fX12_surest_144 FUEL y1 y2 y4 y5 (y6 * (100 : Int64)) y8 (0 : Int32) q14.1 q14.2) fun q23 =>
        Option.bind (fX12_surest_231 FUEL y1 y2 y4 y5 (y6 * (100 : Int64)) y8 (0 : Int32) q14.1 q23) fun q27 =>
        fX12_surest_93 fu y1 y2 y4 y5 (y6 * (100 : Int64)) (y8 + (-1 : Int32)) q14.1 q27
      else none
set_option maxRecDepth 100000 in
set_option maxHeartbeats 4000000 in
theorem lX12_surest_93 {g : GG} {n d : Nat} {tw dr sk tl ff : Nat} (hG : RG tw dr sk tl ff) (hn : 116 ≤ n) {P : PP} : ∀ (fu : Nat) (y1 : Int32) (y2 : Int32) (y4 : Int32) (y5 : Int32) (y6 : Int64) (y8 : Int32) (I : HI) (L : HL) (res : Int64 × HI × HL), fX12_surest_93 fu y1 y2 y4 y5 y6 y8 I L = some res → V g mX12_surest (d + 7) 0 0 n (RT tw dr sk tl ff) res.2.1 res.2.2 271 [some (.ref 73), some (.int y1), none, none, some (.int y4), none, some (.long res.1)] [] P → V g mX12_surest (d + 7) 0 0 n (RT tw dr sk tl ff) I L 93 [some (.ref 73), some (.int y1), some (.int y2), none, some (.int y4), some (.int y5), some (.long y6), none, some (.int y8)] [] P := by
  intro fu
  induction fu with
  | zero => intro y1 y2 y4 y5 y6 y8 I L res hf; cases (show none = some res from hf)
  | succ fu ih =>
    intro y1 y2 y4 y5 y6 y8 I L res hf K
    refine V_iload (pc := 93) dX12_surest_93 rfl rfl ?_
    refine V_if_lt (pc := 95) (tgt := 271) dX12_surest_95 (by decide) rfl (fun hc => ?_) (fun hc => ?_)
    · replace hf := (if_pos hc).symm.trans hf
      cases hf
      exact V_wk K ⟨rfl, ⟨rfl, ⟨rfl, ⟨rfl, trivial⟩⟩⟩⟩
    · replace hf := (if_neg hc).symm.trans hf
      refine V_lload (pc := 98) dX12_surest_98 rfl rfl ?_
      refine V_ldc2 (pc := 100) dX12_surest_100 klX12_562 rfl ?_
      refine V_lmul (pc := 103) dX12_surest_103 rfl ?_
      refine V_lstore (ls' := [some _, some _, some _, none, some _, some _, some _, none, some _]) (pc := 104) dX12_surest_104 (Nat.le_of_ble_eq_true rfl) rfl rfl ?_
      refine V_aload_n (pc := 106) dX12_surest_106 rfl rfl rfl ?_
      refine V_aload_n (pc := 107) dX12_surest_107 rfl rfl rfl ?_
      refine V_getR (pc := 108) dX12_surest_108 flX12_96 rfl (by omega) (congrArg Prod.fst sh_73) rt_73_63 rfl ?_
      refine V_bipush (pc := 111) dX12_surest_111 bp_8 rfl ?_
      obtain ⟨hc8, hf⟩ := pif hf
      refine V_iald (pc := 113) dX12_surest_113 (by omega) sh_99 hc8 rfl ?_
      refine V_iload (pc := 114) dX12_surest_114 rfl rfl ?_
      refine V_iadd (pc := 116) dX12_surest_116 rfl ?_
      obtain ⟨q9, hq9, hf⟩ := obd hf
      refine V_cVv (md' := mX12_setHour) (pc := 117) dX12_surest_117 mlX12_496 mVX12_setHour (tX12_setHour hG hn hq9) rfl (by omega) (congrArg Prod.fst sh_73) rfl (Nat.le_of_ble_eq_true rfl) rfl ?_
      refine V_aload_n (pc := 120) dX12_surest_120 rfl rfl rfl ?_
      refine V_iload (pc := 121) dX12_surest_121 rfl rfl ?_
      obtain ⟨b11, hb11, hf⟩ := bnd hf
      let I10 : HI := up2 q9 73 69 (b2i b11)
      refine V_putZE (pc := 123) dX12_surest_123 flX12_455 rfl rfl (by omega) (congrArg Prod.fst sh_73) (i2b_eq hb11) rfl ?_
      refine V_aload_n (pc := 126) dX12_surest_126 rfl rfl rfl ?_
      refine V_iconst (pc := 127) dX12_surest_127 ic_0 rfl ?_
      obtain ⟨q12, hq12, hf⟩ := bnd hf
      refine V_cVv (md' := mX12_layMoves) (pc := 128) dX12_surest_128 mlX12_499 mVX12_layMoves (tX12_layMoves hG hn hq12) rfl (by omega) (congrArg Prod.fst sh_73) rfl (Nat.le_of_ble_eq_true rfl) rfl ?_
      refine V_aload_n (pc := 131) dX12_surest_131 rfl rfl rfl ?_
      refine V_iconst (pc := 132) dX12_surest_132 ic_1 rfl ?_
      let I13 : HI := up2 q12.1 73 69 (b2i true)
      refine V_putZE (pc := 133) dX12_surest_133 flX12_455 rfl rfl (by omega) (congrArg Prod.fst sh_73) (show (1 : Int32) = b2i true from rfl) rfl ?_
      refine V_aload_n (pc := 136) dX12_surest_136 rfl rfl rfl ?_
      refine V_iconst (pc := 137) dX12_surest_137 ic_1 rfl ?_
      obtain ⟨q14, hq14, hf⟩ := bnd hf
      refine V_cVv (md' := mX12_layMoves) (pc := 138) dX12_surest_138 mlX12_499 mVX12_layMoves (tX12_layMoves hG hn hq14) rfl (by omega) (congrArg Prod.fst sh_73) rfl (Nat.le_of_ble_eq_true rfl) rfl ?_
      refine V_iconst (pc := 141) dX12_surest_141 ic_0 rfl ?_
      refine V_istore (ls' := [some _, some _, some _, none, some _, some _, some _, none, some _, some _]) (pc := 142) dX12_surest_142 (Nat.le_of_ble_eq_true rfl) rfl rfl ?_
      obtain ⟨q23, hq23, hf⟩ := bnd hf
      refine V_wk (lX12_surest_144 hG hn FUEL _ _ _ _ _ _ _ _ _ _ hq23 ?_) ⟨rfl, ⟨rfl, ⟨rfl, ⟨rfl, ⟨rfl, ⟨rfl, ⟨rfl, ⟨rfl, trivial⟩⟩⟩⟩⟩⟩⟩⟩
      refine V_iconst (pc := 228) dX12_surest_228 ic_0 rfl ?_
      refine V_istore (ls' := [some _, some _, some _, none, some _, some _, some _, none, some _, some _]) (pc := 229) dX12_surest_229 (Nat.le_of_ble_eq_true rfl) rfl rfl ?_
      obtain ⟨q27, hq27, hf⟩ := bnd hf
      refine V_wk (lX12_surest_231 hG hn FUEL _ _ _ _ _ _ _ _ _ _ hq27 ?_) ⟨rfl, ⟨rfl, ⟨rfl, ⟨rfl, ⟨rfl, ⟨rfl, ⟨rfl, ⟨rfl, trivial⟩⟩⟩⟩⟩⟩⟩⟩
      refine V_iinc (ls' := [some _, some _, some _, none, some _, some _, some _, none, some _]) (pc := 265) dX12_surest_265 rfl (Nat.le_of_ble_eq_true rfl) (congrArg _ ic_m1) rfl rfl ?_
      refine V_goto (pc := 268) (tgt := 93) dX12_surest_268 (by decide) ?_
      exact V_wk (ih _ _ _ _ _ _ _ _ _ hf K) ⟨rfl, ⟨rfl, ⟨rfl, ⟨rfl, ⟨rfl, ⟨rfl, ⟨rfl, trivial⟩⟩⟩⟩⟩⟩⟩
noncomputable def fX12_surest (v1 : Int32) (v2 : Int32) (v3 : Int32) (v4 : Int32) (I : HI) (L : HL) : Option (Int64 × HI × HL) :=
  Option.bind (
    if (b2i (fX12_isFree v1 I L)) = 0 then
      some true
    else
      if (b2i (fX12_isFree v2 I L)) = 0 then
        some true
      else
        if (b2i (fX12_isIn v3 (1 : Int32) (8 : Int32))) = 0 then
          some true
        else
          if (b2i (fX12_isIn v4 (0 : Int32) (1 : Int32))) = 0 then
            some true
          else
            some false
  ) fun b1 =>
  if b1 = true then
    some ((-1 : Int64), I, L)
  else
    Option.bind (fX12_load (0 : Int32) I) fun q2 =>
    Option.bind (fX12_surest_54 FUEL v1 v2 v3 v4 (q2 73 69) (0 : Int32) q2 L) fun q7 =>
    Option.bind (fX12_surest_93 FUEL v1 v2 v4 (q2 73 69) (1 : Int64) (v3 - (1 : Int32)) q2 q7) fun q28 =>
    if inb v1 64 = true then
      Option.bind (fX12_common q28.1 (q28.2.2 106 v1.toNatClampNeg)) fun q30 =>
      if v4 = 0 then
        if inb v1 64 = true then
          if q30 = 0 then none else
          some (((q28.2.2 106 v1.toNatClampNeg) / q30), q28.2.1, q28.2.2)
        else none
      else
        if q30 = 0 then none else
        some ((q28.1 / q30), q28.2.1, q28.2.2)
    else none
set_option maxRecDepth 100000 in
set_option maxHeartbeats 4000000 in
theorem tX12_surest {g : GG} {n d : Nat} {tw dr sk tl ff : Nat} (hG : RG tw dr sk tl ff) (hn : 116 ≤ n) {v1 : Int32} {v2 : Int32} {v3 : Int32} {v4 : Int32} {I : HI} {L : HL} {res : Int64 × HI × HL} (hf : fX12_surest v1 v2 v3 v4 I L = some res) : CT g mX12_surest (d + 7) 0 0 n (RT tw dr sk tl ff) I L [.ref 73, .int v1, .int v2, .int v3, .int v4] (PoL n (RT tw dr sk tl ff) res.1 res.2.1 res.2.2) := by
  refine CT.of rfl (Nat.le_of_ble_eq_true rfl) ?_
  show V g mX12_surest (d + 7) 0 0 n (RT tw dr sk tl ff) I L 0 [some (.ref 73), some (.int v1), some (.int v2), some (.int v3), some (.int v4)] [] (PoL n (RT tw dr sk tl ff) res.1 res.2.1 res.2.2)
  refine V_aload_n (pc := 0) dX12_surest_0 rfl rfl rfl ?_
  refine V_iload_n (pc := 1) dX12_surest_1 rfl rfl rfl ?_
  refine V_cVz (md' := mX12_isFree) (pc := 2) dX12_surest_2 mlX12_518 mVX12_isFree (tX12_isFree hG hn rfl) rfl (by omega) (congrArg Prod.fst sh_73) rfl (Nat.le_of_ble_eq_true rfl) rfl ?_
  obtain ⟨b1, hb1, hf⟩ := bnd hf
  have KTb1 : b1 = true → V g mX12_surest (d + 7) 0 0 n (RT tw dr sk tl ff) I L 36 [some (.ref 73), some (.int v1), some (.int v2), some (.int v3), some (.int v4)] [] (PoL n (RT tw dr sk tl ff) res.1 res.2.1 res.2.2) := fun hc => by
    replace hf := (if_pos hc).symm.trans hf
    refine V_ldc2 (pc := 36) dX12_surest_36 klX12_458 rfl ?_
    cases hf
    exact V_lret (pc := 39) dX12_surest_39 rfl PoL_mk
  have KFb1 : ¬ b1 = true → V g mX12_surest (d + 7) 0 0 n (RT tw dr sk tl ff) I L 40 [some (.ref 73), some (.int v1), some (.int v2), some (.int v3), some (.int v4)] [] (PoL n (RT tw dr sk tl ff) res.1 res.2.1 res.2.2) := fun hc => by
    replace hf := (if_neg hc).symm.trans hf
    refine V_aload_n (pc := 40) dX12_surest_40 rfl rfl rfl ?_
    refine V_iconst (pc := 41) dX12_surest_41 ic_0 rfl ?_
    obtain ⟨q2, hq2, hf⟩ := bnd hf
    refine V_cVv (md' := mX12_load) (pc := 42) dX12_surest_42 mlX12_505 mVX12_load (tX12_load hG hn hq2) rfl (by omega) (congrArg Prod.fst sh_73) rfl (Nat.le_of_ble_eq_true rfl) rfl ?_
    refine V_aload_n (pc := 45) dX12_surest_45 rfl rfl rfl ?_
    refine V_getI (pc := 46) dX12_surest_46 flX12_455 rfl (by omega) (congrArg Prod.fst sh_73) rfl ?_
    refine V_istore (ls' := [some _, some _, some _, some _, some _, some _]) (pc := 49) dX12_surest_49 (Nat.le_of_ble_eq_true rfl) rfl rfl ?_
    refine V_iconst (pc := 51) dX12_surest_51 ic_0 rfl ?_
    refine V_istore (ls' := [some _, some _, some _, some _, some _, some _, some _]) (pc := 52) dX12_surest_52 (Nat.le_of_ble_eq_true rfl) rfl rfl ?_
    obtain ⟨q7, hq7, hf⟩ := bnd hf
    refine V_wk (lX12_surest_54 hG hn FUEL _ _ _ _ _ _ _ _ _ hq7 ?_) ⟨rfl, ⟨rfl, ⟨rfl, ⟨rfl, ⟨rfl, ⟨rfl, ⟨rfl, trivial⟩⟩⟩⟩⟩⟩⟩
    refine V_lconst (pc := 85) dX12_surest_85 lc_1 rfl ?_
    refine V_lstore (ls' := [some _, some _, some _, some _, some _, some _, some _, none]) (pc := 86) dX12_surest_86 (Nat.le_of_ble_eq_true rfl) rfl rfl ?_
    refine V_iload_n (pc := 88) dX12_surest_88 rfl rfl rfl ?_
    refine V_iconst (pc := 89) dX12_surest_89 ic_1 rfl ?_
    refine V_isub (pc := 90) dX12_surest_90 rfl ?_
    refine V_istore (ls' := [some _, some _, some _, some _, some _, some _, some _, none, some _]) (pc := 91) dX12_surest_91 (Nat.le_of_ble_eq_true rfl) rfl rfl ?_
    obtain ⟨q28, hq28, hf⟩ := bnd hf
    refine V_wk (lX12_surest_93 hG hn FUEL _ _ _ _ _ _ _ _ _ hq28 ?_) ⟨rfl, ⟨rfl, ⟨rfl, ⟨rfl, ⟨rfl, ⟨rfl, ⟨rfl, trivial⟩⟩⟩⟩⟩⟩⟩
    refine V_lload (pc := 271) dX12_surest_271 rfl rfl ?_
    refine V_aload_n (pc := 273) dX12_surest_273 rfl rfl rfl ?_
    refine V_getR (pc := 274) dX12_surest_274 flX12_117 rfl (by omega) (congrArg Prod.fst sh_73) rt_73_79 rfl ?_
    refine V_iload_n (pc := 277) dX12_surest_277 rfl rfl rfl ?_
    obtain ⟨hc29, hf⟩ := pif hf
    refine V_lald (pc := 278) dX12_surest_278 (by omega) sh_106 hc29 rfl ?_
    obtain ⟨q30, hq30, hf⟩ := bnd hf
    refine V_cSl (md' := mX12_common) (pc := 279) dX12_surest_279 mlX12_567 mSX12_common (tX12_common hq30) rfl rfl (Nat.le_of_ble_eq_true rfl) rfl ?_
    refine V_lstore (ls' := [some _, some _, none, none, some _, none, some _, none, some _, none]) (pc := 282) dX12_surest_282 (Nat.le_of_ble_eq_true rfl) rfl rfl ?_
    refine V_iload (pc := 284) dX12_surest_284 rfl rfl ?_
    refine V_if_ne (pc := 286) (tgt := 301) dX12_surest_286 (by decide) rfl (fun hc => ?_) (fun hc => ?_)
    · replace hf := (if_neg hc).symm.trans hf
      refine V_lload (pc := 301) dX12_surest_301 rfl rfl ?_
      refine V_lload (pc := 303) dX12_surest_303 rfl rfl ?_
      obtain ⟨hc31, hf⟩ := nif hf
      refine V_ldiv (pc := 305) dX12_surest_305 hc31 rfl ?_
      cases hf
      exact V_lret (pc := 306) dX12_surest_306 rfl PoL_mk
    · replace hf := (if_pos hc).symm.trans hf
      refine V_aload_n (pc := 289) dX12_surest_289 rfl rfl rfl ?_
      refine V_getR (pc := 290) dX12_surest_290 flX12_117 rfl (by omega) (congrArg Prod.fst sh_73) rt_73_79 rfl ?_
      refine V_iload_n (pc := 293) dX12_surest_293 rfl rfl rfl ?_
      obtain ⟨hc32, hf⟩ := pif hf
      refine V_lald (pc := 294) dX12_surest_294 (by omega) sh_106 hc32 rfl ?_
      refine V_lload (pc := 295) dX12_surest_295 rfl rfl ?_
      obtain ⟨hc33, hf⟩ := nif hf
      refine V_ldiv (pc := 297) dX12_surest_297 hc33 rfl ?_
      refine V_goto (pc := 298) (tgt := 306) dX12_surest_298 (by decide) ?_
      cases hf
      exact V_lret (pc := 306) dX12_surest_306 rfl PoL_mk
  refine V_if_eq (pc := 5) (tgt := 36) dX12_surest_5 (by decide) rfl (fun hc => ?_) (fun hc => ?_)
  · replace hb1 := (if_pos hc).symm.trans hb1
    cases hb1
    exact KTb1 rfl
  · replace hb1 := (if_neg hc).symm.trans hb1
    refine V_aload_n (pc := 8) dX12_surest_8 rfl rfl rfl ?_
    refine V_iload_n (pc := 9) dX12_surest_9 rfl rfl rfl ?_
    refine V_cVz (md' := mX12_isFree) (pc := 10) dX12_surest_10 mlX12_518 mVX12_isFree (tX12_isFree hG hn rfl) rfl (by omega) (congrArg Prod.fst sh_73) rfl (Nat.le_of_ble_eq_true rfl) rfl ?_
    refine V_if_eq (pc := 13) (tgt := 36) dX12_surest_13 (by decide) rfl (fun hc => ?_) (fun hc => ?_)
    · replace hb1 := (if_pos hc).symm.trans hb1
      cases hb1
      exact KTb1 rfl
    · replace hb1 := (if_neg hc).symm.trans hb1
      refine V_iload_n (pc := 16) dX12_surest_16 rfl rfl rfl ?_
      refine V_iconst (pc := 17) dX12_surest_17 ic_1 rfl ?_
      refine V_bipush (pc := 18) dX12_surest_18 bp_8 rfl ?_
      refine V_cSz (md' := mX12_isIn) (pc := 20) dX12_surest_20 mlX12_436 mSX12_isIn (tX12_isIn rfl) rfl rfl (Nat.le_of_ble_eq_true rfl) rfl ?_
      refine V_if_eq (pc := 23) (tgt := 36) dX12_surest_23 (by decide) rfl (fun hc => ?_) (fun hc => ?_)
      · replace hb1 := (if_pos hc).symm.trans hb1
        cases hb1
        exact KTb1 rfl
      · replace hb1 := (if_neg hc).symm.trans hb1
        refine V_iload (pc := 26) dX12_surest_26 rfl rfl ?_
        refine V_iconst (pc := 28) dX12_surest_28 ic_0 rfl ?_
        refine V_iconst (pc := 29) dX12_surest_29 ic_1 rfl ?_
        refine V_cSz (md' := mX12_isIn) (pc := 30) dX12_surest_30 mlX12_436 mSX12_isIn (tX12_isIn rfl) rfl rfl (Nat.le_of_ble_eq_true rfl) rfl ?_
        refine V_if_ne (pc := 33) (tgt := 40) dX12_surest_33 (by decide) rfl (fun hc => ?_) (fun hc => ?_)
        · replace hb1 := (if_neg hc).symm.trans hb1
          cases hb1
          exact KFb1 (nbt rfl)
        · replace hb1 := (if_pos hc).symm.trans hb1
          cases hb1
          exact KTb1 rfl
/-! ShadowDoorsModel.dates -/
noncomputable def fX12_dates_34 : Nat → Int32 → Int32 → Int32 → Int32 → Int32 → Int32 → Int32 → Int32 → HI → HL → Option (Int32 × Int32 × Int32 × HI × HL)
  | 0, _, _, _, _, _, _, _, _, _, _ => none
  | fu + 1, y1, y2, y3, y4, y5, y6, y7, y8, I, L =>
    if (100 : Int32) ≤ y8 then
      some (y5, y6, y7, I, L)
    else
      Option.bind (fX12_load (0 : Int32) I) fun q2 =>
      if inb (8 : Int32) 10 = true then
        Option.bind (fX12_comes y1 y2 (((24 : Int32) * y8) + ((q2 99 (8 : Int32).toNatClampNeg) - (q2 99 (8 : Int32).toNatClampNeg) / (24 : Int32) * (24 : Int32))) y3 q2 L) fun q4 =>
        if (b2i q4.1) = 0 then
          fX12_dates_34 fu y1 y2 y3 y4 y5 y6 y7 (y8 + (1 : Int32)) q4.2.1 q4.2.2
        else
          if 0 ≤ y6 then
            fX12_dates_34 fu y1 y2 y3 y4 (y5 + (1 : Int32)) y6 y8 (y8 + (1 : Int32)) q4.2.1 q4.2.2
          else
            fX12_dates_34 fu y1 y2 y3 y4 (y5 + (1 : Int32)) y8 y8 (y8 + (1 : Int32)) q4.2.1 q4.2.2
      else none
set_option maxRecDepth 100000 in
set_option maxHeartbeats 4000000 in
theorem lX12_dates_34 {g : GG} {n d : Nat} {tw dr sk tl ff : Nat} (hG : RG tw dr sk tl ff) (hn : 116 ≤ n) {P : PP} : ∀ (fu : Nat) (y1 : Int32) (y2 : Int32) (y3 : Int32) (y4 : Int32) (y5 : Int32) (y6 : Int32) (y7 : Int32) (y8 : Int32) (I : HI) (L : HL) (res : Int32 × Int32 × Int32 × HI × HL), fX12_dates_34 fu y1 y2 y3 y4 y5 y6 y7 y8 I L = some res → V g mX12_dates (d + 9) 0 0 n (RT tw dr sk tl ff) res.2.2.2.1 res.2.2.2.2 102 [none, none, none, none, some (.int y4), some (.int res.1), some (.int res.2.1), some (.int res.2.2.1)] [] P → V g mX12_dates (d + 9) 0 0 n (RT tw dr sk tl ff) I L 34 [some (.ref 73), some (.int y1), some (.int y2), some (.int y3), some (.int y4), some (.int y5), some (.int y6), some (.int y7), some (.int y8)] [] P := by
  intro fu
  induction fu with
  | zero => intro y1 y2 y3 y4 y5 y6 y7 y8 I L res hf; cases (show none = some res from hf)
  | succ fu ih =>
    intro y1 y2 y3 y4 y5 y6 y7 y8 I L res hf K
    refine V_iload (pc := 34) dX12_dates_34 rfl rfl ?_
    refine V_bipush (pc := 36) dX12_dates_36 bp_100 rfl ?_
    refine V_icmp_ge (pc := 38) (tgt := 102) dX12_dates_38 (by decide) rfl (fun hc => ?_) (fun hc => ?_)
    · replace hf := (if_pos hc).symm.trans hf
      cases hf
      exact V_wk K ⟨rfl, ⟨rfl, ⟨rfl, ⟨rfl, trivial⟩⟩⟩⟩
    · replace hf := (if_neg hc).symm.trans hf
      refine V_aload_n (pc := 41) dX12_dates_41 rfl rfl rfl ?_
      refine V_iconst (pc := 42) dX12_dates_42 ic_0 rfl ?_
      obtain ⟨q2, hq2, hf⟩ := bnd hf
      refine V_cVv (md' := mX12_load) (pc := 43) dX12_dates_43 mlX12_505 mVX12_load (tX12_load hG hn hq2) rfl (by omega) (congrArg Prod.fst sh_73) rfl (Nat.le_of_ble_eq_true rfl) rfl ?_
      refine V_aload_n (pc := 46) dX12_dates_46 rfl rfl rfl ?_
      refine V_iload_n (pc := 47) dX12_dates_47 rfl rfl rfl ?_
      refine V_iload_n (pc := 48) dX12_dates_48 rfl rfl rfl ?_
      refine V_bipush (pc := 49) dX12_dates_49 bp_24 rfl ?_
      refine V_iload (pc := 51) dX12_dates_51 rfl rfl ?_
      refine V_imul (pc := 53) dX12_dates_53 rfl ?_
      refine V_aload_n (pc := 54) dX12_dates_54 rfl rfl rfl ?_
      refine V_getR (pc := 55) dX12_dates_55 flX12_96 rfl (by omega) (congrArg Prod.fst sh_73) rt_73_63 rfl ?_
      refine V_bipush (pc := 58) dX12_dates_58 bp_8 rfl ?_
      obtain ⟨hc3, hf⟩ := pif hf
      refine V_iald (pc := 60) dX12_dates_60 (by omega) sh_99 hc3 rfl ?_
      refine V_bipush (pc := 61) dX12_dates_61 bp_24 rfl ?_
      refine V_irem (pc := 63) dX12_dates_63 (by decide) rfl ?_
      refine V_iadd (pc := 64) dX12_dates_64 rfl ?_
      refine V_iload_n (pc := 65) dX12_dates_65 rfl rfl rfl ?_
      obtain ⟨q4, hq4, hf⟩ := bnd hf
      refine V_cVz (md' := mX12_comes) (pc := 66) dX12_dates_66 mlX12_549 mVX12_comes (tX12_comes hG hn hq4) rfl (by omega) (congrArg Prod.fst sh_73) rfl (Nat.le_of_ble_eq_true rfl) rfl ?_
      refine V_if_ne (pc := 69) (tgt := 75) dX12_dates_69 (by decide) rfl (fun hc => ?_) (fun hc => ?_)
      · replace hf := (if_neg hc).symm.trans hf
        refine V_iinc (ls' := [some _, some _, some _, some _, some _, some _, some _, some _, some _]) (pc := 75) dX12_dates_75 rfl (Nat.le_of_ble_eq_true rfl) (congrArg _ ic_1) rfl rfl ?_
        refine V_iload (pc := 78) dX12_dates_78 rfl rfl ?_
        refine V_if_ge (pc := 80) (tgt := 88) dX12_dates_80 (by decide) rfl (fun hc => ?_) (fun hc => ?_)
        · replace hf := (if_pos hc).symm.trans hf
          refine V_iload (pc := 88) dX12_dates_88 rfl rfl ?_
          refine V_istore (ls' := [some _, some _, some _, some _, some _, some _, some _, some _, some _]) (pc := 90) dX12_dates_90 (Nat.le_of_ble_eq_true rfl) rfl rfl ?_
          refine V_iload (pc := 92) dX12_dates_92 rfl rfl ?_
          refine V_istore (ls' := [some _, some _, some _, some _, some _, some _, some _, some _, some _]) (pc := 94) dX12_dates_94 (Nat.le_of_ble_eq_true rfl) rfl rfl ?_
          refine V_iinc (ls' := [some _, some _, some _, some _, some _, some _, some _, some _, some _]) (pc := 96) dX12_dates_96 rfl (Nat.le_of_ble_eq_true rfl) (congrArg _ ic_1) rfl rfl ?_
          refine V_goto (pc := 99) (tgt := 34) dX12_dates_99 (by decide) ?_
          exact V_wk (ih _ _ _ _ _ _ _ _ _ _ _ hf K) ⟨rfl, ⟨rfl, ⟨rfl, ⟨rfl, ⟨rfl, ⟨rfl, ⟨rfl, ⟨rfl, ⟨rfl, trivial⟩⟩⟩⟩⟩⟩⟩⟩⟩
        · replace hf := (if_neg hc).symm.trans hf
          refine V_iload (pc := 83) dX12_dates_83 rfl rfl ?_
          refine V_goto (pc := 85) (tgt := 90) dX12_dates_85 (by decide) ?_
          refine V_istore (ls' := [some _, some _, some _, some _, some _, some _, some _, some _, some _]) (pc := 90) dX12_dates_90 (Nat.le_of_ble_eq_true rfl) rfl rfl ?_
          refine V_iload (pc := 92) dX12_dates_92 rfl rfl ?_
          refine V_istore (ls' := [some _, some _, some _, some _, some _, some _, some _, some _, some _]) (pc := 94) dX12_dates_94 (Nat.le_of_ble_eq_true rfl) rfl rfl ?_
          refine V_iinc (ls' := [some _, some _, some _, some _, some _, some _, some _, some _, some _]) (pc := 96) dX12_dates_96 rfl (Nat.le_of_ble_eq_true rfl) (congrArg _ ic_1) rfl rfl ?_
          refine V_goto (pc := 99) (tgt := 34) dX12_dates_99 (by decide) ?_
          exact V_wk (ih _ _ _ _ _ _ _ _ _ _ _ hf K) ⟨rfl, ⟨rfl, ⟨rfl, ⟨rfl, ⟨rfl, ⟨rfl, ⟨rfl, ⟨rfl, ⟨rfl, trivial⟩⟩⟩⟩⟩⟩⟩⟩⟩
      · replace hf := (if_pos hc).symm.trans hf
        refine V_goto (pc := 72) (tgt := 96) dX12_dates_72 (by decide) ?_
        refine V_iinc (ls' := [some _, some _, some _, some _, some _, some _, some _, some _, some _]) (pc := 96) dX12_dates_96 rfl (Nat.le_of_ble_eq_true rfl) (congrArg _ ic_1) rfl rfl ?_
        refine V_goto (pc := 99) (tgt := 34) dX12_dates_99 (by decide) ?_
        exact V_wk (ih _ _ _ _ _ _ _ _ _ _ _ hf K) ⟨rfl, ⟨rfl, ⟨rfl, ⟨rfl, ⟨rfl, ⟨rfl, ⟨rfl, ⟨rfl, ⟨rfl, trivial⟩⟩⟩⟩⟩⟩⟩⟩⟩
noncomputable def fX12_dates (v1 : Int32) (v2 : Int32) (v3 : Int32) (v4 : Int32) (I : HI) (L : HL) : Option (Int32 × HI × HL) :=
  Option.bind (
    if (b2i (fX12_isAsked v1 v2 v3 I L)) = 0 then
      some true
    else
      if (b2i (fX12_isIn v4 (0 : Int32) (2 : Int32))) = 0 then
        some true
      else
        some false
  ) fun b1 =>
  if b1 = true then
    some ((-1 : Int32), I, L)
  else
    Option.bind (fX12_dates_34 FUEL v1 v2 v3 v4 (0 : Int32) (-1 : Int32) (-1 : Int32) (0 : Int32) I L) fun q5 =>
    if v4 = 0 then
      some (q5.1, q5.2.2.2.1, q5.2.2.2.2)
    else
      if v4 = (1 : Int32) then
        some (q5.2.1, q5.2.2.2.1, q5.2.2.2.2)
      else
        some (q5.2.2.1, q5.2.2.2.1, q5.2.2.2.2)
set_option maxRecDepth 100000 in
set_option maxHeartbeats 4000000 in
theorem tX12_dates {g : GG} {n d : Nat} {tw dr sk tl ff : Nat} (hG : RG tw dr sk tl ff) (hn : 116 ≤ n) {v1 : Int32} {v2 : Int32} {v3 : Int32} {v4 : Int32} {I : HI} {L : HL} {res : Int32 × HI × HL} (hf : fX12_dates v1 v2 v3 v4 I L = some res) : CT g mX12_dates (d + 9) 0 0 n (RT tw dr sk tl ff) I L [.ref 73, .int v1, .int v2, .int v3, .int v4] (PoI n (RT tw dr sk tl ff) res.1 res.2.1 res.2.2) := by
  refine CT.of rfl (Nat.le_of_ble_eq_true rfl) ?_
  show V g mX12_dates (d + 9) 0 0 n (RT tw dr sk tl ff) I L 0 [some (.ref 73), some (.int v1), some (.int v2), some (.int v3), some (.int v4)] [] (PoI n (RT tw dr sk tl ff) res.1 res.2.1 res.2.2)
  refine V_aload_n (pc := 0) dX12_dates_0 rfl rfl rfl ?_
  refine V_iload_n (pc := 1) dX12_dates_1 rfl rfl rfl ?_
  refine V_iload_n (pc := 2) dX12_dates_2 rfl rfl rfl ?_
  refine V_iload_n (pc := 3) dX12_dates_3 rfl rfl rfl ?_
  refine V_cVz (md' := mX12_isAsked) (pc := 4) dX12_dates_4 mlX12_553 mVX12_isAsked (tX12_isAsked hG hn rfl) rfl (by omega) (congrArg Prod.fst sh_73) rfl (Nat.le_of_ble_eq_true rfl) rfl ?_
  obtain ⟨b1, hb1, hf⟩ := bnd hf
  have KTb1 : b1 = true → V g mX12_dates (d + 9) 0 0 n (RT tw dr sk tl ff) I L 20 [some (.ref 73), some (.int v1), some (.int v2), some (.int v3), some (.int v4)] [] (PoI n (RT tw dr sk tl ff) res.1 res.2.1 res.2.2) := fun hc => by
    replace hf := (if_pos hc).symm.trans hf
    refine V_iconst (pc := 20) dX12_dates_20 ic_m1 rfl ?_
    cases hf
    exact V_iret (pc := 21) dX12_dates_21 rfl PoI_mk
  have KFb1 : ¬ b1 = true → V g mX12_dates (d + 9) 0 0 n (RT tw dr sk tl ff) I L 22 [some (.ref 73), some (.int v1), some (.int v2), some (.int v3), some (.int v4)] [] (PoI n (RT tw dr sk tl ff) res.1 res.2.1 res.2.2) := fun hc => by
    replace hf := (if_neg hc).symm.trans hf
    refine V_iconst (pc := 22) dX12_dates_22 ic_0 rfl ?_
    refine V_istore (ls' := [some _, some _, some _, some _, some _, some _]) (pc := 23) dX12_dates_23 (Nat.le_of_ble_eq_true rfl) rfl rfl ?_
    refine V_iconst (pc := 25) dX12_dates_25 ic_m1 rfl ?_
    refine V_istore (ls' := [some _, some _, some _, some _, some _, some _, some _]) (pc := 26) dX12_dates_26 (Nat.le_of_ble_eq_true rfl) rfl rfl ?_
    refine V_iconst (pc := 28) dX12_dates_28 ic_m1 rfl ?_
    refine V_istore (ls' := [some _, some _, some _, some _, some _, some _, some _, some _]) (pc := 29) dX12_dates_29 (Nat.le_of_ble_eq_true rfl) rfl rfl ?_
    refine V_iconst (pc := 31) dX12_dates_31 ic_0 rfl ?_
    refine V_istore (ls' := [some _, some _, some _, some _, some _, some _, some _, some _, some _]) (pc := 32) dX12_dates_32 (Nat.le_of_ble_eq_true rfl) rfl rfl ?_
    obtain ⟨q5, hq5, hf⟩ := bnd hf
    refine V_wk (lX12_dates_34 hG hn FUEL _ _ _ _ _ _ _ _ _ _ _ hq5 ?_) ⟨rfl, ⟨rfl, ⟨rfl, ⟨rfl, ⟨rfl, ⟨rfl, ⟨rfl, ⟨rfl, ⟨rfl, trivial⟩⟩⟩⟩⟩⟩⟩⟩⟩
    refine V_iload (pc := 102) dX12_dates_102 rfl rfl ?_
    refine V_if_ne (pc := 104) (tgt := 112) dX12_dates_104 (by decide) rfl (fun hc => ?_) (fun hc => ?_)
    · replace hf := (if_neg hc).symm.trans hf
      refine V_iload (pc := 112) dX12_dates_112 rfl rfl ?_
      refine V_iconst (pc := 114) dX12_dates_114 ic_1 rfl ?_
      refine V_icmp_ne (pc := 115) (tgt := 123) dX12_dates_115 (by decide) rfl (fun hc => ?_) (fun hc => ?_)
      · replace hf := (if_neg hc).symm.trans hf
        refine V_iload (pc := 123) dX12_dates_123 rfl rfl ?_
        cases hf
        exact V_iret (pc := 125) dX12_dates_125 rfl PoI_mk
      · replace hf := (if_pos hc).symm.trans hf
        refine V_iload (pc := 118) dX12_dates_118 rfl rfl ?_
        refine V_goto (pc := 120) (tgt := 125) dX12_dates_120 (by decide) ?_
        cases hf
        exact V_iret (pc := 125) dX12_dates_125 rfl PoI_mk
    · replace hf := (if_pos hc).symm.trans hf
      refine V_iload (pc := 107) dX12_dates_107 rfl rfl ?_
      refine V_goto (pc := 109) (tgt := 125) dX12_dates_109 (by decide) ?_
      cases hf
      exact V_iret (pc := 125) dX12_dates_125 rfl PoI_mk
  refine V_if_eq (pc := 7) (tgt := 20) dX12_dates_7 (by decide) rfl (fun hc => ?_) (fun hc => ?_)
  · replace hb1 := (if_pos hc).symm.trans hb1
    cases hb1
    exact KTb1 rfl
  · replace hb1 := (if_neg hc).symm.trans hb1
    refine V_iload (pc := 10) dX12_dates_10 rfl rfl ?_
    refine V_iconst (pc := 12) dX12_dates_12 ic_0 rfl ?_
    refine V_iconst (pc := 13) dX12_dates_13 ic_2 rfl ?_
    refine V_cSz (md' := mX12_isIn) (pc := 14) dX12_dates_14 mlX12_436 mSX12_isIn (tX12_isIn rfl) rfl rfl (Nat.le_of_ble_eq_true rfl) rfl ?_
    refine V_if_ne (pc := 17) (tgt := 22) dX12_dates_17 (by decide) rfl (fun hc => ?_) (fun hc => ?_)
    · replace hb1 := (if_neg hc).symm.trans hb1
      cases hb1
      exact KFb1 (nbt rfl)
    · replace hb1 := (if_pos hc).symm.trans hb1
      cases hb1
      exact KTb1 rfl
/-! ShadowDoorsModel.lies -/
noncomputable def fX12_lies (v1 : Int32) (I : HI) : Option (Int32) :=
  if (b2i (fX12_isIn v1 (0 : Int32) ((I 73 76) - (1 : Int32)))) = 0 then
    some (-1 : Int32)
  else
    if inb v1 48 = true then
      some (I 103 v1.toNatClampNeg)
    else none
set_option maxRecDepth 100000 in
set_option maxHeartbeats 4000000 in
theorem tX12_lies {g : GG} {n d : Nat} {tw dr sk tl ff : Nat} (hG : RG tw dr sk tl ff) (hn : 116 ≤ n) {v1 : Int32} {I : HI} {L : HL} {res : Int32} (hf : fX12_lies v1 I = some res) : CT g mX12_lies (d + 2) 0 0 n (RT tw dr sk tl ff) I L [.ref 73, .int v1] (PoI n (RT tw dr sk tl ff) res I L) := by
  refine CT.of rfl (Nat.le_of_ble_eq_true rfl) ?_
  show V g mX12_lies (d + 2) 0 0 n (RT tw dr sk tl ff) I L 0 [some (.ref 73), some (.int v1)] [] (PoI n (RT tw dr sk tl ff) res I L)
  refine V_iload_n (pc := 0) dX12_lies_0 rfl rfl rfl ?_
  refine V_iconst (pc := 1) dX12_lies_1 ic_0 rfl ?_
  refine V_aload_n (pc := 2) dX12_lies_2 rfl rfl rfl ?_
  refine V_getI (pc := 3) dX12_lies_3 flX12_433 rfl (by omega) (congrArg Prod.fst sh_73) rfl ?_
  refine V_iconst (pc := 6) dX12_lies_6 ic_1 rfl ?_
  refine V_isub (pc := 7) dX12_lies_7 rfl ?_
  refine V_cSz (md' := mX12_isIn) (pc := 8) dX12_lies_8 mlX12_436 mSX12_isIn (tX12_isIn rfl) rfl rfl (Nat.le_of_ble_eq_true rfl) rfl ?_
  refine V_if_eq (pc := 11) (tgt := 23) dX12_lies_11 (by decide) rfl (fun hc => ?_) (fun hc => ?_)
  · replace hf := (if_pos hc).symm.trans hf
    refine V_iconst (pc := 23) dX12_lies_23 ic_m1 rfl ?_
    cases hf
    exact V_iret (pc := 24) dX12_lies_24 rfl PoI_mk
  · replace hf := (if_neg hc).symm.trans hf
    refine V_aload_n (pc := 14) dX12_lies_14 rfl rfl rfl ?_
    refine V_getR (pc := 15) dX12_lies_15 flX12_108 rfl (by omega) (congrArg Prod.fst sh_73) rt_73_75 rfl ?_
    refine V_iload_n (pc := 18) dX12_lies_18 rfl rfl rfl ?_
    obtain ⟨hc1, hf⟩ := pif hf
    refine V_iald (pc := 19) dX12_lies_19 (by omega) sh_103 hc1 rfl ?_
    refine V_goto (pc := 20) (tgt := 24) dX12_lies_20 (by decide) ?_
    cases hf
    exact V_iret (pc := 24) dX12_lies_24 rfl PoI_mk
/-! ShadowDoorsModel.look -/
noncomputable def fX12_look (v1 : Int32) (v2 : Int32) (v3 : Int32) (I : HI) (L : HL) : Option (Int32 × HI) :=
  Option.bind (
    if (b2i (fX12_isIn v1 (0 : Int32) (23 : Int32))) = 0 then
      some true
    else
      if (b2i (fX12_isFree v2 I L)) = 0 then
        some true
      else
        if (I 73 86) = (30 : Int32) then
          some true
        else
          some false
  ) fun b1 =>
  if b1 = true then
    some ((-1 : Int32), I)
  else
    if inb (I 73 86) 30 = true then
      let I3 : HI := up2 I 108 (I 73 86).toNatClampNeg v1
      if inb (I3 73 86) 30 = true then
        let I5 : HI := up2 I3 109 (I3 73 86).toNatClampNeg v2
        if inb (I5 73 86) 30 = true then
          Option.bind (i2b v3) fun b8 =>
          let I7 : HI := up2 I5 112 (I5 73 86).toNatClampNeg (b2i b8)
          if inb (I7 73 86) 30 = true then
            let I10 : HI := up2 I7 110 (I7 73 86).toNatClampNeg (I7 73 87)
            if inb (I10 73 86) 30 = true then
              let I12 : HI := up2 I10 111 (I10 73 86).toNatClampNeg (-1 : Int32)
              let I13 : HI := up2 I12 73 86 ((I12 73 86) + (1 : Int32))
              some (((I13 73 86) - (1 : Int32)), I13)
            else none
          else none
        else none
      else none
    else none
set_option maxRecDepth 100000 in
set_option maxHeartbeats 4000000 in
theorem tX12_look {g : GG} {n d : Nat} {tw dr sk tl ff : Nat} (hG : RG tw dr sk tl ff) (hn : 116 ≤ n) {v1 : Int32} {v2 : Int32} {v3 : Int32} {I : HI} {L : HL} {res : Int32 × HI} (hf : fX12_look v1 v2 v3 I L = some res) : CT g mX12_look (d + 3) 0 0 n (RT tw dr sk tl ff) I L [.ref 73, .int v1, .int v2, .int v3] (PoI n (RT tw dr sk tl ff) res.1 res.2 L) := by
  refine CT.of rfl (Nat.le_of_ble_eq_true rfl) ?_
  show V g mX12_look (d + 3) 0 0 n (RT tw dr sk tl ff) I L 0 [some (.ref 73), some (.int v1), some (.int v2), some (.int v3)] [] (PoI n (RT tw dr sk tl ff) res.1 res.2 L)
  refine V_iload_n (pc := 0) dX12_look_0 rfl rfl rfl ?_
  refine V_iconst (pc := 1) dX12_look_1 ic_0 rfl ?_
  refine V_bipush (pc := 2) dX12_look_2 bp_23 rfl ?_
  refine V_cSz (md' := mX12_isIn) (pc := 4) dX12_look_4 mlX12_436 mSX12_isIn (tX12_isIn rfl) rfl rfl (Nat.le_of_ble_eq_true rfl) rfl ?_
  obtain ⟨b1, hb1, hf⟩ := bnd hf
  have KTb1 : b1 = true → V g mX12_look (d + 3) 0 0 n (RT tw dr sk tl ff) I L 27 [some (.ref 73), some (.int v1), some (.int v2), some (.int v3)] [] (PoI n (RT tw dr sk tl ff) res.1 res.2 L) := fun hc => by
    replace hf := (if_pos hc).symm.trans hf
    refine V_iconst (pc := 27) dX12_look_27 ic_m1 rfl ?_
    cases hf
    exact V_iret (pc := 28) dX12_look_28 rfl PoI_mk
  have KFb1 : ¬ b1 = true → V g mX12_look (d + 3) 0 0 n (RT tw dr sk tl ff) I L 29 [some (.ref 73), some (.int v1), some (.int v2), some (.int v3)] [] (PoI n (RT tw dr sk tl ff) res.1 res.2 L) := fun hc => by
    replace hf := (if_neg hc).symm.trans hf
    refine V_aload_n (pc := 29) dX12_look_29 rfl rfl rfl ?_
    refine V_getR (pc := 30) dX12_look_30 flX12_123 rfl (by omega) (congrArg Prod.fst sh_73) rt_73_81 rfl ?_
    refine V_aload_n (pc := 33) dX12_look_33 rfl rfl rfl ?_
    refine V_getI (pc := 34) dX12_look_34 flX12_430 rfl (by omega) (congrArg Prod.fst sh_73) rfl ?_
    refine V_iload_n (pc := 37) dX12_look_37 rfl rfl rfl ?_
    obtain ⟨hc2, hf⟩ := pif hf
    let I3 : HI := up2 I 108 (I 73 86).toNatClampNeg v1
    refine V_iast (pc := 38) dX12_look_38 (by omega) sh_108 hc2 rfl ?_
    refine V_aload_n (pc := 39) dX12_look_39 rfl rfl rfl ?_
    refine V_getR (pc := 40) dX12_look_40 flX12_126 rfl (by omega) (congrArg Prod.fst sh_73) rt_73_82 rfl ?_
    refine V_aload_n (pc := 43) dX12_look_43 rfl rfl rfl ?_
    refine V_getI (pc := 44) dX12_look_44 flX12_430 rfl (by omega) (congrArg Prod.fst sh_73) rfl ?_
    refine V_iload_n (pc := 47) dX12_look_47 rfl rfl rfl ?_
    obtain ⟨hc4, hf⟩ := pif hf
    let I5 : HI := up2 I3 109 (I3 73 86).toNatClampNeg v2
    refine V_iast (pc := 48) dX12_look_48 (by omega) sh_109 hc4 rfl ?_
    refine V_aload_n (pc := 49) dX12_look_49 rfl rfl rfl ?_
    refine V_getR (pc := 50) dX12_look_50 flX12_135 rfl (by omega) (congrArg Prod.fst sh_73) rt_73_85 rfl ?_
    refine V_aload_n (pc := 53) dX12_look_53 rfl rfl rfl ?_
    refine V_getI (pc := 54) dX12_look_54 flX12_430 rfl (by omega) (congrArg Prod.fst sh_73) rfl ?_
    refine V_iload_n (pc := 57) dX12_look_57 rfl rfl rfl ?_
    obtain ⟨hc6, hf⟩ := pif hf
    obtain ⟨b8, hb8, hf⟩ := bnd hf
    let I7 : HI := up2 I5 112 (I5 73 86).toNatClampNeg (b2i b8)
    refine V_zastE (pc := 58) dX12_look_58 (by omega) sh_112 hc6 (i2b_eq hb8) rfl ?_
    refine V_aload_n (pc := 59) dX12_look_59 rfl rfl rfl ?_
    refine V_getR (pc := 60) dX12_look_60 flX12_129 rfl (by omega) (congrArg Prod.fst sh_73) rt_73_83 rfl ?_
    refine V_aload_n (pc := 63) dX12_look_63 rfl rfl rfl ?_
    refine V_getI (pc := 64) dX12_look_64 flX12_430 rfl (by omega) (congrArg Prod.fst sh_73) rfl ?_
    refine V_aload_n (pc := 67) dX12_look_67 rfl rfl rfl ?_
    refine V_getI (pc := 68) dX12_look_68 flX12_571 rfl (by omega) (congrArg Prod.fst sh_73) rfl ?_
    obtain ⟨hc9, hf⟩ := pif hf
    let I10 : HI := up2 I7 110 (I7 73 86).toNatClampNeg (I7 73 87)
    refine V_iast (pc := 71) dX12_look_71 (by omega) sh_110 hc9 rfl ?_
    refine V_aload_n (pc := 72) dX12_look_72 rfl rfl rfl ?_
    refine V_getR (pc := 73) dX12_look_73 flX12_132 rfl (by omega) (congrArg Prod.fst sh_73) rt_73_84 rfl ?_
    refine V_aload_n (pc := 76) dX12_look_76 rfl rfl rfl ?_
    refine V_getI (pc := 77) dX12_look_77 flX12_430 rfl (by omega) (congrArg Prod.fst sh_73) rfl ?_
    refine V_iconst (pc := 80) dX12_look_80 ic_m1 rfl ?_
    obtain ⟨hc11, hf⟩ := pif hf
    let I12 : HI := up2 I10 111 (I10 73 86).toNatClampNeg (-1 : Int32)
    refine V_iast (pc := 81) dX12_look_81 (by omega) sh_111 hc11 rfl ?_
    refine V_aload_n (pc := 82) dX12_look_82 rfl rfl rfl ?_
    refine V_dup (pc := 83) dX12_look_83 rfl rfl ?_
    refine V_getI (pc := 84) dX12_look_84 flX12_430 rfl (by omega) (congrArg Prod.fst sh_73) rfl ?_
    refine V_iconst (pc := 87) dX12_look_87 ic_1 rfl ?_
    refine V_iadd (pc := 88) dX12_look_88 rfl ?_
    let I13 : HI := up2 I12 73 86 ((I12 73 86) + (1 : Int32))
    refine V_putI (pc := 89) dX12_look_89 flX12_430 rfl rfl (by omega) (congrArg Prod.fst sh_73) rfl ?_
    refine V_aload_n (pc := 92) dX12_look_92 rfl rfl rfl ?_
    refine V_getI (pc := 93) dX12_look_93 flX12_430 rfl (by omega) (congrArg Prod.fst sh_73) rfl ?_
    refine V_iconst (pc := 96) dX12_look_96 ic_1 rfl ?_
    refine V_isub (pc := 97) dX12_look_97 rfl ?_
    cases hf
    exact V_iret (pc := 98) dX12_look_98 rfl PoI_mk
  refine V_if_eq (pc := 7) (tgt := 27) dX12_look_7 (by decide) rfl (fun hc => ?_) (fun hc => ?_)
  · replace hb1 := (if_pos hc).symm.trans hb1
    cases hb1
    exact KTb1 rfl
  · replace hb1 := (if_neg hc).symm.trans hb1
    refine V_aload_n (pc := 10) dX12_look_10 rfl rfl rfl ?_
    refine V_iload_n (pc := 11) dX12_look_11 rfl rfl rfl ?_
    refine V_cVz (md' := mX12_isFree) (pc := 12) dX12_look_12 mlX12_518 mVX12_isFree (tX12_isFree hG hn rfl) rfl (by omega) (congrArg Prod.fst sh_73) rfl (Nat.le_of_ble_eq_true rfl) rfl ?_
    refine V_if_eq (pc := 15) (tgt := 27) dX12_look_15 (by decide) rfl (fun hc => ?_) (fun hc => ?_)
    · replace hb1 := (if_pos hc).symm.trans hb1
      cases hb1
      exact KTb1 rfl
    · replace hb1 := (if_neg hc).symm.trans hb1
      refine V_aload_n (pc := 18) dX12_look_18 rfl rfl rfl ?_
      refine V_getI (pc := 19) dX12_look_19 flX12_430 rfl (by omega) (congrArg Prod.fst sh_73) rfl ?_
      refine V_bipush (pc := 22) dX12_look_22 bp_30 rfl ?_
      refine V_icmp_ne (pc := 24) (tgt := 29) dX12_look_24 (by decide) rfl (fun hc => ?_) (fun hc => ?_)
      · replace hb1 := (if_neg hc).symm.trans hb1
        cases hb1
        exact KFb1 (nbt rfl)
      · replace hb1 := (if_pos hc).symm.trans hb1
        cases hb1
        exact KTb1 rfl
/-! ShadowDoorsModel.untell -/
noncomputable def fX12_untell (v1 : Int32) (I : HI) : Option (Bool × HI) :=
  Option.bind (
    if (b2i (fX12_isIn v1 (0 : Int32) ((I 73 86) - (1 : Int32)))) = 0 then
      some true
    else
      if inb v1 30 = true then
        if (I 111 v1.toNatClampNeg) < 0 then
          some false
        else
          some true
      else none
  ) fun b1 =>
  if b1 = true then
    some (false, I)
  else
    if inb v1 30 = true then
      let I4 : HI := up2 I 111 v1.toNatClampNeg (I 73 87)
      some (true, I4)
    else none
set_option maxRecDepth 100000 in
set_option maxHeartbeats 4000000 in
theorem tX12_untell {g : GG} {n d : Nat} {tw dr sk tl ff : Nat} (hG : RG tw dr sk tl ff) (hn : 116 ≤ n) {v1 : Int32} {I : HI} {L : HL} {res : Bool × HI} (hf : fX12_untell v1 I = some res) : CT g mX12_untell (d + 2) 0 0 n (RT tw dr sk tl ff) I L [.ref 73, .int v1] (PoB n (RT tw dr sk tl ff) res.1 res.2 L) := by
  refine CT.of rfl (Nat.le_of_ble_eq_true rfl) ?_
  show V g mX12_untell (d + 2) 0 0 n (RT tw dr sk tl ff) I L 0 [some (.ref 73), some (.int v1)] [] (PoB n (RT tw dr sk tl ff) res.1 res.2 L)
  refine V_iload_n (pc := 0) dX12_untell_0 rfl rfl rfl ?_
  refine V_iconst (pc := 1) dX12_untell_1 ic_0 rfl ?_
  refine V_aload_n (pc := 2) dX12_untell_2 rfl rfl rfl ?_
  refine V_getI (pc := 3) dX12_untell_3 flX12_430 rfl (by omega) (congrArg Prod.fst sh_73) rfl ?_
  refine V_iconst (pc := 6) dX12_untell_6 ic_1 rfl ?_
  refine V_isub (pc := 7) dX12_untell_7 rfl ?_
  refine V_cSz (md' := mX12_isIn) (pc := 8) dX12_untell_8 mlX12_436 mSX12_isIn (tX12_isIn rfl) rfl rfl (Nat.le_of_ble_eq_true rfl) rfl ?_
  obtain ⟨b1, hb1, hf⟩ := bnd hf
  have KTb1 : b1 = true → V g mX12_untell (d + 2) 0 0 n (RT tw dr sk tl ff) I L 23 [some (.ref 73), some (.int v1)] [] (PoB n (RT tw dr sk tl ff) res.1 res.2 L) := fun hc => by
    replace hf := (if_pos hc).symm.trans hf
    refine V_iconst (pc := 23) dX12_untell_23 ic_0 rfl ?_
    cases hf
    exact V_zretE (pc := 24) dX12_untell_24 rfl (show (0 : Int32) = b2i false from rfl) PoB_mk
  have KFb1 : ¬ b1 = true → V g mX12_untell (d + 2) 0 0 n (RT tw dr sk tl ff) I L 25 [some (.ref 73), some (.int v1)] [] (PoB n (RT tw dr sk tl ff) res.1 res.2 L) := fun hc => by
    replace hf := (if_neg hc).symm.trans hf
    refine V_aload_n (pc := 25) dX12_untell_25 rfl rfl rfl ?_
    refine V_getR (pc := 26) dX12_untell_26 flX12_132 rfl (by omega) (congrArg Prod.fst sh_73) rt_73_84 rfl ?_
    refine V_iload_n (pc := 29) dX12_untell_29 rfl rfl rfl ?_
    refine V_aload_n (pc := 30) dX12_untell_30 rfl rfl rfl ?_
    refine V_getI (pc := 31) dX12_untell_31 flX12_571 rfl (by omega) (congrArg Prod.fst sh_73) rfl ?_
    obtain ⟨hc3, hf⟩ := pif hf
    let I4 : HI := up2 I 111 v1.toNatClampNeg (I 73 87)
    refine V_iast (pc := 34) dX12_untell_34 (by omega) sh_111 hc3 rfl ?_
    refine V_iconst (pc := 35) dX12_untell_35 ic_1 rfl ?_
    cases hf
    exact V_zretE (pc := 36) dX12_untell_36 rfl (show (1 : Int32) = b2i true from rfl) PoB_mk
  refine V_if_eq (pc := 11) (tgt := 23) dX12_untell_11 (by decide) rfl (fun hc => ?_) (fun hc => ?_)
  · replace hb1 := (if_pos hc).symm.trans hb1
    cases hb1
    exact KTb1 rfl
  · replace hb1 := (if_neg hc).symm.trans hb1
    refine V_aload_n (pc := 14) dX12_untell_14 rfl rfl rfl ?_
    refine V_getR (pc := 15) dX12_untell_15 flX12_132 rfl (by omega) (congrArg Prod.fst sh_73) rt_73_84 rfl ?_
    refine V_iload_n (pc := 18) dX12_untell_18 rfl rfl rfl ?_
    obtain ⟨hc2, hb1⟩ := pif hb1
    refine V_iald (pc := 19) dX12_untell_19 (by omega) sh_111 hc2 rfl ?_
    refine V_if_lt (pc := 20) (tgt := 25) dX12_untell_20 (by decide) rfl (fun hc => ?_) (fun hc => ?_)
    · replace hb1 := (if_pos hc).symm.trans hb1
      cases hb1
      exact KFb1 (nbt rfl)
    · replace hb1 := (if_neg hc).symm.trans hb1
      cases hb1
      exact KTb1 rfl
/-! ShadowDoorsModel.later -/
noncomputable def fX12_later (v1 : Int32) (I : HI) : Int32 × HI :=
  tbn (
    if v1 < 0 then
      true
    else
      if (1000 : Int32) < v1 then
        true
      else
        if ((I 73 87) + v1) ≤ (100000 : Int32) then
          false
        else
          true
  ) fun b1 =>
  if b1 = true then
    ((-1 : Int32), I)
  else
    let I2 : HI := up2 I 73 87 ((I 73 87) + v1)
    ((I2 73 87), I2)
set_option maxRecDepth 100000 in
set_option maxHeartbeats 4000000 in
theorem tX12_later {g : GG} {n d : Nat} {tw dr sk tl ff : Nat} (hG : RG tw dr sk tl ff) (hn : 116 ≤ n) {v1 : Int32} {I : HI} {L : HL} {res : Int32 × HI} (hf : fX12_later v1 I = res) : CT g mX12_later (d + 1) 0 0 n (RT tw dr sk tl ff) I L [.ref 73, .int v1] (PoI n (RT tw dr sk tl ff) res.1 res.2 L) := by
  refine CT.of rfl (Nat.le_of_ble_eq_true rfl) ?_
  show V g mX12_later (d + 1) 0 0 n (RT tw dr sk tl ff) I L 0 [some (.ref 73), some (.int v1)] [] (PoI n (RT tw dr sk tl ff) res.1 res.2 L)
  refine V_iload_n (pc := 0) dX12_later_0 rfl rfl rfl ?_
  obtain ⟨b1, hb1, hf⟩ := tbd hf
  have KTb1 : b1 = true → V g mX12_later (d + 1) 0 0 n (RT tw dr sk tl ff) I L 23 [some (.ref 73), some (.int v1)] [] (PoI n (RT tw dr sk tl ff) res.1 res.2 L) := fun hc => by
    replace hf := (if_pos hc).symm.trans hf
    refine V_iconst (pc := 23) dX12_later_23 ic_m1 rfl ?_
    cases hf
    exact V_iret (pc := 24) dX12_later_24 rfl PoI_mk
  have KFb1 : ¬ b1 = true → V g mX12_later (d + 1) 0 0 n (RT tw dr sk tl ff) I L 25 [some (.ref 73), some (.int v1)] [] (PoI n (RT tw dr sk tl ff) res.1 res.2 L) := fun hc => by
    replace hf := (if_neg hc).symm.trans hf
    refine V_aload_n (pc := 25) dX12_later_25 rfl rfl rfl ?_
    refine V_dup (pc := 26) dX12_later_26 rfl rfl ?_
    refine V_getI (pc := 27) dX12_later_27 flX12_571 rfl (by omega) (congrArg Prod.fst sh_73) rfl ?_
    refine V_iload_n (pc := 30) dX12_later_30 rfl rfl rfl ?_
    refine V_iadd (pc := 31) dX12_later_31 rfl ?_
    let I2 : HI := up2 I 73 87 ((I 73 87) + v1)
    refine V_putI (pc := 32) dX12_later_32 flX12_571 rfl rfl (by omega) (congrArg Prod.fst sh_73) rfl ?_
    refine V_aload_n (pc := 35) dX12_later_35 rfl rfl rfl ?_
    refine V_getI (pc := 36) dX12_later_36 flX12_571 rfl (by omega) (congrArg Prod.fst sh_73) rfl ?_
    cases hf
    exact V_iret (pc := 39) dX12_later_39 rfl PoI_mk
  refine V_if_lt (pc := 1) (tgt := 23) dX12_later_1 (by decide) rfl (fun hc => ?_) (fun hc => ?_)
  · replace hb1 := (if_pos hc).symm.trans hb1
    cases hb1
    exact KTb1 rfl
  · replace hb1 := (if_neg hc).symm.trans hb1
    refine V_iload_n (pc := 4) dX12_later_4 rfl rfl rfl ?_
    refine V_sipush (pc := 5) dX12_later_5 sp_1000 rfl ?_
    refine V_icmp_gt (pc := 8) (tgt := 23) dX12_later_8 (by decide) rfl (fun hc => ?_) (fun hc => ?_)
    · replace hb1 := (if_pos hc).symm.trans hb1
      cases hb1
      exact KTb1 rfl
    · replace hb1 := (if_neg hc).symm.trans hb1
      refine V_aload_n (pc := 11) dX12_later_11 rfl rfl rfl ?_
      refine V_getI (pc := 12) dX12_later_12 flX12_571 rfl (by omega) (congrArg Prod.fst sh_73) rfl ?_
      refine V_iload_n (pc := 15) dX12_later_15 rfl rfl rfl ?_
      refine V_iadd (pc := 16) dX12_later_16 rfl ?_
      refine V_ldcw (pc := 17) dX12_later_17 kcX12_574 rfl ?_
      refine V_icmp_le (pc := 20) (tgt := 25) dX12_later_20 (by decide) rfl (fun hc => ?_) (fun hc => ?_)
      · replace hb1 := (if_pos hc).symm.trans hb1
        cases hb1
        exact KFb1 (nbt rfl)
      · replace hb1 := (if_neg hc).symm.trans hb1
        cases hb1
        exact KTb1 rfl
/-! ShadowDoorsModel.counts -/
noncomputable def fX12_counts (v1 : Int32) (v2 : Int32) (I : HI) : Option (Bool) :=
  if inb v1 30 = true then
    Option.bind (
      if v2 < (I 110 v1.toNatClampNeg) then
        some true
      else
        if inb v1 30 = true then
          if (I 111 v1.toNatClampNeg) < 0 then
            some false
          else
            if inb v1 30 = true then
              if (I 111 v1.toNatClampNeg) ≤ v2 then
                some true
              else
                some false
            else none
        else none
    ) fun b2 =>
    if b2 = true then
      some false
    else
      some true
  else none
set_option maxRecDepth 100000 in
set_option maxHeartbeats 4000000 in
theorem tX12_counts {g : GG} {n d : Nat} {tw dr sk tl ff : Nat} (hG : RG tw dr sk tl ff) (hn : 116 ≤ n) {v1 : Int32} {v2 : Int32} {I : HI} {L : HL} {res : Bool} (hf : fX12_counts v1 v2 I = some res) : CT g mX12_counts (d + 1) 0 0 n (RT tw dr sk tl ff) I L [.ref 73, .int v1, .int v2] (PoB n (RT tw dr sk tl ff) res I L) := by
  refine CT.of rfl (Nat.le_of_ble_eq_true rfl) ?_
  show V g mX12_counts (d + 1) 0 0 n (RT tw dr sk tl ff) I L 0 [some (.ref 73), some (.int v1), some (.int v2)] [] (PoB n (RT tw dr sk tl ff) res I L)
  refine V_aload_n (pc := 0) dX12_counts_0 rfl rfl rfl ?_
  refine V_getR (pc := 1) dX12_counts_1 flX12_129 rfl (by omega) (congrArg Prod.fst sh_73) rt_73_83 rfl ?_
  refine V_iload_n (pc := 4) dX12_counts_4 rfl rfl rfl ?_
  obtain ⟨hc1, hf⟩ := pif hf
  refine V_iald (pc := 5) dX12_counts_5 (by omega) sh_110 hc1 rfl ?_
  refine V_iload_n (pc := 6) dX12_counts_6 rfl rfl rfl ?_
  obtain ⟨b2, hb2, hf⟩ := bnd hf
  have KTb2 : b2 = true → V g mX12_counts (d + 1) 0 0 n (RT tw dr sk tl ff) I L 33 [some (.ref 73), some (.int v1), some (.int v2)] [] (PoB n (RT tw dr sk tl ff) res I L) := fun hc => by
    replace hf := (if_pos hc).symm.trans hf
    refine V_iconst (pc := 33) dX12_counts_33 ic_0 rfl ?_
    cases hf
    exact V_zretE (pc := 34) dX12_counts_34 rfl (show (0 : Int32) = b2i false from rfl) PoB_mk
  have KFb2 : ¬ b2 = true → V g mX12_counts (d + 1) 0 0 n (RT tw dr sk tl ff) I L 29 [some (.ref 73), some (.int v1), some (.int v2)] [] (PoB n (RT tw dr sk tl ff) res I L) := fun hc => by
    replace hf := (if_neg hc).symm.trans hf
    refine V_iconst (pc := 29) dX12_counts_29 ic_1 rfl ?_
    refine V_goto (pc := 30) (tgt := 34) dX12_counts_30 (by decide) ?_
    cases hf
    exact V_zretE (pc := 34) dX12_counts_34 rfl (show (1 : Int32) = b2i true from rfl) PoB_mk
  refine V_icmp_gt (pc := 7) (tgt := 33) dX12_counts_7 (by decide) rfl (fun hc => ?_) (fun hc => ?_)
  · replace hb2 := (if_pos hc).symm.trans hb2
    cases hb2
    exact KTb2 rfl
  · replace hb2 := (if_neg hc).symm.trans hb2
    refine V_aload_n (pc := 10) dX12_counts_10 rfl rfl rfl ?_
    refine V_getR (pc := 11) dX12_counts_11 flX12_132 rfl (by omega) (congrArg Prod.fst sh_73) rt_73_84 rfl ?_
    refine V_iload_n (pc := 14) dX12_counts_14 rfl rfl rfl ?_
    obtain ⟨hc3, hb2⟩ := pif hb2
    refine V_iald (pc := 15) dX12_counts_15 (by omega) sh_111 hc3 rfl ?_
    refine V_if_lt (pc := 16) (tgt := 29) dX12_counts_16 (by decide) rfl (fun hc => ?_) (fun hc => ?_)
    · replace hb2 := (if_pos hc).symm.trans hb2
      cases hb2
      exact KFb2 (nbt rfl)
    · replace hb2 := (if_neg hc).symm.trans hb2
      refine V_aload_n (pc := 19) dX12_counts_19 rfl rfl rfl ?_
      refine V_getR (pc := 20) dX12_counts_20 flX12_132 rfl (by omega) (congrArg Prod.fst sh_73) rt_73_84 rfl ?_
      refine V_iload_n (pc := 23) dX12_counts_23 rfl rfl rfl ?_
      obtain ⟨hc4, hb2⟩ := pif hb2
      refine V_iald (pc := 24) dX12_counts_24 (by omega) sh_111 hc4 rfl ?_
      refine V_iload_n (pc := 25) dX12_counts_25 rfl rfl rfl ?_
      refine V_icmp_le (pc := 26) (tgt := 33) dX12_counts_26 (by decide) rfl (fun hc => ?_) (fun hc => ?_)
      · replace hb2 := (if_pos hc).symm.trans hb2
        cases hb2
        exact KTb2 rfl
      · replace hb2 := (if_neg hc).symm.trans hb2
        cases hb2
        exact KFb2 (nbt rfl)
/-! ShadowDoorsModel.wouldBe -/
noncomputable def fX12_wouldBe (v1 : Int32) (v2 : Int32) (v3 : Int32) (v4 : Int32) (I : HI) (L : HL) : Option (Bool × HI) :=
  Option.bind (fX12_shadeOf v2 v3 (0 : Int32) I) fun q1 =>
  Option.bind (
    if (fX12_capped q1.1) ≤ 0 then
      Option.bind (fX12_row v1 (-1 : Int32) (0 : Int32) (-(fX12_capped q1.1)) q1.2 L) fun q5 =>
      some q5
    else
      Option.bind (fX12_row v1 (1 : Int32) (0 : Int32) (fX12_capped q1.1) q1.2 L) fun q6 =>
      some q6
  ) fun q4 =>
  some ((fX12_has q4 v4), q1.2)
set_option maxRecDepth 100000 in
set_option maxHeartbeats 4000000 in
theorem tX12_wouldBe {g : GG} {n d : Nat} {tw dr sk tl ff : Nat} (hG : RG tw dr sk tl ff) (hn : 116 ≤ n) {v1 : Int32} {v2 : Int32} {v3 : Int32} {v4 : Int32} {I : HI} {L : HL} {res : Bool × HI} (hf : fX12_wouldBe v1 v2 v3 v4 I L = some res) : CT g mX12_wouldBe (d + 4) 0 0 n (RT tw dr sk tl ff) I L [.ref 73, .int v1, .int v2, .int v3, .int v4] (PoB n (RT tw dr sk tl ff) res.1 res.2 L) := by
  refine CT.of rfl (Nat.le_of_ble_eq_true rfl) ?_
  show V g mX12_wouldBe (d + 4) 0 0 n (RT tw dr sk tl ff) I L 0 [some (.ref 73), some (.int v1), some (.int v2), some (.int v3), some (.int v4)] [] (PoB n (RT tw dr sk tl ff) res.1 res.2 L)
  refine V_aload_n (pc := 0) dX12_wouldBe_0 rfl rfl rfl ?_
  refine V_iload_n (pc := 1) dX12_wouldBe_1 rfl rfl rfl ?_
  refine V_iload_n (pc := 2) dX12_wouldBe_2 rfl rfl rfl ?_
  refine V_iconst (pc := 3) dX12_wouldBe_3 ic_0 rfl ?_
  obtain ⟨q1, hq1, hf⟩ := bnd hf
  refine V_cVi (md' := mX12_shadeOf) (pc := 4) dX12_wouldBe_4 mlX12_467 mVX12_shadeOf (tX12_shadeOf hG hn hq1) rfl (by omega) (congrArg Prod.fst sh_73) rfl (Nat.le_of_ble_eq_true rfl) rfl ?_
  refine V_cSi (md' := mX12_capped) (pc := 7) dX12_wouldBe_7 mlX12_470 mSX12_capped (tX12_capped rfl) rfl rfl (Nat.le_of_ble_eq_true rfl) rfl ?_
  refine V_istore (ls' := [some _, some _, some _, some _, some _, some _]) (pc := 10) dX12_wouldBe_10 (Nat.le_of_ble_eq_true rfl) rfl rfl ?_
  refine V_iload (pc := 12) dX12_wouldBe_12 rfl rfl ?_
  obtain ⟨q4, hq4, hf⟩ := bnd hf
  have Kq4 : V g mX12_wouldBe (d + 4) 0 0 n (RT tw dr sk tl ff) q1.2 L 39 [none, none, none, none, some (.int v4)] [.long q4] (PoB n (RT tw dr sk tl ff) res.1 res.2 L) := by
    refine V_iload (pc := 39) dX12_wouldBe_39 rfl rfl ?_
    refine V_cSz (md' := mX12_has) (pc := 41) dX12_wouldBe_41 mlX12_330 mSX12_has (tX12_has rfl) rfl rfl (Nat.le_of_ble_eq_true rfl) rfl ?_
    cases hf
    exact V_zretE (pc := 44) dX12_wouldBe_44 rfl rfl PoB_mk
  refine V_if_le (pc := 14) (tgt := 29) dX12_wouldBe_14 (by decide) rfl (fun hc => ?_) (fun hc => ?_)
  · replace hq4 := (if_pos hc).symm.trans hq4
    refine V_aload_n (pc := 29) dX12_wouldBe_29 rfl rfl rfl ?_
    refine V_iload_n (pc := 30) dX12_wouldBe_30 rfl rfl rfl ?_
    refine V_iconst (pc := 31) dX12_wouldBe_31 ic_m1 rfl ?_
    refine V_iconst (pc := 32) dX12_wouldBe_32 ic_0 rfl ?_
    refine V_iload (pc := 33) dX12_wouldBe_33 rfl rfl ?_
    refine V_ineg (pc := 35) dX12_wouldBe_35 rfl ?_
    obtain ⟨q5, hq5, hq4⟩ := bnd hq4
    refine V_cVl (md' := mX12_row) (pc := 36) dX12_wouldBe_36 mlX12_463 mVX12_row (tX12_row hG hn hq5) rfl (by omega) (congrArg Prod.fst sh_73) rfl (Nat.le_of_ble_eq_true rfl) rfl ?_
    cases hq4
    exact V_wk Kq4 ⟨rfl, trivial⟩
  · replace hq4 := (if_neg hc).symm.trans hq4
    refine V_aload_n (pc := 17) dX12_wouldBe_17 rfl rfl rfl ?_
    refine V_iload_n (pc := 18) dX12_wouldBe_18 rfl rfl rfl ?_
    refine V_iconst (pc := 19) dX12_wouldBe_19 ic_1 rfl ?_
    refine V_iconst (pc := 20) dX12_wouldBe_20 ic_0 rfl ?_
    refine V_iload (pc := 21) dX12_wouldBe_21 rfl rfl ?_
    obtain ⟨q6, hq6, hq4⟩ := bnd hq4
    refine V_cVl (md' := mX12_row) (pc := 23) dX12_wouldBe_23 mlX12_463 mVX12_row (tX12_row hG hn hq6) rfl (by omega) (congrArg Prod.fst sh_73) rfl (Nat.le_of_ble_eq_true rfl) rfl ?_
    refine V_goto (pc := 26) (tgt := 39) dX12_wouldBe_26 (by decide) ?_
    cases hq4
    exact V_wk Kq4 ⟨rfl, trivial⟩
/-! ShadowDoorsModel.fits -/
noncomputable def fX12_fits_6 : Nat → Int32 → Int32 → Int32 → Int32 → Int32 → HI → HL → Option (Bool × HI)
  | 0, _, _, _, _, _, _, _ => none
  | fu + 1, y1, y2, y3, y4, y5, I, L =>
    if (I 73 86) ≤ y5 then
      Option.bind (i2b y4) fun b1 =>
      some (b1, I)
    else
      Option.bind (fX12_counts y5 y3 I) fun q2 =>
      if (b2i q2) = 0 then
        fX12_fits_6 fu y1 y2 y3 y4 (y5 + (1 : Int32)) I L
      else
        if y4 = 0 then
          fX12_fits_6 fu y1 y2 y3 (0 : Int32) (y5 + (1 : Int32)) I L
        else
          if inb y5 30 = true then
            if inb y5 30 = true then
              Option.bind (fX12_wouldBe y1 y2 (I 108 y5.toNatClampNeg) (I 109 y5.toNatClampNeg) I L) fun q5 =>
              if inb y5 30 = true then
                if (b2i q5.1) = (q5.2 112 y5.toNatClampNeg) then
                  fX12_fits_6 fu y1 y2 y3 (1 : Int32) (y5 + (1 : Int32)) q5.2 L
                else
                  fX12_fits_6 fu y1 y2 y3 (0 : Int32) (y5 + (1 : Int32)) q5.2 L
              else none
            else none
          else none
set_option maxRecDepth 100000 in
set_option maxHeartbeats 4000000 in
theorem lX12_fits_6 {g : GG} {n d : Nat} {tw dr sk tl ff : Nat} (hG : RG tw dr sk tl ff) (hn : 116 ≤ n) {P : PP} : ∀ (fu : Nat) (y1 : Int32) (y2 : Int32) (y3 : Int32) (y4 : Int32) (y5 : Int32) (I : HI) (L : HL) (res : Bool × HI), fX12_fits_6 fu y1 y2 y3 y4 y5 I L = some res → P (some (.int (b2i res.1))) n (RT tw dr sk tl ff) res.2 L → V g mX12_fits (d + 5) 0 0 n (RT tw dr sk tl ff) I L 6 [some (.ref 73), some (.int y1), some (.int y2), some (.int y3), some (.int y4), some (.int y5)] [] P := by
  intro fu
  induction fu with
  | zero => intro y1 y2 y3 y4 y5 I L res hf; cases (show none = some res from hf)
  | succ fu ih =>
    intro y1 y2 y3 y4 y5 I L res hf K
    refine V_iload (pc := 6) dX12_fits_6 rfl rfl ?_
    refine V_aload_n (pc := 8) dX12_fits_8 rfl rfl rfl ?_
    refine V_getI (pc := 9) dX12_fits_9 flX12_430 rfl (by omega) (congrArg Prod.fst sh_73) rfl ?_
    refine V_icmp_ge (pc := 12) (tgt := 73) dX12_fits_12 (by decide) rfl (fun hc => ?_) (fun hc => ?_)
    · replace hf := (if_pos hc).symm.trans hf
      refine V_iload (pc := 73) dX12_fits_73 rfl rfl ?_
      obtain ⟨b1, hb1, hf⟩ := bnd hf
      cases hf
      exact V_zretE (pc := 75) dX12_fits_75 rfl (i2b_eq hb1) K
    · replace hf := (if_neg hc).symm.trans hf
      refine V_aload_n (pc := 15) dX12_fits_15 rfl rfl rfl ?_
      refine V_iload (pc := 16) dX12_fits_16 rfl rfl ?_
      refine V_iload_n (pc := 18) dX12_fits_18 rfl rfl rfl ?_
      obtain ⟨q2, hq2, hf⟩ := bnd hf
      refine V_cVz (md' := mX12_counts) (pc := 19) dX12_fits_19 mlX12_575 mVX12_counts (tX12_counts hG hn hq2) rfl (by omega) (congrArg Prod.fst sh_73) rfl (Nat.le_of_ble_eq_true rfl) rfl ?_
      refine V_if_eq (pc := 22) (tgt := 67) dX12_fits_22 (by decide) rfl (fun hc => ?_) (fun hc => ?_)
      · replace hf := (if_pos hc).symm.trans hf
        refine V_iinc (ls' := [some _, some _, some _, some _, some _, some _]) (pc := 67) dX12_fits_67 rfl (Nat.le_of_ble_eq_true rfl) (congrArg _ ic_1) rfl rfl ?_
        refine V_goto (pc := 70) (tgt := 6) dX12_fits_70 (by decide) ?_
        exact V_wk (ih _ _ _ _ _ _ _ _ hf K) ⟨rfl, ⟨rfl, ⟨rfl, ⟨rfl, ⟨rfl, ⟨rfl, trivial⟩⟩⟩⟩⟩⟩
      · replace hf := (if_neg hc).symm.trans hf
        refine V_iload (pc := 25) dX12_fits_25 rfl rfl ?_
        refine V_if_eq (pc := 27) (tgt := 64) dX12_fits_27 (by decide) rfl (fun hc => ?_) (fun hc => ?_)
        · replace hf := (if_pos hc).symm.trans hf
          refine V_iconst (pc := 64) dX12_fits_64 ic_0 rfl ?_
          refine V_istore (ls' := [some _, some _, some _, some _, some _, some _]) (pc := 65) dX12_fits_65 (Nat.le_of_ble_eq_true rfl) rfl rfl ?_
          refine V_iinc (ls' := [some _, some _, some _, some _, some _, some _]) (pc := 67) dX12_fits_67 rfl (Nat.le_of_ble_eq_true rfl) (congrArg _ ic_1) rfl rfl ?_
          refine V_goto (pc := 70) (tgt := 6) dX12_fits_70 (by decide) ?_
          exact V_wk (ih _ _ _ _ _ _ _ _ hf K) ⟨rfl, ⟨rfl, ⟨rfl, ⟨rfl, ⟨rfl, ⟨rfl, trivial⟩⟩⟩⟩⟩⟩
        · replace hf := (if_neg hc).symm.trans hf
          refine V_aload_n (pc := 30) dX12_fits_30 rfl rfl rfl ?_
          refine V_iload_n (pc := 31) dX12_fits_31 rfl rfl rfl ?_
          refine V_iload_n (pc := 32) dX12_fits_32 rfl rfl rfl ?_
          refine V_aload_n (pc := 33) dX12_fits_33 rfl rfl rfl ?_
          refine V_getR (pc := 34) dX12_fits_34 flX12_123 rfl (by omega) (congrArg Prod.fst sh_73) rt_73_81 rfl ?_
          refine V_iload (pc := 37) dX12_fits_37 rfl rfl ?_
          obtain ⟨hc3, hf⟩ := pif hf
          refine V_iald (pc := 39) dX12_fits_39 (by omega) sh_108 hc3 rfl ?_
          refine V_aload_n (pc := 40) dX12_fits_40 rfl rfl rfl ?_
          refine V_getR (pc := 41) dX12_fits_41 flX12_126 rfl (by omega) (congrArg Prod.fst sh_73) rt_73_82 rfl ?_
          refine V_iload (pc := 44) dX12_fits_44 rfl rfl ?_
          obtain ⟨hc4, hf⟩ := pif hf
          refine V_iald (pc := 46) dX12_fits_46 (by omega) sh_109 hc4 rfl ?_
          obtain ⟨q5, hq5, hf⟩ := bnd hf
          refine V_cVz (md' := mX12_wouldBe) (pc := 47) dX12_fits_47 mlX12_579 mVX12_wouldBe (tX12_wouldBe hG hn hq5) rfl (by omega) (congrArg Prod.fst sh_73) rfl (Nat.le_of_ble_eq_true rfl) rfl ?_
          refine V_aload_n (pc := 50) dX12_fits_50 rfl rfl rfl ?_
          refine V_getR (pc := 51) dX12_fits_51 flX12_135 rfl (by omega) (congrArg Prod.fst sh_73) rt_73_85 rfl ?_
          refine V_iload (pc := 54) dX12_fits_54 rfl rfl ?_
          obtain ⟨hc6, hf⟩ := pif hf
          refine V_zald (pc := 56) dX12_fits_56 (by omega) sh_112 hc6 rfl ?_
          refine V_icmp_ne (pc := 57) (tgt := 64) dX12_fits_57 (by decide) rfl (fun hc => ?_) (fun hc => ?_)
          · replace hf := (if_neg hc).symm.trans hf
            refine V_iconst (pc := 64) dX12_fits_64 ic_0 rfl ?_
            refine V_istore (ls' := [some _, some _, some _, some _, some _, some _]) (pc := 65) dX12_fits_65 (Nat.le_of_ble_eq_true rfl) rfl rfl ?_
            refine V_iinc (ls' := [some _, some _, some _, some _, some _, some _]) (pc := 67) dX12_fits_67 rfl (Nat.le_of_ble_eq_true rfl) (congrArg _ ic_1) rfl rfl ?_
            refine V_goto (pc := 70) (tgt := 6) dX12_fits_70 (by decide) ?_
            exact V_wk (ih _ _ _ _ _ _ _ _ hf K) ⟨rfl, ⟨rfl, ⟨rfl, ⟨rfl, ⟨rfl, ⟨rfl, trivial⟩⟩⟩⟩⟩⟩
          · replace hf := (if_pos hc).symm.trans hf
            refine V_iconst (pc := 60) dX12_fits_60 ic_1 rfl ?_
            refine V_goto (pc := 61) (tgt := 65) dX12_fits_61 (by decide) ?_
            refine V_istore (ls' := [some _, some _, some _, some _, some _, some _]) (pc := 65) dX12_fits_65 (Nat.le_of_ble_eq_true rfl) rfl rfl ?_
            refine V_iinc (ls' := [some _, some _, some _, some _, some _, some _]) (pc := 67) dX12_fits_67 rfl (Nat.le_of_ble_eq_true rfl) (congrArg _ ic_1) rfl rfl ?_
            refine V_goto (pc := 70) (tgt := 6) dX12_fits_70 (by decide) ?_
            exact V_wk (ih _ _ _ _ _ _ _ _ hf K) ⟨rfl, ⟨rfl, ⟨rfl, ⟨rfl, ⟨rfl, ⟨rfl, trivial⟩⟩⟩⟩⟩⟩
noncomputable def fX12_fits (v1 : Int32) (v2 : Int32) (v3 : Int32) (I : HI) (L : HL) : Option (Bool × HI) :=
  Option.bind (fX12_fits_6 FUEL v1 v2 v3 (1 : Int32) (0 : Int32) I L) fun q7 =>
  some (q7.1, q7.2)
set_option maxRecDepth 100000 in
set_option maxHeartbeats 4000000 in
theorem tX12_fits {g : GG} {n d : Nat} {tw dr sk tl ff : Nat} (hG : RG tw dr sk tl ff) (hn : 116 ≤ n) {v1 : Int32} {v2 : Int32} {v3 : Int32} {I : HI} {L : HL} {res : Bool × HI} (hf : fX12_fits v1 v2 v3 I L = some res) : CT g mX12_fits (d + 5) 0 0 n (RT tw dr sk tl ff) I L [.ref 73, .int v1, .int v2, .int v3] (PoB n (RT tw dr sk tl ff) res.1 res.2 L) := by
  refine CT.of rfl (Nat.le_of_ble_eq_true rfl) ?_
  show V g mX12_fits (d + 5) 0 0 n (RT tw dr sk tl ff) I L 0 [some (.ref 73), some (.int v1), some (.int v2), some (.int v3)] [] (PoB n (RT tw dr sk tl ff) res.1 res.2 L)
  refine V_iconst (pc := 0) dX12_fits_0 ic_1 rfl ?_
  refine V_istore (ls' := [some _, some _, some _, some _, some _]) (pc := 1) dX12_fits_1 (Nat.le_of_ble_eq_true rfl) rfl rfl ?_
  refine V_iconst (pc := 3) dX12_fits_3 ic_0 rfl ?_
  refine V_istore (ls' := [some _, some _, some _, some _, some _, some _]) (pc := 4) dX12_fits_4 (Nat.le_of_ble_eq_true rfl) rfl rfl ?_
  obtain ⟨q7, hq7, hf⟩ := bnd hf
  refine V_wk (lX12_fits_6 hG hn FUEL _ _ _ _ _ _ _ _ hq7 ?_) ⟨rfl, ⟨rfl, ⟨rfl, ⟨rfl, ⟨rfl, ⟨rfl, trivial⟩⟩⟩⟩⟩⟩
  cases hf
  exact PoB_mk
/-! ShadowDoorsModel.layFits -/
noncomputable def fX12_layFits_21 : Nat → Int32 → Int32 → Int32 → HI → HL → Option (HI × HL)
  | 0, _, _, _, _, _ => none
  | fu + 1, y1, y2, y3, I, L =>
    if ((I 73 52) * (I 73 53)) ≤ y3 then
      some (I, L)
    else
      if (b2i (fX12_has (L 73 44) y3)) = 0 then
        Option.bind (fX12_fits y3 y2 y1 I L) fun q4 =>
        if (b2i q4.1) = 0 then
          fX12_layFits_21 fu y1 y2 (y3 + (1 : Int32)) q4.2 L
        else
          if inb y2 5 = true then
            if inb y2 5 = true then
              let L7 : HL := up2 L 113 y2.toNatClampNeg ((L 113 y2.toNatClampNeg) ||| ((1 : Int64) <<< (y3.toInt64 &&& 63)))
              let I8 : HI := up2 q4.2 73 89 ((q4.2 73 89) + (1 : Int32))
              fX12_layFits_21 fu y1 y2 (y3 + (1 : Int32)) I8 L7
            else none
          else none
      else
        fX12_layFits_21 fu y1 y2 (y3 + (1 : Int32)) I L
set_option maxRecDepth 100000 in
set_option maxHeartbeats 4000000 in
theorem lX12_layFits_21 {g : GG} {n d : Nat} {tw dr sk tl ff : Nat} (hG : RG tw dr sk tl ff) (hn : 116 ≤ n) {P : PP} : ∀ (fu : Nat) (y1 : Int32) (y2 : Int32) (y3 : Int32) (I : HI) (L : HL) (res : HI × HL), fX12_layFits_21 fu y1 y2 y3 I L = some res → V g mX12_layFits (d + 6) 0 0 n (RT tw dr sk tl ff) res.1 res.2 86 [some (.ref 73), some (.int y1), some (.int y2)] [] P → V g mX12_layFits (d + 6) 0 0 n (RT tw dr sk tl ff) I L 21 [some (.ref 73), some (.int y1), some (.int y2), some (.int y3)] [] P := by
  intro fu
  induction fu with
  | zero => intro y1 y2 y3 I L res hf; cases (show none = some res from hf)
  | succ fu ih =>
    intro y1 y2 y3 I L res hf K
    refine V_iload_n (pc := 21) dX12_layFits_21 rfl rfl rfl ?_
    refine V_aload_n (pc := 22) dX12_layFits_22 rfl rfl rfl ?_
    refine V_getI (pc := 23) dX12_layFits_23 flX12_90 rfl (by omega) (congrArg Prod.fst sh_73) rfl ?_
    refine V_aload_n (pc := 26) dX12_layFits_26 rfl rfl rfl ?_
    refine V_getI (pc := 27) dX12_layFits_27 flX12_93 rfl (by omega) (congrArg Prod.fst sh_73) rfl ?_
    refine V_imul (pc := 30) dX12_layFits_30 rfl ?_
    refine V_icmp_ge (pc := 31) (tgt := 86) dX12_layFits_31 (by decide) rfl (fun hc => ?_) (fun hc => ?_)
    · replace hf := (if_pos hc).symm.trans hf
      cases hf
      exact V_wk K ⟨rfl, ⟨rfl, ⟨rfl, trivial⟩⟩⟩
    · replace hf := (if_neg hc).symm.trans hf
      refine V_aload_n (pc := 34) dX12_layFits_34 rfl rfl rfl ?_
      refine V_getL (pc := 35) dX12_layFits_35 flX12_403 rfl (by omega) (congrArg Prod.fst sh_73) rfl ?_
      refine V_iload_n (pc := 38) dX12_layFits_38 rfl rfl rfl ?_
      refine V_cSz (md' := mX12_has) (pc := 39) dX12_layFits_39 mlX12_330 mSX12_has (tX12_has rfl) rfl rfl (Nat.le_of_ble_eq_true rfl) rfl ?_
      refine V_if_ne (pc := 42) (tgt := 80) dX12_layFits_42 (by decide) rfl (fun hc => ?_) (fun hc => ?_)
      · replace hf := (if_neg hc).symm.trans hf
        refine V_iinc (ls' := [some _, some _, some _, some _]) (pc := 80) dX12_layFits_80 rfl (Nat.le_of_ble_eq_true rfl) (congrArg _ ic_1) rfl rfl ?_
        refine V_goto (pc := 83) (tgt := 21) dX12_layFits_83 (by decide) ?_
        exact V_wk (ih _ _ _ _ _ _ hf K) ⟨rfl, ⟨rfl, ⟨rfl, ⟨rfl, trivial⟩⟩⟩⟩
      · replace hf := (if_pos hc).symm.trans hf
        refine V_aload_n (pc := 45) dX12_layFits_45 rfl rfl rfl ?_
        refine V_iload_n (pc := 46) dX12_layFits_46 rfl rfl rfl ?_
        refine V_iload_n (pc := 47) dX12_layFits_47 rfl rfl rfl ?_
        refine V_iload_n (pc := 48) dX12_layFits_48 rfl rfl rfl ?_
        obtain ⟨q4, hq4, hf⟩ := bnd hf
        refine V_cVz (md' := mX12_fits) (pc := 49) dX12_layFits_49 mlX12_585 mVX12_fits (tX12_fits hG hn hq4) rfl (by omega) (congrArg Prod.fst sh_73) rfl (Nat.le_of_ble_eq_true rfl) rfl ?_
        refine V_if_ne (pc := 52) (tgt := 58) dX12_layFits_52 (by decide) rfl (fun hc => ?_) (fun hc => ?_)
        · replace hf := (if_neg hc).symm.trans hf
          refine V_aload_n (pc := 58) dX12_layFits_58 rfl rfl rfl ?_
          refine V_getR (pc := 59) dX12_layFits_59 flX12_139 rfl (by omega) (congrArg Prod.fst sh_73) rt_73_88 rfl ?_
          refine V_iload_n (pc := 62) dX12_layFits_62 rfl rfl rfl ?_
          refine V_dup2_11 (pc := 63) dX12_layFits_63 rfl rfl rfl ?_
          obtain ⟨hc5, hf⟩ := pif hf
          refine V_lald (pc := 64) dX12_layFits_64 (by omega) sh_113 hc5 rfl ?_
          refine V_lconst (pc := 65) dX12_layFits_65 lc_1 rfl ?_
          refine V_iload_n (pc := 66) dX12_layFits_66 rfl rfl rfl ?_
          refine V_lshl (pc := 67) dX12_layFits_67 rfl ?_
          refine V_lor (pc := 68) dX12_layFits_68 rfl ?_
          obtain ⟨hc6, hf⟩ := pif hf
          let L7 : HL := up2 L 113 y2.toNatClampNeg ((L 113 y2.toNatClampNeg) ||| ((1 : Int64) <<< (y3.toInt64 &&& 63)))
          refine V_last (pc := 69) dX12_layFits_69 (by omega) sh_113 hc6 rfl ?_
          refine V_aload_n (pc := 70) dX12_layFits_70 rfl rfl rfl ?_
          refine V_dup (pc := 71) dX12_layFits_71 rfl rfl ?_
          refine V_getI (pc := 72) dX12_layFits_72 flX12_582 rfl (by omega) (congrArg Prod.fst sh_73) rfl ?_
          refine V_iconst (pc := 75) dX12_layFits_75 ic_1 rfl ?_
          refine V_iadd (pc := 76) dX12_layFits_76 rfl ?_
          let I8 : HI := up2 q4.2 73 89 ((q4.2 73 89) + (1 : Int32))
          refine V_putI (pc := 77) dX12_layFits_77 flX12_582 rfl rfl (by omega) (congrArg Prod.fst sh_73) rfl ?_
          refine V_iinc (ls' := [some _, some _, some _, some _]) (pc := 80) dX12_layFits_80 rfl (Nat.le_of_ble_eq_true rfl) (congrArg _ ic_1) rfl rfl ?_
          refine V_goto (pc := 83) (tgt := 21) dX12_layFits_83 (by decide) ?_
          exact V_wk (ih _ _ _ _ _ _ hf K) ⟨rfl, ⟨rfl, ⟨rfl, ⟨rfl, trivial⟩⟩⟩⟩
        · replace hf := (if_pos hc).symm.trans hf
          refine V_goto (pc := 55) (tgt := 80) dX12_layFits_55 (by decide) ?_
          refine V_iinc (ls' := [some _, some _, some _, some _]) (pc := 80) dX12_layFits_80 rfl (Nat.le_of_ble_eq_true rfl) (congrArg _ ic_1) rfl rfl ?_
          refine V_goto (pc := 83) (tgt := 21) dX12_layFits_83 (by decide) ?_
          exact V_wk (ih _ _ _ _ _ _ hf K) ⟨rfl, ⟨rfl, ⟨rfl, ⟨rfl, trivial⟩⟩⟩⟩
noncomputable def fX12_layFits_7 : Nat → Int32 → Int32 → HI → HL → Option (HI × HL)
  | 0, _, _, _, _ => none
  | fu + 1, y1, y2, I, L =>
    if (4 : Int32) < y2 then
      some (I, L)
    else
      if inb y2 5 = true then
        let L3 : HL := up2 L 113 y2.toNatClampNeg (0 : Int64)
        Option.bind (fX12_layFits_21 FUEL y1 y2 (0 : Int32) I L3) fun q9 =>
        fX12_layFits_7 fu y1 (y2 + (1 : Int32)) q9.1 q9.2
      else none
set_option maxRecDepth 100000 in
set_option maxHeartbeats 4000000 in
theorem lX12_layFits_7 {g : GG} {n d : Nat} {tw dr sk tl ff : Nat} (hG : RG tw dr sk tl ff) (hn : 116 ≤ n) {P : PP} : ∀ (fu : Nat) (y1 : Int32) (y2 : Int32) (I : HI) (L : HL) (res : HI × HL), fX12_layFits_7 fu y1 y2 I L = some res → P none n (RT tw dr sk tl ff) res.1 res.2 → V g mX12_layFits (d + 6) 0 0 n (RT tw dr sk tl ff) I L 7 [some (.ref 73), some (.int y1), some (.int y2)] [] P := by
  intro fu
  induction fu with
  | zero => intro y1 y2 I L res hf; cases (show none = some res from hf)
  | succ fu ih =>
    intro y1 y2 I L res hf K
    refine V_iload_n (pc := 7) dX12_layFits_7 rfl rfl rfl ?_
    refine V_iconst (pc := 8) dX12_layFits_8 ic_4 rfl ?_
    refine V_icmp_gt (pc := 9) (tgt := 92) dX12_layFits_9 (by decide) rfl (fun hc => ?_) (fun hc => ?_)
    · replace hf := (if_pos hc).symm.trans hf
      cases hf
      exact V_vret (pc := 92) dX12_layFits_92 rfl K
    · replace hf := (if_neg hc).symm.trans hf
      refine V_aload_n (pc := 12) dX12_layFits_12 rfl rfl rfl ?_
      refine V_getR (pc := 13) dX12_layFits_13 flX12_139 rfl (by omega) (congrArg Prod.fst sh_73) rt_73_88 rfl ?_
      refine V_iload_n (pc := 16) dX12_layFits_16 rfl rfl rfl ?_
      refine V_lconst (pc := 17) dX12_layFits_17 lc_0 rfl ?_
      obtain ⟨hc2, hf⟩ := pif hf
      let L3 : HL := up2 L 113 y2.toNatClampNeg (0 : Int64)
      refine V_last (pc := 18) dX12_layFits_18 (by omega) sh_113 hc2 rfl ?_
      refine V_iconst (pc := 19) dX12_layFits_19 ic_0 rfl ?_
      refine V_istore_n (ls' := [some _, some _, some _, some _]) (pc := 20) dX12_layFits_20 rfl (Nat.le_of_ble_eq_true rfl) rfl rfl ?_
      obtain ⟨q9, hq9, hf⟩ := bnd hf
      refine V_wk (lX12_layFits_21 hG hn FUEL _ _ _ _ _ _ hq9 ?_) ⟨rfl, ⟨rfl, ⟨rfl, ⟨rfl, trivial⟩⟩⟩⟩
      refine V_iinc (ls' := [some _, some _, some _]) (pc := 86) dX12_layFits_86 rfl (Nat.le_of_ble_eq_true rfl) (congrArg _ ic_1) rfl rfl ?_
      refine V_goto (pc := 89) (tgt := 7) dX12_layFits_89 (by decide) ?_
      exact V_wk (ih _ _ _ _ _ hf K) ⟨rfl, ⟨rfl, ⟨rfl, trivial⟩⟩⟩
noncomputable def fX12_layFits (v1 : Int32) (I : HI) (L : HL) : Option (HI × HL) :=
  let I1 : HI := up2 I 73 89 (0 : Int32)
  Option.bind (fX12_layFits_7 FUEL v1 (1 : Int32) I1 L) fun q10 =>
  some (q10.1, q10.2)
set_option maxRecDepth 100000 in
set_option maxHeartbeats 4000000 in
theorem tX12_layFits {g : GG} {n d : Nat} {tw dr sk tl ff : Nat} (hG : RG tw dr sk tl ff) (hn : 116 ≤ n) {v1 : Int32} {I : HI} {L : HL} {res : HI × HL} (hf : fX12_layFits v1 I L = some res) : CT g mX12_layFits (d + 6) 0 0 n (RT tw dr sk tl ff) I L [.ref 73, .int v1] (PoV n (RT tw dr sk tl ff) res.1 res.2) := by
  refine CT.of rfl (Nat.le_of_ble_eq_true rfl) ?_
  show V g mX12_layFits (d + 6) 0 0 n (RT tw dr sk tl ff) I L 0 [some (.ref 73), some (.int v1)] [] (PoV n (RT tw dr sk tl ff) res.1 res.2)
  refine V_aload_n (pc := 0) dX12_layFits_0 rfl rfl rfl ?_
  refine V_iconst (pc := 1) dX12_layFits_1 ic_0 rfl ?_
  let I1 : HI := up2 I 73 89 (0 : Int32)
  refine V_putI (pc := 2) dX12_layFits_2 flX12_582 rfl rfl (by omega) (congrArg Prod.fst sh_73) rfl ?_
  refine V_iconst (pc := 5) dX12_layFits_5 ic_1 rfl ?_
  refine V_istore_n (ls' := [some _, some _, some _]) (pc := 6) dX12_layFits_6 rfl (Nat.le_of_ble_eq_true rfl) rfl rfl ?_
  obtain ⟨q10, hq10, hf⟩ := bnd hf
  refine V_wk (lX12_layFits_7 hG hn FUEL _ _ _ _ _ hq10 ?_) ⟨rfl, ⟨rfl, ⟨rfl, trivial⟩⟩⟩
  cases hf
  exact PoV_mk
/-! ShadowDoorsModel.fit -/
noncomputable def fX12_fit (v1 : Int32) (I : HI) (L : HL) : Option (Int32 × HI × HL) :=
  Option.bind (fX12_layFits v1 I L) fun q1 =>
  some ((q1.1 73 89), q1.1, q1.2)
set_option maxRecDepth 100000 in
set_option maxHeartbeats 4000000 in
theorem tX12_fit {g : GG} {n d : Nat} {tw dr sk tl ff : Nat} (hG : RG tw dr sk tl ff) (hn : 116 ≤ n) {v1 : Int32} {I : HI} {L : HL} {res : Int32 × HI × HL} (hf : fX12_fit v1 I L = some res) : CT g mX12_fit (d + 7) 0 0 n (RT tw dr sk tl ff) I L [.ref 73, .int v1] (PoI n (RT tw dr sk tl ff) res.1 res.2.1 res.2.2) := by
  refine CT.of rfl (Nat.le_of_ble_eq_true rfl) ?_
  show V g mX12_fit (d + 7) 0 0 n (RT tw dr sk tl ff) I L 0 [some (.ref 73), some (.int v1)] [] (PoI n (RT tw dr sk tl ff) res.1 res.2.1 res.2.2)
  refine V_aload_n (pc := 0) dX12_fit_0 rfl rfl rfl ?_
  refine V_iload_n (pc := 1) dX12_fit_1 rfl rfl rfl ?_
  obtain ⟨q1, hq1, hf⟩ := bnd hf
  refine V_cVv (md' := mX12_layFits) (pc := 2) dX12_fit_2 mlX12_588 mVX12_layFits (tX12_layFits hG hn hq1) rfl (by omega) (congrArg Prod.fst sh_73) rfl (Nat.le_of_ble_eq_true rfl) rfl ?_
  refine V_aload_n (pc := 5) dX12_fit_5 rfl rfl rfl ?_
  refine V_getI (pc := 6) dX12_fit_6 flX12_582 rfl (by omega) (congrArg Prod.fst sh_73) rfl ?_
  cases hf
  exact V_iret (pc := 9) dX12_fit_9 rfl PoI_mk
/-! ShadowDoorsModel.places -/
noncomputable def fX12_places (v1 : Int32) (I : HI) (L : HL) : Option (Int64 × HI × HL) :=
  Option.bind (fX12_layFits v1 I L) fun q1 =>
  if inb (1 : Int32) 5 = true then
    if inb (2 : Int32) 5 = true then
      if inb (3 : Int32) 5 = true then
        if inb (4 : Int32) 5 = true then
          some (((((q1.2 113 (1 : Int32).toNatClampNeg) ||| (q1.2 113 (2 : Int32).toNatClampNeg)) ||| (q1.2 113 (3 : Int32).toNatClampNeg)) ||| (q1.2 113 (4 : Int32).toNatClampNeg)), q1.1, q1.2)
        else none
      else none
    else none
  else none
set_option maxRecDepth 100000 in
set_option maxHeartbeats 4000000 in
theorem tX12_places {g : GG} {n d : Nat} {tw dr sk tl ff : Nat} (hG : RG tw dr sk tl ff) (hn : 116 ≤ n) {v1 : Int32} {I : HI} {L : HL} {res : Int64 × HI × HL} (hf : fX12_places v1 I L = some res) : CT g mX12_places (d + 7) 0 0 n (RT tw dr sk tl ff) I L [.ref 73, .int v1] (PoL n (RT tw dr sk tl ff) res.1 res.2.1 res.2.2) := by
  refine CT.of rfl (Nat.le_of_ble_eq_true rfl) ?_
  show V g mX12_places (d + 7) 0 0 n (RT tw dr sk tl ff) I L 0 [some (.ref 73), some (.int v1)] [] (PoL n (RT tw dr sk tl ff) res.1 res.2.1 res.2.2)
  refine V_aload_n (pc := 0) dX12_places_0 rfl rfl rfl ?_
  refine V_iload_n (pc := 1) dX12_places_1 rfl rfl rfl ?_
  obtain ⟨q1, hq1, hf⟩ := bnd hf
  refine V_cVv (md' := mX12_layFits) (pc := 2) dX12_places_2 mlX12_588 mVX12_layFits (tX12_layFits hG hn hq1) rfl (by omega) (congrArg Prod.fst sh_73) rfl (Nat.le_of_ble_eq_true rfl) rfl ?_
  refine V_aload_n (pc := 5) dX12_places_5 rfl rfl rfl ?_
  refine V_getR (pc := 6) dX12_places_6 flX12_139 rfl (by omega) (congrArg Prod.fst sh_73) rt_73_88 rfl ?_
  refine V_iconst (pc := 9) dX12_places_9 ic_1 rfl ?_
  obtain ⟨hc2, hf⟩ := pif hf
  refine V_lald (pc := 10) dX12_places_10 (by omega) sh_113 hc2 rfl ?_
  refine V_aload_n (pc := 11) dX12_places_11 rfl rfl rfl ?_
  refine V_getR (pc := 12) dX12_places_12 flX12_139 rfl (by omega) (congrArg Prod.fst sh_73) rt_73_88 rfl ?_
  refine V_iconst (pc := 15) dX12_places_15 ic_2 rfl ?_
  obtain ⟨hc3, hf⟩ := pif hf
  refine V_lald (pc := 16) dX12_places_16 (by omega) sh_113 hc3 rfl ?_
  refine V_lor (pc := 17) dX12_places_17 rfl ?_
  refine V_aload_n (pc := 18) dX12_places_18 rfl rfl rfl ?_
  refine V_getR (pc := 19) dX12_places_19 flX12_139 rfl (by omega) (congrArg Prod.fst sh_73) rt_73_88 rfl ?_
  refine V_iconst (pc := 22) dX12_places_22 ic_3 rfl ?_
  obtain ⟨hc4, hf⟩ := pif hf
  refine V_lald (pc := 23) dX12_places_23 (by omega) sh_113 hc4 rfl ?_
  refine V_lor (pc := 24) dX12_places_24 rfl ?_
  refine V_aload_n (pc := 25) dX12_places_25 rfl rfl rfl ?_
  refine V_getR (pc := 26) dX12_places_26 flX12_139 rfl (by omega) (congrArg Prod.fst sh_73) rt_73_88 rfl ?_
  refine V_iconst (pc := 29) dX12_places_29 ic_4 rfl ?_
  obtain ⟨hc5, hf⟩ := pif hf
  refine V_lald (pc := 30) dX12_places_30 (by omega) sh_113 hc5 rfl ?_
  refine V_lor (pc := 31) dX12_places_31 rfl ?_
  cases hf
  exact V_lret (pc := 32) dX12_places_32 rfl PoL_mk
/-! ShadowDoorsModel.heights -/
noncomputable def fX12_heights_9 : Nat → Int32 → Int32 → HI → HL → Option (Int32)
  | 0, _, _, _, _ => none
  | fu + 1, y2, y3, I, L =>
    if (4 : Int32) < y3 then
      some y2
    else
      if inb y3 5 = true then
        if (L 113 y3.toNatClampNeg) = (0 : Int64) then
          fX12_heights_9 fu (y2 ||| (0 : Int32)) (y3 + (1 : Int32)) I L
        else
          let x3 : Int32 := (y2 ||| ((1 : Int32) <<< ((y3 - (1 : Int32)) &&& 31)))
          fX12_heights_9 fu x3 (y3 + (1 : Int32)) I L
      else none
set_option maxRecDepth 100000 in
set_option maxHeartbeats 4000000 in
theorem lX12_heights_9 {g : GG} {n d : Nat} {tw dr sk tl ff : Nat} (hG : RG tw dr sk tl ff) (hn : 116 ≤ n) {P : PP} : ∀ (fu : Nat) (y2 : Int32) (y3 : Int32) (I : HI) (L : HL) (res : Int32), fX12_heights_9 fu y2 y3 I L = some res → P (some (.int res)) n (RT tw dr sk tl ff) I L → V g mX12_heights (d + 7) 0 0 n (RT tw dr sk tl ff) I L 9 [some (.ref 73), none, some (.int y2), some (.int y3)] [] P := by
  intro fu
  induction fu with
  | zero => intro y2 y3 I L res hf; cases (show none = some res from hf)
  | succ fu ih =>
    intro y2 y3 I L res hf K
    refine V_iload_n (pc := 9) dX12_heights_9 rfl rfl rfl ?_
    refine V_iconst (pc := 10) dX12_heights_10 ic_4 rfl ?_
    refine V_icmp_gt (pc := 11) (tgt := 43) dX12_heights_11 (by decide) rfl (fun hc => ?_) (fun hc => ?_)
    · replace hf := (if_pos hc).symm.trans hf
      refine V_iload_n (pc := 43) dX12_heights_43 rfl rfl rfl ?_
      cases hf
      exact V_iret (pc := 44) dX12_heights_44 rfl K
    · replace hf := (if_neg hc).symm.trans hf
      refine V_iload_n (pc := 14) dX12_heights_14 rfl rfl rfl ?_
      refine V_aload_n (pc := 15) dX12_heights_15 rfl rfl rfl ?_
      refine V_getR (pc := 16) dX12_heights_16 flX12_139 rfl (by omega) (congrArg Prod.fst sh_73) rt_73_88 rfl ?_
      refine V_iload_n (pc := 19) dX12_heights_19 rfl rfl rfl ?_
      obtain ⟨hc2, hf⟩ := pif hf
      refine V_lald (pc := 20) dX12_heights_20 (by omega) sh_113 hc2 rfl ?_
      refine V_lconst (pc := 21) dX12_heights_21 lc_0 rfl ?_
      refine V_lc_eq (pc := 22) (tgt := 34) dX12_heights_22 rfl dX12_heights_23 (by decide) rfl (fun hc => ?_) (fun hc => ?_)
      · replace hf := (if_pos hc).symm.trans hf
        refine V_iconst (pc := 34) dX12_heights_34 ic_0 rfl ?_
        refine V_ior (pc := 35) dX12_heights_35 rfl ?_
        refine V_istore_n (ls' := [some _, none, some _, some _]) (pc := 36) dX12_heights_36 rfl (Nat.le_of_ble_eq_true rfl) rfl rfl ?_
        refine V_iinc (ls' := [some _, none, some _, some _]) (pc := 37) dX12_heights_37 rfl (Nat.le_of_ble_eq_true rfl) (congrArg _ ic_1) rfl rfl ?_
        refine V_goto (pc := 40) (tgt := 9) dX12_heights_40 (by decide) ?_
        exact V_wk (ih _ _ _ _ _ hf K) ⟨rfl, ⟨rfl, ⟨rfl, trivial⟩⟩⟩
      · replace hf := (if_neg hc).symm.trans hf
        refine V_iconst (pc := 26) dX12_heights_26 ic_1 rfl ?_
        refine V_iload_n (pc := 27) dX12_heights_27 rfl rfl rfl ?_
        refine V_iconst (pc := 28) dX12_heights_28 ic_1 rfl ?_
        refine V_isub (pc := 29) dX12_heights_29 rfl ?_
        refine V_ishl (pc := 30) dX12_heights_30 rfl ?_
        refine V_goto (pc := 31) (tgt := 35) dX12_heights_31 (by decide) ?_
        refine V_ior (pc := 35) dX12_heights_35 rfl ?_
        let x3 : Int32 := (y2 ||| ((1 : Int32) <<< ((y3 - (1 : Int32)) &&& 31)))
        refine V_istore_n (ls' := [some _, none, some _, some _]) (pc := 36) dX12_heights_36 rfl (Nat.le_of_ble_eq_true rfl) rfl rfl ?_
        refine V_iinc (ls' := [some _, none, some _, some _]) (pc := 37) dX12_heights_37 rfl (Nat.le_of_ble_eq_true rfl) (congrArg _ ic_1) rfl rfl ?_
        refine V_goto (pc := 40) (tgt := 9) dX12_heights_40 (by decide) ?_
        exact V_wk (ih _ _ _ _ _ hf K) ⟨rfl, ⟨rfl, ⟨rfl, trivial⟩⟩⟩
noncomputable def fX12_heights (v1 : Int32) (I : HI) (L : HL) : Option (Int32 × HI × HL) :=
  Option.bind (fX12_layFits v1 I L) fun q1 =>
  Option.bind (fX12_heights_9 FUEL (0 : Int32) (1 : Int32) q1.1 q1.2) fun q4 =>
  some (q4, q1.1, q1.2)
set_option maxRecDepth 100000 in
set_option maxHeartbeats 4000000 in
theorem tX12_heights {g : GG} {n d : Nat} {tw dr sk tl ff : Nat} (hG : RG tw dr sk tl ff) (hn : 116 ≤ n) {v1 : Int32} {I : HI} {L : HL} {res : Int32 × HI × HL} (hf : fX12_heights v1 I L = some res) : CT g mX12_heights (d + 7) 0 0 n (RT tw dr sk tl ff) I L [.ref 73, .int v1] (PoI n (RT tw dr sk tl ff) res.1 res.2.1 res.2.2) := by
  refine CT.of rfl (Nat.le_of_ble_eq_true rfl) ?_
  show V g mX12_heights (d + 7) 0 0 n (RT tw dr sk tl ff) I L 0 [some (.ref 73), some (.int v1)] [] (PoI n (RT tw dr sk tl ff) res.1 res.2.1 res.2.2)
  refine V_aload_n (pc := 0) dX12_heights_0 rfl rfl rfl ?_
  refine V_iload_n (pc := 1) dX12_heights_1 rfl rfl rfl ?_
  obtain ⟨q1, hq1, hf⟩ := bnd hf
  refine V_cVv (md' := mX12_layFits) (pc := 2) dX12_heights_2 mlX12_588 mVX12_layFits (tX12_layFits hG hn hq1) rfl (by omega) (congrArg Prod.fst sh_73) rfl (Nat.le_of_ble_eq_true rfl) rfl ?_
  refine V_iconst (pc := 5) dX12_heights_5 ic_0 rfl ?_
  refine V_istore_n (ls' := [some _, some _, some _]) (pc := 6) dX12_heights_6 rfl (Nat.le_of_ble_eq_true rfl) rfl rfl ?_
  refine V_iconst (pc := 7) dX12_heights_7 ic_1 rfl ?_
  refine V_istore_n (ls' := [some _, some _, some _, some _]) (pc := 8) dX12_heights_8 rfl (Nat.le_of_ble_eq_true rfl) rfl rfl ?_
  obtain ⟨q4, hq4, hf⟩ := bnd hf
  refine V_wk (lX12_heights_9 hG hn FUEL _ _ _ _ _ hq4 ?_) ⟨rfl, ⟨rfl, ⟨rfl, trivial⟩⟩⟩
  cases hf
  exact PoI_mk
/-! ShadowDoorsModel.leftBy -/
noncomputable def fX12_leftBy_14 : Nat → Int32 → Int32 → Int32 → Int32 → Int32 → HI → HL → Option (Int32 × HI)
  | 0, _, _, _, _, _, _, _ => none
  | fu + 1, y1, y2, y3, y4, y5, I, L =>
    if ((I 73 52) * (I 73 53)) ≤ y5 then
      some (y3, I)
    else
      if inb y4 5 = true then
        if (b2i (fX12_has (L 113 y4.toNatClampNeg) y5)) = 0 then
          fX12_leftBy_14 fu y1 y2 (y3 + (0 : Int32)) y4 (y5 + (1 : Int32)) I L
        else
          Option.bind (fX12_wouldBe y5 y4 y1 y2 I L) fun q2 =>
          if (b2i q2.1) = 0 then
            fX12_leftBy_14 fu y1 y2 (y3 + (0 : Int32)) y4 (y5 + (1 : Int32)) q2.2 L
          else
            fX12_leftBy_14 fu y1 y2 (y3 + (1 : Int32)) y4 (y5 + (1 : Int32)) q2.2 L
      else none
set_option maxRecDepth 100000 in
set_option maxHeartbeats 4000000 in
theorem lX12_leftBy_14 {g : GG} {n d : Nat} {tw dr sk tl ff : Nat} (hG : RG tw dr sk tl ff) (hn : 116 ≤ n) {P : PP} : ∀ (fu : Nat) (y1 : Int32) (y2 : Int32) (y3 : Int32) (y4 : Int32) (y5 : Int32) (I : HI) (L : HL) (res : Int32 × HI), fX12_leftBy_14 fu y1 y2 y3 y4 y5 I L = some res → V g mX12_leftBy (d + 5) 0 0 n (RT tw dr sk tl ff) res.2 L 70 [some (.ref 73), some (.int y1), some (.int y2), some (.int res.1), some (.int y4)] [] P → V g mX12_leftBy (d + 5) 0 0 n (RT tw dr sk tl ff) I L 14 [some (.ref 73), some (.int y1), some (.int y2), some (.int y3), some (.int y4), some (.int y5)] [] P := by
  intro fu
  induction fu with
  | zero => intro y1 y2 y3 y4 y5 I L res hf; cases (show none = some res from hf)
  | succ fu ih =>
    intro y1 y2 y3 y4 y5 I L res hf K
    refine V_iload (pc := 14) dX12_leftBy_14 rfl rfl ?_
    refine V_aload_n (pc := 16) dX12_leftBy_16 rfl rfl rfl ?_
    refine V_getI (pc := 17) dX12_leftBy_17 flX12_90 rfl (by omega) (congrArg Prod.fst sh_73) rfl ?_
    refine V_aload_n (pc := 20) dX12_leftBy_20 rfl rfl rfl ?_
    refine V_getI (pc := 21) dX12_leftBy_21 flX12_93 rfl (by omega) (congrArg Prod.fst sh_73) rfl ?_
    refine V_imul (pc := 24) dX12_leftBy_24 rfl ?_
    refine V_icmp_ge (pc := 25) (tgt := 70) dX12_leftBy_25 (by decide) rfl (fun hc => ?_) (fun hc => ?_)
    · replace hf := (if_pos hc).symm.trans hf
      cases hf
      exact V_wk K ⟨rfl, ⟨rfl, ⟨rfl, ⟨rfl, ⟨rfl, trivial⟩⟩⟩⟩⟩
    · replace hf := (if_neg hc).symm.trans hf
      refine V_iload_n (pc := 28) dX12_leftBy_28 rfl rfl rfl ?_
      refine V_aload_n (pc := 29) dX12_leftBy_29 rfl rfl rfl ?_
      refine V_getR (pc := 30) dX12_leftBy_30 flX12_139 rfl (by omega) (congrArg Prod.fst sh_73) rt_73_88 rfl ?_
      refine V_iload (pc := 33) dX12_leftBy_33 rfl rfl ?_
      obtain ⟨hc1, hf⟩ := pif hf
      refine V_lald (pc := 35) dX12_leftBy_35 (by omega) sh_113 hc1 rfl ?_
      refine V_iload (pc := 36) dX12_leftBy_36 rfl rfl ?_
      refine V_cSz (md' := mX12_has) (pc := 38) dX12_leftBy_38 mlX12_330 mSX12_has (tX12_has rfl) rfl rfl (Nat.le_of_ble_eq_true rfl) rfl ?_
      refine V_if_eq (pc := 41) (tgt := 61) dX12_leftBy_41 (by decide) rfl (fun hc => ?_) (fun hc => ?_)
      · replace hf := (if_pos hc).symm.trans hf
        refine V_iconst (pc := 61) dX12_leftBy_61 ic_0 rfl ?_
        refine V_iadd (pc := 62) dX12_leftBy_62 rfl ?_
        refine V_istore_n (ls' := [some _, some _, some _, some _, some _, some _]) (pc := 63) dX12_leftBy_63 rfl (Nat.le_of_ble_eq_true rfl) rfl rfl ?_
        refine V_iinc (ls' := [some _, some _, some _, some _, some _, some _]) (pc := 64) dX12_leftBy_64 rfl (Nat.le_of_ble_eq_true rfl) (congrArg _ ic_1) rfl rfl ?_
        refine V_goto (pc := 67) (tgt := 14) dX12_leftBy_67 (by decide) ?_
        exact V_wk (ih _ _ _ _ _ _ _ _ hf K) ⟨rfl, ⟨rfl, ⟨rfl, ⟨rfl, ⟨rfl, ⟨rfl, trivial⟩⟩⟩⟩⟩⟩
      · replace hf := (if_neg hc).symm.trans hf
        refine V_aload_n (pc := 44) dX12_leftBy_44 rfl rfl rfl ?_
        refine V_iload (pc := 45) dX12_leftBy_45 rfl rfl ?_
        refine V_iload (pc := 47) dX12_leftBy_47 rfl rfl ?_
        refine V_iload_n (pc := 49) dX12_leftBy_49 rfl rfl rfl ?_
        refine V_iload_n (pc := 50) dX12_leftBy_50 rfl rfl rfl ?_
        obtain ⟨q2, hq2, hf⟩ := bnd hf
        refine V_cVz (md' := mX12_wouldBe) (pc := 51) dX12_leftBy_51 mlX12_579 mVX12_wouldBe (tX12_wouldBe hG hn hq2) rfl (by omega) (congrArg Prod.fst sh_73) rfl (Nat.le_of_ble_eq_true rfl) rfl ?_
        refine V_if_eq (pc := 54) (tgt := 61) dX12_leftBy_54 (by decide) rfl (fun hc => ?_) (fun hc => ?_)
        · replace hf := (if_pos hc).symm.trans hf
          refine V_iconst (pc := 61) dX12_leftBy_61 ic_0 rfl ?_
          refine V_iadd (pc := 62) dX12_leftBy_62 rfl ?_
          refine V_istore_n (ls' := [some _, some _, some _, some _, some _, some _]) (pc := 63) dX12_leftBy_63 rfl (Nat.le_of_ble_eq_true rfl) rfl rfl ?_
          refine V_iinc (ls' := [some _, some _, some _, some _, some _, some _]) (pc := 64) dX12_leftBy_64 rfl (Nat.le_of_ble_eq_true rfl) (congrArg _ ic_1) rfl rfl ?_
          refine V_goto (pc := 67) (tgt := 14) dX12_leftBy_67 (by decide) ?_
          exact V_wk (ih _ _ _ _ _ _ _ _ hf K) ⟨rfl, ⟨rfl, ⟨rfl, ⟨rfl, ⟨rfl, ⟨rfl, trivial⟩⟩⟩⟩⟩⟩
        · replace hf := (if_neg hc).symm.trans hf
          refine V_iconst (pc := 57) dX12_leftBy_57 ic_1 rfl ?_
          refine V_goto (pc := 58) (tgt := 62) dX12_leftBy_58 (by decide) ?_
          refine V_iadd (pc := 62) dX12_leftBy_62 rfl ?_
          refine V_istore_n (ls' := [some _, some _, some _, some _, some _, some _]) (pc := 63) dX12_leftBy_63 rfl (Nat.le_of_ble_eq_true rfl) rfl rfl ?_
          refine V_iinc (ls' := [some _, some _, some _, some _, some _, some _]) (pc := 64) dX12_leftBy_64 rfl (Nat.le_of_ble_eq_true rfl) (congrArg _ ic_1) rfl rfl ?_
          refine V_goto (pc := 67) (tgt := 14) dX12_leftBy_67 (by decide) ?_
          exact V_wk (ih _ _ _ _ _ _ _ _ hf K) ⟨rfl, ⟨rfl, ⟨rfl, ⟨rfl, ⟨rfl, ⟨rfl, trivial⟩⟩⟩⟩⟩⟩
noncomputable def fX12_leftBy_5 : Nat → Int32 → Int32 → Int32 → Int32 → HI → HL → Option (Int32 × HI)
  | 0, _, _, _, _, _, _ => none
  | fu + 1, y1, y2, y3, y4, I, L =>
    if (4 : Int32) < y4 then
      some (y3, I)
    else
      Option.bind (fX12_leftBy_14 FUEL y1 y2 y3 y4 (0 : Int32) I L) fun q3 =>
      fX12_leftBy_5 fu y1 y2 q3.1 (y4 + (1 : Int32)) q3.2 L
set_option maxRecDepth 100000 in
set_option maxHeartbeats 4000000 in
theorem lX12_leftBy_5 {g : GG} {n d : Nat} {tw dr sk tl ff : Nat} (hG : RG tw dr sk tl ff) (hn : 116 ≤ n) {P : PP} : ∀ (fu : Nat) (y1 : Int32) (y2 : Int32) (y3 : Int32) (y4 : Int32) (I : HI) (L : HL) (res : Int32 × HI), fX12_leftBy_5 fu y1 y2 y3 y4 I L = some res → V g mX12_leftBy (d + 5) 0 0 n (RT tw dr sk tl ff) res.2 L 76 [some (.ref 73), none, none, some (.int res.1)] [] P → V g mX12_leftBy (d + 5) 0 0 n (RT tw dr sk tl ff) I L 5 [some (.ref 73), some (.int y1), some (.int y2), some (.int y3), some (.int y4)] [] P := by
  intro fu
  induction fu with
  | zero => intro y1 y2 y3 y4 I L res hf; cases (show none = some res from hf)
  | succ fu ih =>
    intro y1 y2 y3 y4 I L res hf K
    refine V_iload (pc := 5) dX12_leftBy_5 rfl rfl ?_
    refine V_iconst (pc := 7) dX12_leftBy_7 ic_4 rfl ?_
    refine V_icmp_gt (pc := 8) (tgt := 76) dX12_leftBy_8 (by decide) rfl (fun hc => ?_) (fun hc => ?_)
    · replace hf := (if_pos hc).symm.trans hf
      cases hf
      exact V_wk K ⟨rfl, ⟨rfl, trivial⟩⟩
    · replace hf := (if_neg hc).symm.trans hf
      refine V_iconst (pc := 11) dX12_leftBy_11 ic_0 rfl ?_
      refine V_istore (ls' := [some _, some _, some _, some _, some _, some _]) (pc := 12) dX12_leftBy_12 (Nat.le_of_ble_eq_true rfl) rfl rfl ?_
      obtain ⟨q3, hq3, hf⟩ := bnd hf
      refine V_wk (lX12_leftBy_14 hG hn FUEL _ _ _ _ _ _ _ _ hq3 ?_) ⟨rfl, ⟨rfl, ⟨rfl, ⟨rfl, ⟨rfl, ⟨rfl, trivial⟩⟩⟩⟩⟩⟩
      refine V_iinc (ls' := [some _, some _, some _, some _, some _]) (pc := 70) dX12_leftBy_70 rfl (Nat.le_of_ble_eq_true rfl) (congrArg _ ic_1) rfl rfl ?_
      refine V_goto (pc := 73) (tgt := 5) dX12_leftBy_73 (by decide) ?_
      exact V_wk (ih _ _ _ _ _ _ _ hf K) ⟨rfl, ⟨rfl, ⟨rfl, ⟨rfl, ⟨rfl, trivial⟩⟩⟩⟩⟩
noncomputable def fX12_leftBy (v1 : Int32) (v2 : Int32) (I : HI) (L : HL) : Option (Int32 × HI) :=
  Option.bind (fX12_leftBy_5 FUEL v1 v2 (0 : Int32) (1 : Int32) I L) fun q4 =>
  if q4.1 ≤ ((q4.2 73 89) - q4.1) then
    some (((q4.2 73 89) - q4.1), q4.2)
  else
    some (q4.1, q4.2)
set_option maxRecDepth 100000 in
set_option maxHeartbeats 4000000 in
theorem tX12_leftBy {g : GG} {n d : Nat} {tw dr sk tl ff : Nat} (hG : RG tw dr sk tl ff) (hn : 116 ≤ n) {v1 : Int32} {v2 : Int32} {I : HI} {L : HL} {res : Int32 × HI} (hf : fX12_leftBy v1 v2 I L = some res) : CT g mX12_leftBy (d + 5) 0 0 n (RT tw dr sk tl ff) I L [.ref 73, .int v1, .int v2] (PoI n (RT tw dr sk tl ff) res.1 res.2 L) := by
  refine CT.of rfl (Nat.le_of_ble_eq_true rfl) ?_
  show V g mX12_leftBy (d + 5) 0 0 n (RT tw dr sk tl ff) I L 0 [some (.ref 73), some (.int v1), some (.int v2)] [] (PoI n (RT tw dr sk tl ff) res.1 res.2 L)
  refine V_iconst (pc := 0) dX12_leftBy_0 ic_0 rfl ?_
  refine V_istore_n (ls' := [some _, some _, some _, some _]) (pc := 1) dX12_leftBy_1 rfl (Nat.le_of_ble_eq_true rfl) rfl rfl ?_
  refine V_iconst (pc := 2) dX12_leftBy_2 ic_1 rfl ?_
  refine V_istore (ls' := [some _, some _, some _, some _, some _]) (pc := 3) dX12_leftBy_3 (Nat.le_of_ble_eq_true rfl) rfl rfl ?_
  obtain ⟨q4, hq4, hf⟩ := bnd hf
  refine V_wk (lX12_leftBy_5 hG hn FUEL _ _ _ _ _ _ _ hq4 ?_) ⟨rfl, ⟨rfl, ⟨rfl, ⟨rfl, ⟨rfl, trivial⟩⟩⟩⟩⟩
  refine V_iload_n (pc := 76) dX12_leftBy_76 rfl rfl rfl ?_
  refine V_aload_n (pc := 77) dX12_leftBy_77 rfl rfl rfl ?_
  refine V_getI (pc := 78) dX12_leftBy_78 flX12_582 rfl (by omega) (congrArg Prod.fst sh_73) rfl ?_
  refine V_iload_n (pc := 81) dX12_leftBy_81 rfl rfl rfl ?_
  refine V_isub (pc := 82) dX12_leftBy_82 rfl ?_
  refine V_icmp_le (pc := 83) (tgt := 90) dX12_leftBy_83 (by decide) rfl (fun hc => ?_) (fun hc => ?_)
  · replace hf := (if_pos hc).symm.trans hf
    refine V_aload_n (pc := 90) dX12_leftBy_90 rfl rfl rfl ?_
    refine V_getI (pc := 91) dX12_leftBy_91 flX12_582 rfl (by omega) (congrArg Prod.fst sh_73) rfl ?_
    refine V_iload_n (pc := 94) dX12_leftBy_94 rfl rfl rfl ?_
    refine V_isub (pc := 95) dX12_leftBy_95 rfl ?_
    cases hf
    exact V_iret (pc := 96) dX12_leftBy_96 rfl PoI_mk
  · replace hf := (if_neg hc).symm.trans hf
    refine V_iload_n (pc := 86) dX12_leftBy_86 rfl rfl rfl ?_
    refine V_goto (pc := 87) (tgt := 96) dX12_leftBy_87 (by decide) ?_
    cases hf
    exact V_iret (pc := 96) dX12_leftBy_96 rfl PoI_mk
/-! ShadowDoorsModel.ask -/
noncomputable def fX12_ask_45 : Nat → Int32 → Int32 → Int32 → Int32 → Int32 → HI → HL → Option (Int32 × Int32 × HI)
  | 0, _, _, _, _, _, _, _ => none
  | fu + 1, y1, y3, y4, y5, y6, I, L =>
    if ((I 73 52) * (I 73 53)) ≤ y6 then
      some (y3, y4, I)
    else
      Option.bind (
        if (b2i (fX12_has (L 73 44) y6)) = 0 then
          Option.bind (fX12_leftBy y5 y6 I L) fun q4 =>
          some (q4.1, q4.2)
        else
          some ((1000 : Int32), I)
      ) fun q3 =>
      if q3.1 < y4 then
        let x5 : Int32 := (((100 : Int32) * y5) + y6)
        fX12_ask_45 fu y1 x5 q3.1 y5 (y6 + (1 : Int32)) q3.2 L
      else
        fX12_ask_45 fu y1 y3 y4 y5 (y6 + (1 : Int32)) q3.2 L
set_option maxRecDepth 100000 in
set_option maxHeartbeats 4000000 in
theorem lX12_ask_45 {g : GG} {n d : Nat} {tw dr sk tl ff : Nat} (hG : RG tw dr sk tl ff) (hn : 116 ≤ n) {P : PP} : ∀ (fu : Nat) (y1 : Int32) (y3 : Int32) (y4 : Int32) (y5 : Int32) (y6 : Int32) (I : HI) (L : HL) (res : Int32 × Int32 × HI), fX12_ask_45 fu y1 y3 y4 y5 y6 I L = some res → V g mX12_ask (d + 7) 0 0 n (RT tw dr sk tl ff) res.2.2 L 116 [some (.ref 73), some (.int y1), none, some (.int res.1), some (.int res.2.1), some (.int y5)] [] P → V g mX12_ask (d + 7) 0 0 n (RT tw dr sk tl ff) I L 45 [some (.ref 73), some (.int y1), none, some (.int y3), some (.int y4), some (.int y5), some (.int y6)] [] P := by
  intro fu
  induction fu with
  | zero => intro y1 y3 y4 y5 y6 I L res hf; cases (show none = some res from hf)
  | succ fu ih =>
    intro y1 y3 y4 y5 y6 I L res hf K
    refine V_iload (pc := 45) dX12_ask_45 rfl rfl ?_
    refine V_aload_n (pc := 47) dX12_ask_47 rfl rfl rfl ?_
    refine V_getI (pc := 48) dX12_ask_48 flX12_90 rfl (by omega) (congrArg Prod.fst sh_73) rfl ?_
    refine V_aload_n (pc := 51) dX12_ask_51 rfl rfl rfl ?_
    refine V_getI (pc := 52) dX12_ask_52 flX12_93 rfl (by omega) (congrArg Prod.fst sh_73) rfl ?_
    refine V_imul (pc := 55) dX12_ask_55 rfl ?_
    refine V_icmp_ge (pc := 56) (tgt := 116) dX12_ask_56 (by decide) rfl (fun hc => ?_) (fun hc => ?_)
    · replace hf := (if_pos hc).symm.trans hf
      cases hf
      exact V_wk K ⟨rfl, ⟨rfl, ⟨rfl, ⟨rfl, ⟨rfl, trivial⟩⟩⟩⟩⟩
    · replace hf := (if_neg hc).symm.trans hf
      refine V_aload_n (pc := 59) dX12_ask_59 rfl rfl rfl ?_
      refine V_getL (pc := 60) dX12_ask_60 flX12_403 rfl (by omega) (congrArg Prod.fst sh_73) rfl ?_
      refine V_iload (pc := 63) dX12_ask_63 rfl rfl ?_
      refine V_cSz (md' := mX12_has) (pc := 65) dX12_ask_65 mlX12_330 mSX12_has (tX12_has rfl) rfl rfl (Nat.le_of_ble_eq_true rfl) rfl ?_
      obtain ⟨q3, hq3, hf⟩ := bnd hf
      have Kq3 : V g mX12_ask (d + 7) 0 0 n (RT tw dr sk tl ff) q3.2 L 85 [some (.ref 73), some (.int y1), none, some (.int y3), some (.int y4), some (.int y5), some (.int y6)] [.int q3.1] P := by
        refine V_istore (ls' := [some _, some _, none, some _, some _, some _, some _, some _]) (pc := 85) dX12_ask_85 (Nat.le_of_ble_eq_true rfl) rfl rfl ?_
        refine V_iload (pc := 87) dX12_ask_87 rfl rfl ?_
        refine V_iload (pc := 89) dX12_ask_89 rfl rfl ?_
        refine V_icmp_lt (pc := 91) (tgt := 97) dX12_ask_91 (by decide) rfl (fun hc => ?_) (fun hc => ?_)
        · replace hf := (if_pos hc).symm.trans hf
          refine V_bipush (pc := 97) dX12_ask_97 bp_100 rfl ?_
          refine V_iload (pc := 99) dX12_ask_99 rfl rfl ?_
          refine V_imul (pc := 101) dX12_ask_101 rfl ?_
          refine V_iload (pc := 102) dX12_ask_102 rfl rfl ?_
          refine V_iadd (pc := 104) dX12_ask_104 rfl ?_
          let x5 : Int32 := (((100 : Int32) * y5) + y6)
          refine V_istore_n (ls' := [some _, some _, none, some _, some _, some _, some _, some _]) (pc := 105) dX12_ask_105 rfl (Nat.le_of_ble_eq_true rfl) rfl rfl ?_
          refine V_iload (pc := 106) dX12_ask_106 rfl rfl ?_
          refine V_istore (ls' := [some _, some _, none, some _, some _, some _, some _, some _]) (pc := 108) dX12_ask_108 (Nat.le_of_ble_eq_true rfl) rfl rfl ?_
          refine V_iinc (ls' := [some _, some _, none, some _, some _, some _, some _, some _]) (pc := 110) dX12_ask_110 rfl (Nat.le_of_ble_eq_true rfl) (congrArg _ ic_1) rfl rfl ?_
          refine V_goto (pc := 113) (tgt := 45) dX12_ask_113 (by decide) ?_
          exact V_wk (ih _ _ _ _ _ _ _ _ hf K) ⟨rfl, ⟨rfl, ⟨rfl, ⟨rfl, ⟨rfl, ⟨rfl, trivial⟩⟩⟩⟩⟩⟩
        · replace hf := (if_neg hc).symm.trans hf
          refine V_goto (pc := 94) (tgt := 110) dX12_ask_94 (by decide) ?_
          refine V_iinc (ls' := [some _, some _, none, some _, some _, some _, some _, some _]) (pc := 110) dX12_ask_110 rfl (Nat.le_of_ble_eq_true rfl) (congrArg _ ic_1) rfl rfl ?_
          refine V_goto (pc := 113) (tgt := 45) dX12_ask_113 (by decide) ?_
          exact V_wk (ih _ _ _ _ _ _ _ _ hf K) ⟨rfl, ⟨rfl, ⟨rfl, ⟨rfl, ⟨rfl, ⟨rfl, trivial⟩⟩⟩⟩⟩⟩
      refine V_if_eq (pc := 68) (tgt := 77) dX12_ask_68 (by decide) rfl (fun hc => ?_) (fun hc => ?_)
      · replace hq3 := (if_pos hc).symm.trans hq3
        refine V_aload_n (pc := 77) dX12_ask_77 rfl rfl rfl ?_
        refine V_iload (pc := 78) dX12_ask_78 rfl rfl ?_
        refine V_iload (pc := 80) dX12_ask_80 rfl rfl ?_
        obtain ⟨q4, hq4, hq3⟩ := bnd hq3
        refine V_cVi (md' := mX12_leftBy) (pc := 82) dX12_ask_82 mlX12_591 mVX12_leftBy (tX12_leftBy hG hn hq4) rfl (by omega) (congrArg Prod.fst sh_73) rfl (Nat.le_of_ble_eq_true rfl) rfl ?_
        cases hq3
        exact V_wk Kq3 ⟨rfl, ⟨rfl, ⟨rfl, ⟨rfl, ⟨rfl, ⟨rfl, trivial⟩⟩⟩⟩⟩⟩
      · replace hq3 := (if_neg hc).symm.trans hq3
        refine V_sipush (pc := 71) dX12_ask_71 sp_1000 rfl ?_
        refine V_goto (pc := 74) (tgt := 85) dX12_ask_74 (by decide) ?_
        cases hq3
        exact V_wk Kq3 ⟨rfl, ⟨rfl, ⟨rfl, ⟨rfl, ⟨rfl, ⟨rfl, trivial⟩⟩⟩⟩⟩⟩
noncomputable def fX12_ask_35 : Nat → Int32 → Int32 → Int32 → Int32 → HI → HL → Option (Int32 × Int32 × HI)
  | 0, _, _, _, _, _, _ => none
  | fu + 1, y1, y3, y4, y5, I, L =>
    if (24 : Int32) ≤ y5 then
      some (y3, y4, I)
    else
      Option.bind (fX12_ask_45 FUEL y1 y3 y4 y5 (0 : Int32) I L) fun q6 =>
      fX12_ask_35 fu y1 q6.1 q6.2.1 (y5 + (1 : Int32)) q6.2.2 L
set_option maxRecDepth 100000 in
set_option maxHeartbeats 4000000 in
theorem lX12_ask_35 {g : GG} {n d : Nat} {tw dr sk tl ff : Nat} (hG : RG tw dr sk tl ff) (hn : 116 ≤ n) {P : PP} : ∀ (fu : Nat) (y1 : Int32) (y3 : Int32) (y4 : Int32) (y5 : Int32) (I : HI) (L : HL) (res : Int32 × Int32 × HI), fX12_ask_35 fu y1 y3 y4 y5 I L = some res → V g mX12_ask (d + 7) 0 0 n (RT tw dr sk tl ff) res.2.2 L 122 [none, some (.int y1), none, some (.int res.1), some (.int res.2.1)] [] P → V g mX12_ask (d + 7) 0 0 n (RT tw dr sk tl ff) I L 35 [some (.ref 73), some (.int y1), none, some (.int y3), some (.int y4), some (.int y5)] [] P := by
  intro fu
  induction fu with
  | zero => intro y1 y3 y4 y5 I L res hf; cases (show none = some res from hf)
  | succ fu ih =>
    intro y1 y3 y4 y5 I L res hf K
    refine V_iload (pc := 35) dX12_ask_35 rfl rfl ?_
    refine V_bipush (pc := 37) dX12_ask_37 bp_24 rfl ?_
    refine V_icmp_ge (pc := 39) (tgt := 122) dX12_ask_39 (by decide) rfl (fun hc => ?_) (fun hc => ?_)
    · replace hf := (if_pos hc).symm.trans hf
      cases hf
      exact V_wk K ⟨rfl, ⟨rfl, ⟨rfl, trivial⟩⟩⟩
    · replace hf := (if_neg hc).symm.trans hf
      refine V_iconst (pc := 42) dX12_ask_42 ic_0 rfl ?_
      refine V_istore (ls' := [some _, some _, none, some _, some _, some _, some _]) (pc := 43) dX12_ask_43 (Nat.le_of_ble_eq_true rfl) rfl rfl ?_
      obtain ⟨q6, hq6, hf⟩ := bnd hf
      refine V_wk (lX12_ask_45 hG hn FUEL _ _ _ _ _ _ _ _ hq6 ?_) ⟨rfl, ⟨rfl, ⟨rfl, ⟨rfl, ⟨rfl, ⟨rfl, trivial⟩⟩⟩⟩⟩⟩
      refine V_iinc (ls' := [some _, some _, none, some _, some _, some _]) (pc := 116) dX12_ask_116 rfl (Nat.le_of_ble_eq_true rfl) (congrArg _ ic_1) rfl rfl ?_
      refine V_goto (pc := 119) (tgt := 35) dX12_ask_119 (by decide) ?_
      exact V_wk (ih _ _ _ _ _ _ _ hf K) ⟨rfl, ⟨rfl, ⟨rfl, ⟨rfl, ⟨rfl, trivial⟩⟩⟩⟩⟩
noncomputable def fX12_ask (v1 : Int32) (v2 : Int32) (I : HI) (L : HL) : Option (Int32 × HI × HL) :=
  if (b2i (fX12_isIn v1 (0 : Int32) (1 : Int32))) = 0 then
    some ((-1 : Int32), I, L)
  else
    Option.bind (fX12_layFits v2 I L) fun q1 =>
    if (q1.1 73 89) = 0 then
      some ((-1 : Int32), q1.1, q1.2)
    else
      Option.bind (fX12_ask_35 FUEL v1 (-1 : Int32) (1000 : Int32) (0 : Int32) q1.1 q1.2) fun q7 =>
      if v1 = 0 then
        some (q7.1, q7.2.2, q1.2)
      else
        some (q7.2.1, q7.2.2, q1.2)
set_option maxRecDepth 100000 in
set_option maxHeartbeats 4000000 in
theorem tX12_ask {g : GG} {n d : Nat} {tw dr sk tl ff : Nat} (hG : RG tw dr sk tl ff) (hn : 116 ≤ n) {v1 : Int32} {v2 : Int32} {I : HI} {L : HL} {res : Int32 × HI × HL} (hf : fX12_ask v1 v2 I L = some res) : CT g mX12_ask (d + 7) 0 0 n (RT tw dr sk tl ff) I L [.ref 73, .int v1, .int v2] (PoI n (RT tw dr sk tl ff) res.1 res.2.1 res.2.2) := by
  refine CT.of rfl (Nat.le_of_ble_eq_true rfl) ?_
  show V g mX12_ask (d + 7) 0 0 n (RT tw dr sk tl ff) I L 0 [some (.ref 73), some (.int v1), some (.int v2)] [] (PoI n (RT tw dr sk tl ff) res.1 res.2.1 res.2.2)
  refine V_iload_n (pc := 0) dX12_ask_0 rfl rfl rfl ?_
  refine V_iconst (pc := 1) dX12_ask_1 ic_0 rfl ?_
  refine V_iconst (pc := 2) dX12_ask_2 ic_1 rfl ?_
  refine V_cSz (md' := mX12_isIn) (pc := 3) dX12_ask_3 mlX12_436 mSX12_isIn (tX12_isIn rfl) rfl rfl (Nat.le_of_ble_eq_true rfl) rfl ?_
  refine V_if_ne (pc := 6) (tgt := 11) dX12_ask_6 (by decide) rfl (fun hc => ?_) (fun hc => ?_)
  · replace hf := (if_neg hc).symm.trans hf
    refine V_aload_n (pc := 11) dX12_ask_11 rfl rfl rfl ?_
    refine V_iload_n (pc := 12) dX12_ask_12 rfl rfl rfl ?_
    obtain ⟨q1, hq1, hf⟩ := bnd hf
    refine V_cVv (md' := mX12_layFits) (pc := 13) dX12_ask_13 mlX12_588 mVX12_layFits (tX12_layFits hG hn hq1) rfl (by omega) (congrArg Prod.fst sh_73) rfl (Nat.le_of_ble_eq_true rfl) rfl ?_
    refine V_aload_n (pc := 16) dX12_ask_16 rfl rfl rfl ?_
    refine V_getI (pc := 17) dX12_ask_17 flX12_582 rfl (by omega) (congrArg Prod.fst sh_73) rfl ?_
    refine V_if_ne (pc := 20) (tgt := 25) dX12_ask_20 (by decide) rfl (fun hc => ?_) (fun hc => ?_)
    · replace hf := (if_neg hc).symm.trans hf
      refine V_iconst (pc := 25) dX12_ask_25 ic_m1 rfl ?_
      refine V_istore_n (ls' := [some _, some _, some _, some _]) (pc := 26) dX12_ask_26 rfl (Nat.le_of_ble_eq_true rfl) rfl rfl ?_
      refine V_sipush (pc := 27) dX12_ask_27 sp_1000 rfl ?_
      refine V_istore (ls' := [some _, some _, some _, some _, some _]) (pc := 30) dX12_ask_30 (Nat.le_of_ble_eq_true rfl) rfl rfl ?_
      refine V_iconst (pc := 32) dX12_ask_32 ic_0 rfl ?_
      refine V_istore (ls' := [some _, some _, some _, some _, some _, some _]) (pc := 33) dX12_ask_33 (Nat.le_of_ble_eq_true rfl) rfl rfl ?_
      obtain ⟨q7, hq7, hf⟩ := bnd hf
      refine V_wk (lX12_ask_35 hG hn FUEL _ _ _ _ _ _ _ hq7 ?_) ⟨rfl, ⟨rfl, ⟨rfl, ⟨rfl, ⟨rfl, trivial⟩⟩⟩⟩⟩
      refine V_iload_n (pc := 122) dX12_ask_122 rfl rfl rfl ?_
      refine V_if_ne (pc := 123) (tgt := 130) dX12_ask_123 (by decide) rfl (fun hc => ?_) (fun hc => ?_)
      · replace hf := (if_neg hc).symm.trans hf
        refine V_iload (pc := 130) dX12_ask_130 rfl rfl ?_
        cases hf
        exact V_iret (pc := 132) dX12_ask_132 rfl PoI_mk
      · replace hf := (if_pos hc).symm.trans hf
        refine V_iload_n (pc := 126) dX12_ask_126 rfl rfl rfl ?_
        refine V_goto (pc := 127) (tgt := 132) dX12_ask_127 (by decide) ?_
        cases hf
        exact V_iret (pc := 132) dX12_ask_132 rfl PoI_mk
    · replace hf := (if_pos hc).symm.trans hf
      refine V_iconst (pc := 23) dX12_ask_23 ic_m1 rfl ?_
      cases hf
      exact V_iret (pc := 24) dX12_ask_24 rfl PoI_mk
  · replace hf := (if_pos hc).symm.trans hf
    refine V_iconst (pc := 9) dX12_ask_9 ic_m1 rfl ?_
    cases hf
    exact V_iret (pc := 10) dX12_ask_10 rfl PoI_mk
/-! ShadowDoorsModel.isBox -/
noncomputable def fX12_isBox (v1 : Int32) : Bool :=
  tbn (
    if v1 < 0 then
      true
    else
      if (3 : Int32) ≤ v1 then
        true
      else
        false
  ) fun b1 =>
  if b1 = true then
    false
  else
    true
set_option maxRecDepth 100000 in
set_option maxHeartbeats 4000000 in
theorem tX12_isBox {g : GG} {n d : Nat} {r : HR}  {v1 : Int32} {I : HI} {L : HL} {res : Bool} (hf : fX12_isBox v1 = res) : CT g mX12_isBox (d + 1) 0 0 n r I L [.int v1] (PoB n r res I L) := by
  refine CT.of rfl (Nat.le_of_ble_eq_true rfl) ?_
  show V g mX12_isBox (d + 1) 0 0 n r I L 0 [some (.int v1)] [] (PoB n r res I L)
  refine V_iload_n (pc := 0) dX12_isBox_0 rfl rfl rfl ?_
  obtain ⟨b1, hb1, hf⟩ := tbd hf
  have KTb1 : b1 = true → V g mX12_isBox (d + 1) 0 0 n r I L 13 [some (.int v1)] [] (PoB n r res I L) := fun hc => by
    replace hf := (if_pos hc).symm.trans hf
    refine V_iconst (pc := 13) dX12_isBox_13 ic_0 rfl ?_
    cases hf
    exact V_zretE (pc := 14) dX12_isBox_14 rfl (show (0 : Int32) = b2i false from rfl) PoB_mk
  have KFb1 : ¬ b1 = true → V g mX12_isBox (d + 1) 0 0 n r I L 9 [some (.int v1)] [] (PoB n r res I L) := fun hc => by
    replace hf := (if_neg hc).symm.trans hf
    refine V_iconst (pc := 9) dX12_isBox_9 ic_1 rfl ?_
    refine V_goto (pc := 10) (tgt := 14) dX12_isBox_10 (by decide) ?_
    cases hf
    exact V_zretE (pc := 14) dX12_isBox_14 rfl (show (1 : Int32) = b2i true from rfl) PoB_mk
  refine V_if_lt (pc := 1) (tgt := 13) dX12_isBox_1 (by decide) rfl (fun hc => ?_) (fun hc => ?_)
  · replace hb1 := (if_pos hc).symm.trans hb1
    cases hb1
    exact KTb1 rfl
  · replace hb1 := (if_neg hc).symm.trans hb1
    refine V_iload_n (pc := 4) dX12_isBox_4 rfl rfl rfl ?_
    refine V_iconst (pc := 5) dX12_isBox_5 ic_3 rfl ?_
    refine V_icmp_ge (pc := 6) (tgt := 13) dX12_isBox_6 (by decide) rfl (fun hc => ?_) (fun hc => ?_)
    · replace hb1 := (if_pos hc).symm.trans hb1
      cases hb1
      exact KTb1 rfl
    · replace hb1 := (if_neg hc).symm.trans hb1
      cases hb1
      exact KFb1 (nbt rfl)
/-! ShadowDoorsModel.image -/
noncomputable def fX12_image_18 : Nat → Int32 → Int32 → HI → Option (Int32 × HI)
  | 0, _, _, _ => none
  | fu + 1, y1, y2, I =>
    if (9 : Int32) ≤ y2 then
      if inb (8 : Int32) 10 = true then
        some ((I 99 (8 : Int32).toNatClampNeg), I)
      else none
    else
      if inb y2 10 = true then
        if inb (((10 : Int32) * y1) + y2) 30 = true then
          let I6 : HI := up2 I 115 (((10 : Int32) * y1) + y2).toNatClampNeg (I 99 y2.toNatClampNeg)
          fX12_image_18 fu y1 (y2 + (1 : Int32)) I6
        else none
      else none
set_option maxRecDepth 100000 in
set_option maxHeartbeats 4000000 in
theorem lX12_image_18 {g : GG} {n d : Nat} {tw dr sk tl ff : Nat} (hG : RG tw dr sk tl ff) (hn : 116 ≤ n) {P : PP} : ∀ (fu : Nat) (y1 : Int32) (y2 : Int32) (I : HI) (L : HL) (res : Int32 × HI), fX12_image_18 fu y1 y2 I = some res → P (some (.int res.1)) n (RT tw dr sk tl ff) res.2 L → V g mX12_image (d + 2) 0 0 n (RT tw dr sk tl ff) I L 18 [some (.ref 73), some (.int y1), some (.int y2)] [] P := by
  intro fu
  induction fu with
  | zero => intro y1 y2 I L res hf; cases (show none = some res from hf)
  | succ fu ih =>
    intro y1 y2 I L res hf K
    refine V_iload_n (pc := 18) dX12_image_18 rfl rfl rfl ?_
    refine V_bipush (pc := 19) dX12_image_19 bp_9 rfl ?_
    refine V_icmp_ge (pc := 21) (tgt := 47) dX12_image_21 (by decide) rfl (fun hc => ?_) (fun hc => ?_)
    · replace hf := (if_pos hc).symm.trans hf
      refine V_aload_n (pc := 47) dX12_image_47 rfl rfl rfl ?_
      refine V_getR (pc := 48) dX12_image_48 flX12_96 rfl (by omega) (congrArg Prod.fst sh_73) rt_73_63 rfl ?_
      refine V_bipush (pc := 51) dX12_image_51 bp_8 rfl ?_
      obtain ⟨hc3, hf⟩ := pif hf
      refine V_iald (pc := 53) dX12_image_53 (by omega) sh_99 hc3 rfl ?_
      cases hf
      exact V_iret (pc := 54) dX12_image_54 rfl K
    · replace hf := (if_neg hc).symm.trans hf
      refine V_aload_n (pc := 24) dX12_image_24 rfl rfl rfl ?_
      refine V_getR (pc := 25) dX12_image_25 flX12_145 rfl (by omega) (congrArg Prod.fst sh_73) rt_73_91 rfl ?_
      refine V_bipush (pc := 28) dX12_image_28 bp_10 rfl ?_
      refine V_iload_n (pc := 30) dX12_image_30 rfl rfl rfl ?_
      refine V_imul (pc := 31) dX12_image_31 rfl ?_
      refine V_iload_n (pc := 32) dX12_image_32 rfl rfl rfl ?_
      refine V_iadd (pc := 33) dX12_image_33 rfl ?_
      refine V_aload_n (pc := 34) dX12_image_34 rfl rfl rfl ?_
      refine V_getR (pc := 35) dX12_image_35 flX12_96 rfl (by omega) (congrArg Prod.fst sh_73) rt_73_63 rfl ?_
      refine V_iload_n (pc := 38) dX12_image_38 rfl rfl rfl ?_
      obtain ⟨hc4, hf⟩ := pif hf
      refine V_iald (pc := 39) dX12_image_39 (by omega) sh_99 hc4 rfl ?_
      obtain ⟨hc5, hf⟩ := pif hf
      let I6 : HI := up2 I 115 (((10 : Int32) * y1) + y2).toNatClampNeg (I 99 y2.toNatClampNeg)
      refine V_iast (pc := 40) dX12_image_40 (by omega) sh_115 hc5 rfl ?_
      refine V_iinc (ls' := [some _, some _, some _]) (pc := 41) dX12_image_41 rfl (Nat.le_of_ble_eq_true rfl) (congrArg _ ic_1) rfl rfl ?_
      refine V_goto (pc := 44) (tgt := 18) dX12_image_44 (by decide) ?_
      exact V_wk (ih _ _ _ _ _ hf K) ⟨rfl, ⟨rfl, ⟨rfl, trivial⟩⟩⟩
noncomputable def fX12_image (v1 : Int32) (I : HI) : Option (Int32 × HI) :=
  if (b2i (fX12_isBox v1)) = 0 then
    some ((-1 : Int32), I)
  else
    if inb v1 3 = true then
      let I2 : HI := up2 I 114 v1.toNatClampNeg (b2i true)
      Option.bind (fX12_image_18 FUEL v1 (0 : Int32) I2) fun q7 =>
      some (q7.1, q7.2)
    else none
set_option maxRecDepth 100000 in
set_option maxHeartbeats 4000000 in
theorem tX12_image {g : GG} {n d : Nat} {tw dr sk tl ff : Nat} (hG : RG tw dr sk tl ff) (hn : 116 ≤ n) {v1 : Int32} {I : HI} {L : HL} {res : Int32 × HI} (hf : fX12_image v1 I = some res) : CT g mX12_image (d + 2) 0 0 n (RT tw dr sk tl ff) I L [.ref 73, .int v1] (PoI n (RT tw dr sk tl ff) res.1 res.2 L) := by
  refine CT.of rfl (Nat.le_of_ble_eq_true rfl) ?_
  show V g mX12_image (d + 2) 0 0 n (RT tw dr sk tl ff) I L 0 [some (.ref 73), some (.int v1)] [] (PoI n (RT tw dr sk tl ff) res.1 res.2 L)
  refine V_iload_n (pc := 0) dX12_image_0 rfl rfl rfl ?_
  refine V_cSz (md' := mX12_isBox) (pc := 1) dX12_image_1 mlX12_594 mSX12_isBox (tX12_isBox rfl) rfl rfl (Nat.le_of_ble_eq_true rfl) rfl ?_
  refine V_if_ne (pc := 4) (tgt := 9) dX12_image_4 (by decide) rfl (fun hc => ?_) (fun hc => ?_)
  · replace hf := (if_neg hc).symm.trans hf
    refine V_aload_n (pc := 9) dX12_image_9 rfl rfl rfl ?_
    refine V_getR (pc := 10) dX12_image_10 flX12_142 rfl (by omega) (congrArg Prod.fst sh_73) rt_73_90 rfl ?_
    refine V_iload_n (pc := 13) dX12_image_13 rfl rfl rfl ?_
    refine V_iconst (pc := 14) dX12_image_14 ic_1 rfl ?_
    obtain ⟨hc1, hf⟩ := pif hf
    let I2 : HI := up2 I 114 v1.toNatClampNeg (b2i true)
    refine V_zastE (pc := 15) dX12_image_15 (by omega) sh_114 hc1 (show (1 : Int32) = b2i true from rfl) rfl ?_
    refine V_iconst (pc := 16) dX12_image_16 ic_0 rfl ?_
    refine V_istore_n (ls' := [some _, some _, some _]) (pc := 17) dX12_image_17 rfl (Nat.le_of_ble_eq_true rfl) rfl rfl ?_
    obtain ⟨q7, hq7, hf⟩ := bnd hf
    refine V_wk (lX12_image_18 hG hn FUEL _ _ _ _ _ hq7 ?_) ⟨rfl, ⟨rfl, ⟨rfl, trivial⟩⟩⟩
    cases hf
    exact PoI_mk
  · replace hf := (if_pos hc).symm.trans hf
    refine V_iconst (pc := 7) dX12_image_7 ic_m1 rfl ?_
    cases hf
    exact V_iret (pc := 8) dX12_image_8 rfl PoI_mk
/-! ShadowDoorsModel.back -/
noncomputable def fX12_back_20 : Nat → Int32 → Int32 → HI → Option (Int32 × HI)
  | 0, _, _, _ => none
  | fu + 1, y1, y2, I =>
    if (9 : Int32) ≤ y2 then
      let I3 : HI := up2 I 73 73 (0 : Int32)
      let I4 : HI := up2 I3 73 74 (0 : Int32)
      if inb (8 : Int32) 10 = true then
        some ((I4 99 (8 : Int32).toNatClampNeg), I4)
      else none
    else
      if inb (((10 : Int32) * y1) + y2) 30 = true then
        if inb y2 10 = true then
          let I8 : HI := up2 I 99 y2.toNatClampNeg (I 115 (((10 : Int32) * y1) + y2).toNatClampNeg)
          fX12_back_20 fu y1 (y2 + (1 : Int32)) I8
        else none
      else none
set_option maxRecDepth 100000 in
set_option maxHeartbeats 4000000 in
theorem lX12_back_20 {g : GG} {n d : Nat} {tw dr sk tl ff : Nat} (hG : RG tw dr sk tl ff) (hn : 116 ≤ n) {P : PP} : ∀ (fu : Nat) (y1 : Int32) (y2 : Int32) (I : HI) (L : HL) (res : Int32 × HI), fX12_back_20 fu y1 y2 I = some res → P (some (.int res.1)) n (RT tw dr sk tl ff) res.2 L → V g mX12_back (d + 2) 0 0 n (RT tw dr sk tl ff) I L 20 [some (.ref 73), some (.int y1), some (.int y2)] [] P := by
  intro fu
  induction fu with
  | zero => intro y1 y2 I L res hf; cases (show none = some res from hf)
  | succ fu ih =>
    intro y1 y2 I L res hf K
    refine V_iload_n (pc := 20) dX12_back_20 rfl rfl rfl ?_
    refine V_bipush (pc := 21) dX12_back_21 bp_9 rfl ?_
    refine V_icmp_ge (pc := 23) (tgt := 49) dX12_back_23 (by decide) rfl (fun hc => ?_) (fun hc => ?_)
    · replace hf := (if_pos hc).symm.trans hf
      refine V_aload_n (pc := 49) dX12_back_49 rfl rfl rfl ?_
      refine V_iconst (pc := 50) dX12_back_50 ic_0 rfl ?_
      let I3 : HI := up2 I 73 73 (0 : Int32)
      refine V_putI (pc := 51) dX12_back_51 flX12_424 rfl rfl (by omega) (congrArg Prod.fst sh_73) rfl ?_
      refine V_aload_n (pc := 54) dX12_back_54 rfl rfl rfl ?_
      refine V_iconst (pc := 55) dX12_back_55 ic_0 rfl ?_
      let I4 : HI := up2 I3 73 74 (0 : Int32)
      refine V_putI (pc := 56) dX12_back_56 flX12_427 rfl rfl (by omega) (congrArg Prod.fst sh_73) rfl ?_
      refine V_aload_n (pc := 59) dX12_back_59 rfl rfl rfl ?_
      refine V_getR (pc := 60) dX12_back_60 flX12_96 rfl (by omega) (congrArg Prod.fst sh_73) rt_73_63 rfl ?_
      refine V_bipush (pc := 63) dX12_back_63 bp_8 rfl ?_
      obtain ⟨hc5, hf⟩ := pif hf
      refine V_iald (pc := 65) dX12_back_65 (by omega) sh_99 hc5 rfl ?_
      cases hf
      exact V_iret (pc := 66) dX12_back_66 rfl K
    · replace hf := (if_neg hc).symm.trans hf
      refine V_aload_n (pc := 26) dX12_back_26 rfl rfl rfl ?_
      refine V_getR (pc := 27) dX12_back_27 flX12_96 rfl (by omega) (congrArg Prod.fst sh_73) rt_73_63 rfl ?_
      refine V_iload_n (pc := 30) dX12_back_30 rfl rfl rfl ?_
      refine V_aload_n (pc := 31) dX12_back_31 rfl rfl rfl ?_
      refine V_getR (pc := 32) dX12_back_32 flX12_145 rfl (by omega) (congrArg Prod.fst sh_73) rt_73_91 rfl ?_
      refine V_bipush (pc := 35) dX12_back_35 bp_10 rfl ?_
      refine V_iload_n (pc := 37) dX12_back_37 rfl rfl rfl ?_
      refine V_imul (pc := 38) dX12_back_38 rfl ?_
      refine V_iload_n (pc := 39) dX12_back_39 rfl rfl rfl ?_
      refine V_iadd (pc := 40) dX12_back_40 rfl ?_
      obtain ⟨hc6, hf⟩ := pif hf
      refine V_iald (pc := 41) dX12_back_41 (by omega) sh_115 hc6 rfl ?_
      obtain ⟨hc7, hf⟩ := pif hf
      let I8 : HI := up2 I 99 y2.toNatClampNeg (I 115 (((10 : Int32) * y1) + y2).toNatClampNeg)
      refine V_iast (pc := 42) dX12_back_42 (by omega) sh_99 hc7 rfl ?_
      refine V_iinc (ls' := [some _, some _, some _]) (pc := 43) dX12_back_43 rfl (Nat.le_of_ble_eq_true rfl) (congrArg _ ic_1) rfl rfl ?_
      refine V_goto (pc := 46) (tgt := 20) dX12_back_46 (by decide) ?_
      exact V_wk (ih _ _ _ _ _ hf K) ⟨rfl, ⟨rfl, ⟨rfl, trivial⟩⟩⟩
noncomputable def fX12_back (v1 : Int32) (I : HI) : Option (Int32 × HI) :=
  Option.bind (
    if (b2i (fX12_isBox v1)) = 0 then
      some true
    else
      if inb v1 3 = true then
        if (I 114 v1.toNatClampNeg) = 0 then
          some true
        else
          some false
      else none
  ) fun b1 =>
  if b1 = true then
    some ((-1 : Int32), I)
  else
    Option.bind (fX12_back_20 FUEL v1 (0 : Int32) I) fun q9 =>
    some (q9.1, q9.2)
set_option maxRecDepth 100000 in
set_option maxHeartbeats 4000000 in
theorem tX12_back {g : GG} {n d : Nat} {tw dr sk tl ff : Nat} (hG : RG tw dr sk tl ff) (hn : 116 ≤ n) {v1 : Int32} {I : HI} {L : HL} {res : Int32 × HI} (hf : fX12_back v1 I = some res) : CT g mX12_back (d + 2) 0 0 n (RT tw dr sk tl ff) I L [.ref 73, .int v1] (PoI n (RT tw dr sk tl ff) res.1 res.2 L) := by
  refine CT.of rfl (Nat.le_of_ble_eq_true rfl) ?_
  show V g mX12_back (d + 2) 0 0 n (RT tw dr sk tl ff) I L 0 [some (.ref 73), some (.int v1)] [] (PoI n (RT tw dr sk tl ff) res.1 res.2 L)
  refine V_iload_n (pc := 0) dX12_back_0 rfl rfl rfl ?_
  refine V_cSz (md' := mX12_isBox) (pc := 1) dX12_back_1 mlX12_594 mSX12_isBox (tX12_isBox rfl) rfl rfl (Nat.le_of_ble_eq_true rfl) rfl ?_
  obtain ⟨b1, hb1, hf⟩ := bnd hf
  have KTb1 : b1 = true → V g mX12_back (d + 2) 0 0 n (RT tw dr sk tl ff) I L 16 [some (.ref 73), some (.int v1)] [] (PoI n (RT tw dr sk tl ff) res.1 res.2 L) := fun hc => by
    replace hf := (if_pos hc).symm.trans hf
    refine V_iconst (pc := 16) dX12_back_16 ic_m1 rfl ?_
    cases hf
    exact V_iret (pc := 17) dX12_back_17 rfl PoI_mk
  have KFb1 : ¬ b1 = true → V g mX12_back (d + 2) 0 0 n (RT tw dr sk tl ff) I L 18 [some (.ref 73), some (.int v1)] [] (PoI n (RT tw dr sk tl ff) res.1 res.2 L) := fun hc => by
    replace hf := (if_neg hc).symm.trans hf
    refine V_iconst (pc := 18) dX12_back_18 ic_0 rfl ?_
    refine V_istore_n (ls' := [some _, some _, some _]) (pc := 19) dX12_back_19 rfl (Nat.le_of_ble_eq_true rfl) rfl rfl ?_
    obtain ⟨q9, hq9, hf⟩ := bnd hf
    refine V_wk (lX12_back_20 hG hn FUEL _ _ _ _ _ hq9 ?_) ⟨rfl, ⟨rfl, ⟨rfl, trivial⟩⟩⟩
    cases hf
    exact PoI_mk
  refine V_if_eq (pc := 4) (tgt := 16) dX12_back_4 (by decide) rfl (fun hc => ?_) (fun hc => ?_)
  · replace hb1 := (if_pos hc).symm.trans hb1
    cases hb1
    exact KTb1 rfl
  · replace hb1 := (if_neg hc).symm.trans hb1
    refine V_aload_n (pc := 7) dX12_back_7 rfl rfl rfl ?_
    refine V_getR (pc := 8) dX12_back_8 flX12_142 rfl (by omega) (congrArg Prod.fst sh_73) rt_73_90 rfl ?_
    refine V_iload_n (pc := 11) dX12_back_11 rfl rfl rfl ?_
    obtain ⟨hc2, hb1⟩ := pif hb1
    refine V_zald (pc := 12) dX12_back_12 (by omega) sh_114 hc2 rfl ?_
    refine V_if_ne (pc := 13) (tgt := 18) dX12_back_13 (by decide) rfl (fun hc => ?_) (fun hc => ?_)
    · replace hb1 := (if_neg hc).symm.trans hb1
      cases hb1
      exact KFb1 (nbt rfl)
    · replace hb1 := (if_pos hc).symm.trans hb1
      cases hb1
      exact KTb1 rfl
/-! ShadowDoorsModel.about -/
noncomputable def fX12_about (v1 : Int32) (I : HI) : Option (Int32) :=
  if v1 = (0 : Int32) then
    some (I 73 55)
  else
    if v1 = (1 : Int32) then
      some (I 73 56)
    else
      if v1 = (2 : Int32) then
        some (I 73 57)
      else
        if v1 = (3 : Int32) then
          some (I 73 54)
        else
          if v1 = (4 : Int32) then
            some (I 73 52)
          else
            if v1 = (5 : Int32) then
              some (I 73 53)
            else
              if v1 = (6 : Int32) then
                if inb (8 : Int32) 10 = true then
                  some ((I 99 (8 : Int32).toNatClampNeg) - (I 99 (8 : Int32).toNatClampNeg) / (24 : Int32) * (24 : Int32))
                else none
              else
                if v1 = (7 : Int32) then
                  if inb (8 : Int32) 10 = true then
                    some ((I 99 (8 : Int32).toNatClampNeg) / (24 : Int32))
                  else none
                else
                  if v1 = (8 : Int32) then
                    if inb (8 : Int32) 10 = true then
                      some (I 99 (8 : Int32).toNatClampNeg)
                    else none
                  else
                    if v1 = (9 : Int32) then
                      if inb (7 : Int32) 10 = true then
                        some (I 99 (7 : Int32).toNatClampNeg)
                      else none
                    else
                      if v1 = (10 : Int32) then
                        some (I 73 73)
                      else
                        if v1 = (11 : Int32) then
                          some (I 73 74)
                        else
                          if v1 = (12 : Int32) then
                            some (I 73 86)
                          else
                            if v1 = (13 : Int32) then
                              some (I 73 87)
                            else
                              if v1 = (14 : Int32) then
                                some (I 73 1)
                              else
                                if v1 = (15 : Int32) then
                                  some (I 73 21)
                                else
                                  if v1 = (16 : Int32) then
                                    some (I 73 76)
                                  else
                                    some (-1 : Int32)
set_option maxRecDepth 100000 in
set_option maxHeartbeats 4000000 in
theorem tX12_about {g : GG} {n d : Nat} {tw dr sk tl ff : Nat} (hG : RG tw dr sk tl ff) (hn : 116 ≤ n) {v1 : Int32} {I : HI} {L : HL} {res : Int32} (hf : fX12_about v1 I = some res) : CT g mX12_about (d + 1) 0 0 n (RT tw dr sk tl ff) I L [.ref 73, .int v1] (PoI n (RT tw dr sk tl ff) res I L) := by
  refine CT.of rfl (Nat.le_of_ble_eq_true rfl) ?_
  show V g mX12_about (d + 1) 0 0 n (RT tw dr sk tl ff) I L 0 [some (.ref 73), some (.int v1)] [] (PoI n (RT tw dr sk tl ff) res I L)
  refine V_iload_n (pc := 0) dX12_about_0 rfl rfl rfl ?_
  by_cases hc1 : v1 = (0 : Int32)
  · replace hf := (if_pos hc1).symm.trans hf
    refine V_tsIn (pc := 1) (tgt := 84) dX12_about_1 (by rw [hc1]; decide) (by rw [hc1]; decide) (by rw [hc1]; first | done | rfl) (by decide) ?_
    refine V_aload_n (pc := 84) dX12_about_84 rfl rfl rfl ?_
    refine V_getI (pc := 85) dX12_about_85 flX12_409 rfl (by omega) (congrArg Prod.fst sh_73) rfl ?_
    cases hf
    exact V_iret (pc := 88) dX12_about_88 rfl PoI_mk
  · replace hf := (if_neg hc1).symm.trans hf
    by_cases hc2 : v1 = (1 : Int32)
    · replace hf := (if_pos hc2).symm.trans hf
      refine V_tsIn (pc := 1) (tgt := 89) dX12_about_1 (by rw [hc2]; decide) (by rw [hc2]; decide) (by rw [hc2]; first | done | rfl) (by decide) ?_
      refine V_aload_n (pc := 89) dX12_about_89 rfl rfl rfl ?_
      refine V_getI (pc := 90) dX12_about_90 flX12_412 rfl (by omega) (congrArg Prod.fst sh_73) rfl ?_
      cases hf
      exact V_iret (pc := 93) dX12_about_93 rfl PoI_mk
    · replace hf := (if_neg hc2).symm.trans hf
      by_cases hc3 : v1 = (2 : Int32)
      · replace hf := (if_pos hc3).symm.trans hf
        refine V_tsIn (pc := 1) (tgt := 94) dX12_about_1 (by rw [hc3]; decide) (by rw [hc3]; decide) (by rw [hc3]; first | done | rfl) (by decide) ?_
        refine V_aload_n (pc := 94) dX12_about_94 rfl rfl rfl ?_
        refine V_getI (pc := 95) dX12_about_95 flX12_415 rfl (by omega) (congrArg Prod.fst sh_73) rfl ?_
        cases hf
        exact V_iret (pc := 98) dX12_about_98 rfl PoI_mk
      · replace hf := (if_neg hc3).symm.trans hf
        by_cases hc4 : v1 = (3 : Int32)
        · replace hf := (if_pos hc4).symm.trans hf
          refine V_tsIn (pc := 1) (tgt := 99) dX12_about_1 (by rw [hc4]; decide) (by rw [hc4]; decide) (by rw [hc4]; first | done | rfl) (by decide) ?_
          refine V_aload_n (pc := 99) dX12_about_99 rfl rfl rfl ?_
          refine V_getI (pc := 100) dX12_about_100 flX12_406 rfl (by omega) (congrArg Prod.fst sh_73) rfl ?_
          cases hf
          exact V_iret (pc := 103) dX12_about_103 rfl PoI_mk
        · replace hf := (if_neg hc4).symm.trans hf
          by_cases hc5 : v1 = (4 : Int32)
          · replace hf := (if_pos hc5).symm.trans hf
            refine V_tsIn (pc := 1) (tgt := 104) dX12_about_1 (by rw [hc5]; decide) (by rw [hc5]; decide) (by rw [hc5]; first | done | rfl) (by decide) ?_
            refine V_aload_n (pc := 104) dX12_about_104 rfl rfl rfl ?_
            refine V_getI (pc := 105) dX12_about_105 flX12_90 rfl (by omega) (congrArg Prod.fst sh_73) rfl ?_
            cases hf
            exact V_iret (pc := 108) dX12_about_108 rfl PoI_mk
          · replace hf := (if_neg hc5).symm.trans hf
            by_cases hc6 : v1 = (5 : Int32)
            · replace hf := (if_pos hc6).symm.trans hf
              refine V_tsIn (pc := 1) (tgt := 109) dX12_about_1 (by rw [hc6]; decide) (by rw [hc6]; decide) (by rw [hc6]; first | done | rfl) (by decide) ?_
              refine V_aload_n (pc := 109) dX12_about_109 rfl rfl rfl ?_
              refine V_getI (pc := 110) dX12_about_110 flX12_93 rfl (by omega) (congrArg Prod.fst sh_73) rfl ?_
              cases hf
              exact V_iret (pc := 113) dX12_about_113 rfl PoI_mk
            · replace hf := (if_neg hc6).symm.trans hf
              by_cases hc7 : v1 = (6 : Int32)
              · replace hf := (if_pos hc7).symm.trans hf
                refine V_tsIn (pc := 1) (tgt := 114) dX12_about_1 (by rw [hc7]; decide) (by rw [hc7]; decide) (by rw [hc7]; first | done | rfl) (by decide) ?_
                refine V_aload_n (pc := 114) dX12_about_114 rfl rfl rfl ?_
                refine V_getR (pc := 115) dX12_about_115 flX12_96 rfl (by omega) (congrArg Prod.fst sh_73) rt_73_63 rfl ?_
                refine V_bipush (pc := 118) dX12_about_118 bp_8 rfl ?_
                obtain ⟨hc8, hf⟩ := pif hf
                refine V_iald (pc := 120) dX12_about_120 (by omega) sh_99 hc8 rfl ?_
                refine V_bipush (pc := 121) dX12_about_121 bp_24 rfl ?_
                refine V_irem (pc := 123) dX12_about_123 (by decide) rfl ?_
                cases hf
                exact V_iret (pc := 124) dX12_about_124 rfl PoI_mk
              · replace hf := (if_neg hc7).symm.trans hf
                by_cases hc9 : v1 = (7 : Int32)
                · replace hf := (if_pos hc9).symm.trans hf
                  refine V_tsIn (pc := 1) (tgt := 125) dX12_about_1 (by rw [hc9]; decide) (by rw [hc9]; decide) (by rw [hc9]; first | done | rfl) (by decide) ?_
                  refine V_aload_n (pc := 125) dX12_about_125 rfl rfl rfl ?_
                  refine V_getR (pc := 126) dX12_about_126 flX12_96 rfl (by omega) (congrArg Prod.fst sh_73) rt_73_63 rfl ?_
                  refine V_bipush (pc := 129) dX12_about_129 bp_8 rfl ?_
                  obtain ⟨hc10, hf⟩ := pif hf
                  refine V_iald (pc := 131) dX12_about_131 (by omega) sh_99 hc10 rfl ?_
                  refine V_bipush (pc := 132) dX12_about_132 bp_24 rfl ?_
                  refine V_idiv (pc := 134) dX12_about_134 (by decide) rfl ?_
                  cases hf
                  exact V_iret (pc := 135) dX12_about_135 rfl PoI_mk
                · replace hf := (if_neg hc9).symm.trans hf
                  by_cases hc11 : v1 = (8 : Int32)
                  · replace hf := (if_pos hc11).symm.trans hf
                    refine V_tsIn (pc := 1) (tgt := 136) dX12_about_1 (by rw [hc11]; decide) (by rw [hc11]; decide) (by rw [hc11]; first | done | rfl) (by decide) ?_
                    refine V_aload_n (pc := 136) dX12_about_136 rfl rfl rfl ?_
                    refine V_getR (pc := 137) dX12_about_137 flX12_96 rfl (by omega) (congrArg Prod.fst sh_73) rt_73_63 rfl ?_
                    refine V_bipush (pc := 140) dX12_about_140 bp_8 rfl ?_
                    obtain ⟨hc12, hf⟩ := pif hf
                    refine V_iald (pc := 142) dX12_about_142 (by omega) sh_99 hc12 rfl ?_
                    cases hf
                    exact V_iret (pc := 143) dX12_about_143 rfl PoI_mk
                  · replace hf := (if_neg hc11).symm.trans hf
                    by_cases hc13 : v1 = (9 : Int32)
                    · replace hf := (if_pos hc13).symm.trans hf
                      refine V_tsIn (pc := 1) (tgt := 144) dX12_about_1 (by rw [hc13]; decide) (by rw [hc13]; decide) (by rw [hc13]; first | done | rfl) (by decide) ?_
                      refine V_aload_n (pc := 144) dX12_about_144 rfl rfl rfl ?_
                      refine V_getR (pc := 145) dX12_about_145 flX12_96 rfl (by omega) (congrArg Prod.fst sh_73) rt_73_63 rfl ?_
                      refine V_bipush (pc := 148) dX12_about_148 bp_7 rfl ?_
                      obtain ⟨hc14, hf⟩ := pif hf
                      refine V_iald (pc := 150) dX12_about_150 (by omega) sh_99 hc14 rfl ?_
                      cases hf
                      exact V_iret (pc := 151) dX12_about_151 rfl PoI_mk
                    · replace hf := (if_neg hc13).symm.trans hf
                      by_cases hc15 : v1 = (10 : Int32)
                      · replace hf := (if_pos hc15).symm.trans hf
                        refine V_tsIn (pc := 1) (tgt := 152) dX12_about_1 (by rw [hc15]; decide) (by rw [hc15]; decide) (by rw [hc15]; first | done | rfl) (by decide) ?_
                        refine V_aload_n (pc := 152) dX12_about_152 rfl rfl rfl ?_
                        refine V_getI (pc := 153) dX12_about_153 flX12_424 rfl (by omega) (congrArg Prod.fst sh_73) rfl ?_
                        cases hf
                        exact V_iret (pc := 156) dX12_about_156 rfl PoI_mk
                      · replace hf := (if_neg hc15).symm.trans hf
                        by_cases hc16 : v1 = (11 : Int32)
                        · replace hf := (if_pos hc16).symm.trans hf
                          refine V_tsIn (pc := 1) (tgt := 157) dX12_about_1 (by rw [hc16]; decide) (by rw [hc16]; decide) (by rw [hc16]; first | done | rfl) (by decide) ?_
                          refine V_aload_n (pc := 157) dX12_about_157 rfl rfl rfl ?_
                          refine V_getI (pc := 158) dX12_about_158 flX12_427 rfl (by omega) (congrArg Prod.fst sh_73) rfl ?_
                          cases hf
                          exact V_iret (pc := 161) dX12_about_161 rfl PoI_mk
                        · replace hf := (if_neg hc16).symm.trans hf
                          by_cases hc17 : v1 = (12 : Int32)
                          · replace hf := (if_pos hc17).symm.trans hf
                            refine V_tsIn (pc := 1) (tgt := 162) dX12_about_1 (by rw [hc17]; decide) (by rw [hc17]; decide) (by rw [hc17]; first | done | rfl) (by decide) ?_
                            refine V_aload_n (pc := 162) dX12_about_162 rfl rfl rfl ?_
                            refine V_getI (pc := 163) dX12_about_163 flX12_430 rfl (by omega) (congrArg Prod.fst sh_73) rfl ?_
                            cases hf
                            exact V_iret (pc := 166) dX12_about_166 rfl PoI_mk
                          · replace hf := (if_neg hc17).symm.trans hf
                            by_cases hc18 : v1 = (13 : Int32)
                            · replace hf := (if_pos hc18).symm.trans hf
                              refine V_tsIn (pc := 1) (tgt := 167) dX12_about_1 (by rw [hc18]; decide) (by rw [hc18]; decide) (by rw [hc18]; first | done | rfl) (by decide) ?_
                              refine V_aload_n (pc := 167) dX12_about_167 rfl rfl rfl ?_
                              refine V_getI (pc := 168) dX12_about_168 flX12_571 rfl (by omega) (congrArg Prod.fst sh_73) rfl ?_
                              cases hf
                              exact V_iret (pc := 171) dX12_about_171 rfl PoI_mk
                            · replace hf := (if_neg hc18).symm.trans hf
                              by_cases hc19 : v1 = (14 : Int32)
                              · replace hf := (if_pos hc19).symm.trans hf
                                refine V_tsIn (pc := 1) (tgt := 172) dX12_about_1 (by rw [hc19]; decide) (by rw [hc19]; decide) (by rw [hc19]; first | done | rfl) (by decide) ?_
                                refine V_aload_n (pc := 172) dX12_about_172 rfl rfl rfl ?_
                                refine V_getI (pc := 173) dX12_about_173 flX12_148 rfl (by omega) (congrArg Prod.fst sh_73) rfl ?_
                                cases hf
                                exact V_iret (pc := 176) dX12_about_176 rfl PoI_mk
                              · replace hf := (if_neg hc19).symm.trans hf
                                by_cases hc20 : v1 = (15 : Int32)
                                · replace hf := (if_pos hc20).symm.trans hf
                                  refine V_tsIn (pc := 1) (tgt := 177) dX12_about_1 (by rw [hc20]; decide) (by rw [hc20]; decide) (by rw [hc20]; first | done | rfl) (by decide) ?_
                                  refine V_aload_n (pc := 177) dX12_about_177 rfl rfl rfl ?_
                                  refine V_getI (pc := 178) dX12_about_178 flX12_421 rfl (by omega) (congrArg Prod.fst sh_73) rfl ?_
                                  cases hf
                                  exact V_iret (pc := 181) dX12_about_181 rfl PoI_mk
                                · replace hf := (if_neg hc20).symm.trans hf
                                  by_cases hc21 : v1 = (16 : Int32)
                                  · replace hf := (if_pos hc21).symm.trans hf
                                    refine V_tsIn (pc := 1) (tgt := 182) dX12_about_1 (by rw [hc21]; decide) (by rw [hc21]; decide) (by rw [hc21]; first | done | rfl) (by decide) ?_
                                    refine V_aload_n (pc := 182) dX12_about_182 rfl rfl rfl ?_
                                    refine V_getI (pc := 183) dX12_about_183 flX12_433 rfl (by omega) (congrArg Prod.fst sh_73) rfl ?_
                                    cases hf
                                    exact V_iret (pc := 186) dX12_about_186 rfl PoI_mk
                                  · replace hf := (if_neg hc21).symm.trans hf
                                    have KD22 : V g mX12_about (d + 1) 0 0 n (RT tw dr sk tl ff) I L 187 [some (.ref 73), some (.int v1)] [] (PoI n (RT tw dr sk tl ff) res I L) := by
                                      refine V_iconst (pc := 187) dX12_about_187 ic_m1 rfl ?_
                                      cases hf
                                      exact V_iret (pc := 188) dX12_about_188 rfl PoI_mk
                                    refine V_tsOut (pc := 1) (tgt := 187) dX12_about_1 (by have e0 := swn (k := (0 : Int32)) (z := 0) hc1 rfl; have e1 := swn (k := (1 : Int32)) (z := 1) hc2 rfl; have e2 := swn (k := (2 : Int32)) (z := 2) hc3 rfl; have e3 := swn (k := (3 : Int32)) (z := 3) hc4 rfl; have e4 := swn (k := (4 : Int32)) (z := 4) hc5 rfl; have e5 := swn (k := (5 : Int32)) (z := 5) hc6 rfl; have e6 := swn (k := (6 : Int32)) (z := 6) hc7 rfl; have e7 := swn (k := (7 : Int32)) (z := 7) hc9 rfl; have e8 := swn (k := (8 : Int32)) (z := 8) hc11 rfl; have e9 := swn (k := (9 : Int32)) (z := 9) hc13 rfl; have e10 := swn (k := (10 : Int32)) (z := 10) hc15 rfl; have e11 := swn (k := (11 : Int32)) (z := 11) hc16 rfl; have e12 := swn (k := (12 : Int32)) (z := 12) hc17 rfl; have e13 := swn (k := (13 : Int32)) (z := 13) hc18 rfl; have e14 := swn (k := (14 : Int32)) (z := 14) hc19 rfl; have e15 := swn (k := (15 : Int32)) (z := 15) hc20 rfl; have e16 := swn (k := (16 : Int32)) (z := 16) hc21 rfl; omega) (by decide) KD22
