/-! ShadowDoorsModel.sign -/
noncomputable def fX12_sign (I : HI) (L : HL) : Int32 :=
  if (b2i (fX12_isWord (6385252 : Int64) I L)) = 0 then
    if (b2i (fX12_isWord (28530 : Int64) I L)) = 0 then
      tbn (
        if (I 73 6) = (60 : Int32) then
          true
        else
          if (I 73 6) = (62 : Int32) then
            true
          else
            if (I 73 6) = (61 : Int32) then
              true
            else
              if (I 73 6) = (43 : Int32) then
                true
              else
                if (I 73 6) = (45 : Int32) then
                  true
                else
                  if (I 73 6) = (42 : Int32) then
                    true
                  else
                    if (I 73 6) = (47 : Int32) then
                      true
                    else
                      if (I 73 6) = (37 : Int32) then
                        true
                      else
                        false
      ) fun b1 =>
      if b1 = true then
        (I 73 6)
      else
        (0 : Int32)
    else
      (124 : Int32)
  else
    (38 : Int32)
set_option maxRecDepth 100000 in
set_option maxHeartbeats 4000000 in
theorem tX12_sign {g : GG} {n d : Nat} {tw dr sk tl ff : Nat} (hG : RG tw dr sk tl ff) (hn : 116 ≤ n) {I : HI} {L : HL} {res : Int32} (hf : fX12_sign I L = res) : CT g mX12_sign (d + 2) 0 0 n (RT tw dr sk tl ff) I L [.ref 73] (PoI n (RT tw dr sk tl ff) res I L) := by
  refine CT.of rfl (Nat.le_of_ble_eq_true rfl) ?_
  show V g mX12_sign (d + 2) 0 0 n (RT tw dr sk tl ff) I L 0 [some (.ref 73)] [] (PoI n (RT tw dr sk tl ff) res I L)
  refine V_aload_n (pc := 0) dX12_sign_0 rfl rfl rfl ?_
  refine V_ldc2 (pc := 1) dX12_sign_1 klX12_227 rfl ?_
  refine V_cVz (md' := mX12_isWord) (pc := 4) dX12_sign_4 mlX12_237 mVX12_isWord (tX12_isWord hG hn rfl) rfl (by omega) (congrArg Prod.fst sh_73) rfl (Nat.le_of_ble_eq_true rfl) rfl ?_
  refine V_if_eq (pc := 7) (tgt := 13) dX12_sign_7 (by decide) rfl (fun hc => ?_) (fun hc => ?_)
  · replace hf := (if_pos hc).symm.trans hf
    refine V_aload_n (pc := 13) dX12_sign_13 rfl rfl rfl ?_
    refine V_ldc2 (pc := 14) dX12_sign_14 klX12_229 rfl ?_
    refine V_cVz (md' := mX12_isWord) (pc := 17) dX12_sign_17 mlX12_237 mVX12_isWord (tX12_isWord hG hn rfl) rfl (by omega) (congrArg Prod.fst sh_73) rfl (Nat.le_of_ble_eq_true rfl) rfl ?_
    refine V_if_eq (pc := 20) (tgt := 26) dX12_sign_20 (by decide) rfl (fun hc => ?_) (fun hc => ?_)
    · replace hf := (if_pos hc).symm.trans hf
      refine V_aload_n (pc := 26) dX12_sign_26 rfl rfl rfl ?_
      refine V_getI (pc := 27) dX12_sign_27 flX12_175 rfl (by omega) (congrArg Prod.fst sh_73) rfl ?_
      refine V_bipush (pc := 30) dX12_sign_30 bp_60 rfl ?_
      obtain ⟨b1, hb1, hf⟩ := tbd hf
      have KTb1 : b1 = true → V g mX12_sign (d + 2) 0 0 n (RT tw dr sk tl ff) I L 98 [some (.ref 73)] [] (PoI n (RT tw dr sk tl ff) res I L) := fun hc => by
        replace hf := (if_pos hc).symm.trans hf
        refine V_aload_n (pc := 98) dX12_sign_98 rfl rfl rfl ?_
        refine V_getI (pc := 99) dX12_sign_99 flX12_175 rfl (by omega) (congrArg Prod.fst sh_73) rfl ?_
        refine V_goto (pc := 102) (tgt := 106) dX12_sign_102 (by decide) ?_
        cases hf
        exact V_iret (pc := 106) dX12_sign_106 rfl PoI_mk
      have KFb1 : ¬ b1 = true → V g mX12_sign (d + 2) 0 0 n (RT tw dr sk tl ff) I L 105 [some (.ref 73)] [] (PoI n (RT tw dr sk tl ff) res I L) := fun hc => by
        replace hf := (if_neg hc).symm.trans hf
        refine V_iconst (pc := 105) dX12_sign_105 ic_0 rfl ?_
        cases hf
        exact V_iret (pc := 106) dX12_sign_106 rfl PoI_mk
      refine V_icmp_eq (pc := 32) (tgt := 98) dX12_sign_32 (by decide) rfl (fun hc => ?_) (fun hc => ?_)
      · replace hb1 := (if_pos hc).symm.trans hb1
        cases hb1
        exact KTb1 rfl
      · replace hb1 := (if_neg hc).symm.trans hb1
        refine V_aload_n (pc := 35) dX12_sign_35 rfl rfl rfl ?_
        refine V_getI (pc := 36) dX12_sign_36 flX12_175 rfl (by omega) (congrArg Prod.fst sh_73) rfl ?_
        refine V_bipush (pc := 39) dX12_sign_39 bp_62 rfl ?_
        refine V_icmp_eq (pc := 41) (tgt := 98) dX12_sign_41 (by decide) rfl (fun hc => ?_) (fun hc => ?_)
        · replace hb1 := (if_pos hc).symm.trans hb1
          cases hb1
          exact KTb1 rfl
        · replace hb1 := (if_neg hc).symm.trans hb1
          refine V_aload_n (pc := 44) dX12_sign_44 rfl rfl rfl ?_
          refine V_getI (pc := 45) dX12_sign_45 flX12_175 rfl (by omega) (congrArg Prod.fst sh_73) rfl ?_
          refine V_bipush (pc := 48) dX12_sign_48 bp_61 rfl ?_
          refine V_icmp_eq (pc := 50) (tgt := 98) dX12_sign_50 (by decide) rfl (fun hc => ?_) (fun hc => ?_)
          · replace hb1 := (if_pos hc).symm.trans hb1
            cases hb1
            exact KTb1 rfl
          · replace hb1 := (if_neg hc).symm.trans hb1
            refine V_aload_n (pc := 53) dX12_sign_53 rfl rfl rfl ?_
            refine V_getI (pc := 54) dX12_sign_54 flX12_175 rfl (by omega) (congrArg Prod.fst sh_73) rfl ?_
            refine V_bipush (pc := 57) dX12_sign_57 bp_43 rfl ?_
            refine V_icmp_eq (pc := 59) (tgt := 98) dX12_sign_59 (by decide) rfl (fun hc => ?_) (fun hc => ?_)
            · replace hb1 := (if_pos hc).symm.trans hb1
              cases hb1
              exact KTb1 rfl
            · replace hb1 := (if_neg hc).symm.trans hb1
              refine V_aload_n (pc := 62) dX12_sign_62 rfl rfl rfl ?_
              refine V_getI (pc := 63) dX12_sign_63 flX12_175 rfl (by omega) (congrArg Prod.fst sh_73) rfl ?_
              refine V_bipush (pc := 66) dX12_sign_66 bp_45 rfl ?_
              refine V_icmp_eq (pc := 68) (tgt := 98) dX12_sign_68 (by decide) rfl (fun hc => ?_) (fun hc => ?_)
              · replace hb1 := (if_pos hc).symm.trans hb1
                cases hb1
                exact KTb1 rfl
              · replace hb1 := (if_neg hc).symm.trans hb1
                refine V_aload_n (pc := 71) dX12_sign_71 rfl rfl rfl ?_
                refine V_getI (pc := 72) dX12_sign_72 flX12_175 rfl (by omega) (congrArg Prod.fst sh_73) rfl ?_
                refine V_bipush (pc := 75) dX12_sign_75 bp_42 rfl ?_
                refine V_icmp_eq (pc := 77) (tgt := 98) dX12_sign_77 (by decide) rfl (fun hc => ?_) (fun hc => ?_)
                · replace hb1 := (if_pos hc).symm.trans hb1
                  cases hb1
                  exact KTb1 rfl
                · replace hb1 := (if_neg hc).symm.trans hb1
                  refine V_aload_n (pc := 80) dX12_sign_80 rfl rfl rfl ?_
                  refine V_getI (pc := 81) dX12_sign_81 flX12_175 rfl (by omega) (congrArg Prod.fst sh_73) rfl ?_
                  refine V_bipush (pc := 84) dX12_sign_84 bp_47 rfl ?_
                  refine V_icmp_eq (pc := 86) (tgt := 98) dX12_sign_86 (by decide) rfl (fun hc => ?_) (fun hc => ?_)
                  · replace hb1 := (if_pos hc).symm.trans hb1
                    cases hb1
                    exact KTb1 rfl
                  · replace hb1 := (if_neg hc).symm.trans hb1
                    refine V_aload_n (pc := 89) dX12_sign_89 rfl rfl rfl ?_
                    refine V_getI (pc := 90) dX12_sign_90 flX12_175 rfl (by omega) (congrArg Prod.fst sh_73) rfl ?_
                    refine V_bipush (pc := 93) dX12_sign_93 bp_37 rfl ?_
                    refine V_icmp_ne (pc := 95) (tgt := 105) dX12_sign_95 (by decide) rfl (fun hc => ?_) (fun hc => ?_)
                    · replace hb1 := (if_neg hc).symm.trans hb1
                      cases hb1
                      exact KFb1 (nbt rfl)
                    · replace hb1 := (if_pos hc).symm.trans hb1
                      cases hb1
                      exact KTb1 rfl
    · replace hf := (if_neg hc).symm.trans hf
      refine V_bipush (pc := 23) dX12_sign_23 bp_124 rfl ?_
      cases hf
      exact V_iret (pc := 25) dX12_sign_25 rfl PoI_mk
  · replace hf := (if_neg hc).symm.trans hf
    refine V_bipush (pc := 10) dX12_sign_10 bp_38 rfl ?_
    cases hf
    exact V_iret (pc := 12) dX12_sign_12 rfl PoI_mk
/-! ShadowDoorsModel.hasBracket -/
noncomputable def fX12_hasBracket_4 : Nat → Int32 → Int32 → HI → Option (Bool)
  | 0, _, _, _ => none
  | fu + 1, y1, y2, I =>
    if (I 73 19) ≤ y2 then
      Option.bind (i2b y1) fun b1 =>
      some b1
    else
      Option.bind (
        if y1 = 0 then
          if inb y2 160 = true then
            if (I 80 y2.toNatClampNeg) = (20 : Int32) then
              some true
            else
              some false
          else none
        else
          some true
      ) fun b2 =>
      if b2 = true then
        fX12_hasBracket_4 fu (1 : Int32) (y2 + (1 : Int32)) I
      else
        fX12_hasBracket_4 fu (0 : Int32) (y2 + (1 : Int32)) I
set_option maxRecDepth 100000 in
set_option maxHeartbeats 4000000 in
theorem lX12_hasBracket_4 {g : GG} {n d : Nat} {tw dr sk tl ff : Nat} (hG : RG tw dr sk tl ff) (hn : 116 ≤ n) {P : PP} : ∀ (fu : Nat) (y1 : Int32) (y2 : Int32) (I : HI) (L : HL) (res : Bool), fX12_hasBracket_4 fu y1 y2 I = some res → P (some (.int (b2i res))) n (RT tw dr sk tl ff) I L → V g mX12_hasBracket (d + 1) 0 0 n (RT tw dr sk tl ff) I L 4 [some (.ref 73), some (.int y1), some (.int y2)] [] P := by
  intro fu
  induction fu with
  | zero => intro y1 y2 I L res hf; cases (show none = some res from hf)
  | succ fu ih =>
    intro y1 y2 I L res hf K
    refine V_iload_n (pc := 4) dX12_hasBracket_4 rfl rfl rfl ?_
    refine V_aload_n (pc := 5) dX12_hasBracket_5 rfl rfl rfl ?_
    refine V_getI (pc := 6) dX12_hasBracket_6 flX12_264 rfl (by omega) (congrArg Prod.fst sh_73) rfl ?_
    refine V_icmp_ge (pc := 9) (tgt := 39) dX12_hasBracket_9 (by decide) rfl (fun hc => ?_) (fun hc => ?_)
    · replace hf := (if_pos hc).symm.trans hf
      refine V_iload_n (pc := 39) dX12_hasBracket_39 rfl rfl rfl ?_
      obtain ⟨b1, hb1, hf⟩ := bnd hf
      cases hf
      exact V_zretE (pc := 40) dX12_hasBracket_40 rfl (i2b_eq hb1) K
    · replace hf := (if_neg hc).symm.trans hf
      refine V_iload_n (pc := 12) dX12_hasBracket_12 rfl rfl rfl ?_
      obtain ⟨b2, hb2, hf⟩ := bnd hf
      have KTb2 : b2 = true → V g mX12_hasBracket (d + 1) 0 0 n (RT tw dr sk tl ff) I L 27 [some (.ref 73), some (.int y1), some (.int y2)] [] P := fun hc => by
        replace hf := (if_pos hc).symm.trans hf
        refine V_iconst (pc := 27) dX12_hasBracket_27 ic_1 rfl ?_
        refine V_goto (pc := 28) (tgt := 32) dX12_hasBracket_28 (by decide) ?_
        refine V_istore_n (ls' := [some _, some _, some _]) (pc := 32) dX12_hasBracket_32 rfl (Nat.le_of_ble_eq_true rfl) rfl rfl ?_
        refine V_iinc (ls' := [some _, some _, some _]) (pc := 33) dX12_hasBracket_33 rfl (Nat.le_of_ble_eq_true rfl) (congrArg _ ic_1) rfl rfl ?_
        refine V_goto (pc := 36) (tgt := 4) dX12_hasBracket_36 (by decide) ?_
        exact V_wk (ih _ _ _ _ _ hf K) ⟨rfl, ⟨rfl, ⟨rfl, trivial⟩⟩⟩
      have KFb2 : ¬ b2 = true → V g mX12_hasBracket (d + 1) 0 0 n (RT tw dr sk tl ff) I L 31 [some (.ref 73), some (.int y1), some (.int y2)] [] P := fun hc => by
        replace hf := (if_neg hc).symm.trans hf
        refine V_iconst (pc := 31) dX12_hasBracket_31 ic_0 rfl ?_
        refine V_istore_n (ls' := [some _, some _, some _]) (pc := 32) dX12_hasBracket_32 rfl (Nat.le_of_ble_eq_true rfl) rfl rfl ?_
        refine V_iinc (ls' := [some _, some _, some _]) (pc := 33) dX12_hasBracket_33 rfl (Nat.le_of_ble_eq_true rfl) (congrArg _ ic_1) rfl rfl ?_
        refine V_goto (pc := 36) (tgt := 4) dX12_hasBracket_36 (by decide) ?_
        exact V_wk (ih _ _ _ _ _ hf K) ⟨rfl, ⟨rfl, ⟨rfl, trivial⟩⟩⟩
      refine V_if_ne (pc := 13) (tgt := 27) dX12_hasBracket_13 (by decide) rfl (fun hc => ?_) (fun hc => ?_)
      · replace hb2 := (if_neg hc).symm.trans hb2
        cases hb2
        exact KTb2 rfl
      · replace hb2 := (if_pos hc).symm.trans hb2
        refine V_aload_n (pc := 16) dX12_hasBracket_16 rfl rfl rfl ?_
        refine V_getR (pc := 17) dX12_hasBracket_17 flX12_33 rfl (by omega) (congrArg Prod.fst sh_73) rt_73_15 rfl ?_
        refine V_iload_n (pc := 20) dX12_hasBracket_20 rfl rfl rfl ?_
        obtain ⟨hc3, hb2⟩ := pif hb2
        refine V_iald (pc := 21) dX12_hasBracket_21 (by omega) sh_80 hc3 rfl ?_
        refine V_bipush (pc := 22) dX12_hasBracket_22 bp_20 rfl ?_
        refine V_icmp_ne (pc := 24) (tgt := 31) dX12_hasBracket_24 (by decide) rfl (fun hc => ?_) (fun hc => ?_)
        · replace hb2 := (if_neg hc).symm.trans hb2
          cases hb2
          exact KFb2 (nbt rfl)
        · replace hb2 := (if_pos hc).symm.trans hb2
          cases hb2
          exact KTb2 rfl
noncomputable def fX12_hasBracket (I : HI) : Option (Bool) :=
  Option.bind (fX12_hasBracket_4 FUEL (0 : Int32) (0 : Int32) I) fun q4 =>
  some q4
set_option maxRecDepth 100000 in
set_option maxHeartbeats 4000000 in
theorem tX12_hasBracket {g : GG} {n d : Nat} {tw dr sk tl ff : Nat} (hG : RG tw dr sk tl ff) (hn : 116 ≤ n) {I : HI} {L : HL} {res : Bool} (hf : fX12_hasBracket I = some res) : CT g mX12_hasBracket (d + 1) 0 0 n (RT tw dr sk tl ff) I L [.ref 73] (PoB n (RT tw dr sk tl ff) res I L) := by
  refine CT.of rfl (Nat.le_of_ble_eq_true rfl) ?_
  show V g mX12_hasBracket (d + 1) 0 0 n (RT tw dr sk tl ff) I L 0 [some (.ref 73)] [] (PoB n (RT tw dr sk tl ff) res I L)
  refine V_iconst (pc := 0) dX12_hasBracket_0 ic_0 rfl ?_
  refine V_istore_n (ls' := [some _, some _]) (pc := 1) dX12_hasBracket_1 rfl (Nat.le_of_ble_eq_true rfl) rfl rfl ?_
  refine V_iconst (pc := 2) dX12_hasBracket_2 ic_0 rfl ?_
  refine V_istore_n (ls' := [some _, some _, some _]) (pc := 3) dX12_hasBracket_3 rfl (Nat.le_of_ble_eq_true rfl) rfl rfl ?_
  obtain ⟨q4, hq4, hf⟩ := bnd hf
  refine V_wk (lX12_hasBracket_4 hG hn FUEL _ _ _ _ _ hq4 ?_) ⟨rfl, ⟨rfl, ⟨rfl, trivial⟩⟩⟩
  cases hf
  exact PoB_mk
/-! ShadowDoorsModel.readShade -/
noncomputable def fX12_readShade_30 : Nat → Int32 → HI → HL → Option (HI × HL)
  | 0, _, _, _ => none
  | fu + 1, y1, I, L =>
    Option.bind (
      if y1 = 0 then
        some true
      else
        if (I 73 2) = 0 then
          some false
        else
          some true
    ) fun b7 =>
    if b7 = true then
      some (I, L)
    else
      Option.bind (
        if (I 73 6) = (41 : Int32) then
          Option.bind (fX12_hasBracket  I) fun q9 =>
          if (b2i q9) = 0 then
            some true
          else
            some false
        else
          some true
      ) fun b8 =>
      if b8 = true then
        Option.bind (
          if (fX12_sign  I L) = 0 then
            some true
          else
            if (fX12_tight (fX12_sign  I L)) = (4 : Int32) then
              Option.bind (fX12_hasRelation  I) fun q11 =>
              if (b2i q11) = 0 then
                some false
              else
                some true
            else
              some false
        ) fun b10 =>
        if b10 = true then
          fX12_readShade_30 fu (0 : Int32) I L
        else
          Option.bind (fX12_close (fX12_tight (fX12_sign  I L)) I) fun q12 =>
          if inb (q12 73 19) 160 = true then
            let I14 : HI := up2 q12 80 (q12 73 19).toNatClampNeg (fX12_sign  I L)
            let I15 : HI := up2 I14 73 19 ((I14 73 19) + (1 : Int32))
            Option.bind (fX12_token  I15 L) fun q16 =>
            Option.bind (fX12_unit  q16.1 q16.2) fun q17 =>
            fX12_readShade_30 fu y1 q17.1 q17.2
          else none
      else
        Option.bind (fX12_close (0 : Int32) I) fun q18 =>
        let I19 : HI := up2 q18 73 19 ((q18 73 19) - (1 : Int32))
        let I20 : HI := up2 I19 73 23 ((I19 73 23) - (1 : Int32))
        Option.bind (fX12_token  I20 L) fun q21 =>
        fX12_readShade_30 fu y1 q21.1 q21.2
set_option maxRecDepth 100000 in
set_option maxHeartbeats 4000000 in
theorem lX12_readShade_30 {g : GG} {n d : Nat} {tw dr sk tl ff : Nat} (hG : RG tw dr sk tl ff) (hn : 116 ≤ n) {P : PP} : ∀ (fu : Nat) (y1 : Int32) (I : HI) (L : HL) (res : HI × HL), fX12_readShade_30 fu y1 I L = some res → V g mX12_readShade (d + 5) 0 0 n (RT tw dr sk tl ff) res.1 res.2 157 [some (.ref 73)] [] P → V g mX12_readShade (d + 5) 0 0 n (RT tw dr sk tl ff) I L 30 [some (.ref 73), some (.int y1)] [] P := by
  intro fu
  induction fu with
  | zero => intro y1 I L res hf; cases (show none = some res from hf)
  | succ fu ih =>
    intro y1 I L res hf K
    refine V_iload_n (pc := 30) dX12_readShade_30 rfl rfl rfl ?_
    obtain ⟨b7, hb7, hf⟩ := bnd hf
    have KTb7 : b7 = true → V g mX12_readShade (d + 5) 0 0 n (RT tw dr sk tl ff) I L 157 [some (.ref 73), some (.int y1)] [] P := fun hc => by
      replace hf := (if_pos hc).symm.trans hf
      cases hf
      exact V_wk K ⟨rfl, trivial⟩
    have KFb7 : ¬ b7 = true → V g mX12_readShade (d + 5) 0 0 n (RT tw dr sk tl ff) I L 41 [some (.ref 73), some (.int y1)] [] P := fun hc => by
      replace hf := (if_neg hc).symm.trans hf
      refine V_aload_n (pc := 41) dX12_readShade_41 rfl rfl rfl ?_
      refine V_cVi (md' := mX12_sign) (pc := 42) dX12_readShade_42 mlX12_301 mVX12_sign (tX12_sign hG hn rfl) rfl (by omega) (congrArg Prod.fst sh_73) rfl (Nat.le_of_ble_eq_true rfl) rfl ?_
      refine V_istore_n (ls' := [some _, some _, some _]) (pc := 45) dX12_readShade_45 rfl (Nat.le_of_ble_eq_true rfl) rfl rfl ?_
      refine V_aload_n (pc := 46) dX12_readShade_46 rfl rfl rfl ?_
      refine V_getI (pc := 47) dX12_readShade_47 flX12_175 rfl (by omega) (congrArg Prod.fst sh_73) rfl ?_
      refine V_bipush (pc := 50) dX12_readShade_50 bp_41 rfl ?_
      obtain ⟨b8, hb8, hf⟩ := bnd hf
      have KTb8 : b8 = true → V g mX12_readShade (d + 5) 0 0 n (RT tw dr sk tl ff) I L 94 [some (.ref 73), some (.int y1), some (.int (fX12_sign  I L))] [] P := fun hc => by
        replace hf := (if_pos hc).symm.trans hf
        refine V_iload_n (pc := 94) dX12_readShade_94 rfl rfl rfl ?_
        obtain ⟨b10, hb10, hf⟩ := bnd hf
        have KTb10 : b10 = true → V g mX12_readShade (d + 5) 0 0 n (RT tw dr sk tl ff) I L 152 [some (.ref 73), some (.int y1), some (.int (fX12_sign  I L))] [] P := fun hc => by
          replace hf := (if_pos hc).symm.trans hf
          refine V_iconst (pc := 152) dX12_readShade_152 ic_0 rfl ?_
          refine V_istore_n (ls' := [some _, some _, some _]) (pc := 153) dX12_readShade_153 rfl (Nat.le_of_ble_eq_true rfl) rfl rfl ?_
          refine V_goto (pc := 154) (tgt := 30) dX12_readShade_154 (by decide) ?_
          exact V_wk (ih _ _ _ _ hf K) ⟨rfl, ⟨rfl, trivial⟩⟩
        have KFb10 : ¬ b10 = true → V g mX12_readShade (d + 5) 0 0 n (RT tw dr sk tl ff) I L 113 [some (.ref 73), some (.int y1), some (.int (fX12_sign  I L))] [] P := fun hc => by
          replace hf := (if_neg hc).symm.trans hf
          refine V_aload_n (pc := 113) dX12_readShade_113 rfl rfl rfl ?_
          refine V_iload_n (pc := 114) dX12_readShade_114 rfl rfl rfl ?_
          refine V_cSi (md' := mX12_tight) (pc := 115) dX12_readShade_115 mlX12_267 mSX12_tight (tX12_tight rfl) rfl rfl (Nat.le_of_ble_eq_true rfl) rfl ?_
          obtain ⟨q12, hq12, hf⟩ := bnd hf
          refine V_cVv (md' := mX12_close) (pc := 118) dX12_readShade_118 mlX12_307 mVX12_close (tX12_close hG hn hq12) rfl (by omega) (congrArg Prod.fst sh_73) rfl (Nat.le_of_ble_eq_true rfl) rfl ?_
          refine V_aload_n (pc := 121) dX12_readShade_121 rfl rfl rfl ?_
          refine V_getR (pc := 122) dX12_readShade_122 flX12_33 rfl (by omega) (congrArg Prod.fst sh_73) rt_73_15 rfl ?_
          refine V_aload_n (pc := 125) dX12_readShade_125 rfl rfl rfl ?_
          refine V_getI (pc := 126) dX12_readShade_126 flX12_264 rfl (by omega) (congrArg Prod.fst sh_73) rfl ?_
          refine V_iload_n (pc := 129) dX12_readShade_129 rfl rfl rfl ?_
          obtain ⟨hc13, hf⟩ := pif hf
          let I14 : HI := up2 q12 80 (q12 73 19).toNatClampNeg (fX12_sign  I L)
          refine V_iast (pc := 130) dX12_readShade_130 (by omega) sh_80 hc13 rfl ?_
          refine V_aload_n (pc := 131) dX12_readShade_131 rfl rfl rfl ?_
          refine V_dup (pc := 132) dX12_readShade_132 rfl rfl ?_
          refine V_getI (pc := 133) dX12_readShade_133 flX12_264 rfl (by omega) (congrArg Prod.fst sh_73) rfl ?_
          refine V_iconst (pc := 136) dX12_readShade_136 ic_1 rfl ?_
          refine V_iadd (pc := 137) dX12_readShade_137 rfl ?_
          let I15 : HI := up2 I14 73 19 ((I14 73 19) + (1 : Int32))
          refine V_putI (pc := 138) dX12_readShade_138 flX12_264 rfl rfl (by omega) (congrArg Prod.fst sh_73) rfl ?_
          refine V_aload_n (pc := 141) dX12_readShade_141 rfl rfl rfl ?_
          obtain ⟨q16, hq16, hf⟩ := bnd hf
          refine V_cVv (md' := mX12_token) (pc := 142) dX12_readShade_142 mlX12_244 mVX12_token (tX12_token hG hn hq16) rfl (by omega) (congrArg Prod.fst sh_73) rfl (Nat.le_of_ble_eq_true rfl) rfl ?_
          refine V_aload_n (pc := 145) dX12_readShade_145 rfl rfl rfl ?_
          obtain ⟨q17, hq17, hf⟩ := bnd hf
          refine V_cVv (md' := mX12_unit) (pc := 146) dX12_readShade_146 mlX12_298 mVX12_unit (tX12_unit hG hn hq17) rfl (by omega) (congrArg Prod.fst sh_73) rfl (Nat.le_of_ble_eq_true rfl) rfl ?_
          refine V_goto (pc := 149) (tgt := 154) dX12_readShade_149 (by decide) ?_
          refine V_goto (pc := 154) (tgt := 30) dX12_readShade_154 (by decide) ?_
          exact V_wk (ih _ _ _ _ hf K) ⟨rfl, ⟨rfl, trivial⟩⟩
        refine V_if_eq (pc := 95) (tgt := 152) dX12_readShade_95 (by decide) rfl (fun hc => ?_) (fun hc => ?_)
        · replace hb10 := (if_pos hc).symm.trans hb10
          cases hb10
          exact KTb10 rfl
        · replace hb10 := (if_neg hc).symm.trans hb10
          refine V_iload_n (pc := 98) dX12_readShade_98 rfl rfl rfl ?_
          refine V_cSi (md' := mX12_tight) (pc := 99) dX12_readShade_99 mlX12_267 mSX12_tight (tX12_tight rfl) rfl rfl (Nat.le_of_ble_eq_true rfl) rfl ?_
          refine V_iconst (pc := 102) dX12_readShade_102 ic_4 rfl ?_
          refine V_icmp_ne (pc := 103) (tgt := 113) dX12_readShade_103 (by decide) rfl (fun hc => ?_) (fun hc => ?_)
          · replace hb10 := (if_neg hc).symm.trans hb10
            cases hb10
            exact KFb10 (nbt rfl)
          · replace hb10 := (if_pos hc).symm.trans hb10
            refine V_aload_n (pc := 106) dX12_readShade_106 rfl rfl rfl ?_
            obtain ⟨q11, hq11, hb10⟩ := bnd hb10
            refine V_cVz (md' := mX12_hasRelation) (pc := 107) dX12_readShade_107 mlX12_310 mVX12_hasRelation (tX12_hasRelation hG hn hq11) rfl (by omega) (congrArg Prod.fst sh_73) rfl (Nat.le_of_ble_eq_true rfl) rfl ?_
            refine V_if_ne (pc := 110) (tgt := 152) dX12_readShade_110 (by decide) rfl (fun hc => ?_) (fun hc => ?_)
            · replace hb10 := (if_neg hc).symm.trans hb10
              cases hb10
              exact KTb10 rfl
            · replace hb10 := (if_pos hc).symm.trans hb10
              cases hb10
              exact KFb10 (nbt rfl)
      have KFb8 : ¬ b8 = true → V g mX12_readShade (d + 5) 0 0 n (RT tw dr sk tl ff) I L 62 [some (.ref 73), some (.int y1), some (.int (fX12_sign  I L))] [] P := fun hc => by
        replace hf := (if_neg hc).symm.trans hf
        refine V_aload_n (pc := 62) dX12_readShade_62 rfl rfl rfl ?_
        refine V_iconst (pc := 63) dX12_readShade_63 ic_0 rfl ?_
        obtain ⟨q18, hq18, hf⟩ := bnd hf
        refine V_cVv (md' := mX12_close) (pc := 64) dX12_readShade_64 mlX12_307 mVX12_close (tX12_close hG hn hq18) rfl (by omega) (congrArg Prod.fst sh_73) rfl (Nat.le_of_ble_eq_true rfl) rfl ?_
        refine V_aload_n (pc := 67) dX12_readShade_67 rfl rfl rfl ?_
        refine V_dup (pc := 68) dX12_readShade_68 rfl rfl ?_
        refine V_getI (pc := 69) dX12_readShade_69 flX12_264 rfl (by omega) (congrArg Prod.fst sh_73) rfl ?_
        refine V_iconst (pc := 72) dX12_readShade_72 ic_1 rfl ?_
        refine V_isub (pc := 73) dX12_readShade_73 rfl ?_
        let I19 : HI := up2 q18 73 19 ((q18 73 19) - (1 : Int32))
        refine V_putI (pc := 74) dX12_readShade_74 flX12_264 rfl rfl (by omega) (congrArg Prod.fst sh_73) rfl ?_
        refine V_aload_n (pc := 77) dX12_readShade_77 rfl rfl rfl ?_
        refine V_dup (pc := 78) dX12_readShade_78 rfl rfl ?_
        refine V_getI (pc := 79) dX12_readShade_79 flX12_273 rfl (by omega) (congrArg Prod.fst sh_73) rfl ?_
        refine V_iconst (pc := 82) dX12_readShade_82 ic_1 rfl ?_
        refine V_isub (pc := 83) dX12_readShade_83 rfl ?_
        let I20 : HI := up2 I19 73 23 ((I19 73 23) - (1 : Int32))
        refine V_putI (pc := 84) dX12_readShade_84 flX12_273 rfl rfl (by omega) (congrArg Prod.fst sh_73) rfl ?_
        refine V_aload_n (pc := 87) dX12_readShade_87 rfl rfl rfl ?_
        obtain ⟨q21, hq21, hf⟩ := bnd hf
        refine V_cVv (md' := mX12_token) (pc := 88) dX12_readShade_88 mlX12_244 mVX12_token (tX12_token hG hn hq21) rfl (by omega) (congrArg Prod.fst sh_73) rfl (Nat.le_of_ble_eq_true rfl) rfl ?_
        refine V_goto (pc := 91) (tgt := 154) dX12_readShade_91 (by decide) ?_
        refine V_goto (pc := 154) (tgt := 30) dX12_readShade_154 (by decide) ?_
        exact V_wk (ih _ _ _ _ hf K) ⟨rfl, ⟨rfl, trivial⟩⟩
      refine V_icmp_ne (pc := 52) (tgt := 94) dX12_readShade_52 (by decide) rfl (fun hc => ?_) (fun hc => ?_)
      · replace hb8 := (if_neg hc).symm.trans hb8
        cases hb8
        exact KTb8 rfl
      · replace hb8 := (if_pos hc).symm.trans hb8
        refine V_aload_n (pc := 55) dX12_readShade_55 rfl rfl rfl ?_
        obtain ⟨q9, hq9, hb8⟩ := bnd hb8
        refine V_cVz (md' := mX12_hasBracket) (pc := 56) dX12_readShade_56 mlX12_304 mVX12_hasBracket (tX12_hasBracket hG hn hq9) rfl (by omega) (congrArg Prod.fst sh_73) rfl (Nat.le_of_ble_eq_true rfl) rfl ?_
        refine V_if_eq (pc := 59) (tgt := 94) dX12_readShade_59 (by decide) rfl (fun hc => ?_) (fun hc => ?_)
        · replace hb8 := (if_pos hc).symm.trans hb8
          cases hb8
          exact KTb8 rfl
        · replace hb8 := (if_neg hc).symm.trans hb8
          cases hb8
          exact KFb8 (nbt rfl)
    refine V_if_eq (pc := 31) (tgt := 157) dX12_readShade_31 (by decide) rfl (fun hc => ?_) (fun hc => ?_)
    · replace hb7 := (if_pos hc).symm.trans hb7
      cases hb7
      exact KTb7 rfl
    · replace hb7 := (if_neg hc).symm.trans hb7
      refine V_aload_n (pc := 34) dX12_readShade_34 rfl rfl rfl ?_
      refine V_getI (pc := 35) dX12_readShade_35 flX12_188 rfl (by omega) (congrArg Prod.fst sh_73) rfl ?_
      refine V_if_ne (pc := 38) (tgt := 157) dX12_readShade_38 (by decide) rfl (fun hc => ?_) (fun hc => ?_)
      · replace hb7 := (if_neg hc).symm.trans hb7
        cases hb7
        exact KTb7 rfl
      · replace hb7 := (if_pos hc).symm.trans hb7
        cases hb7
        exact KFb7 (nbt rfl)
noncomputable def fX12_readShade (I : HI) (L : HL) : Option (HI × HL) :=
  Option.bind (fX12_token  I L) fun q1 =>
  let I2 : HI := up2 q1.1 73 17 (0 : Int32)
  let I3 : HI := up2 I2 73 19 (0 : Int32)
  let I4 : HI := up2 I3 73 23 (0 : Int32)
  let I5 : HI := up2 I4 73 22 (0 : Int32)
  Option.bind (fX12_unit  I5 q1.2) fun q6 =>
  Option.bind (fX12_readShade_30 FUEL (1 : Int32) q6.1 q6.2) fun q22 =>
  Option.bind (
    Option.bind (
      if (q22.1 73 2) = 0 then
        Option.bind (fX12_hasBracket  q22.1) fun q28 =>
        if (b2i q28) = 0 then
          some true
        else
          some false
      else
        some true
    ) fun b27 =>
    if b27 = true then
      some q22.1
    else
      obn (fX12_wrong (2 : Int32) q22.1) fun q29 =>
      some q29
  ) fun q26 =>
  if (q26 73 2) = 0 then
    Option.bind (fX12_close (0 : Int32) q26) fun q30 =>
    some (q30, q22.2)
  else
    some (q26, q22.2)
set_option maxRecDepth 100000 in
set_option maxHeartbeats 4000000 in
theorem tX12_readShade {g : GG} {n d : Nat} {tw dr sk tl ff : Nat} (hG : RG tw dr sk tl ff) (hn : 116 ≤ n) {I : HI} {L : HL} {res : HI × HL} (hf : fX12_readShade I L = some res) : CT g mX12_readShade (d + 5) 0 0 n (RT tw dr sk tl ff) I L [.ref 73] (PoV n (RT tw dr sk tl ff) res.1 res.2) := by
  refine CT.of rfl (Nat.le_of_ble_eq_true rfl) ?_
  show V g mX12_readShade (d + 5) 0 0 n (RT tw dr sk tl ff) I L 0 [some (.ref 73)] [] (PoV n (RT tw dr sk tl ff) res.1 res.2)
  refine V_aload_n (pc := 0) dX12_readShade_0 rfl rfl rfl ?_
  obtain ⟨q1, hq1, hf⟩ := bnd hf
  refine V_cVv (md' := mX12_token) (pc := 1) dX12_readShade_1 mlX12_244 mVX12_token (tX12_token hG hn hq1) rfl (by omega) (congrArg Prod.fst sh_73) rfl (Nat.le_of_ble_eq_true rfl) rfl ?_
  refine V_aload_n (pc := 4) dX12_readShade_4 rfl rfl rfl ?_
  refine V_iconst (pc := 5) dX12_readShade_5 ic_0 rfl ?_
  let I2 : HI := up2 q1.1 73 17 (0 : Int32)
  refine V_putI (pc := 6) dX12_readShade_6 flX12_261 rfl rfl (by omega) (congrArg Prod.fst sh_73) rfl ?_
  refine V_aload_n (pc := 9) dX12_readShade_9 rfl rfl rfl ?_
  refine V_iconst (pc := 10) dX12_readShade_10 ic_0 rfl ?_
  let I3 : HI := up2 I2 73 19 (0 : Int32)
  refine V_putI (pc := 11) dX12_readShade_11 flX12_264 rfl rfl (by omega) (congrArg Prod.fst sh_73) rfl ?_
  refine V_aload_n (pc := 14) dX12_readShade_14 rfl rfl rfl ?_
  refine V_iconst (pc := 15) dX12_readShade_15 ic_0 rfl ?_
  let I4 : HI := up2 I3 73 23 (0 : Int32)
  refine V_putI (pc := 16) dX12_readShade_16 flX12_273 rfl rfl (by omega) (congrArg Prod.fst sh_73) rfl ?_
  refine V_aload_n (pc := 19) dX12_readShade_19 rfl rfl rfl ?_
  refine V_iconst (pc := 20) dX12_readShade_20 ic_0 rfl ?_
  let I5 : HI := up2 I4 73 22 (0 : Int32)
  refine V_putI (pc := 21) dX12_readShade_21 flX12_279 rfl rfl (by omega) (congrArg Prod.fst sh_73) rfl ?_
  refine V_aload_n (pc := 24) dX12_readShade_24 rfl rfl rfl ?_
  obtain ⟨q6, hq6, hf⟩ := bnd hf
  refine V_cVv (md' := mX12_unit) (pc := 25) dX12_readShade_25 mlX12_298 mVX12_unit (tX12_unit hG hn hq6) rfl (by omega) (congrArg Prod.fst sh_73) rfl (Nat.le_of_ble_eq_true rfl) rfl ?_
  refine V_iconst (pc := 28) dX12_readShade_28 ic_1 rfl ?_
  refine V_istore_n (ls' := [some _, some _]) (pc := 29) dX12_readShade_29 rfl (Nat.le_of_ble_eq_true rfl) rfl rfl ?_
  obtain ⟨q22, hq22, hf⟩ := bnd hf
  refine V_wk (lX12_readShade_30 hG hn FUEL _ _ _ _ hq22 ?_) ⟨rfl, ⟨rfl, trivial⟩⟩
  refine V_aload_n (pc := 157) dX12_readShade_157 rfl rfl rfl ?_
  refine V_getI (pc := 158) dX12_readShade_158 flX12_188 rfl (by omega) (congrArg Prod.fst sh_73) rfl ?_
  obtain ⟨q26, hq26, hf⟩ := bnd hf
  have Kq26 : V g mX12_readShade (d + 5) 0 0 n (RT tw dr sk tl ff) q26 q22.2 176 [some (.ref 73)] [] (PoV n (RT tw dr sk tl ff) res.1 res.2) := by
    refine V_aload_n (pc := 176) dX12_readShade_176 rfl rfl rfl ?_
    refine V_getI (pc := 177) dX12_readShade_177 flX12_188 rfl (by omega) (congrArg Prod.fst sh_73) rfl ?_
    refine V_if_ne (pc := 180) (tgt := 188) dX12_readShade_180 (by decide) rfl (fun hc => ?_) (fun hc => ?_)
    · replace hf := (if_neg hc).symm.trans hf
      cases hf
      exact V_vret (pc := 188) dX12_readShade_188 rfl PoV_mk
    · replace hf := (if_pos hc).symm.trans hf
      refine V_aload_n (pc := 183) dX12_readShade_183 rfl rfl rfl ?_
      refine V_iconst (pc := 184) dX12_readShade_184 ic_0 rfl ?_
      obtain ⟨q30, hq30, hf⟩ := bnd hf
      refine V_cVv (md' := mX12_close) (pc := 185) dX12_readShade_185 mlX12_307 mVX12_close (tX12_close hG hn hq30) rfl (by omega) (congrArg Prod.fst sh_73) rfl (Nat.le_of_ble_eq_true rfl) rfl ?_
      cases hf
      exact V_vret (pc := 188) dX12_readShade_188 rfl PoV_mk
  obtain ⟨b27, hb27, hq26⟩ := bnd hq26
  have KTb27 : b27 = true → V g mX12_readShade (d + 5) 0 0 n (RT tw dr sk tl ff) q22.1 q22.2 176 [some (.ref 73)] [] (PoV n (RT tw dr sk tl ff) res.1 res.2) := fun hc => by
    replace hq26 := (if_pos hc).symm.trans hq26
    cases hq26
    exact V_wk Kq26 ⟨rfl, trivial⟩
  have KFb27 : ¬ b27 = true → V g mX12_readShade (d + 5) 0 0 n (RT tw dr sk tl ff) q22.1 q22.2 171 [some (.ref 73)] [] (PoV n (RT tw dr sk tl ff) res.1 res.2) := fun hc => by
    replace hq26 := (if_neg hc).symm.trans hq26
    refine V_aload_n (pc := 171) dX12_readShade_171 rfl rfl rfl ?_
    refine V_iconst (pc := 172) dX12_readShade_172 ic_2 rfl ?_
    obtain ⟨q29, hq29, hq26⟩ := obd hq26
    refine V_cVv (md' := mX12_wrong) (pc := 173) dX12_readShade_173 mlX12_241 mVX12_wrong (tX12_wrong hG hn hq29) rfl (by omega) (congrArg Prod.fst sh_73) rfl (Nat.le_of_ble_eq_true rfl) rfl ?_
    cases hq26
    exact V_wk Kq26 ⟨rfl, trivial⟩
  refine V_if_ne (pc := 161) (tgt := 176) dX12_readShade_161 (by decide) rfl (fun hc => ?_) (fun hc => ?_)
  · replace hb27 := (if_neg hc).symm.trans hb27
    cases hb27
    exact KTb27 rfl
  · replace hb27 := (if_pos hc).symm.trans hb27
    refine V_aload_n (pc := 164) dX12_readShade_164 rfl rfl rfl ?_
    obtain ⟨q28, hq28, hb27⟩ := bnd hb27
    refine V_cVz (md' := mX12_hasBracket) (pc := 165) dX12_readShade_165 mlX12_304 mVX12_hasBracket (tX12_hasBracket hG hn hq28) rfl (by omega) (congrArg Prod.fst sh_73) rfl (Nat.le_of_ble_eq_true rfl) rfl ?_
    refine V_if_eq (pc := 168) (tgt := 176) dX12_readShade_168 (by decide) rfl (fun hc => ?_) (fun hc => ?_)
    · replace hb27 := (if_pos hc).symm.trans hb27
      cases hb27
      exact KTb27 rfl
    · replace hb27 := (if_neg hc).symm.trans hb27
      cases hb27
      exact KFb27 (nbt rfl)
/-! ShadowDoorsModel.truth -/
noncomputable def fX12_truth (v1 : Int32) : Int32 :=
  if v1 = 0 then
    (0 : Int32)
  else
    (1 : Int32)
set_option maxRecDepth 100000 in
set_option maxHeartbeats 4000000 in
theorem tX12_truth {g : GG} {n d : Nat} {r : HR}  {v1 : Int32} {I : HI} {L : HL} {res : Int32} (hf : fX12_truth v1 = res) : CT g mX12_truth (d + 1) 0 0 n r I L [.int v1] (PoI n r res I L) := by
  refine CT.of rfl (Nat.le_of_ble_eq_true rfl) ?_
  show V g mX12_truth (d + 1) 0 0 n r I L 0 [some (.int v1)] [] (PoI n r res I L)
  refine V_iload_n (pc := 0) dX12_truth_0 rfl rfl rfl ?_
  refine V_if_eq (pc := 1) (tgt := 8) dX12_truth_1 (by decide) rfl (fun hc => ?_) (fun hc => ?_)
  · replace hf := (if_pos hc).symm.trans hf
    refine V_iconst (pc := 8) dX12_truth_8 ic_0 rfl ?_
    cases hf
    exact V_iret (pc := 9) dX12_truth_9 rfl PoI_mk
  · replace hf := (if_neg hc).symm.trans hf
    refine V_iconst (pc := 4) dX12_truth_4 ic_1 rfl ?_
    refine V_goto (pc := 5) (tgt := 9) dX12_truth_5 (by decide) ?_
    cases hf
    exact V_iret (pc := 9) dX12_truth_9 rfl PoI_mk
/-! ShadowDoorsModel.done -/
noncomputable def fX12_done (v1 : Int32) (v2 : Int32) (v3 : Int32) : Option (Int32) :=
  if v1 = (37 : Int32) then
    if v3 = 0 then
      some (0 : Int32)
    else
      if v3 = 0 then none else
      some (v2 - v2 / v3 * v3)
  else
    if v1 = (38 : Int32) then
      Option.bind (
        Option.bind (
          if v2 = 0 then
            some true
          else
            if v3 = 0 then
              some true
            else
              some false
        ) fun b6 =>
        if b6 = true then
          some false
        else
          some true
      ) fun q5 =>
      some (fX12_truth (b2i q5))
    else
      if v1 = (42 : Int32) then
        some (v2 * v3)
      else
        if v1 = (43 : Int32) then
          some (v2 + v3)
        else
          if v1 = (45 : Int32) then
            some (v2 - v3)
          else
            if v1 = (47 : Int32) then
              if v3 = 0 then
                some (0 : Int32)
              else
                if v3 = 0 then none else
                some (v2 / v3)
            else
              if v1 = (60 : Int32) then
                Option.bind (
                  if v3 ≤ v2 then
                    some false
                  else
                    some true
                ) fun q13 =>
                some (fX12_truth (b2i q13))
              else
                if v1 = (61 : Int32) then
                  Option.bind (
                    if v2 = v3 then
                      some true
                    else
                      some false
                  ) fun q15 =>
                  some (fX12_truth (b2i q15))
                else
                  if v1 = (62 : Int32) then
                    Option.bind (
                      if v2 ≤ v3 then
                        some false
                      else
                        some true
                    ) fun q17 =>
                    some (fX12_truth (b2i q17))
                  else
                    Option.bind (
                      Option.bind (
                        if v2 = 0 then
                          if v3 = 0 then
                            some false
                          else
                            some true
                        else
                          some true
                      ) fun b20 =>
                      if b20 = true then
                        some true
                      else
                        some false
                    ) fun q19 =>
                    some (fX12_truth (b2i q19))
set_option maxRecDepth 100000 in
set_option maxHeartbeats 4000000 in
theorem tX12_done {g : GG} {n d : Nat} {r : HR}  {v1 : Int32} {v2 : Int32} {v3 : Int32} {I : HI} {L : HL} {res : Int32} (hf : fX12_done v1 v2 v3 = some res) : CT g mX12_done (d + 2) 0 0 n r I L [.int v1, .int v2, .int v3] (PoI n r res I L) := by
  refine CT.of rfl (Nat.le_of_ble_eq_true rfl) ?_
  show V g mX12_done (d + 2) 0 0 n r I L 0 [some (.int v1), some (.int v2), some (.int v3)] [] (PoI n r res I L)
  refine V_iload_n (pc := 0) dX12_done_0 rfl rfl rfl ?_
  by_cases hc1 : v1 = (37 : Int32)
  · replace hf := (if_pos hc1).symm.trans hf
    refine V_tsIn (pc := 1) (tgt := 144) dX12_done_1 (by rw [hc1]; decide) (by rw [hc1]; decide) (by rw [hc1]; first | done | rfl) (by decide) ?_
    refine V_iload_n (pc := 144) dX12_done_144 rfl rfl rfl ?_
    refine V_if_ne (pc := 145) (tgt := 152) dX12_done_145 (by decide) rfl (fun hc => ?_) (fun hc => ?_)
    · replace hf := (if_neg hc).symm.trans hf
      refine V_iload_n (pc := 152) dX12_done_152 rfl rfl rfl ?_
      refine V_iload_n (pc := 153) dX12_done_153 rfl rfl rfl ?_
      obtain ⟨hc2, hf⟩ := nif hf
      refine V_irem (pc := 154) dX12_done_154 hc2 rfl ?_
      cases hf
      exact V_iret (pc := 155) dX12_done_155 rfl PoI_mk
    · replace hf := (if_pos hc).symm.trans hf
      refine V_iconst (pc := 148) dX12_done_148 ic_0 rfl ?_
      refine V_goto (pc := 149) (tgt := 155) dX12_done_149 (by decide) ?_
      cases hf
      exact V_iret (pc := 155) dX12_done_155 rfl PoI_mk
  · replace hf := (if_neg hc1).symm.trans hf
    by_cases hc3 : v1 = (38 : Int32)
    · replace hf := (if_pos hc3).symm.trans hf
      refine V_tsIn (pc := 1) (tgt := 198) dX12_done_1 (by rw [hc3]; decide) (by rw [hc3]; decide) (by rw [hc3]; first | done | rfl) (by decide) ?_
      refine V_iload_n (pc := 198) dX12_done_198 rfl rfl rfl ?_
      obtain ⟨q5, hq5, hf⟩ := bnd hf
      have Kq5 : V g mX12_done (d + 2) 0 0 n r I L 211 [] [.int (b2i q5)] (PoI n r res I L) := by
        refine V_cSi (md' := mX12_truth) (pc := 211) dX12_done_211 mlX12_313 mSX12_truth (tX12_truth rfl) rfl rfl (Nat.le_of_ble_eq_true rfl) rfl ?_
        cases hf
        exact V_iret (pc := 214) dX12_done_214 rfl PoI_mk
      obtain ⟨b6, hb6, hq5⟩ := bnd hq5
      have KTb6 : b6 = true → V g mX12_done (d + 2) 0 0 n r I L 210 [some (.int v1), some (.int v2), some (.int v3)] [] (PoI n r res I L) := fun hc => by
        replace hq5 := (if_pos hc).symm.trans hq5
        refine V_iconst (pc := 210) dX12_done_210 ic_0 rfl ?_
        cases hq5
        exact V_wk Kq5 trivial
      have KFb6 : ¬ b6 = true → V g mX12_done (d + 2) 0 0 n r I L 206 [some (.int v1), some (.int v2), some (.int v3)] [] (PoI n r res I L) := fun hc => by
        replace hq5 := (if_neg hc).symm.trans hq5
        refine V_iconst (pc := 206) dX12_done_206 ic_1 rfl ?_
        refine V_goto (pc := 207) (tgt := 211) dX12_done_207 (by decide) ?_
        cases hq5
        exact V_wk Kq5 trivial
      refine V_if_eq (pc := 199) (tgt := 210) dX12_done_199 (by decide) rfl (fun hc => ?_) (fun hc => ?_)
      · replace hb6 := (if_pos hc).symm.trans hb6
        cases hb6
        exact KTb6 rfl
      · replace hb6 := (if_neg hc).symm.trans hb6
        refine V_iload_n (pc := 202) dX12_done_202 rfl rfl rfl ?_
        refine V_if_eq (pc := 203) (tgt := 210) dX12_done_203 (by decide) rfl (fun hc => ?_) (fun hc => ?_)
        · replace hb6 := (if_pos hc).symm.trans hb6
          cases hb6
          exact KTb6 rfl
        · replace hb6 := (if_neg hc).symm.trans hb6
          cases hb6
          exact KFb6 (nbt rfl)
    · replace hf := (if_neg hc3).symm.trans hf
      by_cases hc7 : v1 = (42 : Int32)
      · replace hf := (if_pos hc7).symm.trans hf
        refine V_tsIn (pc := 1) (tgt := 128) dX12_done_1 (by rw [hc7]; decide) (by rw [hc7]; decide) (by rw [hc7]; first | done | rfl) (by decide) ?_
        refine V_iload_n (pc := 128) dX12_done_128 rfl rfl rfl ?_
        refine V_iload_n (pc := 129) dX12_done_129 rfl rfl rfl ?_
        refine V_imul (pc := 130) dX12_done_130 rfl ?_
        cases hf
        exact V_iret (pc := 131) dX12_done_131 rfl PoI_mk
      · replace hf := (if_neg hc7).symm.trans hf
        by_cases hc8 : v1 = (43 : Int32)
        · replace hf := (if_pos hc8).symm.trans hf
          refine V_tsIn (pc := 1) (tgt := 120) dX12_done_1 (by rw [hc8]; decide) (by rw [hc8]; decide) (by rw [hc8]; first | done | rfl) (by decide) ?_
          refine V_iload_n (pc := 120) dX12_done_120 rfl rfl rfl ?_
          refine V_iload_n (pc := 121) dX12_done_121 rfl rfl rfl ?_
          refine V_iadd (pc := 122) dX12_done_122 rfl ?_
          cases hf
          exact V_iret (pc := 123) dX12_done_123 rfl PoI_mk
        · replace hf := (if_neg hc8).symm.trans hf
          by_cases hc9 : v1 = (45 : Int32)
          · replace hf := (if_pos hc9).symm.trans hf
            refine V_tsIn (pc := 1) (tgt := 124) dX12_done_1 (by rw [hc9]; decide) (by rw [hc9]; decide) (by rw [hc9]; first | done | rfl) (by decide) ?_
            refine V_iload_n (pc := 124) dX12_done_124 rfl rfl rfl ?_
            refine V_iload_n (pc := 125) dX12_done_125 rfl rfl rfl ?_
            refine V_isub (pc := 126) dX12_done_126 rfl ?_
            cases hf
            exact V_iret (pc := 127) dX12_done_127 rfl PoI_mk
          · replace hf := (if_neg hc9).symm.trans hf
            by_cases hc10 : v1 = (47 : Int32)
            · replace hf := (if_pos hc10).symm.trans hf
              refine V_tsIn (pc := 1) (tgt := 132) dX12_done_1 (by rw [hc10]; decide) (by rw [hc10]; decide) (by rw [hc10]; first | done | rfl) (by decide) ?_
              refine V_iload_n (pc := 132) dX12_done_132 rfl rfl rfl ?_
              refine V_if_ne (pc := 133) (tgt := 140) dX12_done_133 (by decide) rfl (fun hc => ?_) (fun hc => ?_)
              · replace hf := (if_neg hc).symm.trans hf
                refine V_iload_n (pc := 140) dX12_done_140 rfl rfl rfl ?_
                refine V_iload_n (pc := 141) dX12_done_141 rfl rfl rfl ?_
                obtain ⟨hc11, hf⟩ := nif hf
                refine V_idiv (pc := 142) dX12_done_142 hc11 rfl ?_
                cases hf
                exact V_iret (pc := 143) dX12_done_143 rfl PoI_mk
              · replace hf := (if_pos hc).symm.trans hf
                refine V_iconst (pc := 136) dX12_done_136 ic_0 rfl ?_
                refine V_goto (pc := 137) (tgt := 143) dX12_done_137 (by decide) ?_
                cases hf
                exact V_iret (pc := 143) dX12_done_143 rfl PoI_mk
            · replace hf := (if_neg hc10).symm.trans hf
              by_cases hc12 : v1 = (60 : Int32)
              · replace hf := (if_pos hc12).symm.trans hf
                refine V_tsIn (pc := 1) (tgt := 156) dX12_done_1 (by rw [hc12]; decide) (by rw [hc12]; decide) (by rw [hc12]; first | done | rfl) (by decide) ?_
                refine V_iload_n (pc := 156) dX12_done_156 rfl rfl rfl ?_
                refine V_iload_n (pc := 157) dX12_done_157 rfl rfl rfl ?_
                obtain ⟨q13, hq13, hf⟩ := bnd hf
                have Kq13 : V g mX12_done (d + 2) 0 0 n r I L 166 [] [.int (b2i q13)] (PoI n r res I L) := by
                  refine V_cSi (md' := mX12_truth) (pc := 166) dX12_done_166 mlX12_313 mSX12_truth (tX12_truth rfl) rfl rfl (Nat.le_of_ble_eq_true rfl) rfl ?_
                  cases hf
                  exact V_iret (pc := 169) dX12_done_169 rfl PoI_mk
                refine V_icmp_ge (pc := 158) (tgt := 165) dX12_done_158 (by decide) rfl (fun hc => ?_) (fun hc => ?_)
                · replace hq13 := (if_pos hc).symm.trans hq13
                  refine V_iconst (pc := 165) dX12_done_165 ic_0 rfl ?_
                  cases hq13
                  exact V_wk Kq13 trivial
                · replace hq13 := (if_neg hc).symm.trans hq13
                  refine V_iconst (pc := 161) dX12_done_161 ic_1 rfl ?_
                  refine V_goto (pc := 162) (tgt := 166) dX12_done_162 (by decide) ?_
                  cases hq13
                  exact V_wk Kq13 trivial
              · replace hf := (if_neg hc12).symm.trans hf
                by_cases hc14 : v1 = (61 : Int32)
                · replace hf := (if_pos hc14).symm.trans hf
                  refine V_tsIn (pc := 1) (tgt := 184) dX12_done_1 (by rw [hc14]; decide) (by rw [hc14]; decide) (by rw [hc14]; first | done | rfl) (by decide) ?_
                  refine V_iload_n (pc := 184) dX12_done_184 rfl rfl rfl ?_
                  refine V_iload_n (pc := 185) dX12_done_185 rfl rfl rfl ?_
                  obtain ⟨q15, hq15, hf⟩ := bnd hf
                  have Kq15 : V g mX12_done (d + 2) 0 0 n r I L 194 [] [.int (b2i q15)] (PoI n r res I L) := by
                    refine V_cSi (md' := mX12_truth) (pc := 194) dX12_done_194 mlX12_313 mSX12_truth (tX12_truth rfl) rfl rfl (Nat.le_of_ble_eq_true rfl) rfl ?_
                    cases hf
                    exact V_iret (pc := 197) dX12_done_197 rfl PoI_mk
                  refine V_icmp_ne (pc := 186) (tgt := 193) dX12_done_186 (by decide) rfl (fun hc => ?_) (fun hc => ?_)
                  · replace hq15 := (if_neg hc).symm.trans hq15
                    refine V_iconst (pc := 193) dX12_done_193 ic_0 rfl ?_
                    cases hq15
                    exact V_wk Kq15 trivial
                  · replace hq15 := (if_pos hc).symm.trans hq15
                    refine V_iconst (pc := 189) dX12_done_189 ic_1 rfl ?_
                    refine V_goto (pc := 190) (tgt := 194) dX12_done_190 (by decide) ?_
                    cases hq15
                    exact V_wk Kq15 trivial
                · replace hf := (if_neg hc14).symm.trans hf
                  by_cases hc16 : v1 = (62 : Int32)
                  · replace hf := (if_pos hc16).symm.trans hf
                    refine V_tsIn (pc := 1) (tgt := 170) dX12_done_1 (by rw [hc16]; decide) (by rw [hc16]; decide) (by rw [hc16]; first | done | rfl) (by decide) ?_
                    refine V_iload_n (pc := 170) dX12_done_170 rfl rfl rfl ?_
                    refine V_iload_n (pc := 171) dX12_done_171 rfl rfl rfl ?_
                    obtain ⟨q17, hq17, hf⟩ := bnd hf
                    have Kq17 : V g mX12_done (d + 2) 0 0 n r I L 180 [] [.int (b2i q17)] (PoI n r res I L) := by
                      refine V_cSi (md' := mX12_truth) (pc := 180) dX12_done_180 mlX12_313 mSX12_truth (tX12_truth rfl) rfl rfl (Nat.le_of_ble_eq_true rfl) rfl ?_
                      cases hf
                      exact V_iret (pc := 183) dX12_done_183 rfl PoI_mk
                    refine V_icmp_le (pc := 172) (tgt := 179) dX12_done_172 (by decide) rfl (fun hc => ?_) (fun hc => ?_)
                    · replace hq17 := (if_pos hc).symm.trans hq17
                      refine V_iconst (pc := 179) dX12_done_179 ic_0 rfl ?_
                      cases hq17
                      exact V_wk Kq17 trivial
                    · replace hq17 := (if_neg hc).symm.trans hq17
                      refine V_iconst (pc := 175) dX12_done_175 ic_1 rfl ?_
                      refine V_goto (pc := 176) (tgt := 180) dX12_done_176 (by decide) ?_
                      cases hq17
                      exact V_wk Kq17 trivial
                  · replace hf := (if_neg hc16).symm.trans hf
                    have KD21 : V g mX12_done (d + 2) 0 0 n r I L 215 [some (.int v1), some (.int v2), some (.int v3)] [] (PoI n r res I L) := by
                      refine V_iload_n (pc := 215) dX12_done_215 rfl rfl rfl ?_
                      obtain ⟨q19, hq19, hf⟩ := bnd hf
                      have Kq19 : V g mX12_done (d + 2) 0 0 n r I L 228 [] [.int (b2i q19)] (PoI n r res I L) := by
                        refine V_cSi (md' := mX12_truth) (pc := 228) dX12_done_228 mlX12_313 mSX12_truth (tX12_truth rfl) rfl rfl (Nat.le_of_ble_eq_true rfl) rfl ?_
                        cases hf
                        exact V_iret (pc := 231) dX12_done_231 rfl PoI_mk
                      obtain ⟨b20, hb20, hq19⟩ := bnd hq19
                      have KTb20 : b20 = true → V g mX12_done (d + 2) 0 0 n r I L 223 [some (.int v1), some (.int v2), some (.int v3)] [] (PoI n r res I L) := fun hc => by
                        replace hq19 := (if_pos hc).symm.trans hq19
                        refine V_iconst (pc := 223) dX12_done_223 ic_1 rfl ?_
                        refine V_goto (pc := 224) (tgt := 228) dX12_done_224 (by decide) ?_
                        cases hq19
                        exact V_wk Kq19 trivial
                      have KFb20 : ¬ b20 = true → V g mX12_done (d + 2) 0 0 n r I L 227 [some (.int v1), some (.int v2), some (.int v3)] [] (PoI n r res I L) := fun hc => by
                        replace hq19 := (if_neg hc).symm.trans hq19
                        refine V_iconst (pc := 227) dX12_done_227 ic_0 rfl ?_
                        cases hq19
                        exact V_wk Kq19 trivial
                      refine V_if_ne (pc := 216) (tgt := 223) dX12_done_216 (by decide) rfl (fun hc => ?_) (fun hc => ?_)
                      · replace hb20 := (if_neg hc).symm.trans hb20
                        cases hb20
                        exact KTb20 rfl
                      · replace hb20 := (if_pos hc).symm.trans hb20
                        refine V_iload_n (pc := 219) dX12_done_219 rfl rfl rfl ?_
                        refine V_if_eq (pc := 220) (tgt := 227) dX12_done_220 (by decide) rfl (fun hc => ?_) (fun hc => ?_)
                        · replace hb20 := (if_pos hc).symm.trans hb20
                          cases hb20
                          exact KFb20 (nbt rfl)
                        · replace hb20 := (if_neg hc).symm.trans hb20
                          cases hb20
                          exact KTb20 rfl
                    by_cases hc22 : v1 = (39 : Int32)
                    · exact V_tsIn (pc := 1) (tgt := 215) dX12_done_1 (by rw [hc22]; decide) (by rw [hc22]; decide) (by rw [hc22]; first | done | rfl) (by decide) KD21
                    by_cases hc23 : v1 = (40 : Int32)
                    · exact V_tsIn (pc := 1) (tgt := 215) dX12_done_1 (by rw [hc23]; decide) (by rw [hc23]; decide) (by rw [hc23]; first | done | rfl) (by decide) KD21
                    by_cases hc24 : v1 = (41 : Int32)
                    · exact V_tsIn (pc := 1) (tgt := 215) dX12_done_1 (by rw [hc24]; decide) (by rw [hc24]; decide) (by rw [hc24]; first | done | rfl) (by decide) KD21
                    by_cases hc25 : v1 = (44 : Int32)
                    · exact V_tsIn (pc := 1) (tgt := 215) dX12_done_1 (by rw [hc25]; decide) (by rw [hc25]; decide) (by rw [hc25]; first | done | rfl) (by decide) KD21
                    by_cases hc26 : v1 = (46 : Int32)
                    · exact V_tsIn (pc := 1) (tgt := 215) dX12_done_1 (by rw [hc26]; decide) (by rw [hc26]; decide) (by rw [hc26]; first | done | rfl) (by decide) KD21
                    by_cases hc27 : v1 = (48 : Int32)
                    · exact V_tsIn (pc := 1) (tgt := 215) dX12_done_1 (by rw [hc27]; decide) (by rw [hc27]; decide) (by rw [hc27]; first | done | rfl) (by decide) KD21
                    by_cases hc28 : v1 = (49 : Int32)
                    · exact V_tsIn (pc := 1) (tgt := 215) dX12_done_1 (by rw [hc28]; decide) (by rw [hc28]; decide) (by rw [hc28]; first | done | rfl) (by decide) KD21
                    by_cases hc29 : v1 = (50 : Int32)
                    · exact V_tsIn (pc := 1) (tgt := 215) dX12_done_1 (by rw [hc29]; decide) (by rw [hc29]; decide) (by rw [hc29]; first | done | rfl) (by decide) KD21
                    by_cases hc30 : v1 = (51 : Int32)
                    · exact V_tsIn (pc := 1) (tgt := 215) dX12_done_1 (by rw [hc30]; decide) (by rw [hc30]; decide) (by rw [hc30]; first | done | rfl) (by decide) KD21
                    by_cases hc31 : v1 = (52 : Int32)
                    · exact V_tsIn (pc := 1) (tgt := 215) dX12_done_1 (by rw [hc31]; decide) (by rw [hc31]; decide) (by rw [hc31]; first | done | rfl) (by decide) KD21
                    by_cases hc32 : v1 = (53 : Int32)
                    · exact V_tsIn (pc := 1) (tgt := 215) dX12_done_1 (by rw [hc32]; decide) (by rw [hc32]; decide) (by rw [hc32]; first | done | rfl) (by decide) KD21
                    by_cases hc33 : v1 = (54 : Int32)
                    · exact V_tsIn (pc := 1) (tgt := 215) dX12_done_1 (by rw [hc33]; decide) (by rw [hc33]; decide) (by rw [hc33]; first | done | rfl) (by decide) KD21
                    by_cases hc34 : v1 = (55 : Int32)
                    · exact V_tsIn (pc := 1) (tgt := 215) dX12_done_1 (by rw [hc34]; decide) (by rw [hc34]; decide) (by rw [hc34]; first | done | rfl) (by decide) KD21
                    by_cases hc35 : v1 = (56 : Int32)
                    · exact V_tsIn (pc := 1) (tgt := 215) dX12_done_1 (by rw [hc35]; decide) (by rw [hc35]; decide) (by rw [hc35]; first | done | rfl) (by decide) KD21
                    by_cases hc36 : v1 = (57 : Int32)
                    · exact V_tsIn (pc := 1) (tgt := 215) dX12_done_1 (by rw [hc36]; decide) (by rw [hc36]; decide) (by rw [hc36]; first | done | rfl) (by decide) KD21
                    by_cases hc37 : v1 = (58 : Int32)
                    · exact V_tsIn (pc := 1) (tgt := 215) dX12_done_1 (by rw [hc37]; decide) (by rw [hc37]; decide) (by rw [hc37]; first | done | rfl) (by decide) KD21
                    by_cases hc38 : v1 = (59 : Int32)
                    · exact V_tsIn (pc := 1) (tgt := 215) dX12_done_1 (by rw [hc38]; decide) (by rw [hc38]; decide) (by rw [hc38]; first | done | rfl) (by decide) KD21
                    refine V_tsOut (pc := 1) (tgt := 215) dX12_done_1 (by have e0 := swn (k := (37 : Int32)) (z := 37) hc1 rfl; have e1 := swn (k := (38 : Int32)) (z := 38) hc3 rfl; have e2 := swn (k := (42 : Int32)) (z := 42) hc7 rfl; have e3 := swn (k := (43 : Int32)) (z := 43) hc8 rfl; have e4 := swn (k := (45 : Int32)) (z := 45) hc9 rfl; have e5 := swn (k := (47 : Int32)) (z := 47) hc10 rfl; have e6 := swn (k := (60 : Int32)) (z := 60) hc12 rfl; have e7 := swn (k := (61 : Int32)) (z := 61) hc14 rfl; have e8 := swn (k := (62 : Int32)) (z := 62) hc16 rfl; have e9 := swn (k := (39 : Int32)) (z := 39) hc22 rfl; have e10 := swn (k := (40 : Int32)) (z := 40) hc23 rfl; have e11 := swn (k := (41 : Int32)) (z := 41) hc24 rfl; have e12 := swn (k := (44 : Int32)) (z := 44) hc25 rfl; have e13 := swn (k := (46 : Int32)) (z := 46) hc26 rfl; have e14 := swn (k := (48 : Int32)) (z := 48) hc27 rfl; have e15 := swn (k := (49 : Int32)) (z := 49) hc28 rfl; have e16 := swn (k := (50 : Int32)) (z := 50) hc29 rfl; have e17 := swn (k := (51 : Int32)) (z := 51) hc30 rfl; have e18 := swn (k := (52 : Int32)) (z := 52) hc31 rfl; have e19 := swn (k := (53 : Int32)) (z := 53) hc32 rfl; have e20 := swn (k := (54 : Int32)) (z := 54) hc33 rfl; have e21 := swn (k := (55 : Int32)) (z := 55) hc34 rfl; have e22 := swn (k := (56 : Int32)) (z := 56) hc35 rfl; have e23 := swn (k := (57 : Int32)) (z := 57) hc36 rfl; have e24 := swn (k := (58 : Int32)) (z := 58) hc37 rfl; have e25 := swn (k := (59 : Int32)) (z := 59) hc38 rfl; omega) (by decide) KD21
/-! ShadowDoorsModel.shadeOf -/
noncomputable def fX12_shadeOf_34 : Nat → Int32 → Int32 → HI → Option (Int32 × HI)
  | 0, _, _, _ => none
  | fu + 1, y4, y5, I =>
    if (I 73 18) ≤ y5 then
      if inb (0 : Int32) 64 = true then
        some ((I 81 (0 : Int32).toNatClampNeg), I)
      else none
    else
      if inb y5 320 = true then
        Option.bind (
          if (I 78 y5.toNatClampNeg) = 0 then
            some true
          else
            if inb y5 320 = true then
              if (I 78 y5.toNatClampNeg) = (1 : Int32) then
                some true
              else
                some false
            else none
        ) fun b11 =>
        if b11 = true then
          if inb y5 320 = true then
            if (I 78 y5.toNatClampNeg) = 0 then
              if inb y5 320 = true then
                if inb y4 64 = true then
                  let I20 : HI := up2 I 81 y4.toNatClampNeg (I 79 y5.toNatClampNeg)
                  fX12_shadeOf_34 fu (y4 + (1 : Int32)) (y5 + (1 : Int32)) I20
                else none
              else none
            else
              if inb y5 320 = true then
                if inb (I 79 y5.toNatClampNeg) 3 = true then
                  if inb y4 64 = true then
                    let I17 : HI := up2 I 81 y4.toNatClampNeg (I 82 (I 79 y5.toNatClampNeg).toNatClampNeg)
                    fX12_shadeOf_34 fu (y4 + (1 : Int32)) (y5 + (1 : Int32)) I17
                  else none
                else none
              else none
          else none
        else
          if inb y5 320 = true then
            if (I 78 y5.toNatClampNeg) = (2 : Int32) then
              if inb (y4 - (1 : Int32)) 64 = true then
                Option.bind (
                  if (I 81 (y4 - (1 : Int32)).toNatClampNeg) = 0 then
                    some true
                  else
                    some false
                ) fun q29 =>
                if inb (y4 - (1 : Int32)) 64 = true then
                  let I31 : HI := up2 I 81 (y4 - (1 : Int32)).toNatClampNeg (fX12_truth (b2i q29))
                  fX12_shadeOf_34 fu y4 (y5 + (1 : Int32)) I31
                else none
              else none
            else
              if inb y5 320 = true then
                if inb ((y4 + (-1 : Int32)) - (1 : Int32)) 64 = true then
                  if inb (y4 + (-1 : Int32)) 64 = true then
                    Option.bind (fX12_done (I 79 y5.toNatClampNeg) (I 81 ((y4 + (-1 : Int32)) - (1 : Int32)).toNatClampNeg) (I 81 (y4 + (-1 : Int32)).toNatClampNeg)) fun q25 =>
                    if inb ((y4 + (-1 : Int32)) - (1 : Int32)) 64 = true then
                      let I27 : HI := up2 I 81 ((y4 + (-1 : Int32)) - (1 : Int32)).toNatClampNeg q25
                      fX12_shadeOf_34 fu (y4 + (-1 : Int32)) (y5 + (1 : Int32)) I27
                    else none
                  else none
                else none
              else none
          else none
      else none
set_option maxRecDepth 100000 in
set_option maxHeartbeats 4000000 in
theorem lX12_shadeOf_34 {g : GG} {n d : Nat} {tw dr sk tl ff : Nat} (hG : RG tw dr sk tl ff) (hn : 116 ≤ n) {P : PP} : ∀ (fu : Nat) (y4 : Int32) (y5 : Int32) (I : HI) (L : HL) (res : Int32 × HI), fX12_shadeOf_34 fu y4 y5 I = some res → P (some (.int res.1)) n (RT tw dr sk tl ff) res.2 L → V g mX12_shadeOf (d + 3) 0 0 n (RT tw dr sk tl ff) I L 34 [some (.ref 73), none, none, none, some (.int y4), some (.int y5)] [] P := by
  intro fu
  induction fu with
  | zero => intro y4 y5 I L res hf; cases (show none = some res from hf)
  | succ fu ih =>
    intro y4 y5 I L res hf K
    refine V_iload (pc := 34) dX12_shadeOf_34 rfl rfl ?_
    refine V_aload_n (pc := 36) dX12_shadeOf_36 rfl rfl rfl ?_
    refine V_getI (pc := 37) dX12_shadeOf_37 flX12_317 rfl (by omega) (congrArg Prod.fst sh_73) rfl ?_
    refine V_icmp_ge (pc := 40) (tgt := 196) dX12_shadeOf_40 (by decide) rfl (fun hc => ?_) (fun hc => ?_)
    · replace hf := (if_pos hc).symm.trans hf
      refine V_aload_n (pc := 196) dX12_shadeOf_196 rfl rfl rfl ?_
      refine V_getR (pc := 197) dX12_shadeOf_197 flX12_36 rfl (by omega) (congrArg Prod.fst sh_73) rt_73_16 rfl ?_
      refine V_iconst (pc := 200) dX12_shadeOf_200 ic_0 rfl ?_
      obtain ⟨hc9, hf⟩ := pif hf
      refine V_iald (pc := 201) dX12_shadeOf_201 (by omega) sh_81 hc9 rfl ?_
      cases hf
      exact V_iret (pc := 202) dX12_shadeOf_202 rfl K
    · replace hf := (if_neg hc).symm.trans hf
      refine V_aload_n (pc := 43) dX12_shadeOf_43 rfl rfl rfl ?_
      refine V_getR (pc := 44) dX12_shadeOf_44 flX12_27 rfl (by omega) (congrArg Prod.fst sh_73) rt_73_13 rfl ?_
      refine V_iload (pc := 47) dX12_shadeOf_47 rfl rfl ?_
      obtain ⟨hc10, hf⟩ := pif hf
      refine V_iald (pc := 49) dX12_shadeOf_49 (by omega) sh_78 hc10 rfl ?_
      obtain ⟨b11, hb11, hf⟩ := bnd hf
      have KTb11 : b11 = true → V g mX12_shadeOf (d + 3) 0 0 n (RT tw dr sk tl ff) I L 64 [some (.ref 73), none, none, none, some (.int y4), some (.int y5)] [] P := fun hc => by
        replace hf := (if_pos hc).symm.trans hf
        refine V_aload_n (pc := 64) dX12_shadeOf_64 rfl rfl rfl ?_
        refine V_getR (pc := 65) dX12_shadeOf_65 flX12_36 rfl (by omega) (congrArg Prod.fst sh_73) rt_73_16 rfl ?_
        refine V_iload (pc := 68) dX12_shadeOf_68 rfl rfl ?_
        refine V_aload_n (pc := 70) dX12_shadeOf_70 rfl rfl rfl ?_
        refine V_getR (pc := 71) dX12_shadeOf_71 flX12_27 rfl (by omega) (congrArg Prod.fst sh_73) rt_73_13 rfl ?_
        refine V_iload (pc := 74) dX12_shadeOf_74 rfl rfl ?_
        obtain ⟨hc13, hf⟩ := pif hf
        refine V_iald (pc := 76) dX12_shadeOf_76 (by omega) sh_78 hc13 rfl ?_
        refine V_if_ne (pc := 77) (tgt := 90) dX12_shadeOf_77 (by decide) rfl (fun hc => ?_) (fun hc => ?_)
        · replace hf := (if_neg hc).symm.trans hf
          refine V_aload_n (pc := 90) dX12_shadeOf_90 rfl rfl rfl ?_
          refine V_getR (pc := 91) dX12_shadeOf_91 flX12_39 rfl (by omega) (congrArg Prod.fst sh_73) rt_73_24 rfl ?_
          refine V_aload_n (pc := 94) dX12_shadeOf_94 rfl rfl rfl ?_
          refine V_getR (pc := 95) dX12_shadeOf_95 flX12_30 rfl (by omega) (congrArg Prod.fst sh_73) rt_73_14 rfl ?_
          refine V_iload (pc := 98) dX12_shadeOf_98 rfl rfl ?_
          obtain ⟨hc14, hf⟩ := pif hf
          refine V_iald (pc := 100) dX12_shadeOf_100 (by omega) sh_79 hc14 rfl ?_
          obtain ⟨hc15, hf⟩ := pif hf
          refine V_iald (pc := 101) dX12_shadeOf_101 (by omega) sh_82 hc15 rfl ?_
          obtain ⟨hc16, hf⟩ := pif hf
          let I17 : HI := up2 I 81 y4.toNatClampNeg (I 82 (I 79 y5.toNatClampNeg).toNatClampNeg)
          refine V_iast (pc := 102) dX12_shadeOf_102 (by omega) sh_81 hc16 rfl ?_
          refine V_iinc (ls' := [some _, none, none, none, some _, some _]) (pc := 103) dX12_shadeOf_103 rfl (Nat.le_of_ble_eq_true rfl) (congrArg _ ic_1) rfl rfl ?_
          refine V_goto (pc := 106) (tgt := 190) dX12_shadeOf_106 (by decide) ?_
          refine V_iinc (ls' := [some _, none, none, none, some _, some _]) (pc := 190) dX12_shadeOf_190 rfl (Nat.le_of_ble_eq_true rfl) (congrArg _ ic_1) rfl rfl ?_
          refine V_goto (pc := 193) (tgt := 34) dX12_shadeOf_193 (by decide) ?_
          exact V_wk (ih _ _ _ _ _ hf K) ⟨rfl, ⟨rfl, ⟨rfl, trivial⟩⟩⟩
        · replace hf := (if_pos hc).symm.trans hf
          refine V_aload_n (pc := 80) dX12_shadeOf_80 rfl rfl rfl ?_
          refine V_getR (pc := 81) dX12_shadeOf_81 flX12_30 rfl (by omega) (congrArg Prod.fst sh_73) rt_73_14 rfl ?_
          refine V_iload (pc := 84) dX12_shadeOf_84 rfl rfl ?_
          obtain ⟨hc18, hf⟩ := pif hf
          refine V_iald (pc := 86) dX12_shadeOf_86 (by omega) sh_79 hc18 rfl ?_
          refine V_goto (pc := 87) (tgt := 102) dX12_shadeOf_87 (by decide) ?_
          obtain ⟨hc19, hf⟩ := pif hf
          let I20 : HI := up2 I 81 y4.toNatClampNeg (I 79 y5.toNatClampNeg)
          refine V_iast (pc := 102) dX12_shadeOf_102 (by omega) sh_81 hc19 rfl ?_
          refine V_iinc (ls' := [some _, none, none, none, some _, some _]) (pc := 103) dX12_shadeOf_103 rfl (Nat.le_of_ble_eq_true rfl) (congrArg _ ic_1) rfl rfl ?_
          refine V_goto (pc := 106) (tgt := 190) dX12_shadeOf_106 (by decide) ?_
          refine V_iinc (ls' := [some _, none, none, none, some _, some _]) (pc := 190) dX12_shadeOf_190 rfl (Nat.le_of_ble_eq_true rfl) (congrArg _ ic_1) rfl rfl ?_
          refine V_goto (pc := 193) (tgt := 34) dX12_shadeOf_193 (by decide) ?_
          exact V_wk (ih _ _ _ _ _ hf K) ⟨rfl, ⟨rfl, ⟨rfl, trivial⟩⟩⟩
      have KFb11 : ¬ b11 = true → V g mX12_shadeOf (d + 3) 0 0 n (RT tw dr sk tl ff) I L 109 [some (.ref 73), none, none, none, some (.int y4), some (.int y5)] [] P := fun hc => by
        replace hf := (if_neg hc).symm.trans hf
        refine V_aload_n (pc := 109) dX12_shadeOf_109 rfl rfl rfl ?_
        refine V_getR (pc := 110) dX12_shadeOf_110 flX12_27 rfl (by omega) (congrArg Prod.fst sh_73) rt_73_13 rfl ?_
        refine V_iload (pc := 113) dX12_shadeOf_113 rfl rfl ?_
        obtain ⟨hc21, hf⟩ := pif hf
        refine V_iald (pc := 115) dX12_shadeOf_115 (by omega) sh_78 hc21 rfl ?_
        refine V_iconst (pc := 116) dX12_shadeOf_116 ic_2 rfl ?_
        refine V_icmp_ne (pc := 117) (tgt := 152) dX12_shadeOf_117 (by decide) rfl (fun hc => ?_) (fun hc => ?_)
        · replace hf := (if_neg hc).symm.trans hf
          refine V_iinc (ls' := [some _, none, none, none, some _, some _]) (pc := 152) dX12_shadeOf_152 rfl (Nat.le_of_ble_eq_true rfl) (congrArg _ ic_m1) rfl rfl ?_
          refine V_aload_n (pc := 155) dX12_shadeOf_155 rfl rfl rfl ?_
          refine V_getR (pc := 156) dX12_shadeOf_156 flX12_36 rfl (by omega) (congrArg Prod.fst sh_73) rt_73_16 rfl ?_
          refine V_iload (pc := 159) dX12_shadeOf_159 rfl rfl ?_
          refine V_iconst (pc := 161) dX12_shadeOf_161 ic_1 rfl ?_
          refine V_isub (pc := 162) dX12_shadeOf_162 rfl ?_
          refine V_aload_n (pc := 163) dX12_shadeOf_163 rfl rfl rfl ?_
          refine V_getR (pc := 164) dX12_shadeOf_164 flX12_30 rfl (by omega) (congrArg Prod.fst sh_73) rt_73_14 rfl ?_
          refine V_iload (pc := 167) dX12_shadeOf_167 rfl rfl ?_
          obtain ⟨hc22, hf⟩ := pif hf
          refine V_iald (pc := 169) dX12_shadeOf_169 (by omega) sh_79 hc22 rfl ?_
          refine V_aload_n (pc := 170) dX12_shadeOf_170 rfl rfl rfl ?_
          refine V_getR (pc := 171) dX12_shadeOf_171 flX12_36 rfl (by omega) (congrArg Prod.fst sh_73) rt_73_16 rfl ?_
          refine V_iload (pc := 174) dX12_shadeOf_174 rfl rfl ?_
          refine V_iconst (pc := 176) dX12_shadeOf_176 ic_1 rfl ?_
          refine V_isub (pc := 177) dX12_shadeOf_177 rfl ?_
          obtain ⟨hc23, hf⟩ := pif hf
          refine V_iald (pc := 178) dX12_shadeOf_178 (by omega) sh_81 hc23 rfl ?_
          refine V_aload_n (pc := 179) dX12_shadeOf_179 rfl rfl rfl ?_
          refine V_getR (pc := 180) dX12_shadeOf_180 flX12_36 rfl (by omega) (congrArg Prod.fst sh_73) rt_73_16 rfl ?_
          refine V_iload (pc := 183) dX12_shadeOf_183 rfl rfl ?_
          obtain ⟨hc24, hf⟩ := pif hf
          refine V_iald (pc := 185) dX12_shadeOf_185 (by omega) sh_81 hc24 rfl ?_
          obtain ⟨q25, hq25, hf⟩ := bnd hf
          refine V_cSi (md' := mX12_done) (pc := 186) dX12_shadeOf_186 mlX12_320 mSX12_done (tX12_done hq25) rfl rfl (Nat.le_of_ble_eq_true rfl) rfl ?_
          obtain ⟨hc26, hf⟩ := pif hf
          let I27 : HI := up2 I 81 ((y4 + (-1 : Int32)) - (1 : Int32)).toNatClampNeg q25
          refine V_iast (pc := 189) dX12_shadeOf_189 (by omega) sh_81 hc26 rfl ?_
          refine V_iinc (ls' := [some _, none, none, none, some _, some _]) (pc := 190) dX12_shadeOf_190 rfl (Nat.le_of_ble_eq_true rfl) (congrArg _ ic_1) rfl rfl ?_
          refine V_goto (pc := 193) (tgt := 34) dX12_shadeOf_193 (by decide) ?_
          exact V_wk (ih _ _ _ _ _ hf K) ⟨rfl, ⟨rfl, ⟨rfl, trivial⟩⟩⟩
        · replace hf := (if_pos hc).symm.trans hf
          refine V_aload_n (pc := 120) dX12_shadeOf_120 rfl rfl rfl ?_
          refine V_getR (pc := 121) dX12_shadeOf_121 flX12_36 rfl (by omega) (congrArg Prod.fst sh_73) rt_73_16 rfl ?_
          refine V_iload (pc := 124) dX12_shadeOf_124 rfl rfl ?_
          refine V_iconst (pc := 126) dX12_shadeOf_126 ic_1 rfl ?_
          refine V_isub (pc := 127) dX12_shadeOf_127 rfl ?_
          refine V_aload_n (pc := 128) dX12_shadeOf_128 rfl rfl rfl ?_
          refine V_getR (pc := 129) dX12_shadeOf_129 flX12_36 rfl (by omega) (congrArg Prod.fst sh_73) rt_73_16 rfl ?_
          refine V_iload (pc := 132) dX12_shadeOf_132 rfl rfl ?_
          refine V_iconst (pc := 134) dX12_shadeOf_134 ic_1 rfl ?_
          refine V_isub (pc := 135) dX12_shadeOf_135 rfl ?_
          obtain ⟨hc28, hf⟩ := pif hf
          refine V_iald (pc := 136) dX12_shadeOf_136 (by omega) sh_81 hc28 rfl ?_
          obtain ⟨q29, hq29, hf⟩ := bnd hf
          have Kq29 : V g mX12_shadeOf (d + 3) 0 0 n (RT tw dr sk tl ff) I L 145 [some (.ref 73), none, none, none, some (.int y4), some (.int y5)] [.int (b2i q29), .int (y4 - (1 : Int32)), .ref 81] P := by
            refine V_cSi (md' := mX12_truth) (pc := 145) dX12_shadeOf_145 mlX12_313 mSX12_truth (tX12_truth rfl) rfl rfl (Nat.le_of_ble_eq_true rfl) rfl ?_
            obtain ⟨hc30, hf⟩ := pif hf
            let I31 : HI := up2 I 81 (y4 - (1 : Int32)).toNatClampNeg (fX12_truth (b2i q29))
            refine V_iast (pc := 148) dX12_shadeOf_148 (by omega) sh_81 hc30 rfl ?_
            refine V_goto (pc := 149) (tgt := 190) dX12_shadeOf_149 (by decide) ?_
            refine V_iinc (ls' := [some _, none, none, none, some _, some _]) (pc := 190) dX12_shadeOf_190 rfl (Nat.le_of_ble_eq_true rfl) (congrArg _ ic_1) rfl rfl ?_
            refine V_goto (pc := 193) (tgt := 34) dX12_shadeOf_193 (by decide) ?_
            exact V_wk (ih _ _ _ _ _ hf K) ⟨rfl, ⟨rfl, ⟨rfl, trivial⟩⟩⟩
          refine V_if_ne (pc := 137) (tgt := 144) dX12_shadeOf_137 (by decide) rfl (fun hc => ?_) (fun hc => ?_)
          · replace hq29 := (if_neg hc).symm.trans hq29
            refine V_iconst (pc := 144) dX12_shadeOf_144 ic_0 rfl ?_
            cases hq29
            exact V_wk Kq29 ⟨rfl, ⟨rfl, ⟨rfl, trivial⟩⟩⟩
          · replace hq29 := (if_pos hc).symm.trans hq29
            refine V_iconst (pc := 140) dX12_shadeOf_140 ic_1 rfl ?_
            refine V_goto (pc := 141) (tgt := 145) dX12_shadeOf_141 (by decide) ?_
            cases hq29
            exact V_wk Kq29 ⟨rfl, ⟨rfl, ⟨rfl, trivial⟩⟩⟩
      refine V_if_eq (pc := 50) (tgt := 64) dX12_shadeOf_50 (by decide) rfl (fun hc => ?_) (fun hc => ?_)
      · replace hb11 := (if_pos hc).symm.trans hb11
        cases hb11
        exact KTb11 rfl
      · replace hb11 := (if_neg hc).symm.trans hb11
        refine V_aload_n (pc := 53) dX12_shadeOf_53 rfl rfl rfl ?_
        refine V_getR (pc := 54) dX12_shadeOf_54 flX12_27 rfl (by omega) (congrArg Prod.fst sh_73) rt_73_13 rfl ?_
        refine V_iload (pc := 57) dX12_shadeOf_57 rfl rfl ?_
        obtain ⟨hc12, hb11⟩ := pif hb11
        refine V_iald (pc := 59) dX12_shadeOf_59 (by omega) sh_78 hc12 rfl ?_
        refine V_iconst (pc := 60) dX12_shadeOf_60 ic_1 rfl ?_
        refine V_icmp_ne (pc := 61) (tgt := 109) dX12_shadeOf_61 (by decide) rfl (fun hc => ?_) (fun hc => ?_)
        · replace hb11 := (if_neg hc).symm.trans hb11
          cases hb11
          exact KFb11 (nbt rfl)
        · replace hb11 := (if_pos hc).symm.trans hb11
          cases hb11
          exact KTb11 rfl
noncomputable def fX12_shadeOf (v1 : Int32) (v2 : Int32) (v3 : Int32) (I : HI) : Option (Int32 × HI) :=
  if inb (0 : Int32) 3 = true then
    let I2 : HI := up2 I 82 (0 : Int32).toNatClampNeg v1
    if inb (1 : Int32) 3 = true then
      let I4 : HI := up2 I2 82 (1 : Int32).toNatClampNeg v2
      if inb (2 : Int32) 3 = true then
        let I6 : HI := up2 I4 82 (2 : Int32).toNatClampNeg v3
        if inb (0 : Int32) 64 = true then
          let I8 : HI := up2 I6 81 (0 : Int32).toNatClampNeg (0 : Int32)
          Option.bind (fX12_shadeOf_34 FUEL (0 : Int32) (0 : Int32) I8) fun q32 =>
          some (q32.1, q32.2)
        else none
      else none
    else none
  else none
set_option maxRecDepth 100000 in
set_option maxHeartbeats 4000000 in
theorem tX12_shadeOf {g : GG} {n d : Nat} {tw dr sk tl ff : Nat} (hG : RG tw dr sk tl ff) (hn : 116 ≤ n) {v1 : Int32} {v2 : Int32} {v3 : Int32} {I : HI} {L : HL} {res : Int32 × HI} (hf : fX12_shadeOf v1 v2 v3 I = some res) : CT g mX12_shadeOf (d + 3) 0 0 n (RT tw dr sk tl ff) I L [.ref 73, .int v1, .int v2, .int v3] (PoI n (RT tw dr sk tl ff) res.1 res.2 L) := by
  refine CT.of rfl (Nat.le_of_ble_eq_true rfl) ?_
  show V g mX12_shadeOf (d + 3) 0 0 n (RT tw dr sk tl ff) I L 0 [some (.ref 73), some (.int v1), some (.int v2), some (.int v3)] [] (PoI n (RT tw dr sk tl ff) res.1 res.2 L)
  refine V_aload_n (pc := 0) dX12_shadeOf_0 rfl rfl rfl ?_
  refine V_getR (pc := 1) dX12_shadeOf_1 flX12_39 rfl (by omega) (congrArg Prod.fst sh_73) rt_73_24 rfl ?_
  refine V_iconst (pc := 4) dX12_shadeOf_4 ic_0 rfl ?_
  refine V_iload_n (pc := 5) dX12_shadeOf_5 rfl rfl rfl ?_
  obtain ⟨hc1, hf⟩ := pif hf
  let I2 : HI := up2 I 82 (0 : Int32).toNatClampNeg v1
  refine V_iast (pc := 6) dX12_shadeOf_6 (by omega) sh_82 hc1 rfl ?_
  refine V_aload_n (pc := 7) dX12_shadeOf_7 rfl rfl rfl ?_
  refine V_getR (pc := 8) dX12_shadeOf_8 flX12_39 rfl (by omega) (congrArg Prod.fst sh_73) rt_73_24 rfl ?_
  refine V_iconst (pc := 11) dX12_shadeOf_11 ic_1 rfl ?_
  refine V_iload_n (pc := 12) dX12_shadeOf_12 rfl rfl rfl ?_
  obtain ⟨hc3, hf⟩ := pif hf
  let I4 : HI := up2 I2 82 (1 : Int32).toNatClampNeg v2
  refine V_iast (pc := 13) dX12_shadeOf_13 (by omega) sh_82 hc3 rfl ?_
  refine V_aload_n (pc := 14) dX12_shadeOf_14 rfl rfl rfl ?_
  refine V_getR (pc := 15) dX12_shadeOf_15 flX12_39 rfl (by omega) (congrArg Prod.fst sh_73) rt_73_24 rfl ?_
  refine V_iconst (pc := 18) dX12_shadeOf_18 ic_2 rfl ?_
  refine V_iload_n (pc := 19) dX12_shadeOf_19 rfl rfl rfl ?_
  obtain ⟨hc5, hf⟩ := pif hf
  let I6 : HI := up2 I4 82 (2 : Int32).toNatClampNeg v3
  refine V_iast (pc := 20) dX12_shadeOf_20 (by omega) sh_82 hc5 rfl ?_
  refine V_aload_n (pc := 21) dX12_shadeOf_21 rfl rfl rfl ?_
  refine V_getR (pc := 22) dX12_shadeOf_22 flX12_36 rfl (by omega) (congrArg Prod.fst sh_73) rt_73_16 rfl ?_
  refine V_iconst (pc := 25) dX12_shadeOf_25 ic_0 rfl ?_
  refine V_iconst (pc := 26) dX12_shadeOf_26 ic_0 rfl ?_
  obtain ⟨hc7, hf⟩ := pif hf
  let I8 : HI := up2 I6 81 (0 : Int32).toNatClampNeg (0 : Int32)
  refine V_iast (pc := 27) dX12_shadeOf_27 (by omega) sh_81 hc7 rfl ?_
  refine V_iconst (pc := 28) dX12_shadeOf_28 ic_0 rfl ?_
  refine V_istore (ls' := [some _, some _, some _, some _, some _]) (pc := 29) dX12_shadeOf_29 (Nat.le_of_ble_eq_true rfl) rfl rfl ?_
  refine V_iconst (pc := 31) dX12_shadeOf_31 ic_0 rfl ?_
  refine V_istore (ls' := [some _, some _, some _, some _, some _, some _]) (pc := 32) dX12_shadeOf_32 (Nat.le_of_ble_eq_true rfl) rfl rfl ?_
  obtain ⟨q32, hq32, hf⟩ := bnd hf
  refine V_wk (lX12_shadeOf_34 hG hn FUEL _ _ _ _ _ hq32 ?_) ⟨rfl, ⟨rfl, ⟨rfl, trivial⟩⟩⟩
  cases hf
  exact PoI_mk
/-! ShadowDoorsModel.has -/
noncomputable def fX12_has (v1 : Int64) (v2 : Int32) : Bool :=
  if ((v1 >>> (v2.toInt64 &&& 63)) &&& (1 : Int64)) = (1 : Int64) then
    true
  else
    false
set_option maxRecDepth 100000 in
set_option maxHeartbeats 4000000 in
theorem tX12_has {g : GG} {n d : Nat} {r : HR}  {v1 : Int64} {v2 : Int32} {I : HI} {L : HL} {res : Bool} (hf : fX12_has v1 v2 = res) : CT g mX12_has (d + 1) 0 0 n r I L [.long v1, .int v2] (PoB n r res I L) := by
  refine CT.of rfl (Nat.le_of_ble_eq_true rfl) ?_
  show V g mX12_has (d + 1) 0 0 n r I L 0 [some (.long v1), none, some (.int v2)] [] (PoB n r res I L)
  refine V_lload_n (pc := 0) dX12_has_0 rfl rfl rfl ?_
  refine V_iload_n (pc := 1) dX12_has_1 rfl rfl rfl ?_
  refine V_lshr (pc := 2) dX12_has_2 rfl ?_
  refine V_lconst (pc := 3) dX12_has_3 lc_1 rfl ?_
  refine V_land (pc := 4) dX12_has_4 rfl ?_
  refine V_lconst (pc := 5) dX12_has_5 lc_1 rfl ?_
  refine V_lc_ne (pc := 6) (tgt := 14) dX12_has_6 rfl dX12_has_7 (by decide) rfl (fun hc => ?_) (fun hc => ?_)
  · replace hf := (if_neg hc).symm.trans hf
    refine V_iconst (pc := 14) dX12_has_14 ic_0 rfl ?_
    cases hf
    exact V_zretE (pc := 15) dX12_has_15 rfl (show (0 : Int32) = b2i false from rfl) PoB_mk
  · replace hf := (if_pos hc).symm.trans hf
    refine V_iconst (pc := 10) dX12_has_10 ic_1 rfl ?_
    refine V_goto (pc := 11) (tgt := 15) dX12_has_11 (by decide) ?_
    cases hf
    exact V_zretE (pc := 15) dX12_has_15 rfl (show (1 : Int32) = b2i true from rfl) PoB_mk
/-! ShadowDoorsModel.readCell -/
noncomputable def fX12_readCell (v1 : Int64) (I : HI) (L : HL) : Option (Int32 × HI × HL) :=
  Option.bind (fX12_toldNumber (0 : Int32) ((I 73 45) - (1 : Int32)) I L) fun q1 =>
  Option.bind (fX12_toldNumber (0 : Int32) ((q1.2.1 73 46) - (1 : Int32)) q1.2.1 q1.2.2) fun q2 =>
  let x3 : Int32 := ((q2.1 * (q2.2.1 73 45)) + q1.1)
  Option.bind (
    if (q2.2.1 73 2) = 0 then
      if (b2i (fX12_has v1 x3)) = 0 then
        some true
      else
        some false
    else
      some true
  ) fun b4 =>
  if b4 = true then
    some (x3, q2.2.1, q2.2.2)
  else
    let I5 : HI := up2 q2.2.1 73 2 (3 : Int32)
    let I6 : HI := up2 I5 73 3 (q1.2.1 73 7)
    some (x3, I6, q2.2.2)
set_option maxRecDepth 100000 in
set_option maxHeartbeats 4000000 in
theorem tX12_readCell {g : GG} {n d : Nat} {tw dr sk tl ff : Nat} (hG : RG tw dr sk tl ff) (hn : 116 ≤ n) {v1 : Int64} {I : HI} {L : HL} {res : Int32 × HI × HL} (hf : fX12_readCell v1 I L = some res) : CT g mX12_readCell (d + 4) 0 0 n (RT tw dr sk tl ff) I L [.ref 73, .long v1] (PoI n (RT tw dr sk tl ff) res.1 res.2.1 res.2.2) := by
  refine CT.of rfl (Nat.le_of_ble_eq_true rfl) ?_
  show V g mX12_readCell (d + 4) 0 0 n (RT tw dr sk tl ff) I L 0 [some (.ref 73), some (.long v1), none] [] (PoI n (RT tw dr sk tl ff) res.1 res.2.1 res.2.2)
  refine V_aload_n (pc := 0) dX12_readCell_0 rfl rfl rfl ?_
  refine V_iconst (pc := 1) dX12_readCell_1 ic_0 rfl ?_
  refine V_aload_n (pc := 2) dX12_readCell_2 rfl rfl rfl ?_
  refine V_getI (pc := 3) dX12_readCell_3 flX12_324 rfl (by omega) (congrArg Prod.fst sh_73) rfl ?_
  refine V_iconst (pc := 6) dX12_readCell_6 ic_1 rfl ?_
  refine V_isub (pc := 7) dX12_readCell_7 rfl ?_
  obtain ⟨q1, hq1, hf⟩ := bnd hf
  refine V_cVi (md' := mX12_toldNumber) (pc := 8) dX12_readCell_8 mlX12_251 mVX12_toldNumber (tX12_toldNumber hG hn hq1) rfl (by omega) (congrArg Prod.fst sh_73) rfl (Nat.le_of_ble_eq_true rfl) rfl ?_
  refine V_istore_n (ls' := [some _, some _, none, some _]) (pc := 11) dX12_readCell_11 rfl (Nat.le_of_ble_eq_true rfl) rfl rfl ?_
  refine V_aload_n (pc := 12) dX12_readCell_12 rfl rfl rfl ?_
  refine V_getI (pc := 13) dX12_readCell_13 flX12_165 rfl (by omega) (congrArg Prod.fst sh_73) rfl ?_
  refine V_istore (ls' := [some _, some _, none, some _, some _]) (pc := 16) dX12_readCell_16 (Nat.le_of_ble_eq_true rfl) rfl rfl ?_
  refine V_aload_n (pc := 18) dX12_readCell_18 rfl rfl rfl ?_
  refine V_iconst (pc := 19) dX12_readCell_19 ic_0 rfl ?_
  refine V_aload_n (pc := 20) dX12_readCell_20 rfl rfl rfl ?_
  refine V_getI (pc := 21) dX12_readCell_21 flX12_327 rfl (by omega) (congrArg Prod.fst sh_73) rfl ?_
  refine V_iconst (pc := 24) dX12_readCell_24 ic_1 rfl ?_
  refine V_isub (pc := 25) dX12_readCell_25 rfl ?_
  obtain ⟨q2, hq2, hf⟩ := bnd hf
  refine V_cVi (md' := mX12_toldNumber) (pc := 26) dX12_readCell_26 mlX12_251 mVX12_toldNumber (tX12_toldNumber hG hn hq2) rfl (by omega) (congrArg Prod.fst sh_73) rfl (Nat.le_of_ble_eq_true rfl) rfl ?_
  refine V_istore (ls' := [some _, some _, none, some _, some _, some _]) (pc := 29) dX12_readCell_29 (Nat.le_of_ble_eq_true rfl) rfl rfl ?_
  refine V_iload (pc := 31) dX12_readCell_31 rfl rfl ?_
  refine V_aload_n (pc := 33) dX12_readCell_33 rfl rfl rfl ?_
  refine V_getI (pc := 34) dX12_readCell_34 flX12_324 rfl (by omega) (congrArg Prod.fst sh_73) rfl ?_
  refine V_imul (pc := 37) dX12_readCell_37 rfl ?_
  refine V_iload_n (pc := 38) dX12_readCell_38 rfl rfl rfl ?_
  refine V_iadd (pc := 39) dX12_readCell_39 rfl ?_
  let x3 : Int32 := ((q2.1 * (q2.2.1 73 45)) + q1.1)
  refine V_istore (ls' := [some _, some _, none, some _, some _, some _, some _]) (pc := 40) dX12_readCell_40 (Nat.le_of_ble_eq_true rfl) rfl rfl ?_
  refine V_aload_n (pc := 42) dX12_readCell_42 rfl rfl rfl ?_
  refine V_getI (pc := 43) dX12_readCell_43 flX12_188 rfl (by omega) (congrArg Prod.fst sh_73) rfl ?_
  obtain ⟨b4, hb4, hf⟩ := bnd hf
  have KTb4 : b4 = true → V g mX12_readCell (d + 4) 0 0 n (RT tw dr sk tl ff) q2.2.1 q2.2.2 69 [some (.ref 73), some (.long v1), none, some (.int q1.1), some (.int (q1.2.1 73 7)), some (.int q2.1), some (.int x3)] [] (PoI n (RT tw dr sk tl ff) res.1 res.2.1 res.2.2) := fun hc => by
    replace hf := (if_pos hc).symm.trans hf
    refine V_iload (pc := 69) dX12_readCell_69 rfl rfl ?_
    cases hf
    exact V_iret (pc := 71) dX12_readCell_71 rfl PoI_mk
  have KFb4 : ¬ b4 = true → V g mX12_readCell (d + 4) 0 0 n (RT tw dr sk tl ff) q2.2.1 q2.2.2 58 [some (.ref 73), some (.long v1), none, some (.int q1.1), some (.int (q1.2.1 73 7)), some (.int q2.1), some (.int x3)] [] (PoI n (RT tw dr sk tl ff) res.1 res.2.1 res.2.2) := fun hc => by
    replace hf := (if_neg hc).symm.trans hf
    refine V_aload_n (pc := 58) dX12_readCell_58 rfl rfl rfl ?_
    refine V_iconst (pc := 59) dX12_readCell_59 ic_3 rfl ?_
    let I5 : HI := up2 q2.2.1 73 2 (3 : Int32)
    refine V_putI (pc := 60) dX12_readCell_60 flX12_188 rfl rfl (by omega) (congrArg Prod.fst sh_73) rfl ?_
    refine V_aload_n (pc := 63) dX12_readCell_63 rfl rfl rfl ?_
    refine V_iload (pc := 64) dX12_readCell_64 rfl rfl ?_
    let I6 : HI := up2 I5 73 3 (q1.2.1 73 7)
    refine V_putI (pc := 66) dX12_readCell_66 flX12_13 rfl rfl (by omega) (congrArg Prod.fst sh_73) rfl ?_
    refine V_iload (pc := 69) dX12_readCell_69 rfl rfl ?_
    cases hf
    exact V_iret (pc := 71) dX12_readCell_71 rfl PoI_mk
  refine V_if_ne (pc := 46) (tgt := 69) dX12_readCell_46 (by decide) rfl (fun hc => ?_) (fun hc => ?_)
  · replace hb4 := (if_neg hc).symm.trans hb4
    cases hb4
    exact KTb4 rfl
  · replace hb4 := (if_pos hc).symm.trans hb4
    refine V_lload_n (pc := 49) dX12_readCell_49 rfl rfl rfl ?_
    refine V_iload (pc := 50) dX12_readCell_50 rfl rfl ?_
    refine V_cSz (md' := mX12_has) (pc := 52) dX12_readCell_52 mlX12_330 mSX12_has (tX12_has rfl) rfl rfl (Nat.le_of_ble_eq_true rfl) rfl ?_
    refine V_if_eq (pc := 55) (tgt := 69) dX12_readCell_55 (by decide) rfl (fun hc => ?_) (fun hc => ?_)
    · replace hb4 := (if_pos hc).symm.trans hb4
      cases hb4
      exact KTb4 rfl
    · replace hb4 := (if_neg hc).symm.trans hb4
      cases hb4
      exact KFb4 (nbt rfl)
/-! ShadowDoorsModel.readWall -/
noncomputable def fX12_readWall_6 : Nat → Int32 → HI → HL → Option (HI × HL)
  | 0, _, _, _ => none
  | fu + 1, y1, I, L =>
    Option.bind (
      if y1 = 0 then
        some true
      else
        if (I 73 2) = 0 then
          some false
        else
          some true
    ) fun b2 =>
    if b2 = true then
      some (I, L)
    else
      Option.bind (
        if (I 73 47) = (24 : Int32) then
          obn (fX12_wrong (2 : Int32) I) fun q5 =>
          some q5
        else
          some I
      ) fun q4 =>
      Option.bind (fX12_readCell ((L 73 41) ||| (L 73 42)) q4 L) fun q6 =>
      if (q6.2.1 73 2) ≤ 0 then
        let L7 : HL := up2 q6.2.2 73 41 ((q6.2.2 73 41) ||| ((1 : Int64) <<< (q6.1.toInt64 &&& 63)))
        let I8 : HI := up2 q6.2.1 73 47 ((q6.2.1 73 47) + (1 : Int32))
        if (I8 73 6) = (2 : Int32) then
          fX12_readWall_6 fu (1 : Int32) I8 L7
        else
          fX12_readWall_6 fu (0 : Int32) I8 L7
      else
        some (q6.2.1, q6.2.2)
set_option maxRecDepth 100000 in
set_option maxHeartbeats 4000000 in
theorem lX12_readWall_6 {g : GG} {n d : Nat} {tw dr sk tl ff : Nat} (hG : RG tw dr sk tl ff) (hn : 116 ≤ n) {P : PP} : ∀ (fu : Nat) (y1 : Int32) (I : HI) (L : HL) (res : HI × HL), fX12_readWall_6 fu y1 I L = some res → P none n (RT tw dr sk tl ff) res.1 res.2 → V g mX12_readWall (d + 5) 0 0 n (RT tw dr sk tl ff) I L 6 [some (.ref 73), some (.int y1)] [] P := by
  intro fu
  induction fu with
  | zero => intro y1 I L res hf; cases (show none = some res from hf)
  | succ fu ih =>
    intro y1 I L res hf K
    refine V_iload_n (pc := 6) dX12_readWall_6 rfl rfl rfl ?_
    obtain ⟨b2, hb2, hf⟩ := bnd hf
    have KTb2 : b2 = true → V g mX12_readWall (d + 5) 0 0 n (RT tw dr sk tl ff) I L 92 [some (.ref 73), some (.int y1)] [] P := fun hc => by
      replace hf := (if_pos hc).symm.trans hf
      cases hf
      exact V_vret (pc := 92) dX12_readWall_92 rfl K
    have KFb2 : ¬ b2 = true → V g mX12_readWall (d + 5) 0 0 n (RT tw dr sk tl ff) I L 17 [some (.ref 73), some (.int y1)] [] P := fun hc => by
      replace hf := (if_neg hc).symm.trans hf
      refine V_aload_n (pc := 17) dX12_readWall_17 rfl rfl rfl ?_
      refine V_getI (pc := 18) dX12_readWall_18 flX12_334 rfl (by omega) (congrArg Prod.fst sh_73) rfl ?_
      refine V_bipush (pc := 21) dX12_readWall_21 bp_24 rfl ?_
      obtain ⟨q4, hq4, hf⟩ := bnd hf
      have Kq4 : V g mX12_readWall (d + 5) 0 0 n (RT tw dr sk tl ff) q4 L 31 [some (.ref 73)] [] P := by
        refine V_aload_n (pc := 31) dX12_readWall_31 rfl rfl rfl ?_
        refine V_aload_n (pc := 32) dX12_readWall_32 rfl rfl rfl ?_
        refine V_getL (pc := 33) dX12_readWall_33 flX12_337 rfl (by omega) (congrArg Prod.fst sh_73) rfl ?_
        refine V_aload_n (pc := 36) dX12_readWall_36 rfl rfl rfl ?_
        refine V_getL (pc := 37) dX12_readWall_37 flX12_340 rfl (by omega) (congrArg Prod.fst sh_73) rfl ?_
        refine V_lor (pc := 40) dX12_readWall_40 rfl ?_
        obtain ⟨q6, hq6, hf⟩ := bnd hf
        refine V_cVi (md' := mX12_readCell) (pc := 41) dX12_readWall_41 mlX12_343 mVX12_readCell (tX12_readCell hG hn hq6) rfl (by omega) (congrArg Prod.fst sh_73) rfl (Nat.le_of_ble_eq_true rfl) rfl ?_
        refine V_istore_n (ls' := [some _, none, some _]) (pc := 44) dX12_readWall_44 rfl (Nat.le_of_ble_eq_true rfl) rfl rfl ?_
        refine V_aload_n (pc := 45) dX12_readWall_45 rfl rfl rfl ?_
        refine V_getI (pc := 46) dX12_readWall_46 flX12_188 rfl (by omega) (congrArg Prod.fst sh_73) rfl ?_
        refine V_if_le (pc := 49) (tgt := 53) dX12_readWall_49 (by decide) rfl (fun hc => ?_) (fun hc => ?_)
        · replace hf := (if_pos hc).symm.trans hf
          refine V_aload_n (pc := 53) dX12_readWall_53 rfl rfl rfl ?_
          refine V_dup (pc := 54) dX12_readWall_54 rfl rfl ?_
          refine V_getL (pc := 55) dX12_readWall_55 flX12_337 rfl (by omega) (congrArg Prod.fst sh_73) rfl ?_
          refine V_lconst (pc := 58) dX12_readWall_58 lc_1 rfl ?_
          refine V_iload_n (pc := 59) dX12_readWall_59 rfl rfl rfl ?_
          refine V_lshl (pc := 60) dX12_readWall_60 rfl ?_
          refine V_lor (pc := 61) dX12_readWall_61 rfl ?_
          let L7 : HL := up2 q6.2.2 73 41 ((q6.2.2 73 41) ||| ((1 : Int64) <<< (q6.1.toInt64 &&& 63)))
          refine V_putL (pc := 62) dX12_readWall_62 flX12_337 rfl rfl (by omega) (congrArg Prod.fst sh_73) rfl ?_
          refine V_aload_n (pc := 65) dX12_readWall_65 rfl rfl rfl ?_
          refine V_dup (pc := 66) dX12_readWall_66 rfl rfl ?_
          refine V_getI (pc := 67) dX12_readWall_67 flX12_334 rfl (by omega) (congrArg Prod.fst sh_73) rfl ?_
          refine V_iconst (pc := 70) dX12_readWall_70 ic_1 rfl ?_
          refine V_iadd (pc := 71) dX12_readWall_71 rfl ?_
          let I8 : HI := up2 q6.2.1 73 47 ((q6.2.1 73 47) + (1 : Int32))
          refine V_putI (pc := 72) dX12_readWall_72 flX12_334 rfl rfl (by omega) (congrArg Prod.fst sh_73) rfl ?_
          refine V_aload_n (pc := 75) dX12_readWall_75 rfl rfl rfl ?_
          refine V_getI (pc := 76) dX12_readWall_76 flX12_175 rfl (by omega) (congrArg Prod.fst sh_73) rfl ?_
          refine V_iconst (pc := 79) dX12_readWall_79 ic_2 rfl ?_
          refine V_icmp_ne (pc := 80) (tgt := 87) dX12_readWall_80 (by decide) rfl (fun hc => ?_) (fun hc => ?_)
          · replace hf := (if_neg hc).symm.trans hf
            refine V_iconst (pc := 87) dX12_readWall_87 ic_0 rfl ?_
            refine V_istore_n (ls' := [some _, some _, some _]) (pc := 88) dX12_readWall_88 rfl (Nat.le_of_ble_eq_true rfl) rfl rfl ?_
            refine V_goto (pc := 89) (tgt := 6) dX12_readWall_89 (by decide) ?_
            exact V_wk (ih _ _ _ _ hf K) ⟨rfl, ⟨rfl, trivial⟩⟩
          · replace hf := (if_pos hc).symm.trans hf
            refine V_iconst (pc := 83) dX12_readWall_83 ic_1 rfl ?_
            refine V_goto (pc := 84) (tgt := 88) dX12_readWall_84 (by decide) ?_
            refine V_istore_n (ls' := [some _, some _, some _]) (pc := 88) dX12_readWall_88 rfl (Nat.le_of_ble_eq_true rfl) rfl rfl ?_
            refine V_goto (pc := 89) (tgt := 6) dX12_readWall_89 (by decide) ?_
            exact V_wk (ih _ _ _ _ hf K) ⟨rfl, ⟨rfl, trivial⟩⟩
        · replace hf := (if_neg hc).symm.trans hf
          cases hf
          exact V_vret (pc := 52) dX12_readWall_52 rfl K
      refine V_icmp_ne (pc := 23) (tgt := 31) dX12_readWall_23 (by decide) rfl (fun hc => ?_) (fun hc => ?_)
      · replace hq4 := (if_neg hc).symm.trans hq4
        cases hq4
        exact V_wk Kq4 ⟨rfl, trivial⟩
      · replace hq4 := (if_pos hc).symm.trans hq4
        refine V_aload_n (pc := 26) dX12_readWall_26 rfl rfl rfl ?_
        refine V_iconst (pc := 27) dX12_readWall_27 ic_2 rfl ?_
        obtain ⟨q5, hq5, hq4⟩ := obd hq4
        refine V_cVv (md' := mX12_wrong) (pc := 28) dX12_readWall_28 mlX12_241 mVX12_wrong (tX12_wrong hG hn hq5) rfl (by omega) (congrArg Prod.fst sh_73) rfl (Nat.le_of_ble_eq_true rfl) rfl ?_
        cases hq4
        exact V_wk Kq4 ⟨rfl, trivial⟩
    refine V_if_eq (pc := 7) (tgt := 92) dX12_readWall_7 (by decide) rfl (fun hc => ?_) (fun hc => ?_)
    · replace hb2 := (if_pos hc).symm.trans hb2
      cases hb2
      exact KTb2 rfl
    · replace hb2 := (if_neg hc).symm.trans hb2
      refine V_aload_n (pc := 10) dX12_readWall_10 rfl rfl rfl ?_
      refine V_getI (pc := 11) dX12_readWall_11 flX12_188 rfl (by omega) (congrArg Prod.fst sh_73) rfl ?_
      refine V_if_ne (pc := 14) (tgt := 92) dX12_readWall_14 (by decide) rfl (fun hc => ?_) (fun hc => ?_)
      · replace hb2 := (if_neg hc).symm.trans hb2
        cases hb2
        exact KTb2 rfl
      · replace hb2 := (if_pos hc).symm.trans hb2
        cases hb2
        exact KFb2 (nbt rfl)
noncomputable def fX12_readWall (I : HI) (L : HL) : Option (HI × HL) :=
  Option.bind (fX12_token  I L) fun q1 =>
  Option.bind (fX12_readWall_6 FUEL (1 : Int32) q1.1 q1.2) fun q9 =>
  some (q9.1, q9.2)
set_option maxRecDepth 100000 in
set_option maxHeartbeats 4000000 in
theorem tX12_readWall {g : GG} {n d : Nat} {tw dr sk tl ff : Nat} (hG : RG tw dr sk tl ff) (hn : 116 ≤ n) {I : HI} {L : HL} {res : HI × HL} (hf : fX12_readWall I L = some res) : CT g mX12_readWall (d + 5) 0 0 n (RT tw dr sk tl ff) I L [.ref 73] (PoV n (RT tw dr sk tl ff) res.1 res.2) := by
  refine CT.of rfl (Nat.le_of_ble_eq_true rfl) ?_
  show V g mX12_readWall (d + 5) 0 0 n (RT tw dr sk tl ff) I L 0 [some (.ref 73)] [] (PoV n (RT tw dr sk tl ff) res.1 res.2)
  refine V_aload_n (pc := 0) dX12_readWall_0 rfl rfl rfl ?_
  obtain ⟨q1, hq1, hf⟩ := bnd hf
  refine V_cVv (md' := mX12_token) (pc := 1) dX12_readWall_1 mlX12_244 mVX12_token (tX12_token hG hn hq1) rfl (by omega) (congrArg Prod.fst sh_73) rfl (Nat.le_of_ble_eq_true rfl) rfl ?_
  refine V_iconst (pc := 4) dX12_readWall_4 ic_1 rfl ?_
  refine V_istore_n (ls' := [some _, some _]) (pc := 5) dX12_readWall_5 rfl (Nat.le_of_ble_eq_true rfl) rfl rfl ?_
  obtain ⟨q9, hq9, hf⟩ := bnd hf
  refine V_wk (lX12_readWall_6 hG hn FUEL _ _ _ _ hq9 ?_) ⟨rfl, ⟨rfl, trivial⟩⟩
  cases hf
  exact PoV_mk
/-! ShadowDoorsModel.readDoor -/
noncomputable def fX12_readDoor (I : HI) (L : HL) : Option (HI × HL) :=
  Option.bind (fX12_newName (0 : Int32) (I 73 48) I L) fun q1 =>
  Option.bind (fX12_want (24948 : Int64) q1.1 q1.2) fun q2 =>
  Option.bind (fX12_readCell ((q2.2 73 41) ||| (q2.2 73 43)) q2.1 q2.2) fun q3 =>
  if inb (q2.1 73 48) 8 = true then
    let I5 : HI := up2 q3.2.1 83 (q2.1 73 48).toNatClampNeg q3.1
    Option.bind (fX12_told (1751738216 : Int64) (1 : Int32) (9 : Int32) I5 q3.2.2) fun q6 =>
    if inb (q2.1 73 48) 8 = true then
      let I8 : HI := up2 q6.2.1 84 (q2.1 73 48).toNatClampNeg q6.1
      if inb (q2.1 73 48) 8 = true then
        let I10 : HI := up2 I8 85 (q2.1 73 48).toNatClampNeg (0 : Int32)
        if inb (q2.1 73 48) 8 = true then
          let I12 : HI := up2 I10 86 (q2.1 73 48).toNatClampNeg (24 : Int32)
          Option.bind (
            Option.bind (
              if (I12 73 2) = 0 then
                if (b2i (fX12_isWord (1869636974 : Int64) I12 q6.2.2)) = 0 then
                  some true
                else
                  some false
              else
                some true
            ) fun b22 =>
            if b22 = true then
              some (I12, q6.2.2)
            else
              Option.bind (fX12_told (1869636974 : Int64) (0 : Int32) (23 : Int32) I12 q6.2.2) fun q23 =>
              if inb (q2.1 73 48) 8 = true then
                let I25 : HI := up2 q23.2.1 85 (q2.1 73 48).toNatClampNeg q23.1
                if inb (q2.1 73 48) 8 = true then
                  Option.bind (fX12_told (29807 : Int64) ((I25 85 (q2.1 73 48).toNatClampNeg) + (1 : Int32)) (24 : Int32) I25 q23.2.2) fun q27 =>
                  if inb (q2.1 73 48) 8 = true then
                    let I29 : HI := up2 q27.2.1 86 (q2.1 73 48).toNatClampNeg q27.1
                    some (I29, q27.2.2)
                  else none
                else none
              else none
          ) fun q21 =>
          if (q21.1 73 2) ≤ 0 then
            if inb (q2.1 73 48) 8 = true then
              let L31 : HL := up2 q21.2 73 43 ((q21.2 73 43) ||| ((1 : Int64) <<< ((q21.1 83 (q2.1 73 48).toNatClampNeg).toInt64 &&& 63)))
              let L32 : HL := up2 L31 73 42 ((L31 73 42) ||| (L31 73 43))
              let I33 : HI := up2 q21.1 73 48 ((q21.1 73 48) + (1 : Int32))
              some (I33, L32)
            else none
          else
            some (q21.1, q21.2)
        else none
      else none
    else none
  else none
set_option maxRecDepth 100000 in
set_option maxHeartbeats 4000000 in
theorem tX12_readDoor {g : GG} {n d : Nat} {tw dr sk tl ff : Nat} (hG : RG tw dr sk tl ff) (hn : 116 ≤ n) {I : HI} {L : HL} {res : HI × HL} (hf : fX12_readDoor I L = some res) : CT g mX12_readDoor (d + 5) 0 0 n (RT tw dr sk tl ff) I L [.ref 73] (PoV n (RT tw dr sk tl ff) res.1 res.2) := by
  refine CT.of rfl (Nat.le_of_ble_eq_true rfl) ?_
  show V g mX12_readDoor (d + 5) 0 0 n (RT tw dr sk tl ff) I L 0 [some (.ref 73)] [] (PoV n (RT tw dr sk tl ff) res.1 res.2)
  refine V_aload_n (pc := 0) dX12_readDoor_0 rfl rfl rfl ?_
  refine V_iconst (pc := 1) dX12_readDoor_1 ic_0 rfl ?_
  refine V_aload_n (pc := 2) dX12_readDoor_2 rfl rfl rfl ?_
  refine V_getI (pc := 3) dX12_readDoor_3 flX12_347 rfl (by omega) (congrArg Prod.fst sh_73) rfl ?_
  obtain ⟨q1, hq1, hf⟩ := bnd hf
  refine V_cVv (md' := mX12_newName) (pc := 6) dX12_readDoor_6 mlX12_350 mVX12_newName (tX12_newName hG hn hq1) rfl (by omega) (congrArg Prod.fst sh_73) rfl (Nat.le_of_ble_eq_true rfl) rfl ?_
  refine V_aload_n (pc := 9) dX12_readDoor_9 rfl rfl rfl ?_
  refine V_ldc2 (pc := 10) dX12_readDoor_10 klX12_203 rfl ?_
  obtain ⟨q2, hq2, hf⟩ := bnd hf
  refine V_cVv (md' := mX12_want) (pc := 13) dX12_readDoor_13 mlX12_247 mVX12_want (tX12_want hG hn hq2) rfl (by omega) (congrArg Prod.fst sh_73) rfl (Nat.le_of_ble_eq_true rfl) rfl ?_
  refine V_aload_n (pc := 16) dX12_readDoor_16 rfl rfl rfl ?_
  refine V_getI (pc := 17) dX12_readDoor_17 flX12_347 rfl (by omega) (congrArg Prod.fst sh_73) rfl ?_
  refine V_istore_n (ls' := [some _, some _]) (pc := 20) dX12_readDoor_20 rfl (Nat.le_of_ble_eq_true rfl) rfl rfl ?_
  refine V_aload_n (pc := 21) dX12_readDoor_21 rfl rfl rfl ?_
  refine V_getR (pc := 22) dX12_readDoor_22 flX12_42 rfl (by omega) (congrArg Prod.fst sh_73) rt_73_25 rfl ?_
  refine V_iload_n (pc := 25) dX12_readDoor_25 rfl rfl rfl ?_
  refine V_aload_n (pc := 26) dX12_readDoor_26 rfl rfl rfl ?_
  refine V_aload_n (pc := 27) dX12_readDoor_27 rfl rfl rfl ?_
  refine V_getL (pc := 28) dX12_readDoor_28 flX12_337 rfl (by omega) (congrArg Prod.fst sh_73) rfl ?_
  refine V_aload_n (pc := 31) dX12_readDoor_31 rfl rfl rfl ?_
  refine V_getL (pc := 32) dX12_readDoor_32 flX12_353 rfl (by omega) (congrArg Prod.fst sh_73) rfl ?_
  refine V_lor (pc := 35) dX12_readDoor_35 rfl ?_
  obtain ⟨q3, hq3, hf⟩ := bnd hf
  refine V_cVi (md' := mX12_readCell) (pc := 36) dX12_readDoor_36 mlX12_343 mVX12_readCell (tX12_readCell hG hn hq3) rfl (by omega) (congrArg Prod.fst sh_73) rfl (Nat.le_of_ble_eq_true rfl) rfl ?_
  obtain ⟨hc4, hf⟩ := pif hf
  let I5 : HI := up2 q3.2.1 83 (q2.1 73 48).toNatClampNeg q3.1
  refine V_iast (pc := 39) dX12_readDoor_39 (by omega) sh_83 hc4 rfl ?_
  refine V_aload_n (pc := 40) dX12_readDoor_40 rfl rfl rfl ?_
  refine V_getR (pc := 41) dX12_readDoor_41 flX12_45 rfl (by omega) (congrArg Prod.fst sh_73) rt_73_26 rfl ?_
  refine V_iload_n (pc := 44) dX12_readDoor_44 rfl rfl rfl ?_
  refine V_aload_n (pc := 45) dX12_readDoor_45 rfl rfl rfl ?_
  refine V_ldc2 (pc := 46) dX12_readDoor_46 klX12_205 rfl ?_
  refine V_iconst (pc := 49) dX12_readDoor_49 ic_1 rfl ?_
  refine V_bipush (pc := 50) dX12_readDoor_50 bp_9 rfl ?_
  obtain ⟨q6, hq6, hf⟩ := bnd hf
  refine V_cVi (md' := mX12_told) (pc := 52) dX12_readDoor_52 mlX12_356 mVX12_told (tX12_told hG hn hq6) rfl (by omega) (congrArg Prod.fst sh_73) rfl (Nat.le_of_ble_eq_true rfl) rfl ?_
  obtain ⟨hc7, hf⟩ := pif hf
  let I8 : HI := up2 q6.2.1 84 (q2.1 73 48).toNatClampNeg q6.1
  refine V_iast (pc := 55) dX12_readDoor_55 (by omega) sh_84 hc7 rfl ?_
  refine V_aload_n (pc := 56) dX12_readDoor_56 rfl rfl rfl ?_
  refine V_getR (pc := 57) dX12_readDoor_57 flX12_48 rfl (by omega) (congrArg Prod.fst sh_73) rt_73_27 rfl ?_
  refine V_iload_n (pc := 60) dX12_readDoor_60 rfl rfl rfl ?_
  refine V_iconst (pc := 61) dX12_readDoor_61 ic_0 rfl ?_
  obtain ⟨hc9, hf⟩ := pif hf
  let I10 : HI := up2 I8 85 (q2.1 73 48).toNatClampNeg (0 : Int32)
  refine V_iast (pc := 62) dX12_readDoor_62 (by omega) sh_85 hc9 rfl ?_
  refine V_aload_n (pc := 63) dX12_readDoor_63 rfl rfl rfl ?_
  refine V_getR (pc := 64) dX12_readDoor_64 flX12_51 rfl (by omega) (congrArg Prod.fst sh_73) rt_73_28 rfl ?_
  refine V_iload_n (pc := 67) dX12_readDoor_67 rfl rfl rfl ?_
  refine V_bipush (pc := 68) dX12_readDoor_68 bp_24 rfl ?_
  obtain ⟨hc11, hf⟩ := pif hf
  let I12 : HI := up2 I10 86 (q2.1 73 48).toNatClampNeg (24 : Int32)
  refine V_iast (pc := 70) dX12_readDoor_70 (by omega) sh_86 hc11 rfl ?_
  refine V_aload_n (pc := 71) dX12_readDoor_71 rfl rfl rfl ?_
  refine V_getI (pc := 72) dX12_readDoor_72 flX12_188 rfl (by omega) (congrArg Prod.fst sh_73) rfl ?_
  obtain ⟨q21, hq21, hf⟩ := bnd hf
  have Kq21 : V g mX12_readDoor (d + 5) 0 0 n (RT tw dr sk tl ff) q21.1 q21.2 127 [some (.ref 73), some (.int (q2.1 73 48))] [] (PoV n (RT tw dr sk tl ff) res.1 res.2) := by
    refine V_aload_n (pc := 127) dX12_readDoor_127 rfl rfl rfl ?_
    refine V_getI (pc := 128) dX12_readDoor_128 flX12_188 rfl (by omega) (congrArg Prod.fst sh_73) rfl ?_
    refine V_if_le (pc := 131) (tgt := 135) dX12_readDoor_131 (by decide) rfl (fun hc => ?_) (fun hc => ?_)
    · replace hf := (if_pos hc).symm.trans hf
      refine V_aload_n (pc := 135) dX12_readDoor_135 rfl rfl rfl ?_
      refine V_dup (pc := 136) dX12_readDoor_136 rfl rfl ?_
      refine V_getL (pc := 137) dX12_readDoor_137 flX12_353 rfl (by omega) (congrArg Prod.fst sh_73) rfl ?_
      refine V_lconst (pc := 140) dX12_readDoor_140 lc_1 rfl ?_
      refine V_aload_n (pc := 141) dX12_readDoor_141 rfl rfl rfl ?_
      refine V_getR (pc := 142) dX12_readDoor_142 flX12_42 rfl (by omega) (congrArg Prod.fst sh_73) rt_73_25 rfl ?_
      refine V_iload_n (pc := 145) dX12_readDoor_145 rfl rfl rfl ?_
      obtain ⟨hc30, hf⟩ := pif hf
      refine V_iald (pc := 146) dX12_readDoor_146 (by omega) sh_83 hc30 rfl ?_
      refine V_lshl (pc := 147) dX12_readDoor_147 rfl ?_
      refine V_lor (pc := 148) dX12_readDoor_148 rfl ?_
      let L31 : HL := up2 q21.2 73 43 ((q21.2 73 43) ||| ((1 : Int64) <<< ((q21.1 83 (q2.1 73 48).toNatClampNeg).toInt64 &&& 63)))
      refine V_putL (pc := 149) dX12_readDoor_149 flX12_353 rfl rfl (by omega) (congrArg Prod.fst sh_73) rfl ?_
      refine V_aload_n (pc := 152) dX12_readDoor_152 rfl rfl rfl ?_
      refine V_dup (pc := 153) dX12_readDoor_153 rfl rfl ?_
      refine V_getL (pc := 154) dX12_readDoor_154 flX12_340 rfl (by omega) (congrArg Prod.fst sh_73) rfl ?_
      refine V_aload_n (pc := 157) dX12_readDoor_157 rfl rfl rfl ?_
      refine V_getL (pc := 158) dX12_readDoor_158 flX12_353 rfl (by omega) (congrArg Prod.fst sh_73) rfl ?_
      refine V_lor (pc := 161) dX12_readDoor_161 rfl ?_
      let L32 : HL := up2 L31 73 42 ((L31 73 42) ||| (L31 73 43))
      refine V_putL (pc := 162) dX12_readDoor_162 flX12_340 rfl rfl (by omega) (congrArg Prod.fst sh_73) rfl ?_
      refine V_aload_n (pc := 165) dX12_readDoor_165 rfl rfl rfl ?_
      refine V_dup (pc := 166) dX12_readDoor_166 rfl rfl ?_
      refine V_getI (pc := 167) dX12_readDoor_167 flX12_347 rfl (by omega) (congrArg Prod.fst sh_73) rfl ?_
      refine V_iconst (pc := 170) dX12_readDoor_170 ic_1 rfl ?_
      refine V_iadd (pc := 171) dX12_readDoor_171 rfl ?_
      let I33 : HI := up2 q21.1 73 48 ((q21.1 73 48) + (1 : Int32))
      refine V_putI (pc := 172) dX12_readDoor_172 flX12_347 rfl rfl (by omega) (congrArg Prod.fst sh_73) rfl ?_
      cases hf
      exact V_vret (pc := 175) dX12_readDoor_175 rfl PoV_mk
    · replace hf := (if_neg hc).symm.trans hf
      cases hf
      exact V_vret (pc := 134) dX12_readDoor_134 rfl PoV_mk
  obtain ⟨b22, hb22, hq21⟩ := bnd hq21
  have KTb22 : b22 = true → V g mX12_readDoor (d + 5) 0 0 n (RT tw dr sk tl ff) I12 q6.2.2 127 [some (.ref 73), some (.int (q2.1 73 48))] [] (PoV n (RT tw dr sk tl ff) res.1 res.2) := fun hc => by
    replace hq21 := (if_pos hc).symm.trans hq21
    cases hq21
    exact V_wk Kq21 ⟨rfl, ⟨rfl, trivial⟩⟩
  have KFb22 : ¬ b22 = true → V g mX12_readDoor (d + 5) 0 0 n (RT tw dr sk tl ff) I12 q6.2.2 88 [some (.ref 73), some (.int (q2.1 73 48))] [] (PoV n (RT tw dr sk tl ff) res.1 res.2) := fun hc => by
    replace hq21 := (if_neg hc).symm.trans hq21
    refine V_aload_n (pc := 88) dX12_readDoor_88 rfl rfl rfl ?_
    refine V_getR (pc := 89) dX12_readDoor_89 flX12_48 rfl (by omega) (congrArg Prod.fst sh_73) rt_73_27 rfl ?_
    refine V_iload_n (pc := 92) dX12_readDoor_92 rfl rfl rfl ?_
    refine V_aload_n (pc := 93) dX12_readDoor_93 rfl rfl rfl ?_
    refine V_ldc2 (pc := 94) dX12_readDoor_94 klX12_207 rfl ?_
    refine V_iconst (pc := 97) dX12_readDoor_97 ic_0 rfl ?_
    refine V_bipush (pc := 98) dX12_readDoor_98 bp_23 rfl ?_
    obtain ⟨q23, hq23, hq21⟩ := bnd hq21
    refine V_cVi (md' := mX12_told) (pc := 100) dX12_readDoor_100 mlX12_356 mVX12_told (tX12_told hG hn hq23) rfl (by omega) (congrArg Prod.fst sh_73) rfl (Nat.le_of_ble_eq_true rfl) rfl ?_
    obtain ⟨hc24, hq21⟩ := pif hq21
    let I25 : HI := up2 q23.2.1 85 (q2.1 73 48).toNatClampNeg q23.1
    refine V_iast (pc := 103) dX12_readDoor_103 (by omega) sh_85 hc24 rfl ?_
    refine V_aload_n (pc := 104) dX12_readDoor_104 rfl rfl rfl ?_
    refine V_getR (pc := 105) dX12_readDoor_105 flX12_51 rfl (by omega) (congrArg Prod.fst sh_73) rt_73_28 rfl ?_
    refine V_iload_n (pc := 108) dX12_readDoor_108 rfl rfl rfl ?_
    refine V_aload_n (pc := 109) dX12_readDoor_109 rfl rfl rfl ?_
    refine V_ldc2 (pc := 110) dX12_readDoor_110 klX12_209 rfl ?_
    refine V_aload_n (pc := 113) dX12_readDoor_113 rfl rfl rfl ?_
    refine V_getR (pc := 114) dX12_readDoor_114 flX12_48 rfl (by omega) (congrArg Prod.fst sh_73) rt_73_27 rfl ?_
    refine V_iload_n (pc := 117) dX12_readDoor_117 rfl rfl rfl ?_
    obtain ⟨hc26, hq21⟩ := pif hq21
    refine V_iald (pc := 118) dX12_readDoor_118 (by omega) sh_85 hc26 rfl ?_
    refine V_iconst (pc := 119) dX12_readDoor_119 ic_1 rfl ?_
    refine V_iadd (pc := 120) dX12_readDoor_120 rfl ?_
    refine V_bipush (pc := 121) dX12_readDoor_121 bp_24 rfl ?_
    obtain ⟨q27, hq27, hq21⟩ := bnd hq21
    refine V_cVi (md' := mX12_told) (pc := 123) dX12_readDoor_123 mlX12_356 mVX12_told (tX12_told hG hn hq27) rfl (by omega) (congrArg Prod.fst sh_73) rfl (Nat.le_of_ble_eq_true rfl) rfl ?_
    obtain ⟨hc28, hq21⟩ := pif hq21
    let I29 : HI := up2 q27.2.1 86 (q2.1 73 48).toNatClampNeg q27.1
    refine V_iast (pc := 126) dX12_readDoor_126 (by omega) sh_86 hc28 rfl ?_
    cases hq21
    exact V_wk Kq21 ⟨rfl, ⟨rfl, trivial⟩⟩
  refine V_if_ne (pc := 75) (tgt := 127) dX12_readDoor_75 (by decide) rfl (fun hc => ?_) (fun hc => ?_)
  · replace hb22 := (if_neg hc).symm.trans hb22
    cases hb22
    exact KTb22 rfl
  · replace hb22 := (if_pos hc).symm.trans hb22
    refine V_aload_n (pc := 78) dX12_readDoor_78 rfl rfl rfl ?_
    refine V_ldc2 (pc := 79) dX12_readDoor_79 klX12_207 rfl ?_
    refine V_cVz (md' := mX12_isWord) (pc := 82) dX12_readDoor_82 mlX12_237 mVX12_isWord (tX12_isWord hG hn rfl) rfl (by omega) (congrArg Prod.fst sh_73) rfl (Nat.le_of_ble_eq_true rfl) rfl ?_
    refine V_if_eq (pc := 85) (tgt := 127) dX12_readDoor_85 (by decide) rfl (fun hc => ?_) (fun hc => ?_)
    · replace hb22 := (if_pos hc).symm.trans hb22
      cases hb22
      exact KTb22 rfl
    · replace hb22 := (if_neg hc).symm.trans hb22
      cases hb22
      exact KFb22 (nbt rfl)
/-! ShadowDoorsModel.readLamp -/
noncomputable def fX12_readLamp (I : HI) (L : HL) : Option (HI × HL) :=
  Option.bind (fX12_newName (8 : Int32) (I 73 49) I L) fun q1 =>
  Option.bind (fX12_want (24948 : Int64) q1.1 q1.2) fun q2 =>
  Option.bind (fX12_readCell (q2.2 73 41) q2.1 q2.2) fun q3 =>
  if inb (q2.1 73 49) 4 = true then
    let I5 : HI := up2 q3.2.1 87 (q2.1 73 49).toNatClampNeg q3.1
    Option.bind (fX12_told (7104884 : Int64) (0 : Int32) (23 : Int32) I5 q3.2.2) fun q6 =>
    if inb (q2.1 73 49) 4 = true then
      let I8 : HI := up2 q6.2.1 88 (q2.1 73 49).toNatClampNeg q6.1
      if inb (q2.1 73 49) 4 = true then
        Option.bind (fX12_told (29807 : Int64) ((I8 88 (q2.1 73 49).toNatClampNeg) + (1 : Int32)) (24 : Int32) I8 q6.2.2) fun q10 =>
        if inb (q2.1 73 49) 4 = true then
          let I12 : HI := up2 q10.2.1 89 (q2.1 73 49).toNatClampNeg q10.1
          if (I12 73 2) ≤ 0 then
            if inb (q2.1 73 49) 4 = true then
              let L14 : HL := up2 q10.2.2 73 42 ((q10.2.2 73 42) ||| ((1 : Int64) <<< ((I12 87 (q2.1 73 49).toNatClampNeg).toInt64 &&& 63)))
              let I15 : HI := up2 I12 73 49 ((I12 73 49) + (1 : Int32))
              some (I15, L14)
            else none
          else
            some (I12, q10.2.2)
        else none
      else none
    else none
  else none
set_option maxRecDepth 100000 in
set_option maxHeartbeats 4000000 in
theorem tX12_readLamp {g : GG} {n d : Nat} {tw dr sk tl ff : Nat} (hG : RG tw dr sk tl ff) (hn : 116 ≤ n) {I : HI} {L : HL} {res : HI × HL} (hf : fX12_readLamp I L = some res) : CT g mX12_readLamp (d + 5) 0 0 n (RT tw dr sk tl ff) I L [.ref 73] (PoV n (RT tw dr sk tl ff) res.1 res.2) := by
  refine CT.of rfl (Nat.le_of_ble_eq_true rfl) ?_
  show V g mX12_readLamp (d + 5) 0 0 n (RT tw dr sk tl ff) I L 0 [some (.ref 73)] [] (PoV n (RT tw dr sk tl ff) res.1 res.2)
  refine V_aload_n (pc := 0) dX12_readLamp_0 rfl rfl rfl ?_
  refine V_bipush (pc := 1) dX12_readLamp_1 bp_8 rfl ?_
  refine V_aload_n (pc := 3) dX12_readLamp_3 rfl rfl rfl ?_
  refine V_getI (pc := 4) dX12_readLamp_4 flX12_360 rfl (by omega) (congrArg Prod.fst sh_73) rfl ?_
  obtain ⟨q1, hq1, hf⟩ := bnd hf
  refine V_cVv (md' := mX12_newName) (pc := 7) dX12_readLamp_7 mlX12_350 mVX12_newName (tX12_newName hG hn hq1) rfl (by omega) (congrArg Prod.fst sh_73) rfl (Nat.le_of_ble_eq_true rfl) rfl ?_
  refine V_aload_n (pc := 10) dX12_readLamp_10 rfl rfl rfl ?_
  refine V_ldc2 (pc := 11) dX12_readLamp_11 klX12_203 rfl ?_
  obtain ⟨q2, hq2, hf⟩ := bnd hf
  refine V_cVv (md' := mX12_want) (pc := 14) dX12_readLamp_14 mlX12_247 mVX12_want (tX12_want hG hn hq2) rfl (by omega) (congrArg Prod.fst sh_73) rfl (Nat.le_of_ble_eq_true rfl) rfl ?_
  refine V_aload_n (pc := 17) dX12_readLamp_17 rfl rfl rfl ?_
  refine V_getI (pc := 18) dX12_readLamp_18 flX12_360 rfl (by omega) (congrArg Prod.fst sh_73) rfl ?_
  refine V_istore_n (ls' := [some _, some _]) (pc := 21) dX12_readLamp_21 rfl (Nat.le_of_ble_eq_true rfl) rfl rfl ?_
  refine V_aload_n (pc := 22) dX12_readLamp_22 rfl rfl rfl ?_
  refine V_getR (pc := 23) dX12_readLamp_23 flX12_54 rfl (by omega) (congrArg Prod.fst sh_73) rt_73_29 rfl ?_
  refine V_iload_n (pc := 26) dX12_readLamp_26 rfl rfl rfl ?_
  refine V_aload_n (pc := 27) dX12_readLamp_27 rfl rfl rfl ?_
  refine V_aload_n (pc := 28) dX12_readLamp_28 rfl rfl rfl ?_
  refine V_getL (pc := 29) dX12_readLamp_29 flX12_337 rfl (by omega) (congrArg Prod.fst sh_73) rfl ?_
  obtain ⟨q3, hq3, hf⟩ := bnd hf
  refine V_cVi (md' := mX12_readCell) (pc := 32) dX12_readLamp_32 mlX12_343 mVX12_readCell (tX12_readCell hG hn hq3) rfl (by omega) (congrArg Prod.fst sh_73) rfl (Nat.le_of_ble_eq_true rfl) rfl ?_
  obtain ⟨hc4, hf⟩ := pif hf
  let I5 : HI := up2 q3.2.1 87 (q2.1 73 49).toNatClampNeg q3.1
  refine V_iast (pc := 35) dX12_readLamp_35 (by omega) sh_87 hc4 rfl ?_
  refine V_aload_n (pc := 36) dX12_readLamp_36 rfl rfl rfl ?_
  refine V_getR (pc := 37) dX12_readLamp_37 flX12_57 rfl (by omega) (congrArg Prod.fst sh_73) rt_73_30 rfl ?_
  refine V_iload_n (pc := 40) dX12_readLamp_40 rfl rfl rfl ?_
  refine V_aload_n (pc := 41) dX12_readLamp_41 rfl rfl rfl ?_
  refine V_ldc2 (pc := 42) dX12_readLamp_42 klX12_213 rfl ?_
  refine V_iconst (pc := 45) dX12_readLamp_45 ic_0 rfl ?_
  refine V_bipush (pc := 46) dX12_readLamp_46 bp_23 rfl ?_
  obtain ⟨q6, hq6, hf⟩ := bnd hf
  refine V_cVi (md' := mX12_told) (pc := 48) dX12_readLamp_48 mlX12_356 mVX12_told (tX12_told hG hn hq6) rfl (by omega) (congrArg Prod.fst sh_73) rfl (Nat.le_of_ble_eq_true rfl) rfl ?_
  obtain ⟨hc7, hf⟩ := pif hf
  let I8 : HI := up2 q6.2.1 88 (q2.1 73 49).toNatClampNeg q6.1
  refine V_iast (pc := 51) dX12_readLamp_51 (by omega) sh_88 hc7 rfl ?_
  refine V_aload_n (pc := 52) dX12_readLamp_52 rfl rfl rfl ?_
  refine V_getR (pc := 53) dX12_readLamp_53 flX12_60 rfl (by omega) (congrArg Prod.fst sh_73) rt_73_31 rfl ?_
  refine V_iload_n (pc := 56) dX12_readLamp_56 rfl rfl rfl ?_
  refine V_aload_n (pc := 57) dX12_readLamp_57 rfl rfl rfl ?_
  refine V_ldc2 (pc := 58) dX12_readLamp_58 klX12_209 rfl ?_
  refine V_aload_n (pc := 61) dX12_readLamp_61 rfl rfl rfl ?_
  refine V_getR (pc := 62) dX12_readLamp_62 flX12_57 rfl (by omega) (congrArg Prod.fst sh_73) rt_73_30 rfl ?_
  refine V_iload_n (pc := 65) dX12_readLamp_65 rfl rfl rfl ?_
  obtain ⟨hc9, hf⟩ := pif hf
  refine V_iald (pc := 66) dX12_readLamp_66 (by omega) sh_88 hc9 rfl ?_
  refine V_iconst (pc := 67) dX12_readLamp_67 ic_1 rfl ?_
  refine V_iadd (pc := 68) dX12_readLamp_68 rfl ?_
  refine V_bipush (pc := 69) dX12_readLamp_69 bp_24 rfl ?_
  obtain ⟨q10, hq10, hf⟩ := bnd hf
  refine V_cVi (md' := mX12_told) (pc := 71) dX12_readLamp_71 mlX12_356 mVX12_told (tX12_told hG hn hq10) rfl (by omega) (congrArg Prod.fst sh_73) rfl (Nat.le_of_ble_eq_true rfl) rfl ?_
  obtain ⟨hc11, hf⟩ := pif hf
  let I12 : HI := up2 q10.2.1 89 (q2.1 73 49).toNatClampNeg q10.1
  refine V_iast (pc := 74) dX12_readLamp_74 (by omega) sh_89 hc11 rfl ?_
  refine V_aload_n (pc := 75) dX12_readLamp_75 rfl rfl rfl ?_
  refine V_getI (pc := 76) dX12_readLamp_76 flX12_188 rfl (by omega) (congrArg Prod.fst sh_73) rfl ?_
  refine V_if_le (pc := 79) (tgt := 83) dX12_readLamp_79 (by decide) rfl (fun hc => ?_) (fun hc => ?_)
  · replace hf := (if_pos hc).symm.trans hf
    refine V_aload_n (pc := 83) dX12_readLamp_83 rfl rfl rfl ?_
    refine V_dup (pc := 84) dX12_readLamp_84 rfl rfl ?_
    refine V_getL (pc := 85) dX12_readLamp_85 flX12_340 rfl (by omega) (congrArg Prod.fst sh_73) rfl ?_
    refine V_lconst (pc := 88) dX12_readLamp_88 lc_1 rfl ?_
    refine V_aload_n (pc := 89) dX12_readLamp_89 rfl rfl rfl ?_
    refine V_getR (pc := 90) dX12_readLamp_90 flX12_54 rfl (by omega) (congrArg Prod.fst sh_73) rt_73_29 rfl ?_
    refine V_iload_n (pc := 93) dX12_readLamp_93 rfl rfl rfl ?_
    obtain ⟨hc13, hf⟩ := pif hf
    refine V_iald (pc := 94) dX12_readLamp_94 (by omega) sh_87 hc13 rfl ?_
    refine V_lshl (pc := 95) dX12_readLamp_95 rfl ?_
    refine V_lor (pc := 96) dX12_readLamp_96 rfl ?_
    let L14 : HL := up2 q10.2.2 73 42 ((q10.2.2 73 42) ||| ((1 : Int64) <<< ((I12 87 (q2.1 73 49).toNatClampNeg).toInt64 &&& 63)))
    refine V_putL (pc := 97) dX12_readLamp_97 flX12_340 rfl rfl (by omega) (congrArg Prod.fst sh_73) rfl ?_
    refine V_aload_n (pc := 100) dX12_readLamp_100 rfl rfl rfl ?_
    refine V_dup (pc := 101) dX12_readLamp_101 rfl rfl ?_
    refine V_getI (pc := 102) dX12_readLamp_102 flX12_360 rfl (by omega) (congrArg Prod.fst sh_73) rfl ?_
    refine V_iconst (pc := 105) dX12_readLamp_105 ic_1 rfl ?_
    refine V_iadd (pc := 106) dX12_readLamp_106 rfl ?_
    let I15 : HI := up2 I12 73 49 ((I12 73 49) + (1 : Int32))
    refine V_putI (pc := 107) dX12_readLamp_107 flX12_360 rfl rfl (by omega) (congrArg Prod.fst sh_73) rfl ?_
    cases hf
    exact V_vret (pc := 110) dX12_readLamp_110 rfl PoV_mk
  · replace hf := (if_neg hc).symm.trans hf
    cases hf
    exact V_vret (pc := 82) dX12_readLamp_82 rfl PoV_mk
/-! ShadowDoorsModel.readPerson -/
noncomputable def fX12_readPerson (I : HI) (L : HL) : Option (HI × HL) :=
  Option.bind (fX12_newName (12 : Int32) (I 73 50) I L) fun q1 =>
  Option.bind (fX12_want (24948 : Int64) q1.1 q1.2) fun q2 =>
  Option.bind (fX12_readCell (q2.2 73 41) q2.1 q2.2) fun q3 =>
  if inb (q2.1 73 50) 4 = true then
    let I5 : HI := up2 q3.2.1 90 (q2.1 73 50).toNatClampNeg q3.1
    if (I5 73 2) ≤ 0 then
      if inb (I5 73 50) 4 = true then
        let L7 : HL := up2 q3.2.2 73 42 ((q3.2.2 73 42) ||| ((1 : Int64) <<< ((I5 90 (I5 73 50).toNatClampNeg).toInt64 &&& 63)))
        let I8 : HI := up2 I5 73 50 ((I5 73 50) + (1 : Int32))
        some (I8, L7)
      else none
    else
      some (I5, q3.2.2)
  else none
set_option maxRecDepth 100000 in
set_option maxHeartbeats 4000000 in
theorem tX12_readPerson {g : GG} {n d : Nat} {tw dr sk tl ff : Nat} (hG : RG tw dr sk tl ff) (hn : 116 ≤ n) {I : HI} {L : HL} {res : HI × HL} (hf : fX12_readPerson I L = some res) : CT g mX12_readPerson (d + 5) 0 0 n (RT tw dr sk tl ff) I L [.ref 73] (PoV n (RT tw dr sk tl ff) res.1 res.2) := by
  refine CT.of rfl (Nat.le_of_ble_eq_true rfl) ?_
  show V g mX12_readPerson (d + 5) 0 0 n (RT tw dr sk tl ff) I L 0 [some (.ref 73)] [] (PoV n (RT tw dr sk tl ff) res.1 res.2)
  refine V_aload_n (pc := 0) dX12_readPerson_0 rfl rfl rfl ?_
  refine V_bipush (pc := 1) dX12_readPerson_1 bp_12 rfl ?_
  refine V_aload_n (pc := 3) dX12_readPerson_3 rfl rfl rfl ?_
  refine V_getI (pc := 4) dX12_readPerson_4 flX12_363 rfl (by omega) (congrArg Prod.fst sh_73) rfl ?_
  obtain ⟨q1, hq1, hf⟩ := bnd hf
  refine V_cVv (md' := mX12_newName) (pc := 7) dX12_readPerson_7 mlX12_350 mVX12_newName (tX12_newName hG hn hq1) rfl (by omega) (congrArg Prod.fst sh_73) rfl (Nat.le_of_ble_eq_true rfl) rfl ?_
  refine V_aload_n (pc := 10) dX12_readPerson_10 rfl rfl rfl ?_
  refine V_ldc2 (pc := 11) dX12_readPerson_11 klX12_203 rfl ?_
  obtain ⟨q2, hq2, hf⟩ := bnd hf
  refine V_cVv (md' := mX12_want) (pc := 14) dX12_readPerson_14 mlX12_247 mVX12_want (tX12_want hG hn hq2) rfl (by omega) (congrArg Prod.fst sh_73) rfl (Nat.le_of_ble_eq_true rfl) rfl ?_
  refine V_aload_n (pc := 17) dX12_readPerson_17 rfl rfl rfl ?_
  refine V_getR (pc := 18) dX12_readPerson_18 flX12_63 rfl (by omega) (congrArg Prod.fst sh_73) rt_73_32 rfl ?_
  refine V_aload_n (pc := 21) dX12_readPerson_21 rfl rfl rfl ?_
  refine V_getI (pc := 22) dX12_readPerson_22 flX12_363 rfl (by omega) (congrArg Prod.fst sh_73) rfl ?_
  refine V_aload_n (pc := 25) dX12_readPerson_25 rfl rfl rfl ?_
  refine V_aload_n (pc := 26) dX12_readPerson_26 rfl rfl rfl ?_
  refine V_getL (pc := 27) dX12_readPerson_27 flX12_337 rfl (by omega) (congrArg Prod.fst sh_73) rfl ?_
  obtain ⟨q3, hq3, hf⟩ := bnd hf
  refine V_cVi (md' := mX12_readCell) (pc := 30) dX12_readPerson_30 mlX12_343 mVX12_readCell (tX12_readCell hG hn hq3) rfl (by omega) (congrArg Prod.fst sh_73) rfl (Nat.le_of_ble_eq_true rfl) rfl ?_
  obtain ⟨hc4, hf⟩ := pif hf
  let I5 : HI := up2 q3.2.1 90 (q2.1 73 50).toNatClampNeg q3.1
  refine V_iast (pc := 33) dX12_readPerson_33 (by omega) sh_90 hc4 rfl ?_
  refine V_aload_n (pc := 34) dX12_readPerson_34 rfl rfl rfl ?_
  refine V_getI (pc := 35) dX12_readPerson_35 flX12_188 rfl (by omega) (congrArg Prod.fst sh_73) rfl ?_
  refine V_if_le (pc := 38) (tgt := 42) dX12_readPerson_38 (by decide) rfl (fun hc => ?_) (fun hc => ?_)
  · replace hf := (if_pos hc).symm.trans hf
    refine V_aload_n (pc := 42) dX12_readPerson_42 rfl rfl rfl ?_
    refine V_dup (pc := 43) dX12_readPerson_43 rfl rfl ?_
    refine V_getL (pc := 44) dX12_readPerson_44 flX12_340 rfl (by omega) (congrArg Prod.fst sh_73) rfl ?_
    refine V_lconst (pc := 47) dX12_readPerson_47 lc_1 rfl ?_
    refine V_aload_n (pc := 48) dX12_readPerson_48 rfl rfl rfl ?_
    refine V_getR (pc := 49) dX12_readPerson_49 flX12_63 rfl (by omega) (congrArg Prod.fst sh_73) rt_73_32 rfl ?_
    refine V_aload_n (pc := 52) dX12_readPerson_52 rfl rfl rfl ?_
    refine V_getI (pc := 53) dX12_readPerson_53 flX12_363 rfl (by omega) (congrArg Prod.fst sh_73) rfl ?_
    obtain ⟨hc6, hf⟩ := pif hf
    refine V_iald (pc := 56) dX12_readPerson_56 (by omega) sh_90 hc6 rfl ?_
    refine V_lshl (pc := 57) dX12_readPerson_57 rfl ?_
    refine V_lor (pc := 58) dX12_readPerson_58 rfl ?_
    let L7 : HL := up2 q3.2.2 73 42 ((q3.2.2 73 42) ||| ((1 : Int64) <<< ((I5 90 (I5 73 50).toNatClampNeg).toInt64 &&& 63)))
    refine V_putL (pc := 59) dX12_readPerson_59 flX12_340 rfl rfl (by omega) (congrArg Prod.fst sh_73) rfl ?_
    refine V_aload_n (pc := 62) dX12_readPerson_62 rfl rfl rfl ?_
    refine V_dup (pc := 63) dX12_readPerson_63 rfl rfl ?_
    refine V_getI (pc := 64) dX12_readPerson_64 flX12_363 rfl (by omega) (congrArg Prod.fst sh_73) rfl ?_
    refine V_iconst (pc := 67) dX12_readPerson_67 ic_1 rfl ?_
    refine V_iadd (pc := 68) dX12_readPerson_68 rfl ?_
    let I8 : HI := up2 I5 73 50 ((I5 73 50) + (1 : Int32))
    refine V_putI (pc := 69) dX12_readPerson_69 flX12_363 rfl rfl (by omega) (congrArg Prod.fst sh_73) rfl ?_
    cases hf
    exact V_vret (pc := 72) dX12_readPerson_72 rfl PoV_mk
  · replace hf := (if_neg hc).symm.trans hf
    cases hf
    exact V_vret (pc := 41) dX12_readPerson_41 rfl PoV_mk
/-! ShadowDoorsModel.readLine -/
noncomputable def fX12_readLine (I : HI) (L : HL) : Option (HI × HL) :=
  Option.bind (
    Option.bind (
      if (b2i (fX12_isWord (1936292453 : Int64) I L)) = 0 then
        some true
      else
        if (I 73 59) = 0 then
          if (I 73 60) = 0 then
            some false
          else
            some true
        else
          some true
    ) fun b24 =>
    if b24 = true then
      Option.bind (
        if (b2i (fX12_isWord (2002873452 : Int64) I L)) = 0 then
          some true
        else
          if (24 : Int32) < (I 73 47) then
            some true
          else
            some false
      ) fun b25 =>
      if b25 = true then
        Option.bind (
          if (b2i (fX12_isWord (1685024626 : Int64) I L)) = 0 then
            some true
          else
            if (8 : Int32) ≤ (I 73 48) then
              some true
            else
              some false
        ) fun b26 =>
        if b26 = true then
          Option.bind (
            if (b2i (fX12_isWord (1818324336 : Int64) I L)) = 0 then
              some true
            else
              if (4 : Int32) ≤ (I 73 49) then
                some true
              else
                some false
          ) fun b27 =>
          if b27 = true then
            Option.bind (
              if (b2i (fX12_isWord (123581014175598 : Int64) I L)) = 0 then
                some true
              else
                if (4 : Int32) ≤ (I 73 50) then
                  some true
                else
                  some false
            ) fun b28 =>
            if b28 = true then
              Option.bind (
                if (b2i (fX12_isWord (495672452197 : Int64) I L)) = 0 then
                  some true
                else
                  if (I 73 61) = 0 then
                    some false
                  else
                    some true
              ) fun b29 =>
              if b29 = true then
                Option.bind (
                  if (b2i (fX12_isWord (427021006180 : Int64) I L)) = 0 then
                    some true
                  else
                    if (I 73 62) = 0 then
                      some false
                    else
                      some true
                ) fun b30 =>
                if b30 = true then
                  obn (fX12_wrong (2 : Int32) I) fun q31 =>
                  some (q31, L)
                else
                  let I32 : HI := up2 I 73 62 (b2i true)
                  Option.bind (fX12_told (427021006180 : Int64) (0 : Int32) (100 : Int32) I32 L) fun q33 =>
                  let I34 : HI := up2 q33.2.1 73 51 q33.1
                  some (I34, q33.2.2)
              else
                let I35 : HI := up2 I 73 61 (b2i true)
                Option.bind (fX12_readShade  I35 L) fun q36 =>
                some (q36.1, q36.2)
            else
              Option.bind (fX12_readPerson  I L) fun q37 =>
              some (q37.1, q37.2)
          else
            Option.bind (fX12_readLamp  I L) fun q38 =>
            some (q38.1, q38.2)
        else
          Option.bind (fX12_readDoor  I L) fun q39 =>
          some (q39.1, q39.2)
      else
        Option.bind (fX12_readWall  I L) fun q40 =>
        some (q40.1, q40.2)
    else
      let I41 : HI := up2 I 73 59 (b2i true)
      Option.bind (fX12_told (1936292453 : Int64) (1 : Int32) (8 : Int32) I41 L) fun q42 =>
      let I43 : HI := up2 q42.2.1 73 45 q42.1
      Option.bind (fX12_told (25209 : Int64) (1 : Int32) (8 : Int32) I43 q42.2.2) fun q44 =>
      let I45 : HI := up2 q44.2.1 73 46 q44.1
      some (I45, q44.2.2)
  ) fun q23 =>
  let I46 : HI := up2 q23.1 73 60 (b2i true)
  Option.bind (
    Option.bind (
      if (I46 73 2) = 0 then
        if (I46 73 6) = (59 : Int32) then
          some true
        else
          some false
      else
        some true
    ) fun b50 =>
    if b50 = true then
      some I46
    else
      obn (fX12_wrong (2 : Int32) I46) fun q51 =>
      some q51
  ) fun q49 =>
  if (q49 73 2) = 0 then
    Option.bind (fX12_token  q49 q23.2) fun q52 =>
    some (q52.1, q52.2)
  else
    some (q49, q23.2)
set_option maxRecDepth 100000 in
set_option maxHeartbeats 4000000 in
theorem tX12_readLine {g : GG} {n d : Nat} {tw dr sk tl ff : Nat} (hG : RG tw dr sk tl ff) (hn : 116 ≤ n) {I : HI} {L : HL} {res : HI × HL} (hf : fX12_readLine I L = some res) : CT g mX12_readLine (d + 6) 0 0 n (RT tw dr sk tl ff) I L [.ref 73] (PoV n (RT tw dr sk tl ff) res.1 res.2) := by
  refine CT.of rfl (Nat.le_of_ble_eq_true rfl) ?_
  show V g mX12_readLine (d + 6) 0 0 n (RT tw dr sk tl ff) I L 0 [some (.ref 73)] [] (PoV n (RT tw dr sk tl ff) res.1 res.2)
  refine V_aload_n (pc := 0) dX12_readLine_0 rfl rfl rfl ?_
  refine V_ldc2 (pc := 1) dX12_readLine_1 klX12_195 rfl ?_
  refine V_cVz (md' := mX12_isWord) (pc := 4) dX12_readLine_4 mlX12_237 mVX12_isWord (tX12_isWord hG hn rfl) rfl (by omega) (congrArg Prod.fst sh_73) rfl (Nat.le_of_ble_eq_true rfl) rfl ?_
  obtain ⟨q23, hq23, hf⟩ := bnd hf
  have Kq23 : V g mX12_readLine (d + 6) 0 0 n (RT tw dr sk tl ff) q23.1 q23.2 235 [some (.ref 73)] [] (PoV n (RT tw dr sk tl ff) res.1 res.2) := by
    refine V_aload_n (pc := 235) dX12_readLine_235 rfl rfl rfl ?_
    refine V_iconst (pc := 236) dX12_readLine_236 ic_1 rfl ?_
    let I46 : HI := up2 q23.1 73 60 (b2i true)
    refine V_putZE (pc := 237) dX12_readLine_237 flX12_370 rfl rfl (by omega) (congrArg Prod.fst sh_73) (show (1 : Int32) = b2i true from rfl) rfl ?_
    refine V_aload_n (pc := 240) dX12_readLine_240 rfl rfl rfl ?_
    refine V_getI (pc := 241) dX12_readLine_241 flX12_188 rfl (by omega) (congrArg Prod.fst sh_73) rfl ?_
    obtain ⟨q49, hq49, hf⟩ := bnd hf
    have Kq49 : V g mX12_readLine (d + 6) 0 0 n (RT tw dr sk tl ff) q49 q23.2 261 [some (.ref 73)] [] (PoV n (RT tw dr sk tl ff) res.1 res.2) := by
      refine V_aload_n (pc := 261) dX12_readLine_261 rfl rfl rfl ?_
      refine V_getI (pc := 262) dX12_readLine_262 flX12_188 rfl (by omega) (congrArg Prod.fst sh_73) rfl ?_
      refine V_if_ne (pc := 265) (tgt := 272) dX12_readLine_265 (by decide) rfl (fun hc => ?_) (fun hc => ?_)
      · replace hf := (if_neg hc).symm.trans hf
        cases hf
        exact V_vret (pc := 272) dX12_readLine_272 rfl PoV_mk
      · replace hf := (if_pos hc).symm.trans hf
        refine V_aload_n (pc := 268) dX12_readLine_268 rfl rfl rfl ?_
        obtain ⟨q52, hq52, hf⟩ := bnd hf
        refine V_cVv (md' := mX12_token) (pc := 269) dX12_readLine_269 mlX12_244 mVX12_token (tX12_token hG hn hq52) rfl (by omega) (congrArg Prod.fst sh_73) rfl (Nat.le_of_ble_eq_true rfl) rfl ?_
        cases hf
        exact V_vret (pc := 272) dX12_readLine_272 rfl PoV_mk
    obtain ⟨b50, hb50, hq49⟩ := bnd hq49
    have KTb50 : b50 = true → V g mX12_readLine (d + 6) 0 0 n (RT tw dr sk tl ff) I46 q23.2 261 [some (.ref 73)] [] (PoV n (RT tw dr sk tl ff) res.1 res.2) := fun hc => by
      replace hq49 := (if_pos hc).symm.trans hq49
      cases hq49
      exact V_wk Kq49 ⟨rfl, trivial⟩
    have KFb50 : ¬ b50 = true → V g mX12_readLine (d + 6) 0 0 n (RT tw dr sk tl ff) I46 q23.2 256 [some (.ref 73)] [] (PoV n (RT tw dr sk tl ff) res.1 res.2) := fun hc => by
      replace hq49 := (if_neg hc).symm.trans hq49
      refine V_aload_n (pc := 256) dX12_readLine_256 rfl rfl rfl ?_
      refine V_iconst (pc := 257) dX12_readLine_257 ic_2 rfl ?_
      obtain ⟨q51, hq51, hq49⟩ := obd hq49
      refine V_cVv (md' := mX12_wrong) (pc := 258) dX12_readLine_258 mlX12_241 mVX12_wrong (tX12_wrong hG hn hq51) rfl (by omega) (congrArg Prod.fst sh_73) rfl (Nat.le_of_ble_eq_true rfl) rfl ?_
      cases hq49
      exact V_wk Kq49 ⟨rfl, trivial⟩
    refine V_if_ne (pc := 244) (tgt := 261) dX12_readLine_244 (by decide) rfl (fun hc => ?_) (fun hc => ?_)
    · replace hb50 := (if_neg hc).symm.trans hb50
      cases hb50
      exact KTb50 rfl
    · replace hb50 := (if_pos hc).symm.trans hb50
      refine V_aload_n (pc := 247) dX12_readLine_247 rfl rfl rfl ?_
      refine V_getI (pc := 248) dX12_readLine_248 flX12_175 rfl (by omega) (congrArg Prod.fst sh_73) rfl ?_
      refine V_bipush (pc := 251) dX12_readLine_251 bp_59 rfl ?_
      refine V_icmp_eq (pc := 253) (tgt := 261) dX12_readLine_253 (by decide) rfl (fun hc => ?_) (fun hc => ?_)
      · replace hb50 := (if_pos hc).symm.trans hb50
        cases hb50
        exact KTb50 rfl
      · replace hb50 := (if_neg hc).symm.trans hb50
        cases hb50
        exact KFb50 (nbt rfl)
  obtain ⟨b24, hb24, hq23⟩ := bnd hq23
  have KTb24 : b24 = true → V g mX12_readLine (d + 6) 0 0 n (RT tw dr sk tl ff) I L 60 [some (.ref 73)] [] (PoV n (RT tw dr sk tl ff) res.1 res.2) := fun hc => by
    replace hq23 := (if_pos hc).symm.trans hq23
    refine V_aload_n (pc := 60) dX12_readLine_60 rfl rfl rfl ?_
    refine V_ldc2 (pc := 61) dX12_readLine_61 klX12_199 rfl ?_
    refine V_cVz (md' := mX12_isWord) (pc := 64) dX12_readLine_64 mlX12_237 mVX12_isWord (tX12_isWord hG hn rfl) rfl (by omega) (congrArg Prod.fst sh_73) rfl (Nat.le_of_ble_eq_true rfl) rfl ?_
    obtain ⟨b25, hb25, hq23⟩ := bnd hq23
    have KTb25 : b25 = true → V g mX12_readLine (d + 6) 0 0 n (RT tw dr sk tl ff) I L 86 [some (.ref 73)] [] (PoV n (RT tw dr sk tl ff) res.1 res.2) := fun hc => by
      replace hq23 := (if_pos hc).symm.trans hq23
      refine V_aload_n (pc := 86) dX12_readLine_86 rfl rfl rfl ?_
      refine V_ldc2 (pc := 87) dX12_readLine_87 klX12_201 rfl ?_
      refine V_cVz (md' := mX12_isWord) (pc := 90) dX12_readLine_90 mlX12_237 mVX12_isWord (tX12_isWord hG hn rfl) rfl (by omega) (congrArg Prod.fst sh_73) rfl (Nat.le_of_ble_eq_true rfl) rfl ?_
      obtain ⟨b26, hb26, hq23⟩ := bnd hq23
      have KTb26 : b26 = true → V g mX12_readLine (d + 6) 0 0 n (RT tw dr sk tl ff) I L 112 [some (.ref 73)] [] (PoV n (RT tw dr sk tl ff) res.1 res.2) := fun hc => by
        replace hq23 := (if_pos hc).symm.trans hq23
        refine V_aload_n (pc := 112) dX12_readLine_112 rfl rfl rfl ?_
        refine V_ldc2 (pc := 113) dX12_readLine_113 klX12_211 rfl ?_
        refine V_cVz (md' := mX12_isWord) (pc := 116) dX12_readLine_116 mlX12_237 mVX12_isWord (tX12_isWord hG hn rfl) rfl (by omega) (congrArg Prod.fst sh_73) rfl (Nat.le_of_ble_eq_true rfl) rfl ?_
        obtain ⟨b27, hb27, hq23⟩ := bnd hq23
        have KTb27 : b27 = true → V g mX12_readLine (d + 6) 0 0 n (RT tw dr sk tl ff) I L 137 [some (.ref 73)] [] (PoV n (RT tw dr sk tl ff) res.1 res.2) := fun hc => by
          replace hq23 := (if_pos hc).symm.trans hq23
          refine V_aload_n (pc := 137) dX12_readLine_137 rfl rfl rfl ?_
          refine V_ldc2 (pc := 138) dX12_readLine_138 klX12_215 rfl ?_
          refine V_cVz (md' := mX12_isWord) (pc := 141) dX12_readLine_141 mlX12_237 mVX12_isWord (tX12_isWord hG hn rfl) rfl (by omega) (congrArg Prod.fst sh_73) rfl (Nat.le_of_ble_eq_true rfl) rfl ?_
          obtain ⟨b28, hb28, hq23⟩ := bnd hq23
          have KTb28 : b28 = true → V g mX12_readLine (d + 6) 0 0 n (RT tw dr sk tl ff) I L 162 [some (.ref 73)] [] (PoV n (RT tw dr sk tl ff) res.1 res.2) := fun hc => by
            replace hq23 := (if_pos hc).symm.trans hq23
            refine V_aload_n (pc := 162) dX12_readLine_162 rfl rfl rfl ?_
            refine V_ldc2 (pc := 163) dX12_readLine_163 klX12_217 rfl ?_
            refine V_cVz (md' := mX12_isWord) (pc := 166) dX12_readLine_166 mlX12_237 mVX12_isWord (tX12_isWord hG hn rfl) rfl (by omega) (congrArg Prod.fst sh_73) rfl (Nat.le_of_ble_eq_true rfl) rfl ?_
            obtain ⟨b29, hb29, hq23⟩ := bnd hq23
            have KTb29 : b29 = true → V g mX12_readLine (d + 6) 0 0 n (RT tw dr sk tl ff) I L 191 [some (.ref 73)] [] (PoV n (RT tw dr sk tl ff) res.1 res.2) := fun hc => by
              replace hq23 := (if_pos hc).symm.trans hq23
              refine V_aload_n (pc := 191) dX12_readLine_191 rfl rfl rfl ?_
              refine V_ldc2 (pc := 192) dX12_readLine_192 klX12_219 rfl ?_
              refine V_cVz (md' := mX12_isWord) (pc := 195) dX12_readLine_195 mlX12_237 mVX12_isWord (tX12_isWord hG hn rfl) rfl (by omega) (congrArg Prod.fst sh_73) rfl (Nat.le_of_ble_eq_true rfl) rfl ?_
              obtain ⟨b30, hb30, hq23⟩ := bnd hq23
              have KTb30 : b30 = true → V g mX12_readLine (d + 6) 0 0 n (RT tw dr sk tl ff) I L 230 [some (.ref 73)] [] (PoV n (RT tw dr sk tl ff) res.1 res.2) := fun hc => by
                replace hq23 := (if_pos hc).symm.trans hq23
                refine V_aload_n (pc := 230) dX12_readLine_230 rfl rfl rfl ?_
                refine V_iconst (pc := 231) dX12_readLine_231 ic_2 rfl ?_
                obtain ⟨q31, hq31, hq23⟩ := obd hq23
                refine V_cVv (md' := mX12_wrong) (pc := 232) dX12_readLine_232 mlX12_241 mVX12_wrong (tX12_wrong hG hn hq31) rfl (by omega) (congrArg Prod.fst sh_73) rfl (Nat.le_of_ble_eq_true rfl) rfl ?_
                cases hq23
                exact V_wk Kq23 ⟨rfl, trivial⟩
              have KFb30 : ¬ b30 = true → V g mX12_readLine (d + 6) 0 0 n (RT tw dr sk tl ff) I L 208 [some (.ref 73)] [] (PoV n (RT tw dr sk tl ff) res.1 res.2) := fun hc => by
                replace hq23 := (if_neg hc).symm.trans hq23
                refine V_aload_n (pc := 208) dX12_readLine_208 rfl rfl rfl ?_
                refine V_iconst (pc := 209) dX12_readLine_209 ic_1 rfl ?_
                let I32 : HI := up2 I 73 62 (b2i true)
                refine V_putZE (pc := 210) dX12_readLine_210 flX12_391 rfl rfl (by omega) (congrArg Prod.fst sh_73) (show (1 : Int32) = b2i true from rfl) rfl ?_
                refine V_aload_n (pc := 213) dX12_readLine_213 rfl rfl rfl ?_
                refine V_aload_n (pc := 214) dX12_readLine_214 rfl rfl rfl ?_
                refine V_ldc2 (pc := 215) dX12_readLine_215 klX12_219 rfl ?_
                refine V_iconst (pc := 218) dX12_readLine_218 ic_0 rfl ?_
                refine V_bipush (pc := 219) dX12_readLine_219 bp_100 rfl ?_
                obtain ⟨q33, hq33, hq23⟩ := bnd hq23
                refine V_cVi (md' := mX12_told) (pc := 221) dX12_readLine_221 mlX12_356 mVX12_told (tX12_told hG hn hq33) rfl (by omega) (congrArg Prod.fst sh_73) rfl (Nat.le_of_ble_eq_true rfl) rfl ?_
                let I34 : HI := up2 q33.2.1 73 51 q33.1
                refine V_putI (pc := 224) dX12_readLine_224 flX12_394 rfl rfl (by omega) (congrArg Prod.fst sh_73) rfl ?_
                refine V_goto (pc := 227) (tgt := 235) dX12_readLine_227 (by decide) ?_
                cases hq23
                exact V_wk Kq23 ⟨rfl, trivial⟩
              refine V_if_eq (pc := 198) (tgt := 230) dX12_readLine_198 (by decide) rfl (fun hc => ?_) (fun hc => ?_)
              · replace hb30 := (if_pos hc).symm.trans hb30
                cases hb30
                exact KTb30 rfl
              · replace hb30 := (if_neg hc).symm.trans hb30
                refine V_aload_n (pc := 201) dX12_readLine_201 rfl rfl rfl ?_
                refine V_getI (pc := 202) dX12_readLine_202 flX12_391 rfl (by omega) (congrArg Prod.fst sh_73) rfl ?_
                refine V_if_ne (pc := 205) (tgt := 230) dX12_readLine_205 (by decide) rfl (fun hc => ?_) (fun hc => ?_)
                · replace hb30 := (if_neg hc).symm.trans hb30
                  cases hb30
                  exact KTb30 rfl
                · replace hb30 := (if_pos hc).symm.trans hb30
                  cases hb30
                  exact KFb30 (nbt rfl)
            have KFb29 : ¬ b29 = true → V g mX12_readLine (d + 6) 0 0 n (RT tw dr sk tl ff) I L 179 [some (.ref 73)] [] (PoV n (RT tw dr sk tl ff) res.1 res.2) := fun hc => by
              replace hq23 := (if_neg hc).symm.trans hq23
              refine V_aload_n (pc := 179) dX12_readLine_179 rfl rfl rfl ?_
              refine V_iconst (pc := 180) dX12_readLine_180 ic_1 rfl ?_
              let I35 : HI := up2 I 73 61 (b2i true)
              refine V_putZE (pc := 181) dX12_readLine_181 flX12_385 rfl rfl (by omega) (congrArg Prod.fst sh_73) (show (1 : Int32) = b2i true from rfl) rfl ?_
              refine V_aload_n (pc := 184) dX12_readLine_184 rfl rfl rfl ?_
              obtain ⟨q36, hq36, hq23⟩ := bnd hq23
              refine V_cVv (md' := mX12_readShade) (pc := 185) dX12_readLine_185 mlX12_388 mVX12_readShade (tX12_readShade hG hn hq36) rfl (by omega) (congrArg Prod.fst sh_73) rfl (Nat.le_of_ble_eq_true rfl) rfl ?_
              refine V_goto (pc := 188) (tgt := 235) dX12_readLine_188 (by decide) ?_
              cases hq23
              exact V_wk Kq23 ⟨rfl, trivial⟩
            refine V_if_eq (pc := 169) (tgt := 191) dX12_readLine_169 (by decide) rfl (fun hc => ?_) (fun hc => ?_)
            · replace hb29 := (if_pos hc).symm.trans hb29
              cases hb29
              exact KTb29 rfl
            · replace hb29 := (if_neg hc).symm.trans hb29
              refine V_aload_n (pc := 172) dX12_readLine_172 rfl rfl rfl ?_
              refine V_getI (pc := 173) dX12_readLine_173 flX12_385 rfl (by omega) (congrArg Prod.fst sh_73) rfl ?_
              refine V_if_ne (pc := 176) (tgt := 191) dX12_readLine_176 (by decide) rfl (fun hc => ?_) (fun hc => ?_)
              · replace hb29 := (if_neg hc).symm.trans hb29
                cases hb29
                exact KTb29 rfl
              · replace hb29 := (if_pos hc).symm.trans hb29
                cases hb29
                exact KFb29 (nbt rfl)
          have KFb28 : ¬ b28 = true → V g mX12_readLine (d + 6) 0 0 n (RT tw dr sk tl ff) I L 155 [some (.ref 73)] [] (PoV n (RT tw dr sk tl ff) res.1 res.2) := fun hc => by
            replace hq23 := (if_neg hc).symm.trans hq23
            refine V_aload_n (pc := 155) dX12_readLine_155 rfl rfl rfl ?_
            obtain ⟨q37, hq37, hq23⟩ := bnd hq23
            refine V_cVv (md' := mX12_readPerson) (pc := 156) dX12_readLine_156 mlX12_382 mVX12_readPerson (tX12_readPerson hG hn hq37) rfl (by omega) (congrArg Prod.fst sh_73) rfl (Nat.le_of_ble_eq_true rfl) rfl ?_
            refine V_goto (pc := 159) (tgt := 235) dX12_readLine_159 (by decide) ?_
            cases hq23
            exact V_wk Kq23 ⟨rfl, trivial⟩
          refine V_if_eq (pc := 144) (tgt := 162) dX12_readLine_144 (by decide) rfl (fun hc => ?_) (fun hc => ?_)
          · replace hb28 := (if_pos hc).symm.trans hb28
            cases hb28
            exact KTb28 rfl
          · replace hb28 := (if_neg hc).symm.trans hb28
            refine V_aload_n (pc := 147) dX12_readLine_147 rfl rfl rfl ?_
            refine V_getI (pc := 148) dX12_readLine_148 flX12_363 rfl (by omega) (congrArg Prod.fst sh_73) rfl ?_
            refine V_iconst (pc := 151) dX12_readLine_151 ic_4 rfl ?_
            refine V_icmp_ge (pc := 152) (tgt := 162) dX12_readLine_152 (by decide) rfl (fun hc => ?_) (fun hc => ?_)
            · replace hb28 := (if_pos hc).symm.trans hb28
              cases hb28
              exact KTb28 rfl
            · replace hb28 := (if_neg hc).symm.trans hb28
              cases hb28
              exact KFb28 (nbt rfl)
        have KFb27 : ¬ b27 = true → V g mX12_readLine (d + 6) 0 0 n (RT tw dr sk tl ff) I L 130 [some (.ref 73)] [] (PoV n (RT tw dr sk tl ff) res.1 res.2) := fun hc => by
          replace hq23 := (if_neg hc).symm.trans hq23
          refine V_aload_n (pc := 130) dX12_readLine_130 rfl rfl rfl ?_
          obtain ⟨q38, hq38, hq23⟩ := bnd hq23
          refine V_cVv (md' := mX12_readLamp) (pc := 131) dX12_readLine_131 mlX12_379 mVX12_readLamp (tX12_readLamp hG hn hq38) rfl (by omega) (congrArg Prod.fst sh_73) rfl (Nat.le_of_ble_eq_true rfl) rfl ?_
          refine V_goto (pc := 134) (tgt := 235) dX12_readLine_134 (by decide) ?_
          cases hq23
          exact V_wk Kq23 ⟨rfl, trivial⟩
        refine V_if_eq (pc := 119) (tgt := 137) dX12_readLine_119 (by decide) rfl (fun hc => ?_) (fun hc => ?_)
        · replace hb27 := (if_pos hc).symm.trans hb27
          cases hb27
          exact KTb27 rfl
        · replace hb27 := (if_neg hc).symm.trans hb27
          refine V_aload_n (pc := 122) dX12_readLine_122 rfl rfl rfl ?_
          refine V_getI (pc := 123) dX12_readLine_123 flX12_360 rfl (by omega) (congrArg Prod.fst sh_73) rfl ?_
          refine V_iconst (pc := 126) dX12_readLine_126 ic_4 rfl ?_
          refine V_icmp_ge (pc := 127) (tgt := 137) dX12_readLine_127 (by decide) rfl (fun hc => ?_) (fun hc => ?_)
          · replace hb27 := (if_pos hc).symm.trans hb27
            cases hb27
            exact KTb27 rfl
          · replace hb27 := (if_neg hc).symm.trans hb27
            cases hb27
            exact KFb27 (nbt rfl)
      have KFb26 : ¬ b26 = true → V g mX12_readLine (d + 6) 0 0 n (RT tw dr sk tl ff) I L 105 [some (.ref 73)] [] (PoV n (RT tw dr sk tl ff) res.1 res.2) := fun hc => by
        replace hq23 := (if_neg hc).symm.trans hq23
        refine V_aload_n (pc := 105) dX12_readLine_105 rfl rfl rfl ?_
        obtain ⟨q39, hq39, hq23⟩ := bnd hq23
        refine V_cVv (md' := mX12_readDoor) (pc := 106) dX12_readLine_106 mlX12_376 mVX12_readDoor (tX12_readDoor hG hn hq39) rfl (by omega) (congrArg Prod.fst sh_73) rfl (Nat.le_of_ble_eq_true rfl) rfl ?_
        refine V_goto (pc := 109) (tgt := 235) dX12_readLine_109 (by decide) ?_
        cases hq23
        exact V_wk Kq23 ⟨rfl, trivial⟩
      refine V_if_eq (pc := 93) (tgt := 112) dX12_readLine_93 (by decide) rfl (fun hc => ?_) (fun hc => ?_)
      · replace hb26 := (if_pos hc).symm.trans hb26
        cases hb26
        exact KTb26 rfl
      · replace hb26 := (if_neg hc).symm.trans hb26
        refine V_aload_n (pc := 96) dX12_readLine_96 rfl rfl rfl ?_
        refine V_getI (pc := 97) dX12_readLine_97 flX12_347 rfl (by omega) (congrArg Prod.fst sh_73) rfl ?_
        refine V_bipush (pc := 100) dX12_readLine_100 bp_8 rfl ?_
        refine V_icmp_ge (pc := 102) (tgt := 112) dX12_readLine_102 (by decide) rfl (fun hc => ?_) (fun hc => ?_)
        · replace hb26 := (if_pos hc).symm.trans hb26
          cases hb26
          exact KTb26 rfl
        · replace hb26 := (if_neg hc).symm.trans hb26
          cases hb26
          exact KFb26 (nbt rfl)
    have KFb25 : ¬ b25 = true → V g mX12_readLine (d + 6) 0 0 n (RT tw dr sk tl ff) I L 79 [some (.ref 73)] [] (PoV n (RT tw dr sk tl ff) res.1 res.2) := fun hc => by
      replace hq23 := (if_neg hc).symm.trans hq23
      refine V_aload_n (pc := 79) dX12_readLine_79 rfl rfl rfl ?_
      obtain ⟨q40, hq40, hq23⟩ := bnd hq23
      refine V_cVv (md' := mX12_readWall) (pc := 80) dX12_readLine_80 mlX12_373 mVX12_readWall (tX12_readWall hG hn hq40) rfl (by omega) (congrArg Prod.fst sh_73) rfl (Nat.le_of_ble_eq_true rfl) rfl ?_
      refine V_goto (pc := 83) (tgt := 235) dX12_readLine_83 (by decide) ?_
      cases hq23
      exact V_wk Kq23 ⟨rfl, trivial⟩
    refine V_if_eq (pc := 67) (tgt := 86) dX12_readLine_67 (by decide) rfl (fun hc => ?_) (fun hc => ?_)
    · replace hb25 := (if_pos hc).symm.trans hb25
      cases hb25
      exact KTb25 rfl
    · replace hb25 := (if_neg hc).symm.trans hb25
      refine V_aload_n (pc := 70) dX12_readLine_70 rfl rfl rfl ?_
      refine V_getI (pc := 71) dX12_readLine_71 flX12_334 rfl (by omega) (congrArg Prod.fst sh_73) rfl ?_
      refine V_bipush (pc := 74) dX12_readLine_74 bp_24 rfl ?_
      refine V_icmp_gt (pc := 76) (tgt := 86) dX12_readLine_76 (by decide) rfl (fun hc => ?_) (fun hc => ?_)
      · replace hb25 := (if_pos hc).symm.trans hb25
        cases hb25
        exact KTb25 rfl
      · replace hb25 := (if_neg hc).symm.trans hb25
        cases hb25
        exact KFb25 (nbt rfl)
  have KFb24 : ¬ b24 = true → V g mX12_readLine (d + 6) 0 0 n (RT tw dr sk tl ff) I L 24 [some (.ref 73)] [] (PoV n (RT tw dr sk tl ff) res.1 res.2) := fun hc => by
    replace hq23 := (if_neg hc).symm.trans hq23
    refine V_aload_n (pc := 24) dX12_readLine_24 rfl rfl rfl ?_
    refine V_iconst (pc := 25) dX12_readLine_25 ic_1 rfl ?_
    let I41 : HI := up2 I 73 59 (b2i true)
    refine V_putZE (pc := 26) dX12_readLine_26 flX12_366 rfl rfl (by omega) (congrArg Prod.fst sh_73) (show (1 : Int32) = b2i true from rfl) rfl ?_
    refine V_aload_n (pc := 29) dX12_readLine_29 rfl rfl rfl ?_
    refine V_aload_n (pc := 30) dX12_readLine_30 rfl rfl rfl ?_
    refine V_ldc2 (pc := 31) dX12_readLine_31 klX12_195 rfl ?_
    refine V_iconst (pc := 34) dX12_readLine_34 ic_1 rfl ?_
    refine V_bipush (pc := 35) dX12_readLine_35 bp_8 rfl ?_
    obtain ⟨q42, hq42, hq23⟩ := bnd hq23
    refine V_cVi (md' := mX12_told) (pc := 37) dX12_readLine_37 mlX12_356 mVX12_told (tX12_told hG hn hq42) rfl (by omega) (congrArg Prod.fst sh_73) rfl (Nat.le_of_ble_eq_true rfl) rfl ?_
    let I43 : HI := up2 q42.2.1 73 45 q42.1
    refine V_putI (pc := 40) dX12_readLine_40 flX12_324 rfl rfl (by omega) (congrArg Prod.fst sh_73) rfl ?_
    refine V_aload_n (pc := 43) dX12_readLine_43 rfl rfl rfl ?_
    refine V_aload_n (pc := 44) dX12_readLine_44 rfl rfl rfl ?_
    refine V_ldc2 (pc := 45) dX12_readLine_45 klX12_197 rfl ?_
    refine V_iconst (pc := 48) dX12_readLine_48 ic_1 rfl ?_
    refine V_bipush (pc := 49) dX12_readLine_49 bp_8 rfl ?_
    obtain ⟨q44, hq44, hq23⟩ := bnd hq23
    refine V_cVi (md' := mX12_told) (pc := 51) dX12_readLine_51 mlX12_356 mVX12_told (tX12_told hG hn hq44) rfl (by omega) (congrArg Prod.fst sh_73) rfl (Nat.le_of_ble_eq_true rfl) rfl ?_
    let I45 : HI := up2 q44.2.1 73 46 q44.1
    refine V_putI (pc := 54) dX12_readLine_54 flX12_327 rfl rfl (by omega) (congrArg Prod.fst sh_73) rfl ?_
    refine V_goto (pc := 57) (tgt := 235) dX12_readLine_57 (by decide) ?_
    cases hq23
    exact V_wk Kq23 ⟨rfl, trivial⟩
  refine V_if_eq (pc := 7) (tgt := 60) dX12_readLine_7 (by decide) rfl (fun hc => ?_) (fun hc => ?_)
  · replace hb24 := (if_pos hc).symm.trans hb24
    cases hb24
    exact KTb24 rfl
  · replace hb24 := (if_neg hc).symm.trans hb24
    refine V_aload_n (pc := 10) dX12_readLine_10 rfl rfl rfl ?_
    refine V_getI (pc := 11) dX12_readLine_11 flX12_366 rfl (by omega) (congrArg Prod.fst sh_73) rfl ?_
    refine V_if_ne (pc := 14) (tgt := 60) dX12_readLine_14 (by decide) rfl (fun hc => ?_) (fun hc => ?_)
    · replace hb24 := (if_neg hc).symm.trans hb24
      cases hb24
      exact KTb24 rfl
    · replace hb24 := (if_pos hc).symm.trans hb24
      refine V_aload_n (pc := 17) dX12_readLine_17 rfl rfl rfl ?_
      refine V_getI (pc := 18) dX12_readLine_18 flX12_370 rfl (by omega) (congrArg Prod.fst sh_73) rfl ?_
      refine V_if_ne (pc := 21) (tgt := 60) dX12_readLine_21 (by decide) rfl (fun hc => ?_) (fun hc => ?_)
      · replace hb24 := (if_neg hc).symm.trans hb24
        cases hb24
        exact KTb24 rfl
      · replace hb24 := (if_pos hc).symm.trans hb24
        cases hb24
        exact KFb24 (nbt rfl)
/-! ShadowDoorsModel.readAll -/
noncomputable def fX12_readAll_114 : Nat → HI → HL → Option (HI × HL)
  | 0, _, _ => none
  | fu + 1, I, L =>
    Option.bind (
      if (I 73 2) = 0 then
        if (I 73 6) = 0 then
          some true
        else
          some false
      else
        some true
    ) fun b23 =>
    if b23 = true then
      some (I, L)
    else
      Option.bind (fX12_readLine  I L) fun q24 =>
      fX12_readAll_114 fu  q24.1 q24.2
set_option maxRecDepth 100000 in
set_option maxHeartbeats 4000000 in
theorem lX12_readAll_114 {g : GG} {n d : Nat} {tw dr sk tl ff : Nat} (hG : RG tw dr sk tl ff) (hn : 116 ≤ n) {P : PP} : ∀ (fu : Nat)  (I : HI) (L : HL) (res : HI × HL), fX12_readAll_114 fu  I L = some res → P none n (RT tw dr sk tl ff) res.1 res.2 → V g mX12_readAll (d + 7) 0 0 n (RT tw dr sk tl ff) I L 114 [some (.ref 73)] [] P := by
  intro fu
  induction fu with
  | zero => intro  I L res hf; cases (show none = some res from hf)
  | succ fu ih =>
    intro  I L res hf K
    refine V_aload_n (pc := 114) dX12_readAll_114 rfl rfl rfl ?_
    refine V_getI (pc := 115) dX12_readAll_115 flX12_188 rfl (by omega) (congrArg Prod.fst sh_73) rfl ?_
    obtain ⟨b23, hb23, hf⟩ := bnd hf
    have KTb23 : b23 = true → V g mX12_readAll (d + 7) 0 0 n (RT tw dr sk tl ff) I L 135 [some (.ref 73)] [] P := fun hc => by
      replace hf := (if_pos hc).symm.trans hf
      cases hf
      exact V_vret (pc := 135) dX12_readAll_135 rfl K
    have KFb23 : ¬ b23 = true → V g mX12_readAll (d + 7) 0 0 n (RT tw dr sk tl ff) I L 128 [some (.ref 73)] [] P := fun hc => by
      replace hf := (if_neg hc).symm.trans hf
      refine V_aload_n (pc := 128) dX12_readAll_128 rfl rfl rfl ?_
      obtain ⟨q24, hq24, hf⟩ := bnd hf
      refine V_cVv (md' := mX12_readLine) (pc := 129) dX12_readAll_129 mlX12_397 mVX12_readLine (tX12_readLine hG hn hq24) rfl (by omega) (congrArg Prod.fst sh_73) rfl (Nat.le_of_ble_eq_true rfl) rfl ?_
      refine V_goto (pc := 132) (tgt := 114) dX12_readAll_132 (by decide) ?_
      exact V_wk (ih  _ _ _ hf K) ⟨rfl, trivial⟩
    refine V_if_ne (pc := 118) (tgt := 135) dX12_readAll_118 (by decide) rfl (fun hc => ?_) (fun hc => ?_)
    · replace hb23 := (if_neg hc).symm.trans hb23
      cases hb23
      exact KTb23 rfl
    · replace hb23 := (if_pos hc).symm.trans hb23
      refine V_aload_n (pc := 121) dX12_readAll_121 rfl rfl rfl ?_
      refine V_getI (pc := 122) dX12_readAll_122 flX12_175 rfl (by omega) (congrArg Prod.fst sh_73) rfl ?_
      refine V_if_eq (pc := 125) (tgt := 135) dX12_readAll_125 (by decide) rfl (fun hc => ?_) (fun hc => ?_)
      · replace hb23 := (if_pos hc).symm.trans hb23
        cases hb23
        exact KTb23 rfl
      · replace hb23 := (if_neg hc).symm.trans hb23
        cases hb23
        exact KFb23 (nbt rfl)
noncomputable def fX12_readAll (I : HI) (L : HL) : Option (HI × HL) :=
  let I1 : HI := up2 I 73 5 (I 73 1)
  let I2 : HI := up2 I1 73 1 (0 : Int32)
  let I3 : HI := up2 I2 73 4 (0 : Int32)
  let I4 : HI := up2 I3 73 2 (0 : Int32)
  let I5 : HI := up2 I4 73 3 (-1 : Int32)
  let L6 : HL := up2 L 73 41 (0 : Int64)
  let L7 : HL := up2 L6 73 42 (0 : Int64)
  let L8 : HL := up2 L7 73 43 (0 : Int64)
  let I9 : HI := up2 I5 73 45 (6 : Int32)
  let I10 : HI := up2 I9 73 46 (6 : Int32)
  let I11 : HI := up2 I10 73 47 (0 : Int32)
  let I12 : HI := up2 I11 73 48 (0 : Int32)
  let I13 : HI := up2 I12 73 49 (0 : Int32)
  let I14 : HI := up2 I13 73 50 (0 : Int32)
  let I15 : HI := up2 I14 73 51 (0 : Int32)
  let I16 : HI := up2 I15 73 59 (b2i false)
  let I17 : HI := up2 I16 73 60 (b2i false)
  let I18 : HI := up2 I17 73 61 (b2i false)
  let I19 : HI := up2 I18 73 62 (b2i false)
  let I20 : HI := up2 I19 73 20 (0 : Int32)
  let I21 : HI := up2 I20 73 17 (0 : Int32)
  Option.bind (fX12_token  I21 L8) fun q22 =>
  Option.bind (fX12_readAll_114 FUEL  q22.1 q22.2) fun q25 =>
  some (q25.1, q25.2)
set_option maxRecDepth 100000 in
set_option maxHeartbeats 4000000 in
theorem tX12_readAll {g : GG} {n d : Nat} {tw dr sk tl ff : Nat} (hG : RG tw dr sk tl ff) (hn : 116 ≤ n) {I : HI} {L : HL} {res : HI × HL} (hf : fX12_readAll I L = some res) : CT g mX12_readAll (d + 7) 0 0 n (RT tw dr sk tl ff) I L [.ref 73] (PoV n (RT tw dr sk tl ff) res.1 res.2) := by
  refine CT.of rfl (Nat.le_of_ble_eq_true rfl) ?_
  show V g mX12_readAll (d + 7) 0 0 n (RT tw dr sk tl ff) I L 0 [some (.ref 73)] [] (PoV n (RT tw dr sk tl ff) res.1 res.2)
  refine V_aload_n (pc := 0) dX12_readAll_0 rfl rfl rfl ?_
  refine V_aload_n (pc := 1) dX12_readAll_1 rfl rfl rfl ?_
  refine V_getI (pc := 2) dX12_readAll_2 flX12_148 rfl (by omega) (congrArg Prod.fst sh_73) rfl ?_
  let I1 : HI := up2 I 73 5 (I 73 1)
  refine V_putI (pc := 5) dX12_readAll_5 flX12_158 rfl rfl (by omega) (congrArg Prod.fst sh_73) rfl ?_
  refine V_aload_n (pc := 8) dX12_readAll_8 rfl rfl rfl ?_
  refine V_iconst (pc := 9) dX12_readAll_9 ic_0 rfl ?_
  let I2 : HI := up2 I1 73 1 (0 : Int32)
  refine V_putI (pc := 10) dX12_readAll_10 flX12_148 rfl rfl (by omega) (congrArg Prod.fst sh_73) rfl ?_
  refine V_aload_n (pc := 13) dX12_readAll_13 rfl rfl rfl ?_
  refine V_iconst (pc := 14) dX12_readAll_14 ic_0 rfl ?_
  let I3 : HI := up2 I2 73 4 (0 : Int32)
  refine V_putI (pc := 15) dX12_readAll_15 flX12_155 rfl rfl (by omega) (congrArg Prod.fst sh_73) rfl ?_
  refine V_aload_n (pc := 18) dX12_readAll_18 rfl rfl rfl ?_
  refine V_iconst (pc := 19) dX12_readAll_19 ic_0 rfl ?_
  let I4 : HI := up2 I3 73 2 (0 : Int32)
  refine V_putI (pc := 20) dX12_readAll_20 flX12_188 rfl rfl (by omega) (congrArg Prod.fst sh_73) rfl ?_
  refine V_aload_n (pc := 23) dX12_readAll_23 rfl rfl rfl ?_
  refine V_iconst (pc := 24) dX12_readAll_24 ic_m1 rfl ?_
  let I5 : HI := up2 I4 73 3 (-1 : Int32)
  refine V_putI (pc := 25) dX12_readAll_25 flX12_13 rfl rfl (by omega) (congrArg Prod.fst sh_73) rfl ?_
  refine V_aload_n (pc := 28) dX12_readAll_28 rfl rfl rfl ?_
  refine V_lconst (pc := 29) dX12_readAll_29 lc_0 rfl ?_
  let L6 : HL := up2 L 73 41 (0 : Int64)
  refine V_putL (pc := 30) dX12_readAll_30 flX12_337 rfl rfl (by omega) (congrArg Prod.fst sh_73) rfl ?_
  refine V_aload_n (pc := 33) dX12_readAll_33 rfl rfl rfl ?_
  refine V_lconst (pc := 34) dX12_readAll_34 lc_0 rfl ?_
  let L7 : HL := up2 L6 73 42 (0 : Int64)
  refine V_putL (pc := 35) dX12_readAll_35 flX12_340 rfl rfl (by omega) (congrArg Prod.fst sh_73) rfl ?_
  refine V_aload_n (pc := 38) dX12_readAll_38 rfl rfl rfl ?_
  refine V_lconst (pc := 39) dX12_readAll_39 lc_0 rfl ?_
  let L8 : HL := up2 L7 73 43 (0 : Int64)
  refine V_putL (pc := 40) dX12_readAll_40 flX12_353 rfl rfl (by omega) (congrArg Prod.fst sh_73) rfl ?_
  refine V_aload_n (pc := 43) dX12_readAll_43 rfl rfl rfl ?_
  refine V_bipush (pc := 44) dX12_readAll_44 bp_6 rfl ?_
  let I9 : HI := up2 I5 73 45 (6 : Int32)
  refine V_putI (pc := 46) dX12_readAll_46 flX12_324 rfl rfl (by omega) (congrArg Prod.fst sh_73) rfl ?_
  refine V_aload_n (pc := 49) dX12_readAll_49 rfl rfl rfl ?_
  refine V_bipush (pc := 50) dX12_readAll_50 bp_6 rfl ?_
  let I10 : HI := up2 I9 73 46 (6 : Int32)
  refine V_putI (pc := 52) dX12_readAll_52 flX12_327 rfl rfl (by omega) (congrArg Prod.fst sh_73) rfl ?_
  refine V_aload_n (pc := 55) dX12_readAll_55 rfl rfl rfl ?_
  refine V_iconst (pc := 56) dX12_readAll_56 ic_0 rfl ?_
  let I11 : HI := up2 I10 73 47 (0 : Int32)
  refine V_putI (pc := 57) dX12_readAll_57 flX12_334 rfl rfl (by omega) (congrArg Prod.fst sh_73) rfl ?_
  refine V_aload_n (pc := 60) dX12_readAll_60 rfl rfl rfl ?_
  refine V_iconst (pc := 61) dX12_readAll_61 ic_0 rfl ?_
  let I12 : HI := up2 I11 73 48 (0 : Int32)
  refine V_putI (pc := 62) dX12_readAll_62 flX12_347 rfl rfl (by omega) (congrArg Prod.fst sh_73) rfl ?_
  refine V_aload_n (pc := 65) dX12_readAll_65 rfl rfl rfl ?_
  refine V_iconst (pc := 66) dX12_readAll_66 ic_0 rfl ?_
  let I13 : HI := up2 I12 73 49 (0 : Int32)
  refine V_putI (pc := 67) dX12_readAll_67 flX12_360 rfl rfl (by omega) (congrArg Prod.fst sh_73) rfl ?_
  refine V_aload_n (pc := 70) dX12_readAll_70 rfl rfl rfl ?_
  refine V_iconst (pc := 71) dX12_readAll_71 ic_0 rfl ?_
  let I14 : HI := up2 I13 73 50 (0 : Int32)
  refine V_putI (pc := 72) dX12_readAll_72 flX12_363 rfl rfl (by omega) (congrArg Prod.fst sh_73) rfl ?_
  refine V_aload_n (pc := 75) dX12_readAll_75 rfl rfl rfl ?_
  refine V_iconst (pc := 76) dX12_readAll_76 ic_0 rfl ?_
  let I15 : HI := up2 I14 73 51 (0 : Int32)
  refine V_putI (pc := 77) dX12_readAll_77 flX12_394 rfl rfl (by omega) (congrArg Prod.fst sh_73) rfl ?_
  refine V_aload_n (pc := 80) dX12_readAll_80 rfl rfl rfl ?_
  refine V_iconst (pc := 81) dX12_readAll_81 ic_0 rfl ?_
  let I16 : HI := up2 I15 73 59 (b2i false)
  refine V_putZE (pc := 82) dX12_readAll_82 flX12_366 rfl rfl (by omega) (congrArg Prod.fst sh_73) (show (0 : Int32) = b2i false from rfl) rfl ?_
  refine V_aload_n (pc := 85) dX12_readAll_85 rfl rfl rfl ?_
  refine V_iconst (pc := 86) dX12_readAll_86 ic_0 rfl ?_
  let I17 : HI := up2 I16 73 60 (b2i false)
  refine V_putZE (pc := 87) dX12_readAll_87 flX12_370 rfl rfl (by omega) (congrArg Prod.fst sh_73) (show (0 : Int32) = b2i false from rfl) rfl ?_
  refine V_aload_n (pc := 90) dX12_readAll_90 rfl rfl rfl ?_
  refine V_iconst (pc := 91) dX12_readAll_91 ic_0 rfl ?_
  let I18 : HI := up2 I17 73 61 (b2i false)
  refine V_putZE (pc := 92) dX12_readAll_92 flX12_385 rfl rfl (by omega) (congrArg Prod.fst sh_73) (show (0 : Int32) = b2i false from rfl) rfl ?_
  refine V_aload_n (pc := 95) dX12_readAll_95 rfl rfl rfl ?_
  refine V_iconst (pc := 96) dX12_readAll_96 ic_0 rfl ?_
  let I19 : HI := up2 I18 73 62 (b2i false)
  refine V_putZE (pc := 97) dX12_readAll_97 flX12_391 rfl rfl (by omega) (congrArg Prod.fst sh_73) (show (0 : Int32) = b2i false from rfl) rfl ?_
  refine V_aload_n (pc := 100) dX12_readAll_100 rfl rfl rfl ?_
  refine V_iconst (pc := 101) dX12_readAll_101 ic_0 rfl ?_
  let I20 : HI := up2 I19 73 20 (0 : Int32)
  refine V_putI (pc := 102) dX12_readAll_102 flX12_276 rfl rfl (by omega) (congrArg Prod.fst sh_73) rfl ?_
  refine V_aload_n (pc := 105) dX12_readAll_105 rfl rfl rfl ?_
  refine V_iconst (pc := 106) dX12_readAll_106 ic_0 rfl ?_
  let I21 : HI := up2 I20 73 17 (0 : Int32)
  refine V_putI (pc := 107) dX12_readAll_107 flX12_261 rfl rfl (by omega) (congrArg Prod.fst sh_73) rfl ?_
  refine V_aload_n (pc := 110) dX12_readAll_110 rfl rfl rfl ?_
  obtain ⟨q22, hq22, hf⟩ := bnd hf
  refine V_cVv (md' := mX12_token) (pc := 111) dX12_readAll_111 mlX12_244 mVX12_token (tX12_token hG hn hq22) rfl (by omega) (congrArg Prod.fst sh_73) rfl (Nat.le_of_ble_eq_true rfl) rfl ?_
  obtain ⟨q25, hq25, hf⟩ := bnd hf
  refine V_wk (lX12_readAll_114 hG hn FUEL _ _ _ hq25 ?_) ⟨rfl, trivial⟩
  cases hf
  exact PoV_mk
/-! ShadowDoorsModel.quarter -/
noncomputable def fX12_quarter_106 : Nat → Int32 → HI → HL → Option (HI)
  | 0, _, _, _ => none
  | fu + 1, y1, I, L =>
    if (I 73 18) ≤ y1 then
      some I
    else
      if inb y1 320 = true then
        if inb y1 320 = true then
          let I15 : HI := up2 I 78 y1.toNatClampNeg (I 76 y1.toNatClampNeg)
          if inb y1 320 = true then
            if inb y1 320 = true then
              let I18 : HI := up2 I15 79 y1.toNatClampNeg (I15 77 y1.toNatClampNeg)
              fX12_quarter_106 fu (y1 + (1 : Int32)) I18 L
            else none
          else none
        else none
      else none
set_option maxRecDepth 100000 in
set_option maxHeartbeats 4000000 in
theorem lX12_quarter_106 {g : GG} {n d : Nat} {tw dr sk tl ff : Nat} (hG : RG tw dr sk tl ff) (hn : 116 ≤ n) {P : PP} : ∀ (fu : Nat) (y1 : Int32) (I : HI) (L : HL) (res : HI), fX12_quarter_106 fu y1 I L = some res → V g mX12_quarter (d + 8) 0 0 n (RT tw dr sk tl ff) res L 144 [some (.ref 73)] [] P → V g mX12_quarter (d + 8) 0 0 n (RT tw dr sk tl ff) I L 106 [some (.ref 73), some (.int y1)] [] P := by
  intro fu
  induction fu with
  | zero => intro y1 I L res hf; cases (show none = some res from hf)
  | succ fu ih =>
    intro y1 I L res hf K
    refine V_iload_n (pc := 106) dX12_quarter_106 rfl rfl rfl ?_
    refine V_aload_n (pc := 107) dX12_quarter_107 rfl rfl rfl ?_
    refine V_getI (pc := 108) dX12_quarter_108 flX12_317 rfl (by omega) (congrArg Prod.fst sh_73) rfl ?_
    refine V_icmp_ge (pc := 111) (tgt := 144) dX12_quarter_111 (by decide) rfl (fun hc => ?_) (fun hc => ?_)
    · replace hf := (if_pos hc).symm.trans hf
      cases hf
      exact V_wk K ⟨rfl, trivial⟩
    · replace hf := (if_neg hc).symm.trans hf
      refine V_aload_n (pc := 114) dX12_quarter_114 rfl rfl rfl ?_
      refine V_getR (pc := 115) dX12_quarter_115 flX12_27 rfl (by omega) (congrArg Prod.fst sh_73) rt_73_13 rfl ?_
      refine V_iload_n (pc := 118) dX12_quarter_118 rfl rfl rfl ?_
      refine V_aload_n (pc := 119) dX12_quarter_119 rfl rfl rfl ?_
      refine V_getR (pc := 120) dX12_quarter_120 flX12_21 rfl (by omega) (congrArg Prod.fst sh_73) rt_73_11 rfl ?_
      refine V_iload_n (pc := 123) dX12_quarter_123 rfl rfl rfl ?_
      obtain ⟨hc13, hf⟩ := pif hf
      refine V_iald (pc := 124) dX12_quarter_124 (by omega) sh_76 hc13 rfl ?_
      obtain ⟨hc14, hf⟩ := pif hf
      let I15 : HI := up2 I 78 y1.toNatClampNeg (I 76 y1.toNatClampNeg)
      refine V_iast (pc := 125) dX12_quarter_125 (by omega) sh_78 hc14 rfl ?_
      refine V_aload_n (pc := 126) dX12_quarter_126 rfl rfl rfl ?_
      refine V_getR (pc := 127) dX12_quarter_127 flX12_30 rfl (by omega) (congrArg Prod.fst sh_73) rt_73_14 rfl ?_
      refine V_iload_n (pc := 130) dX12_quarter_130 rfl rfl rfl ?_
      refine V_aload_n (pc := 131) dX12_quarter_131 rfl rfl rfl ?_
      refine V_getR (pc := 132) dX12_quarter_132 flX12_24 rfl (by omega) (congrArg Prod.fst sh_73) rt_73_12 rfl ?_
      refine V_iload_n (pc := 135) dX12_quarter_135 rfl rfl rfl ?_
      obtain ⟨hc16, hf⟩ := pif hf
      refine V_iald (pc := 136) dX12_quarter_136 (by omega) sh_77 hc16 rfl ?_
      obtain ⟨hc17, hf⟩ := pif hf
      let I18 : HI := up2 I15 79 y1.toNatClampNeg (I15 77 y1.toNatClampNeg)
      refine V_iast (pc := 137) dX12_quarter_137 (by omega) sh_79 hc17 rfl ?_
      refine V_iinc (ls' := [some _, some _]) (pc := 138) dX12_quarter_138 rfl (Nat.le_of_ble_eq_true rfl) (congrArg _ ic_1) rfl rfl ?_
      refine V_goto (pc := 141) (tgt := 106) dX12_quarter_141 (by decide) ?_
      exact V_wk (ih _ _ _ _ hf K) ⟨rfl, ⟨rfl, trivial⟩⟩
noncomputable def fX12_quarter_146 : Nat → Int32 → HI → HL → Option (HI)
  | 0, _, _, _ => none
  | fu + 1, y1, I, L =>
    if (8 : Int32) ≤ y1 then
      some I
    else
      if inb y1 8 = true then
        if inb y1 8 = true then
          let I22 : HI := up2 I 91 y1.toNatClampNeg (I 83 y1.toNatClampNeg)
          if inb y1 8 = true then
            if inb y1 8 = true then
              let I25 : HI := up2 I22 92 y1.toNatClampNeg (I22 84 y1.toNatClampNeg)
              if inb y1 8 = true then
                if inb y1 8 = true then
                  let I28 : HI := up2 I25 93 y1.toNatClampNeg (I25 85 y1.toNatClampNeg)
                  if inb y1 8 = true then
                    if inb y1 8 = true then
                      let I31 : HI := up2 I28 94 y1.toNatClampNeg (I28 86 y1.toNatClampNeg)
                      fX12_quarter_146 fu (y1 + (1 : Int32)) I31 L
                    else none
                  else none
                else none
              else none
            else none
          else none
        else none
      else none
set_option maxRecDepth 100000 in
set_option maxHeartbeats 4000000 in
theorem lX12_quarter_146 {g : GG} {n d : Nat} {tw dr sk tl ff : Nat} (hG : RG tw dr sk tl ff) (hn : 116 ≤ n) {P : PP} : ∀ (fu : Nat) (y1 : Int32) (I : HI) (L : HL) (res : HI), fX12_quarter_146 fu y1 I L = some res → V g mX12_quarter (d + 8) 0 0 n (RT tw dr sk tl ff) res L 206 [some (.ref 73)] [] P → V g mX12_quarter (d + 8) 0 0 n (RT tw dr sk tl ff) I L 146 [some (.ref 73), some (.int y1)] [] P := by
  intro fu
  induction fu with
  | zero => intro y1 I L res hf; cases (show none = some res from hf)
  | succ fu ih =>
    intro y1 I L res hf K
    refine V_iload_n (pc := 146) dX12_quarter_146 rfl rfl rfl ?_
    refine V_bipush (pc := 147) dX12_quarter_147 bp_8 rfl ?_
    refine V_icmp_ge (pc := 149) (tgt := 206) dX12_quarter_149 (by decide) rfl (fun hc => ?_) (fun hc => ?_)
    · replace hf := (if_pos hc).symm.trans hf
      cases hf
      exact V_wk K ⟨rfl, trivial⟩
    · replace hf := (if_neg hc).symm.trans hf
      refine V_aload_n (pc := 152) dX12_quarter_152 rfl rfl rfl ?_
      refine V_getR (pc := 153) dX12_quarter_153 flX12_66 rfl (by omega) (congrArg Prod.fst sh_73) rt_73_33 rfl ?_
      refine V_iload_n (pc := 156) dX12_quarter_156 rfl rfl rfl ?_
      refine V_aload_n (pc := 157) dX12_quarter_157 rfl rfl rfl ?_
      refine V_getR (pc := 158) dX12_quarter_158 flX12_42 rfl (by omega) (congrArg Prod.fst sh_73) rt_73_25 rfl ?_
      refine V_iload_n (pc := 161) dX12_quarter_161 rfl rfl rfl ?_
      obtain ⟨hc20, hf⟩ := pif hf
      refine V_iald (pc := 162) dX12_quarter_162 (by omega) sh_83 hc20 rfl ?_
      obtain ⟨hc21, hf⟩ := pif hf
      let I22 : HI := up2 I 91 y1.toNatClampNeg (I 83 y1.toNatClampNeg)
      refine V_iast (pc := 163) dX12_quarter_163 (by omega) sh_91 hc21 rfl ?_
      refine V_aload_n (pc := 164) dX12_quarter_164 rfl rfl rfl ?_
      refine V_getR (pc := 165) dX12_quarter_165 flX12_69 rfl (by omega) (congrArg Prod.fst sh_73) rt_73_34 rfl ?_
      refine V_iload_n (pc := 168) dX12_quarter_168 rfl rfl rfl ?_
      refine V_aload_n (pc := 169) dX12_quarter_169 rfl rfl rfl ?_
      refine V_getR (pc := 170) dX12_quarter_170 flX12_45 rfl (by omega) (congrArg Prod.fst sh_73) rt_73_26 rfl ?_
      refine V_iload_n (pc := 173) dX12_quarter_173 rfl rfl rfl ?_
      obtain ⟨hc23, hf⟩ := pif hf
      refine V_iald (pc := 174) dX12_quarter_174 (by omega) sh_84 hc23 rfl ?_
      obtain ⟨hc24, hf⟩ := pif hf
      let I25 : HI := up2 I22 92 y1.toNatClampNeg (I22 84 y1.toNatClampNeg)
      refine V_iast (pc := 175) dX12_quarter_175 (by omega) sh_92 hc24 rfl ?_
      refine V_aload_n (pc := 176) dX12_quarter_176 rfl rfl rfl ?_
      refine V_getR (pc := 177) dX12_quarter_177 flX12_72 rfl (by omega) (congrArg Prod.fst sh_73) rt_73_35 rfl ?_
      refine V_iload_n (pc := 180) dX12_quarter_180 rfl rfl rfl ?_
      refine V_aload_n (pc := 181) dX12_quarter_181 rfl rfl rfl ?_
      refine V_getR (pc := 182) dX12_quarter_182 flX12_48 rfl (by omega) (congrArg Prod.fst sh_73) rt_73_27 rfl ?_
      refine V_iload_n (pc := 185) dX12_quarter_185 rfl rfl rfl ?_
      obtain ⟨hc26, hf⟩ := pif hf
      refine V_iald (pc := 186) dX12_quarter_186 (by omega) sh_85 hc26 rfl ?_
      obtain ⟨hc27, hf⟩ := pif hf
      let I28 : HI := up2 I25 93 y1.toNatClampNeg (I25 85 y1.toNatClampNeg)
      refine V_iast (pc := 187) dX12_quarter_187 (by omega) sh_93 hc27 rfl ?_
      refine V_aload_n (pc := 188) dX12_quarter_188 rfl rfl rfl ?_
      refine V_getR (pc := 189) dX12_quarter_189 flX12_75 rfl (by omega) (congrArg Prod.fst sh_73) rt_73_36 rfl ?_
      refine V_iload_n (pc := 192) dX12_quarter_192 rfl rfl rfl ?_
      refine V_aload_n (pc := 193) dX12_quarter_193 rfl rfl rfl ?_
      refine V_getR (pc := 194) dX12_quarter_194 flX12_51 rfl (by omega) (congrArg Prod.fst sh_73) rt_73_28 rfl ?_
      refine V_iload_n (pc := 197) dX12_quarter_197 rfl rfl rfl ?_
      obtain ⟨hc29, hf⟩ := pif hf
      refine V_iald (pc := 198) dX12_quarter_198 (by omega) sh_86 hc29 rfl ?_
      obtain ⟨hc30, hf⟩ := pif hf
      let I31 : HI := up2 I28 94 y1.toNatClampNeg (I28 86 y1.toNatClampNeg)
      refine V_iast (pc := 199) dX12_quarter_199 (by omega) sh_94 hc30 rfl ?_
      refine V_iinc (ls' := [some _, some _]) (pc := 200) dX12_quarter_200 rfl (Nat.le_of_ble_eq_true rfl) (congrArg _ ic_1) rfl rfl ?_
      refine V_goto (pc := 203) (tgt := 146) dX12_quarter_203 (by decide) ?_
      exact V_wk (ih _ _ _ _ hf K) ⟨rfl, ⟨rfl, trivial⟩⟩
noncomputable def fX12_quarter_208 : Nat → Int32 → HI → HL → Option (HI)
  | 0, _, _, _ => none
  | fu + 1, y1, I, L =>
    if (4 : Int32) ≤ y1 then
      some I
    else
      if inb y1 4 = true then
        if inb y1 4 = true then
          let I35 : HI := up2 I 95 y1.toNatClampNeg (I 87 y1.toNatClampNeg)
          if inb y1 4 = true then
            if inb y1 4 = true then
              let I38 : HI := up2 I35 96 y1.toNatClampNeg (I35 88 y1.toNatClampNeg)
              if inb y1 4 = true then
                if inb y1 4 = true then
                  let I41 : HI := up2 I38 97 y1.toNatClampNeg (I38 89 y1.toNatClampNeg)
                  if inb y1 4 = true then
                    if inb y1 4 = true then
                      let I44 : HI := up2 I41 98 y1.toNatClampNeg (I41 90 y1.toNatClampNeg)
                      fX12_quarter_208 fu (y1 + (1 : Int32)) I44 L
                    else none
                  else none
                else none
              else none
            else none
          else none
        else none
      else none
set_option maxRecDepth 100000 in
set_option maxHeartbeats 4000000 in
theorem lX12_quarter_208 {g : GG} {n d : Nat} {tw dr sk tl ff : Nat} (hG : RG tw dr sk tl ff) (hn : 116 ≤ n) {P : PP} : ∀ (fu : Nat) (y1 : Int32) (I : HI) (L : HL) (res : HI), fX12_quarter_208 fu y1 I L = some res → V g mX12_quarter (d + 8) 0 0 n (RT tw dr sk tl ff) res L 267 [some (.ref 73)] [] P → V g mX12_quarter (d + 8) 0 0 n (RT tw dr sk tl ff) I L 208 [some (.ref 73), some (.int y1)] [] P := by
  intro fu
  induction fu with
  | zero => intro y1 I L res hf; cases (show none = some res from hf)
  | succ fu ih =>
    intro y1 I L res hf K
    refine V_iload_n (pc := 208) dX12_quarter_208 rfl rfl rfl ?_
    refine V_iconst (pc := 209) dX12_quarter_209 ic_4 rfl ?_
    refine V_icmp_ge (pc := 210) (tgt := 267) dX12_quarter_210 (by decide) rfl (fun hc => ?_) (fun hc => ?_)
    · replace hf := (if_pos hc).symm.trans hf
      cases hf
      exact V_wk K ⟨rfl, trivial⟩
    · replace hf := (if_neg hc).symm.trans hf
      refine V_aload_n (pc := 213) dX12_quarter_213 rfl rfl rfl ?_
      refine V_getR (pc := 214) dX12_quarter_214 flX12_78 rfl (by omega) (congrArg Prod.fst sh_73) rt_73_37 rfl ?_
      refine V_iload_n (pc := 217) dX12_quarter_217 rfl rfl rfl ?_
      refine V_aload_n (pc := 218) dX12_quarter_218 rfl rfl rfl ?_
      refine V_getR (pc := 219) dX12_quarter_219 flX12_54 rfl (by omega) (congrArg Prod.fst sh_73) rt_73_29 rfl ?_
      refine V_iload_n (pc := 222) dX12_quarter_222 rfl rfl rfl ?_
      obtain ⟨hc33, hf⟩ := pif hf
      refine V_iald (pc := 223) dX12_quarter_223 (by omega) sh_87 hc33 rfl ?_
      obtain ⟨hc34, hf⟩ := pif hf
      let I35 : HI := up2 I 95 y1.toNatClampNeg (I 87 y1.toNatClampNeg)
      refine V_iast (pc := 224) dX12_quarter_224 (by omega) sh_95 hc34 rfl ?_
      refine V_aload_n (pc := 225) dX12_quarter_225 rfl rfl rfl ?_
      refine V_getR (pc := 226) dX12_quarter_226 flX12_81 rfl (by omega) (congrArg Prod.fst sh_73) rt_73_38 rfl ?_
      refine V_iload_n (pc := 229) dX12_quarter_229 rfl rfl rfl ?_
      refine V_aload_n (pc := 230) dX12_quarter_230 rfl rfl rfl ?_
      refine V_getR (pc := 231) dX12_quarter_231 flX12_57 rfl (by omega) (congrArg Prod.fst sh_73) rt_73_30 rfl ?_
      refine V_iload_n (pc := 234) dX12_quarter_234 rfl rfl rfl ?_
      obtain ⟨hc36, hf⟩ := pif hf
      refine V_iald (pc := 235) dX12_quarter_235 (by omega) sh_88 hc36 rfl ?_
      obtain ⟨hc37, hf⟩ := pif hf
      let I38 : HI := up2 I35 96 y1.toNatClampNeg (I35 88 y1.toNatClampNeg)
      refine V_iast (pc := 236) dX12_quarter_236 (by omega) sh_96 hc37 rfl ?_
      refine V_aload_n (pc := 237) dX12_quarter_237 rfl rfl rfl ?_
      refine V_getR (pc := 238) dX12_quarter_238 flX12_84 rfl (by omega) (congrArg Prod.fst sh_73) rt_73_39 rfl ?_
      refine V_iload_n (pc := 241) dX12_quarter_241 rfl rfl rfl ?_
      refine V_aload_n (pc := 242) dX12_quarter_242 rfl rfl rfl ?_
      refine V_getR (pc := 243) dX12_quarter_243 flX12_60 rfl (by omega) (congrArg Prod.fst sh_73) rt_73_31 rfl ?_
      refine V_iload_n (pc := 246) dX12_quarter_246 rfl rfl rfl ?_
      obtain ⟨hc39, hf⟩ := pif hf
      refine V_iald (pc := 247) dX12_quarter_247 (by omega) sh_89 hc39 rfl ?_
      obtain ⟨hc40, hf⟩ := pif hf
      let I41 : HI := up2 I38 97 y1.toNatClampNeg (I38 89 y1.toNatClampNeg)
      refine V_iast (pc := 248) dX12_quarter_248 (by omega) sh_97 hc40 rfl ?_
      refine V_aload_n (pc := 249) dX12_quarter_249 rfl rfl rfl ?_
      refine V_getR (pc := 250) dX12_quarter_250 flX12_87 rfl (by omega) (congrArg Prod.fst sh_73) rt_73_40 rfl ?_
      refine V_iload_n (pc := 253) dX12_quarter_253 rfl rfl rfl ?_
      refine V_aload_n (pc := 254) dX12_quarter_254 rfl rfl rfl ?_
      refine V_getR (pc := 255) dX12_quarter_255 flX12_63 rfl (by omega) (congrArg Prod.fst sh_73) rt_73_32 rfl ?_
      refine V_iload_n (pc := 258) dX12_quarter_258 rfl rfl rfl ?_
      obtain ⟨hc42, hf⟩ := pif hf
      refine V_iald (pc := 259) dX12_quarter_259 (by omega) sh_90 hc42 rfl ?_
      obtain ⟨hc43, hf⟩ := pif hf
      let I44 : HI := up2 I41 98 y1.toNatClampNeg (I41 90 y1.toNatClampNeg)
      refine V_iast (pc := 260) dX12_quarter_260 (by omega) sh_98 hc43 rfl ?_
      refine V_iinc (ls' := [some _, some _]) (pc := 261) dX12_quarter_261 rfl (Nat.le_of_ble_eq_true rfl) (congrArg _ ic_1) rfl rfl ?_
      refine V_goto (pc := 264) (tgt := 208) dX12_quarter_264 (by decide) ?_
      exact V_wk (ih _ _ _ _ hf K) ⟨rfl, ⟨rfl, trivial⟩⟩
noncomputable def fX12_quarter_269 : Nat → Int32 → HI → HL → Option (HI)
  | 0, _, _, _ => none
  | fu + 1, y1, I, L =>
    if (9 : Int32) ≤ y1 then
      some I
    else
      if inb y1 10 = true then
        let I47 : HI := up2 I 99 y1.toNatClampNeg (0 : Int32)
        fX12_quarter_269 fu (y1 + (1 : Int32)) I47 L
      else none
set_option maxRecDepth 100000 in
set_option maxHeartbeats 4000000 in
theorem lX12_quarter_269 {g : GG} {n d : Nat} {tw dr sk tl ff : Nat} (hG : RG tw dr sk tl ff) (hn : 116 ≤ n) {P : PP} : ∀ (fu : Nat) (y1 : Int32) (I : HI) (L : HL) (res : HI), fX12_quarter_269 fu y1 I L = some res → V g mX12_quarter (d + 8) 0 0 n (RT tw dr sk tl ff) res L 288 [some (.ref 73)] [] P → V g mX12_quarter (d + 8) 0 0 n (RT tw dr sk tl ff) I L 269 [some (.ref 73), some (.int y1)] [] P := by
  intro fu
  induction fu with
  | zero => intro y1 I L res hf; cases (show none = some res from hf)
  | succ fu ih =>
    intro y1 I L res hf K
    refine V_iload_n (pc := 269) dX12_quarter_269 rfl rfl rfl ?_
    refine V_bipush (pc := 270) dX12_quarter_270 bp_9 rfl ?_
    refine V_icmp_ge (pc := 272) (tgt := 288) dX12_quarter_272 (by decide) rfl (fun hc => ?_) (fun hc => ?_)
    · replace hf := (if_pos hc).symm.trans hf
      cases hf
      exact V_wk K ⟨rfl, trivial⟩
    · replace hf := (if_neg hc).symm.trans hf
      refine V_aload_n (pc := 275) dX12_quarter_275 rfl rfl rfl ?_
      refine V_getR (pc := 276) dX12_quarter_276 flX12_96 rfl (by omega) (congrArg Prod.fst sh_73) rt_73_63 rfl ?_
      refine V_iload_n (pc := 279) dX12_quarter_279 rfl rfl rfl ?_
      refine V_iconst (pc := 280) dX12_quarter_280 ic_0 rfl ?_
      obtain ⟨hc46, hf⟩ := pif hf
      let I47 : HI := up2 I 99 y1.toNatClampNeg (0 : Int32)
      refine V_iast (pc := 281) dX12_quarter_281 (by omega) sh_99 hc46 rfl ?_
      refine V_iinc (ls' := [some _, some _]) (pc := 282) dX12_quarter_282 rfl (Nat.le_of_ble_eq_true rfl) (congrArg _ ic_1) rfl rfl ?_
      refine V_goto (pc := 285) (tgt := 269) dX12_quarter_285 (by decide) ?_
      exact V_wk (ih _ _ _ _ hf K) ⟨rfl, ⟨rfl, trivial⟩⟩
noncomputable def fX12_quarter_290 : Nat → Int32 → HI → HL → Option (HI)
  | 0, _, _, _ => none
  | fu + 1, y1, I, L =>
    if (I 73 57) ≤ y1 then
      some I
    else
      if inb y1 4 = true then
        if inb y1 10 = true then
          let I51 : HI := up2 I 99 y1.toNatClampNeg (I 98 y1.toNatClampNeg)
          fX12_quarter_290 fu (y1 + (1 : Int32)) I51 L
        else none
      else none
set_option maxRecDepth 100000 in
set_option maxHeartbeats 4000000 in
theorem lX12_quarter_290 {g : GG} {n d : Nat} {tw dr sk tl ff : Nat} (hG : RG tw dr sk tl ff) (hn : 116 ≤ n) {P : PP} : ∀ (fu : Nat) (y1 : Int32) (I : HI) (L : HL) (res : HI), fX12_quarter_290 fu y1 I L = some res → V g mX12_quarter (d + 8) 0 0 n (RT tw dr sk tl ff) res L 316 [some (.ref 73)] [] P → V g mX12_quarter (d + 8) 0 0 n (RT tw dr sk tl ff) I L 290 [some (.ref 73), some (.int y1)] [] P := by
  intro fu
  induction fu with
  | zero => intro y1 I L res hf; cases (show none = some res from hf)
  | succ fu ih =>
    intro y1 I L res hf K
    refine V_iload_n (pc := 290) dX12_quarter_290 rfl rfl rfl ?_
    refine V_aload_n (pc := 291) dX12_quarter_291 rfl rfl rfl ?_
    refine V_getI (pc := 292) dX12_quarter_292 flX12_415 rfl (by omega) (congrArg Prod.fst sh_73) rfl ?_
    refine V_icmp_ge (pc := 295) (tgt := 316) dX12_quarter_295 (by decide) rfl (fun hc => ?_) (fun hc => ?_)
    · replace hf := (if_pos hc).symm.trans hf
      cases hf
      exact V_wk K ⟨rfl, trivial⟩
    · replace hf := (if_neg hc).symm.trans hf
      refine V_aload_n (pc := 298) dX12_quarter_298 rfl rfl rfl ?_
      refine V_getR (pc := 299) dX12_quarter_299 flX12_96 rfl (by omega) (congrArg Prod.fst sh_73) rt_73_63 rfl ?_
      refine V_iload_n (pc := 302) dX12_quarter_302 rfl rfl rfl ?_
      refine V_aload_n (pc := 303) dX12_quarter_303 rfl rfl rfl ?_
      refine V_getR (pc := 304) dX12_quarter_304 flX12_87 rfl (by omega) (congrArg Prod.fst sh_73) rt_73_40 rfl ?_
      refine V_iload_n (pc := 307) dX12_quarter_307 rfl rfl rfl ?_
      obtain ⟨hc49, hf⟩ := pif hf
      refine V_iald (pc := 308) dX12_quarter_308 (by omega) sh_98 hc49 rfl ?_
      obtain ⟨hc50, hf⟩ := pif hf
      let I51 : HI := up2 I 99 y1.toNatClampNeg (I 98 y1.toNatClampNeg)
      refine V_iast (pc := 309) dX12_quarter_309 (by omega) sh_99 hc50 rfl ?_
      refine V_iinc (ls' := [some _, some _]) (pc := 310) dX12_quarter_310 rfl (Nat.le_of_ble_eq_true rfl) (congrArg _ ic_1) rfl rfl ?_
      refine V_goto (pc := 313) (tgt := 290) dX12_quarter_313 (by decide) ?_
      exact V_wk (ih _ _ _ _ hf K) ⟨rfl, ⟨rfl, trivial⟩⟩
noncomputable def fX12_quarter_338 : Nat → Int32 → HI → HL → Option (Int32 × HI)
  | 0, _, _, _ => none
  | fu + 1, y1, I, L =>
    if (3 : Int32) ≤ y1 then
      some ((I 73 55), I)
    else
      if inb y1 3 = true then
        let I58 : HI := up2 I 114 y1.toNatClampNeg (b2i false)
        fX12_quarter_338 fu (y1 + (1 : Int32)) I58 L
      else none
set_option maxRecDepth 100000 in
set_option maxHeartbeats 4000000 in
theorem lX12_quarter_338 {g : GG} {n d : Nat} {tw dr sk tl ff : Nat} (hG : RG tw dr sk tl ff) (hn : 116 ≤ n) {P : PP} : ∀ (fu : Nat) (y1 : Int32) (I : HI) (L : HL) (res : Int32 × HI), fX12_quarter_338 fu y1 I L = some res → P (some (.int res.1)) n (RT tw dr sk tl ff) res.2 L → V g mX12_quarter (d + 8) 0 0 n (RT tw dr sk tl ff) I L 338 [some (.ref 73), some (.int y1)] [] P := by
  intro fu
  induction fu with
  | zero => intro y1 I L res hf; cases (show none = some res from hf)
  | succ fu ih =>
    intro y1 I L res hf K
    refine V_iload_n (pc := 338) dX12_quarter_338 rfl rfl rfl ?_
    refine V_iconst (pc := 339) dX12_quarter_339 ic_3 rfl ?_
    refine V_icmp_ge (pc := 340) (tgt := 356) dX12_quarter_340 (by decide) rfl (fun hc => ?_) (fun hc => ?_)
    · replace hf := (if_pos hc).symm.trans hf
      refine V_aload_n (pc := 356) dX12_quarter_356 rfl rfl rfl ?_
      refine V_getI (pc := 357) dX12_quarter_357 flX12_409 rfl (by omega) (congrArg Prod.fst sh_73) rfl ?_
      cases hf
      exact V_iret (pc := 360) dX12_quarter_360 rfl K
    · replace hf := (if_neg hc).symm.trans hf
      refine V_aload_n (pc := 343) dX12_quarter_343 rfl rfl rfl ?_
      refine V_getR (pc := 344) dX12_quarter_344 flX12_142 rfl (by omega) (congrArg Prod.fst sh_73) rt_73_90 rfl ?_
      refine V_iload_n (pc := 347) dX12_quarter_347 rfl rfl rfl ?_
      refine V_iconst (pc := 348) dX12_quarter_348 ic_0 rfl ?_
      obtain ⟨hc57, hf⟩ := pif hf
      let I58 : HI := up2 I 114 y1.toNatClampNeg (b2i false)
      refine V_zastE (pc := 349) dX12_quarter_349 (by omega) sh_114 hc57 (show (0 : Int32) = b2i false from rfl) rfl ?_
      refine V_iinc (ls' := [some _, some _]) (pc := 350) dX12_quarter_350 rfl (Nat.le_of_ble_eq_true rfl) (congrArg _ ic_1) rfl rfl ?_
      refine V_goto (pc := 353) (tgt := 338) dX12_quarter_353 (by decide) ?_
      exact V_wk (ih _ _ _ _ hf K) ⟨rfl, ⟨rfl, trivial⟩⟩
noncomputable def fX12_quarter (I : HI) (L : HL) : Option (Int32 × HI × HL) :=
  Option.bind (fX12_readAll  I L) fun q1 =>
  if (q1.1 73 2) ≤ 0 then
    let L2 : HL := up2 q1.2 73 44 (q1.2 73 41)
    let I3 : HI := up2 q1.1 73 52 (q1.1 73 45)
    let I4 : HI := up2 I3 73 53 (I3 73 46)
    let I5 : HI := up2 I4 73 54 (I4 73 47)
    let I6 : HI := up2 I5 73 55 (I5 73 48)
    let I7 : HI := up2 I6 73 56 (I6 73 49)
    let I8 : HI := up2 I7 73 57 (I7 73 50)
    let I9 : HI := up2 I8 73 58 (I8 73 51)
    let I10 : HI := up2 I9 73 21 (I9 73 20)
    Option.bind (
      if (I10 73 61) = 0 then
        some (0 : Int32)
      else
        some (I10 73 17)
    ) fun q11 =>
    let I12 : HI := up2 I10 73 18 q11
    Option.bind (fX12_quarter_106 FUEL (0 : Int32) I12 L2) fun q19 =>
    Option.bind (fX12_quarter_146 FUEL (0 : Int32) q19 L2) fun q32 =>
    Option.bind (fX12_quarter_208 FUEL (0 : Int32) q32 L2) fun q45 =>
    Option.bind (fX12_quarter_269 FUEL (0 : Int32) q45 L2) fun q48 =>
    Option.bind (fX12_quarter_290 FUEL (0 : Int32) q48 L2) fun q52 =>
    let I53 : HI := up2 q52 73 73 (0 : Int32)
    let I54 : HI := up2 I53 73 74 (0 : Int32)
    let I55 : HI := up2 I54 73 86 (0 : Int32)
    let I56 : HI := up2 I55 73 76 (0 : Int32)
    Option.bind (fX12_quarter_338 FUEL (0 : Int32) I56 L2) fun q59 =>
    some (q59.1, q59.2, L2)
  else
    some ((-1 : Int32), q1.1, q1.2)
set_option maxRecDepth 100000 in
set_option maxHeartbeats 4000000 in
theorem tX12_quarter {g : GG} {n d : Nat} {tw dr sk tl ff : Nat} (hG : RG tw dr sk tl ff) (hn : 116 ≤ n) {I : HI} {L : HL} {res : Int32 × HI × HL} (hf : fX12_quarter I L = some res) : CT g mX12_quarter (d + 8) 0 0 n (RT tw dr sk tl ff) I L [.ref 73] (PoI n (RT tw dr sk tl ff) res.1 res.2.1 res.2.2) := by
  refine CT.of rfl (Nat.le_of_ble_eq_true rfl) ?_
  show V g mX12_quarter (d + 8) 0 0 n (RT tw dr sk tl ff) I L 0 [some (.ref 73)] [] (PoI n (RT tw dr sk tl ff) res.1 res.2.1 res.2.2)
  refine V_aload_n (pc := 0) dX12_quarter_0 rfl rfl rfl ?_
  obtain ⟨q1, hq1, hf⟩ := bnd hf
  refine V_cVv (md' := mX12_readAll) (pc := 1) dX12_quarter_1 mlX12_400 mVX12_readAll (tX12_readAll hG hn hq1) rfl (by omega) (congrArg Prod.fst sh_73) rfl (Nat.le_of_ble_eq_true rfl) rfl ?_
  refine V_aload_n (pc := 4) dX12_quarter_4 rfl rfl rfl ?_
  refine V_getI (pc := 5) dX12_quarter_5 flX12_188 rfl (by omega) (congrArg Prod.fst sh_73) rfl ?_
  refine V_if_le (pc := 8) (tgt := 13) dX12_quarter_8 (by decide) rfl (fun hc => ?_) (fun hc => ?_)
  · replace hf := (if_pos hc).symm.trans hf
    refine V_aload_n (pc := 13) dX12_quarter_13 rfl rfl rfl ?_
    refine V_aload_n (pc := 14) dX12_quarter_14 rfl rfl rfl ?_
    refine V_getL (pc := 15) dX12_quarter_15 flX12_337 rfl (by omega) (congrArg Prod.fst sh_73) rfl ?_
    let L2 : HL := up2 q1.2 73 44 (q1.2 73 41)
    refine V_putL (pc := 18) dX12_quarter_18 flX12_403 rfl rfl (by omega) (congrArg Prod.fst sh_73) rfl ?_
    refine V_aload_n (pc := 21) dX12_quarter_21 rfl rfl rfl ?_
    refine V_aload_n (pc := 22) dX12_quarter_22 rfl rfl rfl ?_
    refine V_getI (pc := 23) dX12_quarter_23 flX12_324 rfl (by omega) (congrArg Prod.fst sh_73) rfl ?_
    let I3 : HI := up2 q1.1 73 52 (q1.1 73 45)
    refine V_putI (pc := 26) dX12_quarter_26 flX12_90 rfl rfl (by omega) (congrArg Prod.fst sh_73) rfl ?_
    refine V_aload_n (pc := 29) dX12_quarter_29 rfl rfl rfl ?_
    refine V_aload_n (pc := 30) dX12_quarter_30 rfl rfl rfl ?_
    refine V_getI (pc := 31) dX12_quarter_31 flX12_327 rfl (by omega) (congrArg Prod.fst sh_73) rfl ?_
    let I4 : HI := up2 I3 73 53 (I3 73 46)
    refine V_putI (pc := 34) dX12_quarter_34 flX12_93 rfl rfl (by omega) (congrArg Prod.fst sh_73) rfl ?_
    refine V_aload_n (pc := 37) dX12_quarter_37 rfl rfl rfl ?_
    refine V_aload_n (pc := 38) dX12_quarter_38 rfl rfl rfl ?_
    refine V_getI (pc := 39) dX12_quarter_39 flX12_334 rfl (by omega) (congrArg Prod.fst sh_73) rfl ?_
    let I5 : HI := up2 I4 73 54 (I4 73 47)
    refine V_putI (pc := 42) dX12_quarter_42 flX12_406 rfl rfl (by omega) (congrArg Prod.fst sh_73) rfl ?_
    refine V_aload_n (pc := 45) dX12_quarter_45 rfl rfl rfl ?_
    refine V_aload_n (pc := 46) dX12_quarter_46 rfl rfl rfl ?_
    refine V_getI (pc := 47) dX12_quarter_47 flX12_347 rfl (by omega) (congrArg Prod.fst sh_73) rfl ?_
    let I6 : HI := up2 I5 73 55 (I5 73 48)
    refine V_putI (pc := 50) dX12_quarter_50 flX12_409 rfl rfl (by omega) (congrArg Prod.fst sh_73) rfl ?_
    refine V_aload_n (pc := 53) dX12_quarter_53 rfl rfl rfl ?_
    refine V_aload_n (pc := 54) dX12_quarter_54 rfl rfl rfl ?_
    refine V_getI (pc := 55) dX12_quarter_55 flX12_360 rfl (by omega) (congrArg Prod.fst sh_73) rfl ?_
    let I7 : HI := up2 I6 73 56 (I6 73 49)
    refine V_putI (pc := 58) dX12_quarter_58 flX12_412 rfl rfl (by omega) (congrArg Prod.fst sh_73) rfl ?_
    refine V_aload_n (pc := 61) dX12_quarter_61 rfl rfl rfl ?_
    refine V_aload_n (pc := 62) dX12_quarter_62 rfl rfl rfl ?_
    refine V_getI (pc := 63) dX12_quarter_63 flX12_363 rfl (by omega) (congrArg Prod.fst sh_73) rfl ?_
    let I8 : HI := up2 I7 73 57 (I7 73 50)
    refine V_putI (pc := 66) dX12_quarter_66 flX12_415 rfl rfl (by omega) (congrArg Prod.fst sh_73) rfl ?_
    refine V_aload_n (pc := 69) dX12_quarter_69 rfl rfl rfl ?_
    refine V_aload_n (pc := 70) dX12_quarter_70 rfl rfl rfl ?_
    refine V_getI (pc := 71) dX12_quarter_71 flX12_394 rfl (by omega) (congrArg Prod.fst sh_73) rfl ?_
    let I9 : HI := up2 I8 73 58 (I8 73 51)
    refine V_putI (pc := 74) dX12_quarter_74 flX12_418 rfl rfl (by omega) (congrArg Prod.fst sh_73) rfl ?_
    refine V_aload_n (pc := 77) dX12_quarter_77 rfl rfl rfl ?_
    refine V_aload_n (pc := 78) dX12_quarter_78 rfl rfl rfl ?_
    refine V_getI (pc := 79) dX12_quarter_79 flX12_276 rfl (by omega) (congrArg Prod.fst sh_73) rfl ?_
    let I10 : HI := up2 I9 73 21 (I9 73 20)
    refine V_putI (pc := 82) dX12_quarter_82 flX12_421 rfl rfl (by omega) (congrArg Prod.fst sh_73) rfl ?_
    refine V_aload_n (pc := 85) dX12_quarter_85 rfl rfl rfl ?_
    refine V_aload_n (pc := 86) dX12_quarter_86 rfl rfl rfl ?_
    refine V_getI (pc := 87) dX12_quarter_87 flX12_385 rfl (by omega) (congrArg Prod.fst sh_73) rfl ?_
    obtain ⟨q11, hq11, hf⟩ := bnd hf
    have Kq11 : V g mX12_quarter (d + 8) 0 0 n (RT tw dr sk tl ff) I10 L2 101 [some (.ref 73)] [.int q11, .ref 73] (PoI n (RT tw dr sk tl ff) res.1 res.2.1 res.2.2) := by
      let I12 : HI := up2 I10 73 18 q11
      refine V_putI (pc := 101) dX12_quarter_101 flX12_317 rfl rfl (by omega) (congrArg Prod.fst sh_73) rfl ?_
      refine V_iconst (pc := 104) dX12_quarter_104 ic_0 rfl ?_
      refine V_istore_n (ls' := [some _, some _]) (pc := 105) dX12_quarter_105 rfl (Nat.le_of_ble_eq_true rfl) rfl rfl ?_
      obtain ⟨q19, hq19, hf⟩ := bnd hf
      refine V_wk (lX12_quarter_106 hG hn FUEL _ _ _ _ hq19 ?_) ⟨rfl, ⟨rfl, trivial⟩⟩
      refine V_iconst (pc := 144) dX12_quarter_144 ic_0 rfl ?_
      refine V_istore_n (ls' := [some _, some _]) (pc := 145) dX12_quarter_145 rfl (Nat.le_of_ble_eq_true rfl) rfl rfl ?_
      obtain ⟨q32, hq32, hf⟩ := bnd hf
      refine V_wk (lX12_quarter_146 hG hn FUEL _ _ _ _ hq32 ?_) ⟨rfl, ⟨rfl, trivial⟩⟩
      refine V_iconst (pc := 206) dX12_quarter_206 ic_0 rfl ?_
      refine V_istore_n (ls' := [some _, some _]) (pc := 207) dX12_quarter_207 rfl (Nat.le_of_ble_eq_true rfl) rfl rfl ?_
      obtain ⟨q45, hq45, hf⟩ := bnd hf
      refine V_wk (lX12_quarter_208 hG hn FUEL _ _ _ _ hq45 ?_) ⟨rfl, ⟨rfl, trivial⟩⟩
      refine V_iconst (pc := 267) dX12_quarter_267 ic_0 rfl ?_
      refine V_istore_n (ls' := [some _, some _]) (pc := 268) dX12_quarter_268 rfl (Nat.le_of_ble_eq_true rfl) rfl rfl ?_
      obtain ⟨q48, hq48, hf⟩ := bnd hf
      refine V_wk (lX12_quarter_269 hG hn FUEL _ _ _ _ hq48 ?_) ⟨rfl, ⟨rfl, trivial⟩⟩
      refine V_iconst (pc := 288) dX12_quarter_288 ic_0 rfl ?_
      refine V_istore_n (ls' := [some _, some _]) (pc := 289) dX12_quarter_289 rfl (Nat.le_of_ble_eq_true rfl) rfl rfl ?_
      obtain ⟨q52, hq52, hf⟩ := bnd hf
      refine V_wk (lX12_quarter_290 hG hn FUEL _ _ _ _ hq52 ?_) ⟨rfl, ⟨rfl, trivial⟩⟩
      refine V_aload_n (pc := 316) dX12_quarter_316 rfl rfl rfl ?_
      refine V_iconst (pc := 317) dX12_quarter_317 ic_0 rfl ?_
      let I53 : HI := up2 q52 73 73 (0 : Int32)
      refine V_putI (pc := 318) dX12_quarter_318 flX12_424 rfl rfl (by omega) (congrArg Prod.fst sh_73) rfl ?_
      refine V_aload_n (pc := 321) dX12_quarter_321 rfl rfl rfl ?_
      refine V_iconst (pc := 322) dX12_quarter_322 ic_0 rfl ?_
      let I54 : HI := up2 I53 73 74 (0 : Int32)
      refine V_putI (pc := 323) dX12_quarter_323 flX12_427 rfl rfl (by omega) (congrArg Prod.fst sh_73) rfl ?_
      refine V_aload_n (pc := 326) dX12_quarter_326 rfl rfl rfl ?_
      refine V_iconst (pc := 327) dX12_quarter_327 ic_0 rfl ?_
      let I55 : HI := up2 I54 73 86 (0 : Int32)
      refine V_putI (pc := 328) dX12_quarter_328 flX12_430 rfl rfl (by omega) (congrArg Prod.fst sh_73) rfl ?_
      refine V_aload_n (pc := 331) dX12_quarter_331 rfl rfl rfl ?_
      refine V_iconst (pc := 332) dX12_quarter_332 ic_0 rfl ?_
      let I56 : HI := up2 I55 73 76 (0 : Int32)
      refine V_putI (pc := 333) dX12_quarter_333 flX12_433 rfl rfl (by omega) (congrArg Prod.fst sh_73) rfl ?_
      refine V_iconst (pc := 336) dX12_quarter_336 ic_0 rfl ?_
      refine V_istore_n (ls' := [some _, some _]) (pc := 337) dX12_quarter_337 rfl (Nat.le_of_ble_eq_true rfl) rfl rfl ?_
      obtain ⟨q59, hq59, hf⟩ := bnd hf
      refine V_wk (lX12_quarter_338 hG hn FUEL _ _ _ _ hq59 ?_) ⟨rfl, ⟨rfl, trivial⟩⟩
      cases hf
      exact PoI_mk
    refine V_if_eq (pc := 90) (tgt := 100) dX12_quarter_90 (by decide) rfl (fun hc => ?_) (fun hc => ?_)
    · replace hq11 := (if_pos hc).symm.trans hq11
      refine V_iconst (pc := 100) dX12_quarter_100 ic_0 rfl ?_
      cases hq11
      exact V_wk Kq11 ⟨rfl, trivial⟩
    · replace hq11 := (if_neg hc).symm.trans hq11
      refine V_aload_n (pc := 93) dX12_quarter_93 rfl rfl rfl ?_
      refine V_getI (pc := 94) dX12_quarter_94 flX12_261 rfl (by omega) (congrArg Prod.fst sh_73) rfl ?_
      refine V_goto (pc := 97) (tgt := 101) dX12_quarter_97 (by decide) ?_
      cases hq11
      exact V_wk Kq11 ⟨rfl, trivial⟩
  · replace hf := (if_neg hc).symm.trans hf
    refine V_iconst (pc := 11) dX12_quarter_11 ic_m1 rfl ?_
    cases hf
    exact V_iret (pc := 12) dX12_quarter_12 rfl PoI_mk
