/-! ShadowDoors$Tokens.advance -/
noncomputable def fX9_advance_0 : Nat → HI → HL → Option (HI)
  | 0, _, _ => none
  | fu + 1, I, L =>
    Option.bind (
      if (I 49 2) ≤ (I 49 3) then
        some true
      else
        if inb (I 49 3) 1600 = true then
          if (I 1 (I 49 3).toNatClampNeg) = (32 : Int32) then
            some false
          else
            if inb (I 49 3) 1600 = true then
              if (I 1 (I 49 3).toNatClampNeg) = (10 : Int32) then
                some false
              else
                some true
            else none
        else none
    ) fun b1 =>
    if b1 = true then
      some I
    else
      let I4 : HI := up2 I 49 3 ((I 49 3) + (1 : Int32))
      fX9_advance_0 fu  I4 L
set_option maxRecDepth 100000 in
set_option maxHeartbeats 4000000 in
theorem lX9_advance_0 {g : GG} {n d : Nat} {tw dr sk tl ff : Nat} (hG : RG tw dr sk tl ff) (hn : 116 ≤ n) {P : PP} : ∀ (fu : Nat)  (I : HI) (L : HL) (res : HI), fX9_advance_0 fu  I L = some res → V g mX9_advance (d + 5) 0 0 n (RT tw dr sk tl ff) res L 52 [some (.ref 49)] [] P → V g mX9_advance (d + 5) 0 0 n (RT tw dr sk tl ff) I L 0 [some (.ref 49)] [] P := by
  intro fu
  induction fu with
  | zero => intro  I L res hf; cases (show none = some res from hf)
  | succ fu ih =>
    intro  I L res hf K
    refine V_aload_n (pc := 0) dX9_advance_0 rfl rfl rfl ?_
    refine V_getI (pc := 1) dX9_advance_1 flX9_44 rfl (by omega) (congrArg Prod.fst sh_49) rfl ?_
    refine V_aload_n (pc := 4) dX9_advance_4 rfl rfl rfl ?_
    refine V_getI (pc := 5) dX9_advance_5 flX9_41 rfl (by omega) (congrArg Prod.fst sh_49) rfl ?_
    obtain ⟨b1, hb1, hf⟩ := bnd hf
    have KTb1 : b1 = true → V g mX9_advance (d + 5) 0 0 n (RT tw dr sk tl ff) I L 52 [some (.ref 49)] [] P := fun hc => by
      replace hf := (if_pos hc).symm.trans hf
      cases hf
      exact V_wk K ⟨rfl, trivial⟩
    have KFb1 : ¬ b1 = true → V g mX9_advance (d + 5) 0 0 n (RT tw dr sk tl ff) I L 39 [some (.ref 49)] [] P := fun hc => by
      replace hf := (if_neg hc).symm.trans hf
      refine V_aload_n (pc := 39) dX9_advance_39 rfl rfl rfl ?_
      refine V_dup (pc := 40) dX9_advance_40 rfl rfl ?_
      refine V_getI (pc := 41) dX9_advance_41 flX9_44 rfl (by omega) (congrArg Prod.fst sh_49) rfl ?_
      refine V_iconst (pc := 44) dX9_advance_44 ic_1 rfl ?_
      refine V_iadd (pc := 45) dX9_advance_45 rfl ?_
      let I4 : HI := up2 I 49 3 ((I 49 3) + (1 : Int32))
      refine V_putI (pc := 46) dX9_advance_46 flX9_44 rfl rfl (by omega) (congrArg Prod.fst sh_49) rfl ?_
      refine V_goto (pc := 49) (tgt := 0) dX9_advance_49 (by decide) ?_
      exact V_wk (ih  _ _ _ hf K) ⟨rfl, trivial⟩
    refine V_icmp_ge (pc := 8) (tgt := 52) dX9_advance_8 (by decide) rfl (fun hc => ?_) (fun hc => ?_)
    · replace hb1 := (if_pos hc).symm.trans hb1
      cases hb1
      exact KTb1 rfl
    · replace hb1 := (if_neg hc).symm.trans hb1
      refine V_aload_n (pc := 11) dX9_advance_11 rfl rfl rfl ?_
      refine V_getR (pc := 12) dX9_advance_12 flX9_15 rfl (by omega) (congrArg Prod.fst sh_49) rt_49_0 rfl ?_
      refine V_aload_n (pc := 15) dX9_advance_15 rfl rfl rfl ?_
      refine V_getI (pc := 16) dX9_advance_16 flX9_44 rfl (by omega) (congrArg Prod.fst sh_49) rfl ?_
      obtain ⟨hc2, hb1⟩ := pif hb1
      refine V_bald (pc := 19) dX9_advance_19 (by omega) sh_1 hc2 rfl ?_
      refine V_bipush (pc := 20) dX9_advance_20 bp_32 rfl ?_
      refine V_icmp_eq (pc := 22) (tgt := 39) dX9_advance_22 (by decide) rfl (fun hc => ?_) (fun hc => ?_)
      · replace hb1 := (if_pos hc).symm.trans hb1
        cases hb1
        exact KFb1 (nbt rfl)
      · replace hb1 := (if_neg hc).symm.trans hb1
        refine V_aload_n (pc := 25) dX9_advance_25 rfl rfl rfl ?_
        refine V_getR (pc := 26) dX9_advance_26 flX9_15 rfl (by omega) (congrArg Prod.fst sh_49) rt_49_0 rfl ?_
        refine V_aload_n (pc := 29) dX9_advance_29 rfl rfl rfl ?_
        refine V_getI (pc := 30) dX9_advance_30 flX9_44 rfl (by omega) (congrArg Prod.fst sh_49) rfl ?_
        obtain ⟨hc3, hb1⟩ := pif hb1
        refine V_bald (pc := 33) dX9_advance_33 (by omega) sh_1 hc3 rfl ?_
        refine V_bipush (pc := 34) dX9_advance_34 bp_10 rfl ?_
        refine V_icmp_ne (pc := 36) (tgt := 52) dX9_advance_36 (by decide) rfl (fun hc => ?_) (fun hc => ?_)
        · replace hb1 := (if_neg hc).symm.trans hb1
          cases hb1
          exact KTb1 rfl
        · replace hb1 := (if_pos hc).symm.trans hb1
          cases hb1
          exact KFb1 (nbt rfl)
noncomputable def fX9_advance_70 : Nat → HI → HL → Option (HI × HL)
  | 0, _, _ => none
  | fu + 1, I, L =>
    Option.bind (
      if (I 49 2) ≤ (I 49 3) then
        some true
      else
        if inb (I 49 3) 1600 = true then
          if (b2i (fX9_isLetter (I 1 (I 49 3).toNatClampNeg))) = 0 then
            some true
          else
            some false
        else none
    ) fun b9 =>
    if b9 = true then
      some (I, L)
    else
      if inb (I 49 3) 1600 = true then
        let L12 : HL := up2 L 49 7 (fX9_withLetter (L 49 7) (I 1 (I 49 3).toNatClampNeg))
        let I13 : HI := up2 I 49 3 ((I 49 3) + (1 : Int32))
        fX9_advance_70 fu  I13 L12
      else none
set_option maxRecDepth 100000 in
set_option maxHeartbeats 4000000 in
theorem lX9_advance_70 {g : GG} {n d : Nat} {tw dr sk tl ff : Nat} (hG : RG tw dr sk tl ff) (hn : 116 ≤ n) {P : PP} : ∀ (fu : Nat)  (I : HI) (L : HL) (res : HI × HL), fX9_advance_70 fu  I L = some res → V g mX9_advance (d + 5) 0 0 n (RT tw dr sk tl ff) res.1 res.2 129 [some (.ref 49)] [] P → V g mX9_advance (d + 5) 0 0 n (RT tw dr sk tl ff) I L 70 [some (.ref 49)] [] P := by
  intro fu
  induction fu with
  | zero => intro  I L res hf; cases (show none = some res from hf)
  | succ fu ih =>
    intro  I L res hf K
    refine V_aload_n (pc := 70) dX9_advance_70 rfl rfl rfl ?_
    refine V_getI (pc := 71) dX9_advance_71 flX9_44 rfl (by omega) (congrArg Prod.fst sh_49) rfl ?_
    refine V_aload_n (pc := 74) dX9_advance_74 rfl rfl rfl ?_
    refine V_getI (pc := 75) dX9_advance_75 flX9_41 rfl (by omega) (congrArg Prod.fst sh_49) rfl ?_
    obtain ⟨b9, hb9, hf⟩ := bnd hf
    have KTb9 : b9 = true → V g mX9_advance (d + 5) 0 0 n (RT tw dr sk tl ff) I L 129 [some (.ref 49)] [] P := fun hc => by
      replace hf := (if_pos hc).symm.trans hf
      cases hf
      exact V_wk K ⟨rfl, trivial⟩
    have KFb9 : ¬ b9 = true → V g mX9_advance (d + 5) 0 0 n (RT tw dr sk tl ff) I L 96 [some (.ref 49)] [] P := fun hc => by
      replace hf := (if_neg hc).symm.trans hf
      refine V_aload_n (pc := 96) dX9_advance_96 rfl rfl rfl ?_
      refine V_aload_n (pc := 97) dX9_advance_97 rfl rfl rfl ?_
      refine V_getL (pc := 98) dX9_advance_98 flX9_53 rfl (by omega) (congrArg Prod.fst sh_49) rfl ?_
      refine V_aload_n (pc := 101) dX9_advance_101 rfl rfl rfl ?_
      refine V_getR (pc := 102) dX9_advance_102 flX9_15 rfl (by omega) (congrArg Prod.fst sh_49) rt_49_0 rfl ?_
      refine V_aload_n (pc := 105) dX9_advance_105 rfl rfl rfl ?_
      refine V_getI (pc := 106) dX9_advance_106 flX9_44 rfl (by omega) (congrArg Prod.fst sh_49) rfl ?_
      obtain ⟨hc11, hf⟩ := pif hf
      refine V_bald (pc := 109) dX9_advance_109 (by omega) sh_1 hc11 rfl ?_
      refine V_cSl (md' := mX9_withLetter) (pc := 110) dX9_advance_110 mlX9_31 mSX9_withLetter (tX9_withLetter rfl) rfl rfl (Nat.le_of_ble_eq_true rfl) rfl ?_
      let L12 : HL := up2 L 49 7 (fX9_withLetter (L 49 7) (I 1 (I 49 3).toNatClampNeg))
      refine V_putL (pc := 113) dX9_advance_113 flX9_53 rfl rfl (by omega) (congrArg Prod.fst sh_49) rfl ?_
      refine V_aload_n (pc := 116) dX9_advance_116 rfl rfl rfl ?_
      refine V_dup (pc := 117) dX9_advance_117 rfl rfl ?_
      refine V_getI (pc := 118) dX9_advance_118 flX9_44 rfl (by omega) (congrArg Prod.fst sh_49) rfl ?_
      refine V_iconst (pc := 121) dX9_advance_121 ic_1 rfl ?_
      refine V_iadd (pc := 122) dX9_advance_122 rfl ?_
      let I13 : HI := up2 I 49 3 ((I 49 3) + (1 : Int32))
      refine V_putI (pc := 123) dX9_advance_123 flX9_44 rfl rfl (by omega) (congrArg Prod.fst sh_49) rfl ?_
      refine V_goto (pc := 126) (tgt := 70) dX9_advance_126 (by decide) ?_
      exact V_wk (ih  _ _ _ hf K) ⟨rfl, trivial⟩
    refine V_icmp_ge (pc := 78) (tgt := 129) dX9_advance_78 (by decide) rfl (fun hc => ?_) (fun hc => ?_)
    · replace hb9 := (if_pos hc).symm.trans hb9
      cases hb9
      exact KTb9 rfl
    · replace hb9 := (if_neg hc).symm.trans hb9
      refine V_aload_n (pc := 81) dX9_advance_81 rfl rfl rfl ?_
      refine V_getR (pc := 82) dX9_advance_82 flX9_15 rfl (by omega) (congrArg Prod.fst sh_49) rt_49_0 rfl ?_
      refine V_aload_n (pc := 85) dX9_advance_85 rfl rfl rfl ?_
      refine V_getI (pc := 86) dX9_advance_86 flX9_44 rfl (by omega) (congrArg Prod.fst sh_49) rfl ?_
      obtain ⟨hc10, hb9⟩ := pif hb9
      refine V_bald (pc := 89) dX9_advance_89 (by omega) sh_1 hc10 rfl ?_
      refine V_cSz (md' := mX9_isLetter) (pc := 90) dX9_advance_90 mlX9_60 mSX9_isLetter (tX9_isLetter rfl) rfl rfl (Nat.le_of_ble_eq_true rfl) rfl ?_
      refine V_if_eq (pc := 93) (tgt := 129) dX9_advance_93 (by decide) rfl (fun hc => ?_) (fun hc => ?_)
      · replace hb9 := (if_pos hc).symm.trans hb9
        cases hb9
        exact KTb9 rfl
      · replace hb9 := (if_neg hc).symm.trans hb9
        cases hb9
        exact KFb9 (nbt rfl)
noncomputable def fX9_advance_168 : Nat → HI → HL → Option (HI)
  | 0, _, _ => none
  | fu + 1, I, L =>
    Option.bind (
      if (I 49 2) ≤ (I 49 3) then
        some true
      else
        if inb (I 49 3) 1600 = true then
          if (b2i (fX9_isDigit (I 1 (I 49 3).toNatClampNeg))) = 0 then
            some true
          else
            some false
        else none
    ) fun b15 =>
    if b15 = true then
      some I
    else
      if inb (I 49 3) 1600 = true then
        let I18 : HI := up2 I 49 6 (((I 49 6) * (10 : Int32)) + ((I 1 (I 49 3).toNatClampNeg) - (48 : Int32)))
        let I19 : HI := up2 I18 49 3 ((I18 49 3) + (1 : Int32))
        fX9_advance_168 fu  I19 L
      else none
set_option maxRecDepth 100000 in
set_option maxHeartbeats 4000000 in
theorem lX9_advance_168 {g : GG} {n d : Nat} {tw dr sk tl ff : Nat} (hG : RG tw dr sk tl ff) (hn : 116 ≤ n) {P : PP} : ∀ (fu : Nat)  (I : HI) (L : HL) (res : HI), fX9_advance_168 fu  I L = some res → V g mX9_advance (d + 5) 0 0 n (RT tw dr sk tl ff) res L 231 [some (.ref 49)] [] P → V g mX9_advance (d + 5) 0 0 n (RT tw dr sk tl ff) I L 168 [some (.ref 49)] [] P := by
  intro fu
  induction fu with
  | zero => intro  I L res hf; cases (show none = some res from hf)
  | succ fu ih =>
    intro  I L res hf K
    refine V_aload_n (pc := 168) dX9_advance_168 rfl rfl rfl ?_
    refine V_getI (pc := 169) dX9_advance_169 flX9_44 rfl (by omega) (congrArg Prod.fst sh_49) rfl ?_
    refine V_aload_n (pc := 172) dX9_advance_172 rfl rfl rfl ?_
    refine V_getI (pc := 173) dX9_advance_173 flX9_41 rfl (by omega) (congrArg Prod.fst sh_49) rfl ?_
    obtain ⟨b15, hb15, hf⟩ := bnd hf
    have KTb15 : b15 = true → V g mX9_advance (d + 5) 0 0 n (RT tw dr sk tl ff) I L 231 [some (.ref 49)] [] P := fun hc => by
      replace hf := (if_pos hc).symm.trans hf
      cases hf
      exact V_wk K ⟨rfl, trivial⟩
    have KFb15 : ¬ b15 = true → V g mX9_advance (d + 5) 0 0 n (RT tw dr sk tl ff) I L 194 [some (.ref 49)] [] P := fun hc => by
      replace hf := (if_neg hc).symm.trans hf
      refine V_aload_n (pc := 194) dX9_advance_194 rfl rfl rfl ?_
      refine V_aload_n (pc := 195) dX9_advance_195 rfl rfl rfl ?_
      refine V_getI (pc := 196) dX9_advance_196 flX9_57 rfl (by omega) (congrArg Prod.fst sh_49) rfl ?_
      refine V_bipush (pc := 199) dX9_advance_199 bp_10 rfl ?_
      refine V_imul (pc := 201) dX9_advance_201 rfl ?_
      refine V_aload_n (pc := 202) dX9_advance_202 rfl rfl rfl ?_
      refine V_getR (pc := 203) dX9_advance_203 flX9_15 rfl (by omega) (congrArg Prod.fst sh_49) rt_49_0 rfl ?_
      refine V_aload_n (pc := 206) dX9_advance_206 rfl rfl rfl ?_
      refine V_getI (pc := 207) dX9_advance_207 flX9_44 rfl (by omega) (congrArg Prod.fst sh_49) rfl ?_
      obtain ⟨hc17, hf⟩ := pif hf
      refine V_bald (pc := 210) dX9_advance_210 (by omega) sh_1 hc17 rfl ?_
      refine V_bipush (pc := 211) dX9_advance_211 bp_48 rfl ?_
      refine V_isub (pc := 213) dX9_advance_213 rfl ?_
      refine V_iadd (pc := 214) dX9_advance_214 rfl ?_
      let I18 : HI := up2 I 49 6 (((I 49 6) * (10 : Int32)) + ((I 1 (I 49 3).toNatClampNeg) - (48 : Int32)))
      refine V_putI (pc := 215) dX9_advance_215 flX9_57 rfl rfl (by omega) (congrArg Prod.fst sh_49) rfl ?_
      refine V_aload_n (pc := 218) dX9_advance_218 rfl rfl rfl ?_
      refine V_dup (pc := 219) dX9_advance_219 rfl rfl ?_
      refine V_getI (pc := 220) dX9_advance_220 flX9_44 rfl (by omega) (congrArg Prod.fst sh_49) rfl ?_
      refine V_iconst (pc := 223) dX9_advance_223 ic_1 rfl ?_
      refine V_iadd (pc := 224) dX9_advance_224 rfl ?_
      let I19 : HI := up2 I18 49 3 ((I18 49 3) + (1 : Int32))
      refine V_putI (pc := 225) dX9_advance_225 flX9_44 rfl rfl (by omega) (congrArg Prod.fst sh_49) rfl ?_
      refine V_goto (pc := 228) (tgt := 168) dX9_advance_228 (by decide) ?_
      exact V_wk (ih  _ _ _ hf K) ⟨rfl, trivial⟩
    refine V_icmp_ge (pc := 176) (tgt := 231) dX9_advance_176 (by decide) rfl (fun hc => ?_) (fun hc => ?_)
    · replace hb15 := (if_pos hc).symm.trans hb15
      cases hb15
      exact KTb15 rfl
    · replace hb15 := (if_neg hc).symm.trans hb15
      refine V_aload_n (pc := 179) dX9_advance_179 rfl rfl rfl ?_
      refine V_getR (pc := 180) dX9_advance_180 flX9_15 rfl (by omega) (congrArg Prod.fst sh_49) rt_49_0 rfl ?_
      refine V_aload_n (pc := 183) dX9_advance_183 rfl rfl rfl ?_
      refine V_getI (pc := 184) dX9_advance_184 flX9_44 rfl (by omega) (congrArg Prod.fst sh_49) rfl ?_
      obtain ⟨hc16, hb15⟩ := pif hb15
      refine V_bald (pc := 187) dX9_advance_187 (by omega) sh_1 hc16 rfl ?_
      refine V_cSz (md' := mX9_isDigit) (pc := 188) dX9_advance_188 mlX9_70 mSX9_isDigit (tX9_isDigit rfl) rfl rfl (Nat.le_of_ble_eq_true rfl) rfl ?_
      refine V_if_eq (pc := 191) (tgt := 231) dX9_advance_191 (by decide) rfl (fun hc => ?_) (fun hc => ?_)
      · replace hb15 := (if_pos hc).symm.trans hb15
        cases hb15
        exact KTb15 rfl
      · replace hb15 := (if_neg hc).symm.trans hb15
        cases hb15
        exact KFb15 (nbt rfl)
noncomputable def fX9_advance (I : HI) (L : HL) : Option (HI × HL) :=
  Option.bind (fX9_advance_0 FUEL  I L) fun q5 =>
  let I6 : HI := up2 q5 49 5 (q5 49 3)
  let L7 : HL := up2 L 49 7 (0 : Int64)
  let I8 : HI := up2 I6 49 6 (0 : Int32)
  Option.bind (fX9_advance_70 FUEL  I8 L7) fun q14 =>
  if (q14.1 49 3) ≤ (q14.1 49 5) then
    Option.bind (fX9_advance_168 FUEL  q14.1 q14.2) fun q20 =>
    if (q20 49 3) ≤ (q20 49 5) then
      if (q20 49 3) < (q20 49 2) then
        if inb (q20 49 3) 1600 = true then
          Option.bind (fJ0_indexOf_0f7a4 1 ((((q20 1 (q20 49 3).toNatClampNeg) &&& (255 : Int32)).toUInt32 % 65536).toInt32)) fun q22 =>
          Option.bind (
            if q22 < 0 then
              some (23 : Int32)
            else
              if inb (q20 49 3) 1600 = true then
                some (q20 1 (q20 49 3).toNatClampNeg)
              else none
          ) fun q24 =>
          let I26 : HI := up2 q20 49 4 q24
          let I27 : HI := up2 I26 49 3 ((I26 49 3) + (1 : Int32))
          some (I27, q14.2)
        else none
      else
        let I28 : HI := up2 q20 49 4 (22 : Int32)
        some (I28, q14.2)
    else
      Option.bind (
        Option.bind (
          if (q20 49 2) ≤ (q20 49 3) then
            some true
          else
            if inb (q20 49 3) 1600 = true then
              if (b2i (fX9_isLetter (q20 1 (q20 49 3).toNatClampNeg))) = 0 then
                some true
              else
                some false
            else none
        ) fun b32 =>
        if b32 = true then
          some false
        else
          some true
      ) fun q31 =>
      Option.bind (
        if (4 : Int32) < ((q20 49 3) - (q20 49 5)) then
          some true
        else
          if (b2i q31) = 0 then
            some false
          else
            some true
      ) fun b34 =>
      if b34 = true then
        let I35 : HI := up2 q20 49 4 (23 : Int32)
        some (I35, q14.2)
      else
        let I36 : HI := up2 q20 49 4 (21 : Int32)
        some (I36, q14.2)
  else
    if ((q14.1 49 3) - (q14.1 49 5)) ≤ (8 : Int32) then
      Option.bind (fX9_kindOfWord  q14.2) fun q37 =>
      let I38 : HI := up2 q14.1 49 4 q37
      some (I38, q14.2)
    else
      let I39 : HI := up2 q14.1 49 4 (23 : Int32)
      some (I39, q14.2)
set_option maxRecDepth 100000 in
set_option maxHeartbeats 4000000 in
theorem tX9_advance {g : GG} {n d : Nat} {tw dr sk tl ff : Nat} (hG : RG tw dr sk tl ff) (hn : 116 ≤ n) {I : HI} {L : HL} {res : HI × HL} (hf : fX9_advance I L = some res) : CT g mX9_advance (d + 5) 0 0 n (RT tw dr sk tl ff) I L [.ref 49] (PoV n (RT tw dr sk tl ff) res.1 res.2) := by
  refine CT.of rfl (Nat.le_of_ble_eq_true rfl) ?_
  show V g mX9_advance (d + 5) 0 0 n (RT tw dr sk tl ff) I L 0 [some (.ref 49)] [] (PoV n (RT tw dr sk tl ff) res.1 res.2)
  obtain ⟨q5, hq5, hf⟩ := bnd hf
  refine V_wk (lX9_advance_0 hG hn FUEL _ _ _ hq5 ?_) ⟨rfl, trivial⟩
  refine V_aload_n (pc := 52) dX9_advance_52 rfl rfl rfl ?_
  refine V_aload_n (pc := 53) dX9_advance_53 rfl rfl rfl ?_
  refine V_getI (pc := 54) dX9_advance_54 flX9_44 rfl (by omega) (congrArg Prod.fst sh_49) rfl ?_
  let I6 : HI := up2 q5 49 5 (q5 49 3)
  refine V_putI (pc := 57) dX9_advance_57 flX9_50 rfl rfl (by omega) (congrArg Prod.fst sh_49) rfl ?_
  refine V_aload_n (pc := 60) dX9_advance_60 rfl rfl rfl ?_
  refine V_lconst (pc := 61) dX9_advance_61 lc_0 rfl ?_
  let L7 : HL := up2 L 49 7 (0 : Int64)
  refine V_putL (pc := 62) dX9_advance_62 flX9_53 rfl rfl (by omega) (congrArg Prod.fst sh_49) rfl ?_
  refine V_aload_n (pc := 65) dX9_advance_65 rfl rfl rfl ?_
  refine V_iconst (pc := 66) dX9_advance_66 ic_0 rfl ?_
  let I8 : HI := up2 I6 49 6 (0 : Int32)
  refine V_putI (pc := 67) dX9_advance_67 flX9_57 rfl rfl (by omega) (congrArg Prod.fst sh_49) rfl ?_
  obtain ⟨q14, hq14, hf⟩ := bnd hf
  refine V_wk (lX9_advance_70 hG hn FUEL _ _ _ hq14 ?_) ⟨rfl, trivial⟩
  refine V_aload_n (pc := 129) dX9_advance_129 rfl rfl rfl ?_
  refine V_getI (pc := 130) dX9_advance_130 flX9_44 rfl (by omega) (congrArg Prod.fst sh_49) rfl ?_
  refine V_aload_n (pc := 133) dX9_advance_133 rfl rfl rfl ?_
  refine V_getI (pc := 134) dX9_advance_134 flX9_50 rfl (by omega) (congrArg Prod.fst sh_49) rfl ?_
  refine V_icmp_le (pc := 137) (tgt := 168) dX9_advance_137 (by decide) rfl (fun hc => ?_) (fun hc => ?_)
  · replace hf := (if_pos hc).symm.trans hf
    obtain ⟨q20, hq20, hf⟩ := bnd hf
    refine V_wk (lX9_advance_168 hG hn FUEL _ _ _ hq20 ?_) ⟨rfl, trivial⟩
    refine V_aload_n (pc := 231) dX9_advance_231 rfl rfl rfl ?_
    refine V_getI (pc := 232) dX9_advance_232 flX9_44 rfl (by omega) (congrArg Prod.fst sh_49) rfl ?_
    refine V_aload_n (pc := 235) dX9_advance_235 rfl rfl rfl ?_
    refine V_getI (pc := 236) dX9_advance_236 flX9_50 rfl (by omega) (congrArg Prod.fst sh_49) rfl ?_
    refine V_icmp_le (pc := 239) (tgt := 303) dX9_advance_239 (by decide) rfl (fun hc => ?_) (fun hc => ?_)
    · replace hf := (if_pos hc).symm.trans hf
      refine V_aload_n (pc := 303) dX9_advance_303 rfl rfl rfl ?_
      refine V_getI (pc := 304) dX9_advance_304 flX9_44 rfl (by omega) (congrArg Prod.fst sh_49) rfl ?_
      refine V_aload_n (pc := 307) dX9_advance_307 rfl rfl rfl ?_
      refine V_getI (pc := 308) dX9_advance_308 flX9_41 rfl (by omega) (congrArg Prod.fst sh_49) rfl ?_
      refine V_icmp_lt (pc := 311) (tgt := 321) dX9_advance_311 (by decide) rfl (fun hc => ?_) (fun hc => ?_)
      · replace hf := (if_pos hc).symm.trans hf
        refine V_aload_n (pc := 321) dX9_advance_321 rfl rfl rfl ?_
        refine V_ldcS1 (pc := 322) dX9_advance_322 rfl rfl ?_
        refine V_aload_n (pc := 324) dX9_advance_324 rfl rfl rfl ?_
        refine V_getR (pc := 325) dX9_advance_325 flX9_15 rfl (by omega) (congrArg Prod.fst sh_49) rt_49_0 rfl ?_
        refine V_aload_n (pc := 328) dX9_advance_328 rfl rfl rfl ?_
        refine V_getI (pc := 329) dX9_advance_329 flX9_44 rfl (by omega) (congrArg Prod.fst sh_49) rfl ?_
        obtain ⟨hc21, hf⟩ := pif hf
        refine V_bald (pc := 332) dX9_advance_332 (by omega) sh_1 hc21 rfl ?_
        refine V_sipush (pc := 333) dX9_advance_333 sp_255 rfl ?_
        refine V_iand (pc := 336) dX9_advance_336 rfl ?_
        refine V_i2c (pc := 337) dX9_advance_337 rfl ?_
        obtain ⟨q22, hq22, hf⟩ := bnd hf
        refine V_cXi (md' := mJ0_indexOf_0f7a4) (pc := 338) dX9_advance_338 mlX9_75 mXJ0_indexOf_0f7a4 (tJ0_indexOf_0f7a4 (by decide) hq22) rfl (by decide) rfl (Nat.le_of_ble_eq_true rfl) rfl ?_
        obtain ⟨q24, hq24, hf⟩ := bnd hf
        have Kq24 : V g mX9_advance (d + 5) 0 0 n (RT tw dr sk tl ff) q20 q14.2 358 [some (.ref 49)] [.int q24, .ref 49] (PoV n (RT tw dr sk tl ff) res.1 res.2) := by
          let I26 : HI := up2 q20 49 4 q24
          refine V_putI (pc := 358) dX9_advance_358 flX9_67 rfl rfl (by omega) (congrArg Prod.fst sh_49) rfl ?_
          refine V_aload_n (pc := 361) dX9_advance_361 rfl rfl rfl ?_
          refine V_dup (pc := 362) dX9_advance_362 rfl rfl ?_
          refine V_getI (pc := 363) dX9_advance_363 flX9_44 rfl (by omega) (congrArg Prod.fst sh_49) rfl ?_
          refine V_iconst (pc := 366) dX9_advance_366 ic_1 rfl ?_
          refine V_iadd (pc := 367) dX9_advance_367 rfl ?_
          let I27 : HI := up2 I26 49 3 ((I26 49 3) + (1 : Int32))
          refine V_putI (pc := 368) dX9_advance_368 flX9_44 rfl rfl (by omega) (congrArg Prod.fst sh_49) rfl ?_
          cases hf
          exact V_vret (pc := 371) dX9_advance_371 rfl PoV_mk
        refine V_if_lt (pc := 341) (tgt := 356) dX9_advance_341 (by decide) rfl (fun hc => ?_) (fun hc => ?_)
        · replace hq24 := (if_pos hc).symm.trans hq24
          refine V_bipush (pc := 356) dX9_advance_356 bp_23 rfl ?_
          cases hq24
          exact V_wk Kq24 ⟨rfl, trivial⟩
        · replace hq24 := (if_neg hc).symm.trans hq24
          refine V_aload_n (pc := 344) dX9_advance_344 rfl rfl rfl ?_
          refine V_getR (pc := 345) dX9_advance_345 flX9_15 rfl (by omega) (congrArg Prod.fst sh_49) rt_49_0 rfl ?_
          refine V_aload_n (pc := 348) dX9_advance_348 rfl rfl rfl ?_
          refine V_getI (pc := 349) dX9_advance_349 flX9_44 rfl (by omega) (congrArg Prod.fst sh_49) rfl ?_
          obtain ⟨hc25, hq24⟩ := pif hq24
          refine V_bald (pc := 352) dX9_advance_352 (by omega) sh_1 hc25 rfl ?_
          refine V_goto (pc := 353) (tgt := 358) dX9_advance_353 (by decide) ?_
          cases hq24
          exact V_wk Kq24 ⟨rfl, trivial⟩
      · replace hf := (if_neg hc).symm.trans hf
        refine V_aload_n (pc := 314) dX9_advance_314 rfl rfl rfl ?_
        refine V_bipush (pc := 315) dX9_advance_315 bp_22 rfl ?_
        let I28 : HI := up2 q20 49 4 (22 : Int32)
        refine V_putI (pc := 317) dX9_advance_317 flX9_67 rfl rfl (by omega) (congrArg Prod.fst sh_49) rfl ?_
        cases hf
        exact V_vret (pc := 320) dX9_advance_320 rfl PoV_mk
    · replace hf := (if_neg hc).symm.trans hf
      refine V_aload_n (pc := 242) dX9_advance_242 rfl rfl rfl ?_
      refine V_getI (pc := 243) dX9_advance_243 flX9_44 rfl (by omega) (congrArg Prod.fst sh_49) rfl ?_
      refine V_aload_n (pc := 246) dX9_advance_246 rfl rfl rfl ?_
      refine V_getI (pc := 247) dX9_advance_247 flX9_41 rfl (by omega) (congrArg Prod.fst sh_49) rfl ?_
      obtain ⟨q31, hq31, hf⟩ := bnd hf
      have Kq31 : V g mX9_advance (d + 5) 0 0 n (RT tw dr sk tl ff) q20 q14.2 273 [some (.ref 49)] [.int (b2i q31)] (PoV n (RT tw dr sk tl ff) res.1 res.2) := by
        refine V_istore_n (ls' := [some _, some _]) (pc := 273) dX9_advance_273 rfl (Nat.le_of_ble_eq_true rfl) rfl rfl ?_
        refine V_aload_n (pc := 274) dX9_advance_274 rfl rfl rfl ?_
        refine V_aload_n (pc := 275) dX9_advance_275 rfl rfl rfl ?_
        refine V_getI (pc := 276) dX9_advance_276 flX9_44 rfl (by omega) (congrArg Prod.fst sh_49) rfl ?_
        refine V_aload_n (pc := 279) dX9_advance_279 rfl rfl rfl ?_
        refine V_getI (pc := 280) dX9_advance_280 flX9_50 rfl (by omega) (congrArg Prod.fst sh_49) rfl ?_
        refine V_isub (pc := 283) dX9_advance_283 rfl ?_
        refine V_iconst (pc := 284) dX9_advance_284 ic_4 rfl ?_
        obtain ⟨b34, hb34, hf⟩ := bnd hf
        have KTb34 : b34 = true → V g mX9_advance (d + 5) 0 0 n (RT tw dr sk tl ff) q20 q14.2 292 [some (.ref 49), some (.int (b2i q31))] [.ref 49] (PoV n (RT tw dr sk tl ff) res.1 res.2) := fun hc => by
          replace hf := (if_pos hc).symm.trans hf
          refine V_bipush (pc := 292) dX9_advance_292 bp_23 rfl ?_
          refine V_goto (pc := 294) (tgt := 299) dX9_advance_294 (by decide) ?_
          let I35 : HI := up2 q20 49 4 (23 : Int32)
          refine V_putI (pc := 299) dX9_advance_299 flX9_67 rfl rfl (by omega) (congrArg Prod.fst sh_49) rfl ?_
          cases hf
          exact V_vret (pc := 302) dX9_advance_302 rfl PoV_mk
        have KFb34 : ¬ b34 = true → V g mX9_advance (d + 5) 0 0 n (RT tw dr sk tl ff) q20 q14.2 297 [some (.ref 49), some (.int (b2i q31))] [.ref 49] (PoV n (RT tw dr sk tl ff) res.1 res.2) := fun hc => by
          replace hf := (if_neg hc).symm.trans hf
          refine V_bipush (pc := 297) dX9_advance_297 bp_21 rfl ?_
          let I36 : HI := up2 q20 49 4 (21 : Int32)
          refine V_putI (pc := 299) dX9_advance_299 flX9_67 rfl rfl (by omega) (congrArg Prod.fst sh_49) rfl ?_
          cases hf
          exact V_vret (pc := 302) dX9_advance_302 rfl PoV_mk
        refine V_icmp_gt (pc := 285) (tgt := 292) dX9_advance_285 (by decide) rfl (fun hc => ?_) (fun hc => ?_)
        · replace hb34 := (if_pos hc).symm.trans hb34
          cases hb34
          exact KTb34 rfl
        · replace hb34 := (if_neg hc).symm.trans hb34
          refine V_iload_n (pc := 288) dX9_advance_288 rfl rfl rfl ?_
          refine V_if_eq (pc := 289) (tgt := 297) dX9_advance_289 (by decide) rfl (fun hc => ?_) (fun hc => ?_)
          · replace hb34 := (if_pos hc).symm.trans hb34
            cases hb34
            exact KFb34 (nbt rfl)
          · replace hb34 := (if_neg hc).symm.trans hb34
            cases hb34
            exact KTb34 rfl
      obtain ⟨b32, hb32, hq31⟩ := bnd hq31
      have KTb32 : b32 = true → V g mX9_advance (d + 5) 0 0 n (RT tw dr sk tl ff) q20 q14.2 272 [some (.ref 49)] [] (PoV n (RT tw dr sk tl ff) res.1 res.2) := fun hc => by
        replace hq31 := (if_pos hc).symm.trans hq31
        refine V_iconst (pc := 272) dX9_advance_272 ic_0 rfl ?_
        cases hq31
        exact V_wk Kq31 ⟨rfl, trivial⟩
      have KFb32 : ¬ b32 = true → V g mX9_advance (d + 5) 0 0 n (RT tw dr sk tl ff) q20 q14.2 268 [some (.ref 49)] [] (PoV n (RT tw dr sk tl ff) res.1 res.2) := fun hc => by
        replace hq31 := (if_neg hc).symm.trans hq31
        refine V_iconst (pc := 268) dX9_advance_268 ic_1 rfl ?_
        refine V_goto (pc := 269) (tgt := 273) dX9_advance_269 (by decide) ?_
        cases hq31
        exact V_wk Kq31 ⟨rfl, trivial⟩
      refine V_icmp_ge (pc := 250) (tgt := 272) dX9_advance_250 (by decide) rfl (fun hc => ?_) (fun hc => ?_)
      · replace hb32 := (if_pos hc).symm.trans hb32
        cases hb32
        exact KTb32 rfl
      · replace hb32 := (if_neg hc).symm.trans hb32
        refine V_aload_n (pc := 253) dX9_advance_253 rfl rfl rfl ?_
        refine V_getR (pc := 254) dX9_advance_254 flX9_15 rfl (by omega) (congrArg Prod.fst sh_49) rt_49_0 rfl ?_
        refine V_aload_n (pc := 257) dX9_advance_257 rfl rfl rfl ?_
        refine V_getI (pc := 258) dX9_advance_258 flX9_44 rfl (by omega) (congrArg Prod.fst sh_49) rfl ?_
        obtain ⟨hc33, hb32⟩ := pif hb32
        refine V_bald (pc := 261) dX9_advance_261 (by omega) sh_1 hc33 rfl ?_
        refine V_cSz (md' := mX9_isLetter) (pc := 262) dX9_advance_262 mlX9_60 mSX9_isLetter (tX9_isLetter rfl) rfl rfl (Nat.le_of_ble_eq_true rfl) rfl ?_
        refine V_if_eq (pc := 265) (tgt := 272) dX9_advance_265 (by decide) rfl (fun hc => ?_) (fun hc => ?_)
        · replace hb32 := (if_pos hc).symm.trans hb32
          cases hb32
          exact KTb32 rfl
        · replace hb32 := (if_neg hc).symm.trans hb32
          cases hb32
          exact KFb32 (nbt rfl)
  · replace hf := (if_neg hc).symm.trans hf
    refine V_aload_n (pc := 140) dX9_advance_140 rfl rfl rfl ?_
    refine V_aload_n (pc := 141) dX9_advance_141 rfl rfl rfl ?_
    refine V_getI (pc := 142) dX9_advance_142 flX9_44 rfl (by omega) (congrArg Prod.fst sh_49) rfl ?_
    refine V_aload_n (pc := 145) dX9_advance_145 rfl rfl rfl ?_
    refine V_getI (pc := 146) dX9_advance_146 flX9_50 rfl (by omega) (congrArg Prod.fst sh_49) rfl ?_
    refine V_isub (pc := 149) dX9_advance_149 rfl ?_
    refine V_bipush (pc := 150) dX9_advance_150 bp_8 rfl ?_
    refine V_icmp_le (pc := 152) (tgt := 160) dX9_advance_152 (by decide) rfl (fun hc => ?_) (fun hc => ?_)
    · replace hf := (if_pos hc).symm.trans hf
      refine V_aload_n (pc := 160) dX9_advance_160 rfl rfl rfl ?_
      obtain ⟨q37, hq37, hf⟩ := bnd hf
      refine V_cVi (md' := mX9_kindOfWord) (pc := 161) dX9_advance_161 mlX9_64 mVX9_kindOfWord (tX9_kindOfWord hG hn hq37) rfl (by omega) (congrArg Prod.fst sh_49) rfl (Nat.le_of_ble_eq_true rfl) rfl ?_
      let I38 : HI := up2 q14.1 49 4 q37
      refine V_putI (pc := 164) dX9_advance_164 flX9_67 rfl rfl (by omega) (congrArg Prod.fst sh_49) rfl ?_
      cases hf
      exact V_vret (pc := 167) dX9_advance_167 rfl PoV_mk
    · replace hf := (if_neg hc).symm.trans hf
      refine V_bipush (pc := 155) dX9_advance_155 bp_23 rfl ?_
      refine V_goto (pc := 157) (tgt := 164) dX9_advance_157 (by decide) ?_
      let I39 : HI := up2 q14.1 49 4 (23 : Int32)
      refine V_putI (pc := 164) dX9_advance_164 flX9_67 rfl rfl (by omega) (congrArg Prod.fst sh_49) rfl ?_
      cases hf
      exact V_vret (pc := 167) dX9_advance_167 rfl PoV_mk
/-! ShadowDoors$FormulaReader.readUnit -/
noncomputable def fX2_readUnit (ff : Nat) (E : Int32 → HI → HL → Option (Bool × HI × HL)) (v1 : Int32) (I : HI) (L : HL) : Option (Bool × HI × HL) :=
  if (I ff 3) < (30 : Int32) then
    if (I 49 4) = (16 : Int32) then
      Option.bind (fX1_addUnit ff (I 49 4) I) fun q2 =>
      Option.bind (fX9_advance  q2 L) fun q3 =>
      some (true, q3.1, q3.2)
    else
      if (I 49 4) = (17 : Int32) then
        Option.bind (fX1_addUnit ff (I 49 4) I) fun q5 =>
        Option.bind (fX9_advance  q5 L) fun q6 =>
        some (true, q6.1, q6.2)
      else
        if (I 49 4) = (18 : Int32) then
          Option.bind (fX1_addUnit ff (I 49 4) I) fun q8 =>
          Option.bind (fX9_advance  q8 L) fun q9 =>
          some (true, q9.1, q9.2)
        else
          if (I 49 4) = (21 : Int32) then
            Option.bind (fX1_addNumber ff (I 49 6) I) fun q11 =>
            Option.bind (fX9_advance  q11 L) fun q12 =>
            some (true, q12.1, q12.2)
          else
            if (I 49 4) = (40 : Int32) then
              if v1 < (7 : Int32) then
                let I14 : HI := up2 I ff 3 ((I ff 3) + (1 : Int32))
                Option.bind (fX9_advance  I14 L) fun q15 =>
                Option.bind (E (v1 + (1 : Int32)) q15.1 q15.2) fun q16 =>
                Option.bind (
                  if (b2i q16.1) = 0 then
                    some true
                  else
                    if (q16.2.1 49 4) = (41 : Int32) then
                      some false
                    else
                      some true
                ) fun b17 =>
                if b17 = true then
                  some (false, q16.2.1, q16.2.2)
                else
                  Option.bind (fX9_advance  q16.2.1 q16.2.2) fun q18 =>
                  some (true, q18.1, q18.2)
              else
                some (false, I, L)
            else
              some (false, I, L)
  else
    some (false, I, L)
set_option maxRecDepth 100000 in
set_option maxHeartbeats 4000000 in
theorem tX2_readUnit {g : GG} {n d e : Nat} {tw dr sk tl ff : Nat} {E : Int32 → HI → HL → Option (Bool × HI × HL)} (hG : RG tw dr sk tl ff) (hn : 116 ≤ n) (hff : isF ff) (hE : ∀ {d : Nat} {a : Int32} {I : HI} {L : HL} {res : Bool × HI × HL}, E a I L = some res → CT g mX2_readEither (e + d + 8) 0 0 n (RT tw dr sk tl ff) I L [.ref 51, .int a] (PoB n (RT tw dr sk tl ff) res.1 res.2.1 res.2.2)) {v1 : Int32} {I : HI} {L : HL} {res : Bool × HI × HL} (hf : fX2_readUnit ff E v1 I L = some res) : CT g mX2_readUnit (e + d + 9) 0 0 n (RT tw dr sk tl ff) I L [.ref 51, .int v1] (PoB n (RT tw dr sk tl ff) res.1 res.2.1 res.2.2) := by
  refine CT.of rfl (Nat.le_of_ble_eq_true rfl) ?_
  show V g mX2_readUnit (e + d + 9) 0 0 n (RT tw dr sk tl ff) I L 0 [some (.ref 51), some (.int v1)] [] (PoB n (RT tw dr sk tl ff) res.1 res.2.1 res.2.2)
  refine V_aload_n (pc := 0) dX2_readUnit_0 rfl rfl rfl ?_
  refine V_getR (pc := 1) dX2_readUnit_1 flX2_15 rfl (by omega) (congrArg Prod.fst sh_51) rt_51_1 rfl ?_
  refine V_getI (pc := 4) dX2_readUnit_4 flX2_53 rfl (by omega) (congrArg Prod.fst (shF hff)) rfl ?_
  refine V_bipush (pc := 7) dX2_readUnit_7 bp_30 rfl ?_
  refine V_icmp_lt (pc := 9) (tgt := 14) dX2_readUnit_9 (by decide) rfl (fun hc => ?_) (fun hc => ?_)
  · replace hf := (if_pos hc).symm.trans hf
    refine V_aload_n (pc := 14) dX2_readUnit_14 rfl rfl rfl ?_
    refine V_getR (pc := 15) dX2_readUnit_15 flX2_9 rfl (by omega) (congrArg Prod.fst sh_51) rt_51_0 rfl ?_
    refine V_getI (pc := 18) dX2_readUnit_18 flX2_26 rfl (by omega) (congrArg Prod.fst sh_49) rfl ?_
    by_cases hc1 : (I 49 4) = (16 : Int32)
    · replace hf := (if_pos hc1).symm.trans hf
      refine V_lsw (off := 68) (pc := 21) (tgt := 89) dX2_readUnit_21 (by decide) (by rw [hc1]; first | done | rfl) (by decide) ?_
      refine V_aload_n (pc := 89) dX2_readUnit_89 rfl rfl rfl ?_
      refine V_getR (pc := 90) dX2_readUnit_90 flX2_15 rfl (by omega) (congrArg Prod.fst sh_51) rt_51_1 rfl ?_
      refine V_aload_n (pc := 93) dX2_readUnit_93 rfl rfl rfl ?_
      refine V_getR (pc := 94) dX2_readUnit_94 flX2_9 rfl (by omega) (congrArg Prod.fst sh_51) rt_51_0 rfl ?_
      refine V_getI (pc := 97) dX2_readUnit_97 flX2_26 rfl (by omega) (congrArg Prod.fst sh_49) rfl ?_
      obtain ⟨q2, hq2, hf⟩ := bnd hf
      refine V_cVv (md' := mX1_addUnit) (pc := 100) dX2_readUnit_100 mlX2_62 mVX1_addUnit (tX1_addUnit hff (rF_RT hff) (by omega) hq2) rfl (by omega) (congrArg Prod.fst (shF hff)) rfl (Nat.le_of_ble_eq_true rfl) rfl ?_
      refine V_goto (pc := 103) (tgt := 160) dX2_readUnit_103 (by decide) ?_
      refine V_aload_n (pc := 160) dX2_readUnit_160 rfl rfl rfl ?_
      refine V_getR (pc := 161) dX2_readUnit_161 flX2_9 rfl (by omega) (congrArg Prod.fst sh_51) rt_51_0 rfl ?_
      obtain ⟨q3, hq3, hf⟩ := bnd hf
      refine V_cVv (md' := mX9_advance) (pc := 164) dX2_readUnit_164 mlX2_32 mVX9_advance (tX9_advance hG hn hq3) rfl (by omega) (congrArg Prod.fst sh_49) rfl (Nat.le_of_ble_eq_true rfl) rfl ?_
      refine V_iconst (pc := 167) dX2_readUnit_167 ic_1 rfl ?_
      cases hf
      exact V_zretE (pc := 168) dX2_readUnit_168 rfl (show (1 : Int32) = b2i true from rfl) PoB_mk
    · replace hf := (if_neg hc1).symm.trans hf
      by_cases hc4 : (I 49 4) = (17 : Int32)
      · replace hf := (if_pos hc4).symm.trans hf
        refine V_lsw (off := 68) (pc := 21) (tgt := 89) dX2_readUnit_21 (by decide) (by rw [hc4]; first | done | rfl) (by decide) ?_
        refine V_aload_n (pc := 89) dX2_readUnit_89 rfl rfl rfl ?_
        refine V_getR (pc := 90) dX2_readUnit_90 flX2_15 rfl (by omega) (congrArg Prod.fst sh_51) rt_51_1 rfl ?_
        refine V_aload_n (pc := 93) dX2_readUnit_93 rfl rfl rfl ?_
        refine V_getR (pc := 94) dX2_readUnit_94 flX2_9 rfl (by omega) (congrArg Prod.fst sh_51) rt_51_0 rfl ?_
        refine V_getI (pc := 97) dX2_readUnit_97 flX2_26 rfl (by omega) (congrArg Prod.fst sh_49) rfl ?_
        obtain ⟨q5, hq5, hf⟩ := bnd hf
        refine V_cVv (md' := mX1_addUnit) (pc := 100) dX2_readUnit_100 mlX2_62 mVX1_addUnit (tX1_addUnit hff (rF_RT hff) (by omega) hq5) rfl (by omega) (congrArg Prod.fst (shF hff)) rfl (Nat.le_of_ble_eq_true rfl) rfl ?_
        refine V_goto (pc := 103) (tgt := 160) dX2_readUnit_103 (by decide) ?_
        refine V_aload_n (pc := 160) dX2_readUnit_160 rfl rfl rfl ?_
        refine V_getR (pc := 161) dX2_readUnit_161 flX2_9 rfl (by omega) (congrArg Prod.fst sh_51) rt_51_0 rfl ?_
        obtain ⟨q6, hq6, hf⟩ := bnd hf
        refine V_cVv (md' := mX9_advance) (pc := 164) dX2_readUnit_164 mlX2_32 mVX9_advance (tX9_advance hG hn hq6) rfl (by omega) (congrArg Prod.fst sh_49) rfl (Nat.le_of_ble_eq_true rfl) rfl ?_
        refine V_iconst (pc := 167) dX2_readUnit_167 ic_1 rfl ?_
        cases hf
        exact V_zretE (pc := 168) dX2_readUnit_168 rfl (show (1 : Int32) = b2i true from rfl) PoB_mk
      · replace hf := (if_neg hc4).symm.trans hf
        by_cases hc7 : (I 49 4) = (18 : Int32)
        · replace hf := (if_pos hc7).symm.trans hf
          refine V_lsw (off := 68) (pc := 21) (tgt := 89) dX2_readUnit_21 (by decide) (by rw [hc7]; first | done | rfl) (by decide) ?_
          refine V_aload_n (pc := 89) dX2_readUnit_89 rfl rfl rfl ?_
          refine V_getR (pc := 90) dX2_readUnit_90 flX2_15 rfl (by omega) (congrArg Prod.fst sh_51) rt_51_1 rfl ?_
          refine V_aload_n (pc := 93) dX2_readUnit_93 rfl rfl rfl ?_
          refine V_getR (pc := 94) dX2_readUnit_94 flX2_9 rfl (by omega) (congrArg Prod.fst sh_51) rt_51_0 rfl ?_
          refine V_getI (pc := 97) dX2_readUnit_97 flX2_26 rfl (by omega) (congrArg Prod.fst sh_49) rfl ?_
          obtain ⟨q8, hq8, hf⟩ := bnd hf
          refine V_cVv (md' := mX1_addUnit) (pc := 100) dX2_readUnit_100 mlX2_62 mVX1_addUnit (tX1_addUnit hff (rF_RT hff) (by omega) hq8) rfl (by omega) (congrArg Prod.fst (shF hff)) rfl (Nat.le_of_ble_eq_true rfl) rfl ?_
          refine V_goto (pc := 103) (tgt := 160) dX2_readUnit_103 (by decide) ?_
          refine V_aload_n (pc := 160) dX2_readUnit_160 rfl rfl rfl ?_
          refine V_getR (pc := 161) dX2_readUnit_161 flX2_9 rfl (by omega) (congrArg Prod.fst sh_51) rt_51_0 rfl ?_
          obtain ⟨q9, hq9, hf⟩ := bnd hf
          refine V_cVv (md' := mX9_advance) (pc := 164) dX2_readUnit_164 mlX2_32 mVX9_advance (tX9_advance hG hn hq9) rfl (by omega) (congrArg Prod.fst sh_49) rfl (Nat.le_of_ble_eq_true rfl) rfl ?_
          refine V_iconst (pc := 167) dX2_readUnit_167 ic_1 rfl ?_
          cases hf
          exact V_zretE (pc := 168) dX2_readUnit_168 rfl (show (1 : Int32) = b2i true from rfl) PoB_mk
        · replace hf := (if_neg hc7).symm.trans hf
          by_cases hc10 : (I 49 4) = (21 : Int32)
          · replace hf := (if_pos hc10).symm.trans hf
            refine V_lsw (off := 51) (pc := 21) (tgt := 72) dX2_readUnit_21 (by decide) (by rw [hc10]; first | done | rfl) (by decide) ?_
            refine V_aload_n (pc := 72) dX2_readUnit_72 rfl rfl rfl ?_
            refine V_getR (pc := 73) dX2_readUnit_73 flX2_15 rfl (by omega) (congrArg Prod.fst sh_51) rt_51_1 rfl ?_
            refine V_aload_n (pc := 76) dX2_readUnit_76 rfl rfl rfl ?_
            refine V_getR (pc := 77) dX2_readUnit_77 flX2_9 rfl (by omega) (congrArg Prod.fst sh_51) rt_51_0 rfl ?_
            refine V_getI (pc := 80) dX2_readUnit_80 flX2_56 rfl (by omega) (congrArg Prod.fst sh_49) rfl ?_
            obtain ⟨q11, hq11, hf⟩ := bnd hf
            refine V_cVv (md' := mX1_addNumber) (pc := 83) dX2_readUnit_83 mlX2_59 mVX1_addNumber (tX1_addNumber hff (rF_RT hff) (by omega) hq11) rfl (by omega) (congrArg Prod.fst (shF hff)) rfl (Nat.le_of_ble_eq_true rfl) rfl ?_
            refine V_goto (pc := 86) (tgt := 160) dX2_readUnit_86 (by decide) ?_
            refine V_aload_n (pc := 160) dX2_readUnit_160 rfl rfl rfl ?_
            refine V_getR (pc := 161) dX2_readUnit_161 flX2_9 rfl (by omega) (congrArg Prod.fst sh_51) rt_51_0 rfl ?_
            obtain ⟨q12, hq12, hf⟩ := bnd hf
            refine V_cVv (md' := mX9_advance) (pc := 164) dX2_readUnit_164 mlX2_32 mVX9_advance (tX9_advance hG hn hq12) rfl (by omega) (congrArg Prod.fst sh_49) rfl (Nat.le_of_ble_eq_true rfl) rfl ?_
            refine V_iconst (pc := 167) dX2_readUnit_167 ic_1 rfl ?_
            cases hf
            exact V_zretE (pc := 168) dX2_readUnit_168 rfl (show (1 : Int32) = b2i true from rfl) PoB_mk
          · replace hf := (if_neg hc10).symm.trans hf
            by_cases hc13 : (I 49 4) = (40 : Int32)
            · replace hf := (if_pos hc13).symm.trans hf
              refine V_lsw (off := 85) (pc := 21) (tgt := 106) dX2_readUnit_21 (by decide) (by rw [hc13]; first | done | rfl) (by decide) ?_
              refine V_iload_n (pc := 106) dX2_readUnit_106 rfl rfl rfl ?_
              refine V_bipush (pc := 107) dX2_readUnit_107 bp_7 rfl ?_
              refine V_icmp_lt (pc := 109) (tgt := 114) dX2_readUnit_109 (by decide) rfl (fun hc => ?_) (fun hc => ?_)
              · replace hf := (if_pos hc).symm.trans hf
                refine V_aload_n (pc := 114) dX2_readUnit_114 rfl rfl rfl ?_
                refine V_getR (pc := 115) dX2_readUnit_115 flX2_15 rfl (by omega) (congrArg Prod.fst sh_51) rt_51_1 rfl ?_
                refine V_dup (pc := 118) dX2_readUnit_118 rfl rfl ?_
                refine V_getI (pc := 119) dX2_readUnit_119 flX2_53 rfl (by omega) (congrArg Prod.fst (shF hff)) rfl ?_
                refine V_iconst (pc := 122) dX2_readUnit_122 ic_1 rfl ?_
                refine V_iadd (pc := 123) dX2_readUnit_123 rfl ?_
                let I14 : HI := up2 I ff 3 ((I ff 3) + (1 : Int32))
                refine V_putI (pc := 124) dX2_readUnit_124 flX2_53 rfl rfl (by omega) (congrArg Prod.fst (shF hff)) rfl ?_
                refine V_aload_n (pc := 127) dX2_readUnit_127 rfl rfl rfl ?_
                refine V_getR (pc := 128) dX2_readUnit_128 flX2_9 rfl (by omega) (congrArg Prod.fst sh_51) rt_51_0 rfl ?_
                obtain ⟨q15, hq15, hf⟩ := bnd hf
                refine V_cVv (md' := mX9_advance) (pc := 131) dX2_readUnit_131 mlX2_32 mVX9_advance (tX9_advance hG hn hq15) rfl (by omega) (congrArg Prod.fst sh_49) rfl (Nat.le_of_ble_eq_true rfl) rfl ?_
                refine V_aload_n (pc := 134) dX2_readUnit_134 rfl rfl rfl ?_
                refine V_iload_n (pc := 135) dX2_readUnit_135 rfl rfl rfl ?_
                refine V_iconst (pc := 136) dX2_readUnit_136 ic_1 rfl ?_
                refine V_iadd (pc := 137) dX2_readUnit_137 rfl ?_
                obtain ⟨q16, hq16, hf⟩ := bnd hf
                refine V_cVz (md' := mX2_readEither) (pc := 138) dX2_readUnit_138 mlX2_19 mVX2_readEither (hE hq16) rfl (by omega) (congrArg Prod.fst sh_51) rfl (Nat.le_of_ble_eq_true rfl) rfl ?_
                obtain ⟨b17, hb17, hf⟩ := bnd hf
                have KTb17 : b17 = true → V g mX2_readUnit (e + d + 9) 0 0 n (RT tw dr sk tl ff) q16.2.1 q16.2.2 156 [some (.ref 51), some (.int v1)] [] (PoB n (RT tw dr sk tl ff) res.1 res.2.1 res.2.2) := fun hc => by
                  replace hf := (if_pos hc).symm.trans hf
                  refine V_iconst (pc := 156) dX2_readUnit_156 ic_0 rfl ?_
                  cases hf
                  exact V_zretE (pc := 157) dX2_readUnit_157 rfl (show (0 : Int32) = b2i false from rfl) PoB_mk
                have KFb17 : ¬ b17 = true → V g mX2_readUnit (e + d + 9) 0 0 n (RT tw dr sk tl ff) q16.2.1 q16.2.2 160 [some (.ref 51), some (.int v1)] [] (PoB n (RT tw dr sk tl ff) res.1 res.2.1 res.2.2) := fun hc => by
                  replace hf := (if_neg hc).symm.trans hf
                  refine V_aload_n (pc := 160) dX2_readUnit_160 rfl rfl rfl ?_
                  refine V_getR (pc := 161) dX2_readUnit_161 flX2_9 rfl (by omega) (congrArg Prod.fst sh_51) rt_51_0 rfl ?_
                  obtain ⟨q18, hq18, hf⟩ := bnd hf
                  refine V_cVv (md' := mX9_advance) (pc := 164) dX2_readUnit_164 mlX2_32 mVX9_advance (tX9_advance hG hn hq18) rfl (by omega) (congrArg Prod.fst sh_49) rfl (Nat.le_of_ble_eq_true rfl) rfl ?_
                  refine V_iconst (pc := 167) dX2_readUnit_167 ic_1 rfl ?_
                  cases hf
                  exact V_zretE (pc := 168) dX2_readUnit_168 rfl (show (1 : Int32) = b2i true from rfl) PoB_mk
                refine V_if_eq (pc := 141) (tgt := 156) dX2_readUnit_141 (by decide) rfl (fun hc => ?_) (fun hc => ?_)
                · replace hb17 := (if_pos hc).symm.trans hb17
                  cases hb17
                  exact KTb17 rfl
                · replace hb17 := (if_neg hc).symm.trans hb17
                  refine V_aload_n (pc := 144) dX2_readUnit_144 rfl rfl rfl ?_
                  refine V_getR (pc := 145) dX2_readUnit_145 flX2_9 rfl (by omega) (congrArg Prod.fst sh_51) rt_51_0 rfl ?_
                  refine V_getI (pc := 148) dX2_readUnit_148 flX2_26 rfl (by omega) (congrArg Prod.fst sh_49) rfl ?_
                  refine V_bipush (pc := 151) dX2_readUnit_151 bp_41 rfl ?_
                  refine V_icmp_eq (pc := 153) (tgt := 160) dX2_readUnit_153 (by decide) rfl (fun hc => ?_) (fun hc => ?_)
                  · replace hb17 := (if_pos hc).symm.trans hb17
                    cases hb17
                    exact KFb17 (nbt rfl)
                  · replace hb17 := (if_neg hc).symm.trans hb17
                    cases hb17
                    exact KTb17 rfl
              · replace hf := (if_neg hc).symm.trans hf
                refine V_iconst (pc := 112) dX2_readUnit_112 ic_0 rfl ?_
                cases hf
                exact V_zretE (pc := 113) dX2_readUnit_113 rfl (show (0 : Int32) = b2i false from rfl) PoB_mk
            · replace hf := (if_neg hc13).symm.trans hf
              have KD19 : V g mX2_readUnit (e + d + 9) 0 0 n (RT tw dr sk tl ff) I L 158 [some (.ref 51), some (.int v1)] [] (PoB n (RT tw dr sk tl ff) res.1 res.2.1 res.2.2) := by
                refine V_iconst (pc := 158) dX2_readUnit_158 ic_0 rfl ?_
                cases hf
                exact V_zretE (pc := 159) dX2_readUnit_159 rfl (show (0 : Int32) = b2i false from rfl) PoB_mk
              refine V_lsw (off := 137) (pc := 21) (tgt := 158) dX2_readUnit_21 (by decide) (by have e0 := swn (k := (16 : Int32)) (z := 16) hc1 rfl; have e1 := swn (k := (17 : Int32)) (z := 17) hc4 rfl; have e2 := swn (k := (18 : Int32)) (z := 18) hc7 rfl; have e3 := swn (k := (21 : Int32)) (z := 21) hc10 rfl; have e4 := swn (k := (40 : Int32)) (z := 40) hc13 rfl; simp only [Op.lookupswitch.offset_cons, Op.lookupswitch.offset_nil]; rw [if_neg (fun z => e0 z.symm)]; rw [if_neg (fun z => e1 z.symm)]; rw [if_neg (fun z => e2 z.symm)]; rw [if_neg (fun z => e3 z.symm)]; rw [if_neg (fun z => e4 z.symm)]) (by decide) KD19
  · replace hf := (if_neg hc).symm.trans hf
    refine V_iconst (pc := 12) dX2_readUnit_12 ic_0 rfl ?_
    cases hf
    exact V_zretE (pc := 13) dX2_readUnit_13 rfl (show (0 : Int32) = b2i false from rfl) PoB_mk
/-! ShadowDoors$FormulaReader.readTerm -/
noncomputable def fX2_readTerm_8 (ff : Nat) (E : Int32 → HI → HL → Option (Bool × HI × HL)) : Nat → Int32 → Int32 → Int32 → HI → HL → Option (Bool × HI × HL)
  | 0, _, _, _, _, _ => none
  | fu + 1, y1, y2, y3, I, L =>
    Option.bind (
      if (30 : Int32) ≤ y3 then
        some true
      else
        if y2 = 0 then
          some true
        else
          some false
    ) fun b2 =>
    if b2 = true then
      Option.bind (i2b y2) fun b3 =>
      some (b3, I, L)
    else
      Option.bind (
        if (I 49 4) = (42 : Int32) then
          some true
        else
          if (I 49 4) = (47 : Int32) then
            some true
          else
            if (I 49 4) = (37 : Int32) then
              some true
            else
              some false
      ) fun b4 =>
      if b4 = true then
        Option.bind (fX9_advance  I L) fun q5 =>
        Option.bind (fX2_readUnit ff E y1 q5.1 q5.2) fun q6 =>
        Option.bind (fX1_addDeed ff (I 49 4) q6.2.1) fun q7 =>
        fX2_readTerm_8 ff E fu y1 (b2i q6.1) (y3 + (1 : Int32)) q7 q6.2.2
      else
        Option.bind (i2b y2) fun b8 =>
        some (b8, I, L)
set_option maxRecDepth 100000 in
set_option maxHeartbeats 4000000 in
theorem lX2_readTerm_8 {g : GG} {n d e : Nat} {tw dr sk tl ff : Nat} {E : Int32 → HI → HL → Option (Bool × HI × HL)} (hG : RG tw dr sk tl ff) (hn : 116 ≤ n) (hff : isF ff) (hE : ∀ {d : Nat} {a : Int32} {I : HI} {L : HL} {res : Bool × HI × HL}, E a I L = some res → CT g mX2_readEither (e + d + 8) 0 0 n (RT tw dr sk tl ff) I L [.ref 51, .int a] (PoB n (RT tw dr sk tl ff) res.1 res.2.1 res.2.2)) {P : PP} : ∀ (fu : Nat) (y1 : Int32) (y2 : Int32) (y3 : Int32) (I : HI) (L : HL) (res : Bool × HI × HL), fX2_readTerm_8 ff E fu y1 y2 y3 I L = some res → P (some (.int (b2i res.1))) n (RT tw dr sk tl ff) res.2.1 res.2.2 → V g mX2_readTerm (e + d + 10) 0 0 n (RT tw dr sk tl ff) I L 8 [some (.ref 51), some (.int y1), some (.int y2), some (.int y3)] [] P := by
  intro fu
  induction fu with
  | zero => intro y1 y2 y3 I L res hf; cases (show none = some res from hf)
  | succ fu ih =>
    intro y1 y2 y3 I L res hf K
    refine V_iload_n (pc := 8) dX2_readTerm_8 rfl rfl rfl ?_
    refine V_bipush (pc := 9) dX2_readTerm_9 bp_30 rfl ?_
    obtain ⟨b2, hb2, hf⟩ := bnd hf
    have KTb2 : b2 = true → V g mX2_readTerm (e + d + 10) 0 0 n (RT tw dr sk tl ff) I L 79 [some (.ref 51), some (.int y1), some (.int y2), some (.int y3)] [] P := fun hc => by
      replace hf := (if_pos hc).symm.trans hf
      refine V_iload_n (pc := 79) dX2_readTerm_79 rfl rfl rfl ?_
      obtain ⟨b3, hb3, hf⟩ := bnd hf
      cases hf
      exact V_zretE (pc := 80) dX2_readTerm_80 rfl (i2b_eq hb3) K
    have KFb2 : ¬ b2 = true → V g mX2_readTerm (e + d + 10) 0 0 n (RT tw dr sk tl ff) I L 18 [some (.ref 51), some (.int y1), some (.int y2), some (.int y3)] [] P := fun hc => by
      replace hf := (if_neg hc).symm.trans hf
      refine V_aload_n (pc := 18) dX2_readTerm_18 rfl rfl rfl ?_
      refine V_getR (pc := 19) dX2_readTerm_19 flX2_9 rfl (by omega) (congrArg Prod.fst sh_51) rt_51_0 rfl ?_
      refine V_getI (pc := 22) dX2_readTerm_22 flX2_26 rfl (by omega) (congrArg Prod.fst sh_49) rfl ?_
      refine V_istore (ls' := [some _, some _, some _, some _, some _]) (pc := 25) dX2_readTerm_25 (Nat.le_of_ble_eq_true rfl) rfl rfl ?_
      refine V_iload (pc := 27) dX2_readTerm_27 rfl rfl ?_
      refine V_bipush (pc := 29) dX2_readTerm_29 bp_42 rfl ?_
      obtain ⟨b4, hb4, hf⟩ := bnd hf
      have KTb4 : b4 = true → V g mX2_readTerm (e + d + 10) 0 0 n (RT tw dr sk tl ff) I L 51 [some (.ref 51), some (.int y1), some (.int y2), some (.int y3), some (.int (I 49 4))] [] P := fun hc => by
        replace hf := (if_pos hc).symm.trans hf
        refine V_aload_n (pc := 51) dX2_readTerm_51 rfl rfl rfl ?_
        refine V_getR (pc := 52) dX2_readTerm_52 flX2_9 rfl (by omega) (congrArg Prod.fst sh_51) rt_51_0 rfl ?_
        obtain ⟨q5, hq5, hf⟩ := bnd hf
        refine V_cVv (md' := mX9_advance) (pc := 55) dX2_readTerm_55 mlX2_32 mVX9_advance (tX9_advance hG hn hq5) rfl (by omega) (congrArg Prod.fst sh_49) rfl (Nat.le_of_ble_eq_true rfl) rfl ?_
        refine V_aload_n (pc := 58) dX2_readTerm_58 rfl rfl rfl ?_
        refine V_iload_n (pc := 59) dX2_readTerm_59 rfl rfl rfl ?_
        obtain ⟨q6, hq6, hf⟩ := bnd hf
        refine V_cVz (md' := mX2_readUnit) (pc := 60) dX2_readTerm_60 mlX2_50 mVX2_readUnit (tX2_readUnit hG hn hff hE hq6) rfl (by omega) (congrArg Prod.fst sh_51) rfl (Nat.le_of_ble_eq_true rfl) rfl ?_
        refine V_istore_n (ls' := [some _, some _, some _, some _, some _]) (pc := 63) dX2_readTerm_63 rfl (Nat.le_of_ble_eq_true rfl) rfl rfl ?_
        refine V_aload_n (pc := 64) dX2_readTerm_64 rfl rfl rfl ?_
        refine V_getR (pc := 65) dX2_readTerm_65 flX2_15 rfl (by omega) (congrArg Prod.fst sh_51) rt_51_1 rfl ?_
        refine V_iload (pc := 68) dX2_readTerm_68 rfl rfl ?_
        obtain ⟨q7, hq7, hf⟩ := bnd hf
        refine V_cVv (md' := mX1_addDeed) (pc := 70) dX2_readTerm_70 mlX2_35 mVX1_addDeed (tX1_addDeed hff (rF_RT hff) (by omega) hq7) rfl (by omega) (congrArg Prod.fst (shF hff)) rfl (Nat.le_of_ble_eq_true rfl) rfl ?_
        refine V_iinc (ls' := [some _, some _, some _, some _, some _]) (pc := 73) dX2_readTerm_73 rfl (Nat.le_of_ble_eq_true rfl) (congrArg _ ic_1) rfl rfl ?_
        refine V_goto (pc := 76) (tgt := 8) dX2_readTerm_76 (by decide) ?_
        exact V_wk (ih _ _ _ _ _ _ hf K) ⟨rfl, ⟨rfl, ⟨rfl, ⟨rfl, trivial⟩⟩⟩⟩
      have KFb4 : ¬ b4 = true → V g mX2_readTerm (e + d + 10) 0 0 n (RT tw dr sk tl ff) I L 48 [some (.ref 51), some (.int y1), some (.int y2), some (.int y3), some (.int (I 49 4))] [] P := fun hc => by
        replace hf := (if_neg hc).symm.trans hf
        refine V_goto (pc := 48) (tgt := 79) dX2_readTerm_48 (by decide) ?_
        refine V_iload_n (pc := 79) dX2_readTerm_79 rfl rfl rfl ?_
        obtain ⟨b8, hb8, hf⟩ := bnd hf
        cases hf
        exact V_zretE (pc := 80) dX2_readTerm_80 rfl (i2b_eq hb8) K
      refine V_icmp_eq (pc := 31) (tgt := 51) dX2_readTerm_31 (by decide) rfl (fun hc => ?_) (fun hc => ?_)
      · replace hb4 := (if_pos hc).symm.trans hb4
        cases hb4
        exact KTb4 rfl
      · replace hb4 := (if_neg hc).symm.trans hb4
        refine V_iload (pc := 34) dX2_readTerm_34 rfl rfl ?_
        refine V_bipush (pc := 36) dX2_readTerm_36 bp_47 rfl ?_
        refine V_icmp_eq (pc := 38) (tgt := 51) dX2_readTerm_38 (by decide) rfl (fun hc => ?_) (fun hc => ?_)
        · replace hb4 := (if_pos hc).symm.trans hb4
          cases hb4
          exact KTb4 rfl
        · replace hb4 := (if_neg hc).symm.trans hb4
          refine V_iload (pc := 41) dX2_readTerm_41 rfl rfl ?_
          refine V_bipush (pc := 43) dX2_readTerm_43 bp_37 rfl ?_
          refine V_icmp_eq (pc := 45) (tgt := 51) dX2_readTerm_45 (by decide) rfl (fun hc => ?_) (fun hc => ?_)
          · replace hb4 := (if_pos hc).symm.trans hb4
            cases hb4
            exact KTb4 rfl
          · replace hb4 := (if_neg hc).symm.trans hb4
            cases hb4
            exact KFb4 (nbt rfl)
    refine V_icmp_ge (pc := 11) (tgt := 79) dX2_readTerm_11 (by decide) rfl (fun hc => ?_) (fun hc => ?_)
    · replace hb2 := (if_pos hc).symm.trans hb2
      cases hb2
      exact KTb2 rfl
    · replace hb2 := (if_neg hc).symm.trans hb2
      refine V_iload_n (pc := 14) dX2_readTerm_14 rfl rfl rfl ?_
      refine V_if_eq (pc := 15) (tgt := 79) dX2_readTerm_15 (by decide) rfl (fun hc => ?_) (fun hc => ?_)
      · replace hb2 := (if_pos hc).symm.trans hb2
        cases hb2
        exact KTb2 rfl
      · replace hb2 := (if_neg hc).symm.trans hb2
        cases hb2
        exact KFb2 (nbt rfl)
noncomputable def fX2_readTerm (ff : Nat) (E : Int32 → HI → HL → Option (Bool × HI × HL)) (v1 : Int32) (I : HI) (L : HL) : Option (Bool × HI × HL) :=
  Option.bind (fX2_readUnit ff E v1 I L) fun q1 =>
  Option.bind (fX2_readTerm_8 ff E FUEL v1 (b2i q1.1) (0 : Int32) q1.2.1 q1.2.2) fun q9 =>
  some (q9.1, q9.2.1, q9.2.2)
set_option maxRecDepth 100000 in
set_option maxHeartbeats 4000000 in
theorem tX2_readTerm {g : GG} {n d e : Nat} {tw dr sk tl ff : Nat} {E : Int32 → HI → HL → Option (Bool × HI × HL)} (hG : RG tw dr sk tl ff) (hn : 116 ≤ n) (hff : isF ff) (hE : ∀ {d : Nat} {a : Int32} {I : HI} {L : HL} {res : Bool × HI × HL}, E a I L = some res → CT g mX2_readEither (e + d + 8) 0 0 n (RT tw dr sk tl ff) I L [.ref 51, .int a] (PoB n (RT tw dr sk tl ff) res.1 res.2.1 res.2.2)) {v1 : Int32} {I : HI} {L : HL} {res : Bool × HI × HL} (hf : fX2_readTerm ff E v1 I L = some res) : CT g mX2_readTerm (e + d + 10) 0 0 n (RT tw dr sk tl ff) I L [.ref 51, .int v1] (PoB n (RT tw dr sk tl ff) res.1 res.2.1 res.2.2) := by
  refine CT.of rfl (Nat.le_of_ble_eq_true rfl) ?_
  show V g mX2_readTerm (e + d + 10) 0 0 n (RT tw dr sk tl ff) I L 0 [some (.ref 51), some (.int v1)] [] (PoB n (RT tw dr sk tl ff) res.1 res.2.1 res.2.2)
  refine V_aload_n (pc := 0) dX2_readTerm_0 rfl rfl rfl ?_
  refine V_iload_n (pc := 1) dX2_readTerm_1 rfl rfl rfl ?_
  obtain ⟨q1, hq1, hf⟩ := bnd hf
  refine V_cVz (md' := mX2_readUnit) (pc := 2) dX2_readTerm_2 mlX2_50 mVX2_readUnit (tX2_readUnit hG hn hff hE hq1) rfl (by omega) (congrArg Prod.fst sh_51) rfl (Nat.le_of_ble_eq_true rfl) rfl ?_
  refine V_istore_n (ls' := [some _, some _, some _]) (pc := 5) dX2_readTerm_5 rfl (Nat.le_of_ble_eq_true rfl) rfl rfl ?_
  refine V_iconst (pc := 6) dX2_readTerm_6 ic_0 rfl ?_
  refine V_istore_n (ls' := [some _, some _, some _, some _]) (pc := 7) dX2_readTerm_7 rfl (Nat.le_of_ble_eq_true rfl) rfl rfl ?_
  obtain ⟨q9, hq9, hf⟩ := bnd hf
  refine V_wk (lX2_readTerm_8 hG hn hff hE FUEL _ _ _ _ _ _ hq9 ?_) ⟨rfl, ⟨rfl, ⟨rfl, ⟨rfl, trivial⟩⟩⟩⟩
  cases hf
  exact PoB_mk
/-! ShadowDoors$FormulaReader.readSum -/
noncomputable def fX2_readSum_8 (ff : Nat) (E : Int32 → HI → HL → Option (Bool × HI × HL)) : Nat → Int32 → Int32 → Int32 → HI → HL → Option (Bool × HI × HL)
  | 0, _, _, _, _, _ => none
  | fu + 1, y1, y2, y3, I, L =>
    Option.bind (
      if (30 : Int32) ≤ y3 then
        some true
      else
        if y2 = 0 then
          some true
        else
          some false
    ) fun b2 =>
    if b2 = true then
      Option.bind (i2b y2) fun b3 =>
      some (b3, I, L)
    else
      Option.bind (
        if (I 49 4) = (43 : Int32) then
          some true
        else
          if (I 49 4) = (45 : Int32) then
            some true
          else
            some false
      ) fun b4 =>
      if b4 = true then
        Option.bind (fX9_advance  I L) fun q5 =>
        Option.bind (fX2_readTerm ff E y1 q5.1 q5.2) fun q6 =>
        Option.bind (fX1_addDeed ff (I 49 4) q6.2.1) fun q7 =>
        fX2_readSum_8 ff E fu y1 (b2i q6.1) (y3 + (1 : Int32)) q7 q6.2.2
      else
        Option.bind (i2b y2) fun b8 =>
        some (b8, I, L)
set_option maxRecDepth 100000 in
set_option maxHeartbeats 4000000 in
theorem lX2_readSum_8 {g : GG} {n d e : Nat} {tw dr sk tl ff : Nat} {E : Int32 → HI → HL → Option (Bool × HI × HL)} (hG : RG tw dr sk tl ff) (hn : 116 ≤ n) (hff : isF ff) (hE : ∀ {d : Nat} {a : Int32} {I : HI} {L : HL} {res : Bool × HI × HL}, E a I L = some res → CT g mX2_readEither (e + d + 8) 0 0 n (RT tw dr sk tl ff) I L [.ref 51, .int a] (PoB n (RT tw dr sk tl ff) res.1 res.2.1 res.2.2)) {P : PP} : ∀ (fu : Nat) (y1 : Int32) (y2 : Int32) (y3 : Int32) (I : HI) (L : HL) (res : Bool × HI × HL), fX2_readSum_8 ff E fu y1 y2 y3 I L = some res → P (some (.int (b2i res.1))) n (RT tw dr sk tl ff) res.2.1 res.2.2 → V g mX2_readSum (e + d + 11) 0 0 n (RT tw dr sk tl ff) I L 8 [some (.ref 51), some (.int y1), some (.int y2), some (.int y3)] [] P := by
  intro fu
  induction fu with
  | zero => intro y1 y2 y3 I L res hf; cases (show none = some res from hf)
  | succ fu ih =>
    intro y1 y2 y3 I L res hf K
    refine V_iload_n (pc := 8) dX2_readSum_8 rfl rfl rfl ?_
    refine V_bipush (pc := 9) dX2_readSum_9 bp_30 rfl ?_
    obtain ⟨b2, hb2, hf⟩ := bnd hf
    have KTb2 : b2 = true → V g mX2_readSum (e + d + 11) 0 0 n (RT tw dr sk tl ff) I L 72 [some (.ref 51), some (.int y1), some (.int y2), some (.int y3)] [] P := fun hc => by
      replace hf := (if_pos hc).symm.trans hf
      refine V_iload_n (pc := 72) dX2_readSum_72 rfl rfl rfl ?_
      obtain ⟨b3, hb3, hf⟩ := bnd hf
      cases hf
      exact V_zretE (pc := 73) dX2_readSum_73 rfl (i2b_eq hb3) K
    have KFb2 : ¬ b2 = true → V g mX2_readSum (e + d + 11) 0 0 n (RT tw dr sk tl ff) I L 18 [some (.ref 51), some (.int y1), some (.int y2), some (.int y3)] [] P := fun hc => by
      replace hf := (if_neg hc).symm.trans hf
      refine V_aload_n (pc := 18) dX2_readSum_18 rfl rfl rfl ?_
      refine V_getR (pc := 19) dX2_readSum_19 flX2_9 rfl (by omega) (congrArg Prod.fst sh_51) rt_51_0 rfl ?_
      refine V_getI (pc := 22) dX2_readSum_22 flX2_26 rfl (by omega) (congrArg Prod.fst sh_49) rfl ?_
      refine V_istore (ls' := [some _, some _, some _, some _, some _]) (pc := 25) dX2_readSum_25 (Nat.le_of_ble_eq_true rfl) rfl rfl ?_
      refine V_iload (pc := 27) dX2_readSum_27 rfl rfl ?_
      refine V_bipush (pc := 29) dX2_readSum_29 bp_43 rfl ?_
      obtain ⟨b4, hb4, hf⟩ := bnd hf
      have KTb4 : b4 = true → V g mX2_readSum (e + d + 11) 0 0 n (RT tw dr sk tl ff) I L 44 [some (.ref 51), some (.int y1), some (.int y2), some (.int y3), some (.int (I 49 4))] [] P := fun hc => by
        replace hf := (if_pos hc).symm.trans hf
        refine V_aload_n (pc := 44) dX2_readSum_44 rfl rfl rfl ?_
        refine V_getR (pc := 45) dX2_readSum_45 flX2_9 rfl (by omega) (congrArg Prod.fst sh_51) rt_51_0 rfl ?_
        obtain ⟨q5, hq5, hf⟩ := bnd hf
        refine V_cVv (md' := mX9_advance) (pc := 48) dX2_readSum_48 mlX2_32 mVX9_advance (tX9_advance hG hn hq5) rfl (by omega) (congrArg Prod.fst sh_49) rfl (Nat.le_of_ble_eq_true rfl) rfl ?_
        refine V_aload_n (pc := 51) dX2_readSum_51 rfl rfl rfl ?_
        refine V_iload_n (pc := 52) dX2_readSum_52 rfl rfl rfl ?_
        obtain ⟨q6, hq6, hf⟩ := bnd hf
        refine V_cVz (md' := mX2_readTerm) (pc := 53) dX2_readSum_53 mlX2_47 mVX2_readTerm (tX2_readTerm hG hn hff hE hq6) rfl (by omega) (congrArg Prod.fst sh_51) rfl (Nat.le_of_ble_eq_true rfl) rfl ?_
        refine V_istore_n (ls' := [some _, some _, some _, some _, some _]) (pc := 56) dX2_readSum_56 rfl (Nat.le_of_ble_eq_true rfl) rfl rfl ?_
        refine V_aload_n (pc := 57) dX2_readSum_57 rfl rfl rfl ?_
        refine V_getR (pc := 58) dX2_readSum_58 flX2_15 rfl (by omega) (congrArg Prod.fst sh_51) rt_51_1 rfl ?_
        refine V_iload (pc := 61) dX2_readSum_61 rfl rfl ?_
        obtain ⟨q7, hq7, hf⟩ := bnd hf
        refine V_cVv (md' := mX1_addDeed) (pc := 63) dX2_readSum_63 mlX2_35 mVX1_addDeed (tX1_addDeed hff (rF_RT hff) (by omega) hq7) rfl (by omega) (congrArg Prod.fst (shF hff)) rfl (Nat.le_of_ble_eq_true rfl) rfl ?_
        refine V_iinc (ls' := [some _, some _, some _, some _, some _]) (pc := 66) dX2_readSum_66 rfl (Nat.le_of_ble_eq_true rfl) (congrArg _ ic_1) rfl rfl ?_
        refine V_goto (pc := 69) (tgt := 8) dX2_readSum_69 (by decide) ?_
        exact V_wk (ih _ _ _ _ _ _ hf K) ⟨rfl, ⟨rfl, ⟨rfl, ⟨rfl, trivial⟩⟩⟩⟩
      have KFb4 : ¬ b4 = true → V g mX2_readSum (e + d + 11) 0 0 n (RT tw dr sk tl ff) I L 41 [some (.ref 51), some (.int y1), some (.int y2), some (.int y3), some (.int (I 49 4))] [] P := fun hc => by
        replace hf := (if_neg hc).symm.trans hf
        refine V_goto (pc := 41) (tgt := 72) dX2_readSum_41 (by decide) ?_
        refine V_iload_n (pc := 72) dX2_readSum_72 rfl rfl rfl ?_
        obtain ⟨b8, hb8, hf⟩ := bnd hf
        cases hf
        exact V_zretE (pc := 73) dX2_readSum_73 rfl (i2b_eq hb8) K
      refine V_icmp_eq (pc := 31) (tgt := 44) dX2_readSum_31 (by decide) rfl (fun hc => ?_) (fun hc => ?_)
      · replace hb4 := (if_pos hc).symm.trans hb4
        cases hb4
        exact KTb4 rfl
      · replace hb4 := (if_neg hc).symm.trans hb4
        refine V_iload (pc := 34) dX2_readSum_34 rfl rfl ?_
        refine V_bipush (pc := 36) dX2_readSum_36 bp_45 rfl ?_
        refine V_icmp_eq (pc := 38) (tgt := 44) dX2_readSum_38 (by decide) rfl (fun hc => ?_) (fun hc => ?_)
        · replace hb4 := (if_pos hc).symm.trans hb4
          cases hb4
          exact KTb4 rfl
        · replace hb4 := (if_neg hc).symm.trans hb4
          cases hb4
          exact KFb4 (nbt rfl)
    refine V_icmp_ge (pc := 11) (tgt := 72) dX2_readSum_11 (by decide) rfl (fun hc => ?_) (fun hc => ?_)
    · replace hb2 := (if_pos hc).symm.trans hb2
      cases hb2
      exact KTb2 rfl
    · replace hb2 := (if_neg hc).symm.trans hb2
      refine V_iload_n (pc := 14) dX2_readSum_14 rfl rfl rfl ?_
      refine V_if_eq (pc := 15) (tgt := 72) dX2_readSum_15 (by decide) rfl (fun hc => ?_) (fun hc => ?_)
      · replace hb2 := (if_pos hc).symm.trans hb2
        cases hb2
        exact KTb2 rfl
      · replace hb2 := (if_neg hc).symm.trans hb2
        cases hb2
        exact KFb2 (nbt rfl)
noncomputable def fX2_readSum (ff : Nat) (E : Int32 → HI → HL → Option (Bool × HI × HL)) (v1 : Int32) (I : HI) (L : HL) : Option (Bool × HI × HL) :=
  Option.bind (fX2_readTerm ff E v1 I L) fun q1 =>
  Option.bind (fX2_readSum_8 ff E FUEL v1 (b2i q1.1) (0 : Int32) q1.2.1 q1.2.2) fun q9 =>
  some (q9.1, q9.2.1, q9.2.2)
set_option maxRecDepth 100000 in
set_option maxHeartbeats 4000000 in
theorem tX2_readSum {g : GG} {n d e : Nat} {tw dr sk tl ff : Nat} {E : Int32 → HI → HL → Option (Bool × HI × HL)} (hG : RG tw dr sk tl ff) (hn : 116 ≤ n) (hff : isF ff) (hE : ∀ {d : Nat} {a : Int32} {I : HI} {L : HL} {res : Bool × HI × HL}, E a I L = some res → CT g mX2_readEither (e + d + 8) 0 0 n (RT tw dr sk tl ff) I L [.ref 51, .int a] (PoB n (RT tw dr sk tl ff) res.1 res.2.1 res.2.2)) {v1 : Int32} {I : HI} {L : HL} {res : Bool × HI × HL} (hf : fX2_readSum ff E v1 I L = some res) : CT g mX2_readSum (e + d + 11) 0 0 n (RT tw dr sk tl ff) I L [.ref 51, .int v1] (PoB n (RT tw dr sk tl ff) res.1 res.2.1 res.2.2) := by
  refine CT.of rfl (Nat.le_of_ble_eq_true rfl) ?_
  show V g mX2_readSum (e + d + 11) 0 0 n (RT tw dr sk tl ff) I L 0 [some (.ref 51), some (.int v1)] [] (PoB n (RT tw dr sk tl ff) res.1 res.2.1 res.2.2)
  refine V_aload_n (pc := 0) dX2_readSum_0 rfl rfl rfl ?_
  refine V_iload_n (pc := 1) dX2_readSum_1 rfl rfl rfl ?_
  obtain ⟨q1, hq1, hf⟩ := bnd hf
  refine V_cVz (md' := mX2_readTerm) (pc := 2) dX2_readSum_2 mlX2_47 mVX2_readTerm (tX2_readTerm hG hn hff hE hq1) rfl (by omega) (congrArg Prod.fst sh_51) rfl (Nat.le_of_ble_eq_true rfl) rfl ?_
  refine V_istore_n (ls' := [some _, some _, some _]) (pc := 5) dX2_readSum_5 rfl (Nat.le_of_ble_eq_true rfl) rfl rfl ?_
  refine V_iconst (pc := 6) dX2_readSum_6 ic_0 rfl ?_
  refine V_istore_n (ls' := [some _, some _, some _, some _]) (pc := 7) dX2_readSum_7 rfl (Nat.le_of_ble_eq_true rfl) rfl rfl ?_
  obtain ⟨q9, hq9, hf⟩ := bnd hf
  refine V_wk (lX2_readSum_8 hG hn hff hE FUEL _ _ _ _ _ _ hq9 ?_) ⟨rfl, ⟨rfl, ⟨rfl, ⟨rfl, trivial⟩⟩⟩⟩
  cases hf
  exact PoB_mk
/-! ShadowDoors$FormulaReader.readOne -/
noncomputable def fX2_readOne (ff : Nat) (E : Int32 → HI → HL → Option (Bool × HI × HL)) : Nat → Int32 → HI → HL → Option (Bool × HI × HL)
  | 0, _, _, _ => none
  | fu + 1, v1, I, L =>
    if (I 49 4) = (15 : Int32) then
      if v1 < (7 : Int32) then
        Option.bind (fX9_advance  I L) fun q6 =>
        Option.bind (fX2_readOne ff E fu (v1 + (1 : Int32)) q6.1 q6.2) fun q7 =>
        Option.bind (fX1_addDeed ff (15 : Int32) q7.2.1) fun q8 =>
        some (q7.1, q8, q7.2.2)
      else
        some (false, I, L)
    else
      Option.bind (fX2_readSum ff E v1 I L) fun q1 =>
      if (b2i q1.1) = 0 then
        some (false, q1.2.1, q1.2.2)
      else
        Option.bind (
          if (q1.2.1 49 4) = (60 : Int32) then
            some true
          else
            if (q1.2.1 49 4) = (62 : Int32) then
              some true
            else
              if (q1.2.1 49 4) = (61 : Int32) then
                some true
              else
                some false
        ) fun b2 =>
        if b2 = true then
          Option.bind (fX9_advance  q1.2.1 q1.2.2) fun q3 =>
          Option.bind (fX2_readSum ff E v1 q3.1 q3.2) fun q4 =>
          Option.bind (fX1_addDeed ff (q1.2.1 49 4) q4.2.1) fun q5 =>
          some (q4.1, q5, q4.2.2)
        else
          some (true, q1.2.1, q1.2.2)
set_option maxRecDepth 100000 in
set_option maxHeartbeats 4000000 in
theorem tX2_readOne {g : GG} {n d e : Nat} {tw dr sk tl ff : Nat} {E : Int32 → HI → HL → Option (Bool × HI × HL)} (hG : RG tw dr sk tl ff) (hn : 116 ≤ n) (hff : isF ff) (hE : ∀ {d : Nat} {a : Int32} {I : HI} {L : HL} {res : Bool × HI × HL}, E a I L = some res → CT g mX2_readEither (e + d + 8) 0 0 n (RT tw dr sk tl ff) I L [.ref 51, .int a] (PoB n (RT tw dr sk tl ff) res.1 res.2.1 res.2.2)) (fu : Nat) {v1 : Int32} {I : HI} {L : HL} {res : Bool × HI × HL} (hf : fX2_readOne ff E fu v1 I L = some res) : CT g mX2_readOne (e + (d + fu) + 12) 0 0 n (RT tw dr sk tl ff) I L [.ref 51, .int v1] (PoB n (RT tw dr sk tl ff) res.1 res.2.1 res.2.2) := by
  induction fu generalizing v1 I L res with
  | zero => cases (show none = some res from hf)
  | succ fu ih =>
    refine CT.of rfl (Nat.le_of_ble_eq_true rfl) ?_
    show V g mX2_readOne (e + (d + (fu + 1)) + 12) 0 0 n (RT tw dr sk tl ff) I L 0 [some (.ref 51), some (.int v1)] [] (PoB n (RT tw dr sk tl ff) res.1 res.2.1 res.2.2)
    refine V_aload_n (pc := 0) dX2_readOne_0 rfl rfl rfl ?_
    refine V_getR (pc := 1) dX2_readOne_1 flX2_9 rfl (by omega) (congrArg Prod.fst sh_51) rt_51_0 rfl ?_
    refine V_getI (pc := 4) dX2_readOne_4 flX2_26 rfl (by omega) (congrArg Prod.fst sh_49) rfl ?_
    refine V_bipush (pc := 7) dX2_readOne_7 bp_15 rfl ?_
    refine V_icmp_ne (pc := 9) (tgt := 46) dX2_readOne_9 (by decide) rfl (fun hc => ?_) (fun hc => ?_)
    · replace hf := (if_neg hc).symm.trans hf
      refine V_aload_n (pc := 46) dX2_readOne_46 rfl rfl rfl ?_
      refine V_iload_n (pc := 47) dX2_readOne_47 rfl rfl rfl ?_
      obtain ⟨q1, hq1, hf⟩ := bnd hf
      refine V_cVz (md' := mX2_readSum) (pc := 48) dX2_readOne_48 mlX2_44 mVX2_readSum (tX2_readSum hG hn hff hE hq1) rfl (by omega) (congrArg Prod.fst sh_51) rfl (Nat.le_of_ble_eq_true rfl) rfl ?_
      refine V_if_ne (pc := 51) (tgt := 56) dX2_readOne_51 (by decide) rfl (fun hc => ?_) (fun hc => ?_)
      · replace hf := (if_neg hc).symm.trans hf
        refine V_aload_n (pc := 56) dX2_readOne_56 rfl rfl rfl ?_
        refine V_getR (pc := 57) dX2_readOne_57 flX2_9 rfl (by omega) (congrArg Prod.fst sh_51) rt_51_0 rfl ?_
        refine V_getI (pc := 60) dX2_readOne_60 flX2_26 rfl (by omega) (congrArg Prod.fst sh_49) rfl ?_
        refine V_istore_n (ls' := [some _, some _, some _]) (pc := 63) dX2_readOne_63 rfl (Nat.le_of_ble_eq_true rfl) rfl rfl ?_
        refine V_iload_n (pc := 64) dX2_readOne_64 rfl rfl rfl ?_
        refine V_bipush (pc := 65) dX2_readOne_65 bp_60 rfl ?_
        obtain ⟨b2, hb2, hf⟩ := bnd hf
        have KTb2 : b2 = true → V g mX2_readOne (e + (d + (fu + 1)) + 12) 0 0 n (RT tw dr sk tl ff) q1.2.1 q1.2.2 84 [some (.ref 51), some (.int v1), some (.int (q1.2.1 49 4))] [] (PoB n (RT tw dr sk tl ff) res.1 res.2.1 res.2.2) := fun hc => by
          replace hf := (if_pos hc).symm.trans hf
          refine V_aload_n (pc := 84) dX2_readOne_84 rfl rfl rfl ?_
          refine V_getR (pc := 85) dX2_readOne_85 flX2_9 rfl (by omega) (congrArg Prod.fst sh_51) rt_51_0 rfl ?_
          obtain ⟨q3, hq3, hf⟩ := bnd hf
          refine V_cVv (md' := mX9_advance) (pc := 88) dX2_readOne_88 mlX2_32 mVX9_advance (tX9_advance hG hn hq3) rfl (by omega) (congrArg Prod.fst sh_49) rfl (Nat.le_of_ble_eq_true rfl) rfl ?_
          refine V_aload_n (pc := 91) dX2_readOne_91 rfl rfl rfl ?_
          refine V_iload_n (pc := 92) dX2_readOne_92 rfl rfl rfl ?_
          obtain ⟨q4, hq4, hf⟩ := bnd hf
          refine V_cVz (md' := mX2_readSum) (pc := 93) dX2_readOne_93 mlX2_44 mVX2_readSum (tX2_readSum hG hn hff hE hq4) rfl (by omega) (congrArg Prod.fst sh_51) rfl (Nat.le_of_ble_eq_true rfl) rfl ?_
          refine V_istore_n (ls' := [some _, some _, some _, some _]) (pc := 96) dX2_readOne_96 rfl (Nat.le_of_ble_eq_true rfl) rfl rfl ?_
          refine V_aload_n (pc := 97) dX2_readOne_97 rfl rfl rfl ?_
          refine V_getR (pc := 98) dX2_readOne_98 flX2_15 rfl (by omega) (congrArg Prod.fst sh_51) rt_51_1 rfl ?_
          refine V_iload_n (pc := 101) dX2_readOne_101 rfl rfl rfl ?_
          obtain ⟨q5, hq5, hf⟩ := bnd hf
          refine V_cVv (md' := mX1_addDeed) (pc := 102) dX2_readOne_102 mlX2_35 mVX1_addDeed (tX1_addDeed hff (rF_RT hff) (by omega) hq5) rfl (by omega) (congrArg Prod.fst (shF hff)) rfl (Nat.le_of_ble_eq_true rfl) rfl ?_
          refine V_iload_n (pc := 105) dX2_readOne_105 rfl rfl rfl ?_
          cases hf
          exact V_zretE (pc := 106) dX2_readOne_106 rfl rfl PoB_mk
        have KFb2 : ¬ b2 = true → V g mX2_readOne (e + (d + (fu + 1)) + 12) 0 0 n (RT tw dr sk tl ff) q1.2.1 q1.2.2 82 [some (.ref 51), some (.int v1), some (.int (q1.2.1 49 4))] [] (PoB n (RT tw dr sk tl ff) res.1 res.2.1 res.2.2) := fun hc => by
          replace hf := (if_neg hc).symm.trans hf
          refine V_iconst (pc := 82) dX2_readOne_82 ic_1 rfl ?_
          cases hf
          exact V_zretE (pc := 83) dX2_readOne_83 rfl (show (1 : Int32) = b2i true from rfl) PoB_mk
        refine V_icmp_eq (pc := 67) (tgt := 84) dX2_readOne_67 (by decide) rfl (fun hc => ?_) (fun hc => ?_)
        · replace hb2 := (if_pos hc).symm.trans hb2
          cases hb2
          exact KTb2 rfl
        · replace hb2 := (if_neg hc).symm.trans hb2
          refine V_iload_n (pc := 70) dX2_readOne_70 rfl rfl rfl ?_
          refine V_bipush (pc := 71) dX2_readOne_71 bp_62 rfl ?_
          refine V_icmp_eq (pc := 73) (tgt := 84) dX2_readOne_73 (by decide) rfl (fun hc => ?_) (fun hc => ?_)
          · replace hb2 := (if_pos hc).symm.trans hb2
            cases hb2
            exact KTb2 rfl
          · replace hb2 := (if_neg hc).symm.trans hb2
            refine V_iload_n (pc := 76) dX2_readOne_76 rfl rfl rfl ?_
            refine V_bipush (pc := 77) dX2_readOne_77 bp_61 rfl ?_
            refine V_icmp_eq (pc := 79) (tgt := 84) dX2_readOne_79 (by decide) rfl (fun hc => ?_) (fun hc => ?_)
            · replace hb2 := (if_pos hc).symm.trans hb2
              cases hb2
              exact KTb2 rfl
            · replace hb2 := (if_neg hc).symm.trans hb2
              cases hb2
              exact KFb2 (nbt rfl)
      · replace hf := (if_pos hc).symm.trans hf
        refine V_iconst (pc := 54) dX2_readOne_54 ic_0 rfl ?_
        cases hf
        exact V_zretE (pc := 55) dX2_readOne_55 rfl (show (0 : Int32) = b2i false from rfl) PoB_mk
    · replace hf := (if_pos hc).symm.trans hf
      refine V_iload_n (pc := 12) dX2_readOne_12 rfl rfl rfl ?_
      refine V_bipush (pc := 13) dX2_readOne_13 bp_7 rfl ?_
      refine V_icmp_lt (pc := 15) (tgt := 20) dX2_readOne_15 (by decide) rfl (fun hc => ?_) (fun hc => ?_)
      · replace hf := (if_pos hc).symm.trans hf
        refine V_aload_n (pc := 20) dX2_readOne_20 rfl rfl rfl ?_
        refine V_getR (pc := 21) dX2_readOne_21 flX2_9 rfl (by omega) (congrArg Prod.fst sh_51) rt_51_0 rfl ?_
        obtain ⟨q6, hq6, hf⟩ := bnd hf
        refine V_cVv (md' := mX9_advance) (pc := 24) dX2_readOne_24 mlX2_32 mVX9_advance (tX9_advance hG hn hq6) rfl (by omega) (congrArg Prod.fst sh_49) rfl (Nat.le_of_ble_eq_true rfl) rfl ?_
        refine V_aload_n (pc := 27) dX2_readOne_27 rfl rfl rfl ?_
        refine V_iload_n (pc := 28) dX2_readOne_28 rfl rfl rfl ?_
        refine V_iconst (pc := 29) dX2_readOne_29 ic_1 rfl ?_
        refine V_iadd (pc := 30) dX2_readOne_30 rfl ?_
        obtain ⟨q7, hq7, hf⟩ := bnd hf
        refine V_cVz (md' := mX2_readOne) (pc := 31) dX2_readOne_31 mlX2_41 mVX2_readOne (ih hq7) rfl (by omega) (congrArg Prod.fst sh_51) rfl (Nat.le_of_ble_eq_true rfl) rfl ?_
        refine V_istore_n (ls' := [some _, some _, some _]) (pc := 34) dX2_readOne_34 rfl (Nat.le_of_ble_eq_true rfl) rfl rfl ?_
        refine V_aload_n (pc := 35) dX2_readOne_35 rfl rfl rfl ?_
        refine V_getR (pc := 36) dX2_readOne_36 flX2_15 rfl (by omega) (congrArg Prod.fst sh_51) rt_51_1 rfl ?_
        refine V_bipush (pc := 39) dX2_readOne_39 bp_15 rfl ?_
        obtain ⟨q8, hq8, hf⟩ := bnd hf
        refine V_cVv (md' := mX1_addDeed) (pc := 41) dX2_readOne_41 mlX2_35 mVX1_addDeed (tX1_addDeed hff (rF_RT hff) (by omega) hq8) rfl (by omega) (congrArg Prod.fst (shF hff)) rfl (Nat.le_of_ble_eq_true rfl) rfl ?_
        refine V_iload_n (pc := 44) dX2_readOne_44 rfl rfl rfl ?_
        cases hf
        exact V_zretE (pc := 45) dX2_readOne_45 rfl rfl PoB_mk
      · replace hf := (if_neg hc).symm.trans hf
        refine V_iconst (pc := 18) dX2_readOne_18 ic_0 rfl ?_
        cases hf
        exact V_zretE (pc := 19) dX2_readOne_19 rfl (show (0 : Int32) = b2i false from rfl) PoB_mk
/-! ShadowDoors$FormulaReader.readBoth -/
noncomputable def fX2_readBoth_8 (ff : Nat) (E : Int32 → HI → HL → Option (Bool × HI × HL)) : Nat → Int32 → Int32 → Int32 → HI → HL → Option (Bool × HI × HL)
  | 0, _, _, _, _, _ => none
  | fu + 1, y1, y2, y3, I, L =>
    Option.bind (
      if (30 : Int32) ≤ y3 then
        some true
      else
        if y2 = 0 then
          some true
        else
          if (I 49 4) = (14 : Int32) then
            some false
          else
            some true
    ) fun b2 =>
    if b2 = true then
      Option.bind (i2b y2) fun b3 =>
      some (b3, I, L)
    else
      Option.bind (fX9_advance  I L) fun q4 =>
      Option.bind (fX2_readOne ff E RF y1 q4.1 q4.2) fun q5 =>
      Option.bind (fX1_addDeed ff (14 : Int32) q5.2.1) fun q6 =>
      fX2_readBoth_8 ff E fu y1 (b2i q5.1) (y3 + (1 : Int32)) q6 q5.2.2
set_option maxRecDepth 100000 in
set_option maxHeartbeats 4000000 in
theorem lX2_readBoth_8 {g : GG} {n d e : Nat} {tw dr sk tl ff : Nat} {E : Int32 → HI → HL → Option (Bool × HI × HL)} (hG : RG tw dr sk tl ff) (hn : 116 ≤ n) (hff : isF ff) (hE : ∀ {d : Nat} {a : Int32} {I : HI} {L : HL} {res : Bool × HI × HL}, E a I L = some res → CT g mX2_readEither (e + d + 8) 0 0 n (RT tw dr sk tl ff) I L [.ref 51, .int a] (PoB n (RT tw dr sk tl ff) res.1 res.2.1 res.2.2)) {P : PP} : ∀ (fu : Nat) (y1 : Int32) (y2 : Int32) (y3 : Int32) (I : HI) (L : HL) (res : Bool × HI × HL), fX2_readBoth_8 ff E fu y1 y2 y3 I L = some res → P (some (.int (b2i res.1))) n (RT tw dr sk tl ff) res.2.1 res.2.2 → V g mX2_readBoth (e + (d + RF) + 13) 0 0 n (RT tw dr sk tl ff) I L 8 [some (.ref 51), some (.int y1), some (.int y2), some (.int y3)] [] P := by
  intro fu
  induction fu with
  | zero => intro y1 y2 y3 I L res hf; cases (show none = some res from hf)
  | succ fu ih =>
    intro y1 y2 y3 I L res hf K
    refine V_iload_n (pc := 8) dX2_readBoth_8 rfl rfl rfl ?_
    refine V_bipush (pc := 9) dX2_readBoth_9 bp_30 rfl ?_
    obtain ⟨b2, hb2, hf⟩ := bnd hf
    have KTb2 : b2 = true → V g mX2_readBoth (e + (d + RF) + 13) 0 0 n (RT tw dr sk tl ff) I L 58 [some (.ref 51), some (.int y1), some (.int y2), some (.int y3)] [] P := fun hc => by
      replace hf := (if_pos hc).symm.trans hf
      refine V_iload_n (pc := 58) dX2_readBoth_58 rfl rfl rfl ?_
      obtain ⟨b3, hb3, hf⟩ := bnd hf
      cases hf
      exact V_zretE (pc := 59) dX2_readBoth_59 rfl (i2b_eq hb3) K
    have KFb2 : ¬ b2 = true → V g mX2_readBoth (e + (d + RF) + 13) 0 0 n (RT tw dr sk tl ff) I L 30 [some (.ref 51), some (.int y1), some (.int y2), some (.int y3)] [] P := fun hc => by
      replace hf := (if_neg hc).symm.trans hf
      refine V_aload_n (pc := 30) dX2_readBoth_30 rfl rfl rfl ?_
      refine V_getR (pc := 31) dX2_readBoth_31 flX2_9 rfl (by omega) (congrArg Prod.fst sh_51) rt_51_0 rfl ?_
      obtain ⟨q4, hq4, hf⟩ := bnd hf
      refine V_cVv (md' := mX9_advance) (pc := 34) dX2_readBoth_34 mlX2_32 mVX9_advance (tX9_advance hG hn hq4) rfl (by omega) (congrArg Prod.fst sh_49) rfl (Nat.le_of_ble_eq_true rfl) rfl ?_
      refine V_aload_n (pc := 37) dX2_readBoth_37 rfl rfl rfl ?_
      refine V_iload_n (pc := 38) dX2_readBoth_38 rfl rfl rfl ?_
      obtain ⟨q5, hq5, hf⟩ := bnd hf
      refine V_cVz (md' := mX2_readOne) (pc := 39) dX2_readBoth_39 mlX2_41 mVX2_readOne (tX2_readOne hG hn hff hE RF hq5) rfl (by omega) (congrArg Prod.fst sh_51) rfl (Nat.le_of_ble_eq_true rfl) rfl ?_
      refine V_istore_n (ls' := [some _, some _, some _, some _]) (pc := 42) dX2_readBoth_42 rfl (Nat.le_of_ble_eq_true rfl) rfl rfl ?_
      refine V_aload_n (pc := 43) dX2_readBoth_43 rfl rfl rfl ?_
      refine V_getR (pc := 44) dX2_readBoth_44 flX2_15 rfl (by omega) (congrArg Prod.fst sh_51) rt_51_1 rfl ?_
      refine V_bipush (pc := 47) dX2_readBoth_47 bp_14 rfl ?_
      obtain ⟨q6, hq6, hf⟩ := bnd hf
      refine V_cVv (md' := mX1_addDeed) (pc := 49) dX2_readBoth_49 mlX2_35 mVX1_addDeed (tX1_addDeed hff (rF_RT hff) (by omega) hq6) rfl (by omega) (congrArg Prod.fst (shF hff)) rfl (Nat.le_of_ble_eq_true rfl) rfl ?_
      refine V_iinc (ls' := [some _, some _, some _, some _]) (pc := 52) dX2_readBoth_52 rfl (Nat.le_of_ble_eq_true rfl) (congrArg _ ic_1) rfl rfl ?_
      refine V_goto (pc := 55) (tgt := 8) dX2_readBoth_55 (by decide) ?_
      exact V_wk (ih _ _ _ _ _ _ hf K) ⟨rfl, ⟨rfl, ⟨rfl, ⟨rfl, trivial⟩⟩⟩⟩
    refine V_icmp_ge (pc := 11) (tgt := 58) dX2_readBoth_11 (by decide) rfl (fun hc => ?_) (fun hc => ?_)
    · replace hb2 := (if_pos hc).symm.trans hb2
      cases hb2
      exact KTb2 rfl
    · replace hb2 := (if_neg hc).symm.trans hb2
      refine V_iload_n (pc := 14) dX2_readBoth_14 rfl rfl rfl ?_
      refine V_if_eq (pc := 15) (tgt := 58) dX2_readBoth_15 (by decide) rfl (fun hc => ?_) (fun hc => ?_)
      · replace hb2 := (if_pos hc).symm.trans hb2
        cases hb2
        exact KTb2 rfl
      · replace hb2 := (if_neg hc).symm.trans hb2
        refine V_aload_n (pc := 18) dX2_readBoth_18 rfl rfl rfl ?_
        refine V_getR (pc := 19) dX2_readBoth_19 flX2_9 rfl (by omega) (congrArg Prod.fst sh_51) rt_51_0 rfl ?_
        refine V_getI (pc := 22) dX2_readBoth_22 flX2_26 rfl (by omega) (congrArg Prod.fst sh_49) rfl ?_
        refine V_bipush (pc := 25) dX2_readBoth_25 bp_14 rfl ?_
        refine V_icmp_ne (pc := 27) (tgt := 58) dX2_readBoth_27 (by decide) rfl (fun hc => ?_) (fun hc => ?_)
        · replace hb2 := (if_neg hc).symm.trans hb2
          cases hb2
          exact KTb2 rfl
        · replace hb2 := (if_pos hc).symm.trans hb2
          cases hb2
          exact KFb2 (nbt rfl)
noncomputable def fX2_readBoth (ff : Nat) (E : Int32 → HI → HL → Option (Bool × HI × HL)) (v1 : Int32) (I : HI) (L : HL) : Option (Bool × HI × HL) :=
  Option.bind (fX2_readOne ff E RF v1 I L) fun q1 =>
  Option.bind (fX2_readBoth_8 ff E FUEL v1 (b2i q1.1) (0 : Int32) q1.2.1 q1.2.2) fun q7 =>
  some (q7.1, q7.2.1, q7.2.2)
set_option maxRecDepth 100000 in
set_option maxHeartbeats 4000000 in
theorem tX2_readBoth {g : GG} {n d e : Nat} {tw dr sk tl ff : Nat} {E : Int32 → HI → HL → Option (Bool × HI × HL)} (hG : RG tw dr sk tl ff) (hn : 116 ≤ n) (hff : isF ff) (hE : ∀ {d : Nat} {a : Int32} {I : HI} {L : HL} {res : Bool × HI × HL}, E a I L = some res → CT g mX2_readEither (e + d + 8) 0 0 n (RT tw dr sk tl ff) I L [.ref 51, .int a] (PoB n (RT tw dr sk tl ff) res.1 res.2.1 res.2.2)) {v1 : Int32} {I : HI} {L : HL} {res : Bool × HI × HL} (hf : fX2_readBoth ff E v1 I L = some res) : CT g mX2_readBoth (e + (d + RF) + 13) 0 0 n (RT tw dr sk tl ff) I L [.ref 51, .int v1] (PoB n (RT tw dr sk tl ff) res.1 res.2.1 res.2.2) := by
  refine CT.of rfl (Nat.le_of_ble_eq_true rfl) ?_
  show V g mX2_readBoth (e + (d + RF) + 13) 0 0 n (RT tw dr sk tl ff) I L 0 [some (.ref 51), some (.int v1)] [] (PoB n (RT tw dr sk tl ff) res.1 res.2.1 res.2.2)
  refine V_aload_n (pc := 0) dX2_readBoth_0 rfl rfl rfl ?_
  refine V_iload_n (pc := 1) dX2_readBoth_1 rfl rfl rfl ?_
  obtain ⟨q1, hq1, hf⟩ := bnd hf
  refine V_cVz (md' := mX2_readOne) (pc := 2) dX2_readBoth_2 mlX2_41 mVX2_readOne (tX2_readOne hG hn hff hE RF hq1) rfl (by omega) (congrArg Prod.fst sh_51) rfl (Nat.le_of_ble_eq_true rfl) rfl ?_
  refine V_istore_n (ls' := [some _, some _, some _]) (pc := 5) dX2_readBoth_5 rfl (Nat.le_of_ble_eq_true rfl) rfl rfl ?_
  refine V_iconst (pc := 6) dX2_readBoth_6 ic_0 rfl ?_
  refine V_istore_n (ls' := [some _, some _, some _, some _]) (pc := 7) dX2_readBoth_7 rfl (Nat.le_of_ble_eq_true rfl) rfl rfl ?_
  obtain ⟨q7, hq7, hf⟩ := bnd hf
  refine V_wk (lX2_readBoth_8 hG hn hff hE FUEL _ _ _ _ _ _ hq7 ?_) ⟨rfl, ⟨rfl, ⟨rfl, ⟨rfl, trivial⟩⟩⟩⟩
  cases hf
  exact PoB_mk
/-! ShadowDoors$FormulaReader.readEither -/
noncomputable def fX2_readEither_8 (ff : Nat) (E : Int32 → HI → HL → Option (Bool × HI × HL)) : Nat → Int32 → Int32 → Int32 → HI → HL → Option (Bool × HI × HL)
  | 0, _, _, _, _, _ => none
  | fu + 1, y1, y2, y3, I, L =>
    Option.bind (
      if (30 : Int32) ≤ y3 then
        some true
      else
        if y2 = 0 then
          some true
        else
          if (I 49 4) = (13 : Int32) then
            some false
          else
            some true
    ) fun b2 =>
    if b2 = true then
      Option.bind (i2b y2) fun b3 =>
      some (b3, I, L)
    else
      Option.bind (fX9_advance  I L) fun q4 =>
      Option.bind (fX2_readBoth ff E y1 q4.1 q4.2) fun q5 =>
      Option.bind (fX1_addDeed ff (13 : Int32) q5.2.1) fun q6 =>
      fX2_readEither_8 ff E fu y1 (b2i q5.1) (y3 + (1 : Int32)) q6 q5.2.2
set_option maxRecDepth 100000 in
set_option maxHeartbeats 4000000 in
theorem lX2_readEither_8 {g : GG} {n d e : Nat} {tw dr sk tl ff : Nat} {E : Int32 → HI → HL → Option (Bool × HI × HL)} (hG : RG tw dr sk tl ff) (hn : 116 ≤ n) (hff : isF ff) (hE : ∀ {d : Nat} {a : Int32} {I : HI} {L : HL} {res : Bool × HI × HL}, E a I L = some res → CT g mX2_readEither (e + d + 8) 0 0 n (RT tw dr sk tl ff) I L [.ref 51, .int a] (PoB n (RT tw dr sk tl ff) res.1 res.2.1 res.2.2)) {P : PP} : ∀ (fu : Nat) (y1 : Int32) (y2 : Int32) (y3 : Int32) (I : HI) (L : HL) (res : Bool × HI × HL), fX2_readEither_8 ff E fu y1 y2 y3 I L = some res → P (some (.int (b2i res.1))) n (RT tw dr sk tl ff) res.2.1 res.2.2 → V g mX2_readEither (e + (d + RF) + 14) 0 0 n (RT tw dr sk tl ff) I L 8 [some (.ref 51), some (.int y1), some (.int y2), some (.int y3)] [] P := by
  intro fu
  induction fu with
  | zero => intro y1 y2 y3 I L res hf; cases (show none = some res from hf)
  | succ fu ih =>
    intro y1 y2 y3 I L res hf K
    refine V_iload_n (pc := 8) dX2_readEither_8 rfl rfl rfl ?_
    refine V_bipush (pc := 9) dX2_readEither_9 bp_30 rfl ?_
    obtain ⟨b2, hb2, hf⟩ := bnd hf
    have KTb2 : b2 = true → V g mX2_readEither (e + (d + RF) + 14) 0 0 n (RT tw dr sk tl ff) I L 58 [some (.ref 51), some (.int y1), some (.int y2), some (.int y3)] [] P := fun hc => by
      replace hf := (if_pos hc).symm.trans hf
      refine V_iload_n (pc := 58) dX2_readEither_58 rfl rfl rfl ?_
      obtain ⟨b3, hb3, hf⟩ := bnd hf
      cases hf
      exact V_zretE (pc := 59) dX2_readEither_59 rfl (i2b_eq hb3) K
    have KFb2 : ¬ b2 = true → V g mX2_readEither (e + (d + RF) + 14) 0 0 n (RT tw dr sk tl ff) I L 30 [some (.ref 51), some (.int y1), some (.int y2), some (.int y3)] [] P := fun hc => by
      replace hf := (if_neg hc).symm.trans hf
      refine V_aload_n (pc := 30) dX2_readEither_30 rfl rfl rfl ?_
      refine V_getR (pc := 31) dX2_readEither_31 flX2_9 rfl (by omega) (congrArg Prod.fst sh_51) rt_51_0 rfl ?_
      obtain ⟨q4, hq4, hf⟩ := bnd hf
      refine V_cVv (md' := mX9_advance) (pc := 34) dX2_readEither_34 mlX2_32 mVX9_advance (tX9_advance hG hn hq4) rfl (by omega) (congrArg Prod.fst sh_49) rfl (Nat.le_of_ble_eq_true rfl) rfl ?_
      refine V_aload_n (pc := 37) dX2_readEither_37 rfl rfl rfl ?_
      refine V_iload_n (pc := 38) dX2_readEither_38 rfl rfl rfl ?_
      obtain ⟨q5, hq5, hf⟩ := bnd hf
      refine V_cVz (md' := mX2_readBoth) (pc := 39) dX2_readEither_39 mlX2_23 mVX2_readBoth (tX2_readBoth hG hn hff hE hq5) rfl (by omega) (congrArg Prod.fst sh_51) rfl (Nat.le_of_ble_eq_true rfl) rfl ?_
      refine V_istore_n (ls' := [some _, some _, some _, some _]) (pc := 42) dX2_readEither_42 rfl (Nat.le_of_ble_eq_true rfl) rfl rfl ?_
      refine V_aload_n (pc := 43) dX2_readEither_43 rfl rfl rfl ?_
      refine V_getR (pc := 44) dX2_readEither_44 flX2_15 rfl (by omega) (congrArg Prod.fst sh_51) rt_51_1 rfl ?_
      refine V_bipush (pc := 47) dX2_readEither_47 bp_13 rfl ?_
      obtain ⟨q6, hq6, hf⟩ := bnd hf
      refine V_cVv (md' := mX1_addDeed) (pc := 49) dX2_readEither_49 mlX2_35 mVX1_addDeed (tX1_addDeed hff (rF_RT hff) (by omega) hq6) rfl (by omega) (congrArg Prod.fst (shF hff)) rfl (Nat.le_of_ble_eq_true rfl) rfl ?_
      refine V_iinc (ls' := [some _, some _, some _, some _]) (pc := 52) dX2_readEither_52 rfl (Nat.le_of_ble_eq_true rfl) (congrArg _ ic_1) rfl rfl ?_
      refine V_goto (pc := 55) (tgt := 8) dX2_readEither_55 (by decide) ?_
      exact V_wk (ih _ _ _ _ _ _ hf K) ⟨rfl, ⟨rfl, ⟨rfl, ⟨rfl, trivial⟩⟩⟩⟩
    refine V_icmp_ge (pc := 11) (tgt := 58) dX2_readEither_11 (by decide) rfl (fun hc => ?_) (fun hc => ?_)
    · replace hb2 := (if_pos hc).symm.trans hb2
      cases hb2
      exact KTb2 rfl
    · replace hb2 := (if_neg hc).symm.trans hb2
      refine V_iload_n (pc := 14) dX2_readEither_14 rfl rfl rfl ?_
      refine V_if_eq (pc := 15) (tgt := 58) dX2_readEither_15 (by decide) rfl (fun hc => ?_) (fun hc => ?_)
      · replace hb2 := (if_pos hc).symm.trans hb2
        cases hb2
        exact KTb2 rfl
      · replace hb2 := (if_neg hc).symm.trans hb2
        refine V_aload_n (pc := 18) dX2_readEither_18 rfl rfl rfl ?_
        refine V_getR (pc := 19) dX2_readEither_19 flX2_9 rfl (by omega) (congrArg Prod.fst sh_51) rt_51_0 rfl ?_
        refine V_getI (pc := 22) dX2_readEither_22 flX2_26 rfl (by omega) (congrArg Prod.fst sh_49) rfl ?_
        refine V_bipush (pc := 25) dX2_readEither_25 bp_13 rfl ?_
        refine V_icmp_ne (pc := 27) (tgt := 58) dX2_readEither_27 (by decide) rfl (fun hc => ?_) (fun hc => ?_)
        · replace hb2 := (if_neg hc).symm.trans hb2
          cases hb2
          exact KTb2 rfl
        · replace hb2 := (if_pos hc).symm.trans hb2
          cases hb2
          exact KFb2 (nbt rfl)
noncomputable def fX2_readEither (ff : Nat) (E : Int32 → HI → HL → Option (Bool × HI × HL)) (v1 : Int32) (I : HI) (L : HL) : Option (Bool × HI × HL) :=
  Option.bind (fX2_readBoth ff E v1 I L) fun q1 =>
  Option.bind (fX2_readEither_8 ff E FUEL v1 (b2i q1.1) (0 : Int32) q1.2.1 q1.2.2) fun q7 =>
  some (q7.1, q7.2.1, q7.2.2)
set_option maxRecDepth 100000 in
set_option maxHeartbeats 4000000 in
theorem tX2_readEither {g : GG} {n d e : Nat} {tw dr sk tl ff : Nat} {E : Int32 → HI → HL → Option (Bool × HI × HL)} (hG : RG tw dr sk tl ff) (hn : 116 ≤ n) (hff : isF ff) (hE : ∀ {d : Nat} {a : Int32} {I : HI} {L : HL} {res : Bool × HI × HL}, E a I L = some res → CT g mX2_readEither (e + d + 8) 0 0 n (RT tw dr sk tl ff) I L [.ref 51, .int a] (PoB n (RT tw dr sk tl ff) res.1 res.2.1 res.2.2)) {v1 : Int32} {I : HI} {L : HL} {res : Bool × HI × HL} (hf : fX2_readEither ff E v1 I L = some res) : CT g mX2_readEither (e + (d + RF) + 14) 0 0 n (RT tw dr sk tl ff) I L [.ref 51, .int v1] (PoB n (RT tw dr sk tl ff) res.1 res.2.1 res.2.2) := by
  refine CT.of rfl (Nat.le_of_ble_eq_true rfl) ?_
  show V g mX2_readEither (e + (d + RF) + 14) 0 0 n (RT tw dr sk tl ff) I L 0 [some (.ref 51), some (.int v1)] [] (PoB n (RT tw dr sk tl ff) res.1 res.2.1 res.2.2)
  refine V_aload_n (pc := 0) dX2_readEither_0 rfl rfl rfl ?_
  refine V_iload_n (pc := 1) dX2_readEither_1 rfl rfl rfl ?_
  obtain ⟨q1, hq1, hf⟩ := bnd hf
  refine V_cVz (md' := mX2_readBoth) (pc := 2) dX2_readEither_2 mlX2_23 mVX2_readBoth (tX2_readBoth hG hn hff hE hq1) rfl (by omega) (congrArg Prod.fst sh_51) rfl (Nat.le_of_ble_eq_true rfl) rfl ?_
  refine V_istore_n (ls' := [some _, some _, some _]) (pc := 5) dX2_readEither_5 rfl (Nat.le_of_ble_eq_true rfl) rfl rfl ?_
  refine V_iconst (pc := 6) dX2_readEither_6 ic_0 rfl ?_
  refine V_istore_n (ls' := [some _, some _, some _, some _]) (pc := 7) dX2_readEither_7 rfl (Nat.le_of_ble_eq_true rfl) rfl rfl ?_
  obtain ⟨q7, hq7, hf⟩ := bnd hf
  refine V_wk (lX2_readEither_8 hG hn hff hE FUEL _ _ _ _ _ _ hq7 ?_) ⟨rfl, ⟨rfl, ⟨rfl, ⟨rfl, trivial⟩⟩⟩⟩
  cases hf
  exact PoB_mk
/-! ShadowDoors$Tokens.begin -/
noncomputable def fX9_begin (v1 : Int32) (I : HI) (L : HL) : Option (HI × HL) :=
  let I1 : HI := up2 I 49 2 (if (Int32.ofNat 1600) < v1 then (Int32.ofNat 1600) else v1)
  let I2 : HI := up2 I1 49 3 (0 : Int32)
  Option.bind (fX9_advance  I2 L) fun q3 =>
  some (q3.1, q3.2)
set_option maxRecDepth 100000 in
set_option maxHeartbeats 4000000 in
theorem tX9_begin {g : GG} {n d : Nat} {tw dr sk tl ff : Nat} (hG : RG tw dr sk tl ff) (hn : 116 ≤ n) {v1 : Int32} {I : HI} {L : HL} {res : HI × HL} (hf : fX9_begin v1 I L = some res) : CT g mX9_begin (d + 6) 0 0 n (RT tw dr sk tl ff) I L [.ref 49, .int v1] (PoV n (RT tw dr sk tl ff) res.1 res.2) := by
  refine CT.of rfl (Nat.le_of_ble_eq_true rfl) ?_
  show V g mX9_begin (d + 6) 0 0 n (RT tw dr sk tl ff) I L 0 [some (.ref 49), some (.int v1)] [] (PoV n (RT tw dr sk tl ff) res.1 res.2)
  refine V_aload_n (pc := 0) dX9_begin_0 rfl rfl rfl ?_
  refine V_iload_n (pc := 1) dX9_begin_1 rfl rfl rfl ?_
  refine V_aload_n (pc := 2) dX9_begin_2 rfl rfl rfl ?_
  refine V_getR (pc := 3) dX9_begin_3 flX9_15 rfl (by omega) (congrArg Prod.fst sh_49) rt_49_0 rfl ?_
  refine V_alen (pc := 6) dX9_begin_6 (by omega) sh_1 (by decide) rfl ?_
  refine V_mmin (pc := 7) dX9_begin_7 mlX9_35 (Nat.le_of_ble_eq_true rfl) rfl ?_
  let I1 : HI := up2 I 49 2 (if (Int32.ofNat 1600) < v1 then (Int32.ofNat 1600) else v1)
  refine V_putI (pc := 10) dX9_begin_10 flX9_41 rfl rfl (by omega) (congrArg Prod.fst sh_49) rfl ?_
  refine V_aload_n (pc := 13) dX9_begin_13 rfl rfl rfl ?_
  refine V_iconst (pc := 14) dX9_begin_14 ic_0 rfl ?_
  let I2 : HI := up2 I1 49 3 (0 : Int32)
  refine V_putI (pc := 15) dX9_begin_15 flX9_44 rfl rfl (by omega) (congrArg Prod.fst sh_49) rfl ?_
  refine V_aload_n (pc := 18) dX9_begin_18 rfl rfl rfl ?_
  obtain ⟨q3, hq3, hf⟩ := bnd hf
  refine V_cVv (md' := mX9_advance) (pc := 19) dX9_begin_19 mlX9_47 mVX9_advance (tX9_advance hG hn hq3) rfl (by omega) (congrArg Prod.fst sh_49) rfl (Nat.le_of_ble_eq_true rfl) rfl ?_
  cases hf
  exact V_vret (pc := 22) dX9_begin_22 rfl PoV_mk
/-! ShadowDoors$Reader.takeNumber -/
noncomputable def fX6_takeNumber (v1 : Int32) (v2 : Int32) (I : HI) (L : HL) : Option (Bool × HI × HL) :=
  if (I 49 4) = (21 : Int32) then
    Option.bind (
      if (I 49 6) < v1 then
        some true
      else
        if (I 49 6) ≤ v2 then
          some false
        else
          some true
    ) fun b1 =>
    if b1 = true then
      obn (fX6_refuse (4 : Int32) I) fun q2 =>
      some (q2.1, q2.2, L)
    else
      let I3 : HI := up2 I 48 3 (I 49 6)
      Option.bind (fX9_advance  I3 L) fun q4 =>
      some (true, q4.1, q4.2)
  else
    obn (fX6_refuse (2 : Int32) I) fun q5 =>
    some (q5.1, q5.2, L)
set_option maxRecDepth 100000 in
set_option maxHeartbeats 4000000 in
theorem tX6_takeNumber {g : GG} {n d : Nat} {tw dr sk tl ff : Nat} (hG : RG tw dr sk tl ff) (hn : 116 ≤ n) {v1 : Int32} {v2 : Int32} {I : HI} {L : HL} {res : Bool × HI × HL} (hf : fX6_takeNumber v1 v2 I L = some res) : CT g mX6_takeNumber (d + 6) 0 0 n (RT tw dr sk tl ff) I L [.ref 48, .int v1, .int v2] (PoB n (RT tw dr sk tl ff) res.1 res.2.1 res.2.2) := by
  refine CT.of rfl (Nat.le_of_ble_eq_true rfl) ?_
  show V g mX6_takeNumber (d + 6) 0 0 n (RT tw dr sk tl ff) I L 0 [some (.ref 48), some (.int v1), some (.int v2)] [] (PoB n (RT tw dr sk tl ff) res.1 res.2.1 res.2.2)
  refine V_aload_n (pc := 0) dX6_takeNumber_0 rfl rfl rfl ?_
  refine V_getR (pc := 1) dX6_takeNumber_1 flX6_9 rfl (by omega) (congrArg Prod.fst sh_48) rt_48_0 rfl ?_
  refine V_getI (pc := 4) dX6_takeNumber_4 flX6_57 rfl (by omega) (congrArg Prod.fst sh_49) rfl ?_
  refine V_bipush (pc := 7) dX6_takeNumber_7 bp_21 rfl ?_
  refine V_icmp_eq (pc := 9) (tgt := 18) dX6_takeNumber_9 (by decide) rfl (fun hc => ?_) (fun hc => ?_)
  · replace hf := (if_pos hc).symm.trans hf
    refine V_aload_n (pc := 18) dX6_takeNumber_18 rfl rfl rfl ?_
    refine V_getR (pc := 19) dX6_takeNumber_19 flX6_9 rfl (by omega) (congrArg Prod.fst sh_48) rt_48_0 rfl ?_
    refine V_getI (pc := 22) dX6_takeNumber_22 flX6_170 rfl (by omega) (congrArg Prod.fst sh_49) rfl ?_
    refine V_iload_n (pc := 25) dX6_takeNumber_25 rfl rfl rfl ?_
    obtain ⟨b1, hb1, hf⟩ := bnd hf
    have KTb1 : b1 = true → V g mX6_takeNumber (d + 6) 0 0 n (RT tw dr sk tl ff) I L 40 [some (.ref 48), some (.int v1), some (.int v2)] [] (PoB n (RT tw dr sk tl ff) res.1 res.2.1 res.2.2) := fun hc => by
      replace hf := (if_pos hc).symm.trans hf
      refine V_aload_n (pc := 40) dX6_takeNumber_40 rfl rfl rfl ?_
      refine V_iconst (pc := 41) dX6_takeNumber_41 ic_4 rfl ?_
      obtain ⟨q2, hq2, hf⟩ := obd hf
      refine V_cVz (md' := mX6_refuse) (pc := 42) dX6_takeNumber_42 mlX6_64 mVX6_refuse (tX6_refuse hG hn hq2) rfl (by omega) (congrArg Prod.fst sh_48) rfl (Nat.le_of_ble_eq_true rfl) rfl ?_
      cases hf
      exact V_zretE (pc := 45) dX6_takeNumber_45 rfl rfl PoB_mk
    have KFb1 : ¬ b1 = true → V g mX6_takeNumber (d + 6) 0 0 n (RT tw dr sk tl ff) I L 46 [some (.ref 48), some (.int v1), some (.int v2)] [] (PoB n (RT tw dr sk tl ff) res.1 res.2.1 res.2.2) := fun hc => by
      replace hf := (if_neg hc).symm.trans hf
      refine V_aload_n (pc := 46) dX6_takeNumber_46 rfl rfl rfl ?_
      refine V_aload_n (pc := 47) dX6_takeNumber_47 rfl rfl rfl ?_
      refine V_getR (pc := 48) dX6_takeNumber_48 flX6_9 rfl (by omega) (congrArg Prod.fst sh_48) rt_48_0 rfl ?_
      refine V_getI (pc := 51) dX6_takeNumber_51 flX6_170 rfl (by omega) (congrArg Prod.fst sh_49) rfl ?_
      let I3 : HI := up2 I 48 3 (I 49 6)
      refine V_putI (pc := 54) dX6_takeNumber_54 flX6_114 rfl rfl (by omega) (congrArg Prod.fst sh_48) rfl ?_
      refine V_aload_n (pc := 57) dX6_takeNumber_57 rfl rfl rfl ?_
      refine V_getR (pc := 58) dX6_takeNumber_58 flX6_9 rfl (by omega) (congrArg Prod.fst sh_48) rt_48_0 rfl ?_
      obtain ⟨q4, hq4, hf⟩ := bnd hf
      refine V_cVv (md' := mX9_advance) (pc := 61) dX6_takeNumber_61 mlX6_68 mVX9_advance (tX9_advance hG hn hq4) rfl (by omega) (congrArg Prod.fst sh_49) rfl (Nat.le_of_ble_eq_true rfl) rfl ?_
      refine V_iconst (pc := 64) dX6_takeNumber_64 ic_1 rfl ?_
      cases hf
      exact V_zretE (pc := 65) dX6_takeNumber_65 rfl (show (1 : Int32) = b2i true from rfl) PoB_mk
    refine V_icmp_lt (pc := 26) (tgt := 40) dX6_takeNumber_26 (by decide) rfl (fun hc => ?_) (fun hc => ?_)
    · replace hb1 := (if_pos hc).symm.trans hb1
      cases hb1
      exact KTb1 rfl
    · replace hb1 := (if_neg hc).symm.trans hb1
      refine V_aload_n (pc := 29) dX6_takeNumber_29 rfl rfl rfl ?_
      refine V_getR (pc := 30) dX6_takeNumber_30 flX6_9 rfl (by omega) (congrArg Prod.fst sh_48) rt_48_0 rfl ?_
      refine V_getI (pc := 33) dX6_takeNumber_33 flX6_170 rfl (by omega) (congrArg Prod.fst sh_49) rfl ?_
      refine V_iload_n (pc := 36) dX6_takeNumber_36 rfl rfl rfl ?_
      refine V_icmp_le (pc := 37) (tgt := 46) dX6_takeNumber_37 (by decide) rfl (fun hc => ?_) (fun hc => ?_)
      · replace hb1 := (if_pos hc).symm.trans hb1
        cases hb1
        exact KFb1 (nbt rfl)
      · replace hb1 := (if_neg hc).symm.trans hb1
        cases hb1
        exact KTb1 rfl
  · replace hf := (if_neg hc).symm.trans hf
    refine V_aload_n (pc := 12) dX6_takeNumber_12 rfl rfl rfl ?_
    refine V_iconst (pc := 13) dX6_takeNumber_13 ic_2 rfl ?_
    obtain ⟨q5, hq5, hf⟩ := obd hf
    refine V_cVz (md' := mX6_refuse) (pc := 14) dX6_takeNumber_14 mlX6_64 mVX6_refuse (tX6_refuse hG hn hq5) rfl (by omega) (congrArg Prod.fst sh_48) rfl (Nat.le_of_ble_eq_true rfl) rfl ?_
    cases hf
    exact V_zretE (pc := 17) dX6_takeNumber_17 rfl rfl PoB_mk
/-! ShadowDoors$Reader.take -/
noncomputable def fX6_take (v1 : Int32) (I : HI) (L : HL) : Option (Bool × HI × HL) :=
  if (I 49 4) = v1 then
    Option.bind (fX9_advance  I L) fun q1 =>
    some (true, q1.1, q1.2)
  else
    obn (fX6_refuse (2 : Int32) I) fun q2 =>
    some (q2.1, q2.2, L)
set_option maxRecDepth 100000 in
set_option maxHeartbeats 4000000 in
theorem tX6_take {g : GG} {n d : Nat} {tw dr sk tl ff : Nat} (hG : RG tw dr sk tl ff) (hn : 116 ≤ n) {v1 : Int32} {I : HI} {L : HL} {res : Bool × HI × HL} (hf : fX6_take v1 I L = some res) : CT g mX6_take (d + 6) 0 0 n (RT tw dr sk tl ff) I L [.ref 48, .int v1] (PoB n (RT tw dr sk tl ff) res.1 res.2.1 res.2.2) := by
  refine CT.of rfl (Nat.le_of_ble_eq_true rfl) ?_
  show V g mX6_take (d + 6) 0 0 n (RT tw dr sk tl ff) I L 0 [some (.ref 48), some (.int v1)] [] (PoB n (RT tw dr sk tl ff) res.1 res.2.1 res.2.2)
  refine V_aload_n (pc := 0) dX6_take_0 rfl rfl rfl ?_
  refine V_getR (pc := 1) dX6_take_1 flX6_9 rfl (by omega) (congrArg Prod.fst sh_48) rt_48_0 rfl ?_
  refine V_getI (pc := 4) dX6_take_4 flX6_57 rfl (by omega) (congrArg Prod.fst sh_49) rfl ?_
  refine V_iload_n (pc := 7) dX6_take_7 rfl rfl rfl ?_
  refine V_icmp_eq (pc := 8) (tgt := 17) dX6_take_8 (by decide) rfl (fun hc => ?_) (fun hc => ?_)
  · replace hf := (if_pos hc).symm.trans hf
    refine V_aload_n (pc := 17) dX6_take_17 rfl rfl rfl ?_
    refine V_getR (pc := 18) dX6_take_18 flX6_9 rfl (by omega) (congrArg Prod.fst sh_48) rt_48_0 rfl ?_
    obtain ⟨q1, hq1, hf⟩ := bnd hf
    refine V_cVv (md' := mX9_advance) (pc := 21) dX6_take_21 mlX6_68 mVX9_advance (tX9_advance hG hn hq1) rfl (by omega) (congrArg Prod.fst sh_49) rfl (Nat.le_of_ble_eq_true rfl) rfl ?_
    refine V_iconst (pc := 24) dX6_take_24 ic_1 rfl ?_
    cases hf
    exact V_zretE (pc := 25) dX6_take_25 rfl (show (1 : Int32) = b2i true from rfl) PoB_mk
  · replace hf := (if_neg hc).symm.trans hf
    refine V_aload_n (pc := 11) dX6_take_11 rfl rfl rfl ?_
    refine V_iconst (pc := 12) dX6_take_12 ic_2 rfl ?_
    obtain ⟨q2, hq2, hf⟩ := obd hf
    refine V_cVz (md' := mX6_refuse) (pc := 13) dX6_take_13 mlX6_64 mVX6_refuse (tX6_refuse hG hn hq2) rfl (by omega) (congrArg Prod.fst sh_48) rfl (Nat.le_of_ble_eq_true rfl) rfl ?_
    cases hf
    exact V_zretE (pc := 16) dX6_take_16 rfl rfl PoB_mk
/-! ShadowDoors$Reader.readSize -/
noncomputable def fX6_readSize (tl : Nat) (I : HI) (L : HL) : Option (Bool × HI × HL) :=
  Option.bind (fX6_takeNumber (1 : Int32) (8 : Int32) I L) fun q1 =>
  if (b2i q1.1) = 0 then
    some (false, q1.2.1, q1.2.2)
  else
    Option.bind (fX6_take (1 : Int32) q1.2.1 q1.2.2) fun q2 =>
    if (b2i q2.1) = 0 then
      some (false, q2.2.1, q2.2.2)
    else
      Option.bind (fX6_takeNumber (1 : Int32) (8 : Int32) q2.2.1 q2.2.2) fun q3 =>
      if (b2i q3.1) = 0 then
        some (false, q3.2.1, q3.2.2)
      else
        obn (fX5_setSize tl (q1.2.1 48 3) (q3.2.1 48 3) q3.2.1) fun q4 =>
        Option.bind (fX6_take (59 : Int32) q4 q3.2.2) fun q5 =>
        some (q5.1, q5.2.1, q5.2.2)
set_option maxRecDepth 100000 in
set_option maxHeartbeats 4000000 in
theorem tX6_readSize {g : GG} {n d : Nat} {tw dr sk tl ff : Nat} (hG : RG tw dr sk tl ff) (hn : 116 ≤ n) {I : HI} {L : HL} {res : Bool × HI × HL} (hf : fX6_readSize tl I L = some res) : CT g mX6_readSize (d + 7) 0 0 n (RT tw dr sk tl ff) I L [.ref 48] (PoB n (RT tw dr sk tl ff) res.1 res.2.1 res.2.2) := by
  refine CT.of rfl (Nat.le_of_ble_eq_true rfl) ?_
  show V g mX6_readSize (d + 7) 0 0 n (RT tw dr sk tl ff) I L 0 [some (.ref 48)] [] (PoB n (RT tw dr sk tl ff) res.1 res.2.1 res.2.2)
  refine V_aload_n (pc := 0) dX6_readSize_0 rfl rfl rfl ?_
  refine V_iconst (pc := 1) dX6_readSize_1 ic_1 rfl ?_
  refine V_bipush (pc := 2) dX6_readSize_2 bp_8 rfl ?_
  obtain ⟨q1, hq1, hf⟩ := bnd hf
  refine V_cVz (md' := mX6_takeNumber) (pc := 4) dX6_readSize_4 mlX6_111 mVX6_takeNumber (tX6_takeNumber hG hn hq1) rfl (by omega) (congrArg Prod.fst sh_48) rfl (Nat.le_of_ble_eq_true rfl) rfl ?_
  refine V_if_ne (pc := 7) (tgt := 12) dX6_readSize_7 (by decide) rfl (fun hc => ?_) (fun hc => ?_)
  · replace hf := (if_neg hc).symm.trans hf
    refine V_aload_n (pc := 12) dX6_readSize_12 rfl rfl rfl ?_
    refine V_getI (pc := 13) dX6_readSize_13 flX6_114 rfl (by omega) (congrArg Prod.fst sh_48) rfl ?_
    refine V_istore_n (ls' := [some _, some _]) (pc := 16) dX6_readSize_16 rfl (Nat.le_of_ble_eq_true rfl) rfl rfl ?_
    refine V_aload_n (pc := 17) dX6_readSize_17 rfl rfl rfl ?_
    refine V_iconst (pc := 18) dX6_readSize_18 ic_1 rfl ?_
    obtain ⟨q2, hq2, hf⟩ := bnd hf
    refine V_cVz (md' := mX6_take) (pc := 19) dX6_readSize_19 mlX6_117 mVX6_take (tX6_take hG hn hq2) rfl (by omega) (congrArg Prod.fst sh_48) rfl (Nat.le_of_ble_eq_true rfl) rfl ?_
    refine V_if_eq (pc := 22) (tgt := 35) dX6_readSize_22 (by decide) rfl (fun hc => ?_) (fun hc => ?_)
    · replace hf := (if_pos hc).symm.trans hf
      refine V_iconst (pc := 35) dX6_readSize_35 ic_0 rfl ?_
      cases hf
      exact V_zretE (pc := 36) dX6_readSize_36 rfl (show (0 : Int32) = b2i false from rfl) PoB_mk
    · replace hf := (if_neg hc).symm.trans hf
      refine V_aload_n (pc := 25) dX6_readSize_25 rfl rfl rfl ?_
      refine V_iconst (pc := 26) dX6_readSize_26 ic_1 rfl ?_
      refine V_bipush (pc := 27) dX6_readSize_27 bp_8 rfl ?_
      obtain ⟨q3, hq3, hf⟩ := bnd hf
      refine V_cVz (md' := mX6_takeNumber) (pc := 29) dX6_readSize_29 mlX6_111 mVX6_takeNumber (tX6_takeNumber hG hn hq3) rfl (by omega) (congrArg Prod.fst sh_48) rfl (Nat.le_of_ble_eq_true rfl) rfl ?_
      refine V_if_ne (pc := 32) (tgt := 37) dX6_readSize_32 (by decide) rfl (fun hc => ?_) (fun hc => ?_)
      · replace hf := (if_neg hc).symm.trans hf
        refine V_aload_n (pc := 37) dX6_readSize_37 rfl rfl rfl ?_
        refine V_getR (pc := 38) dX6_readSize_38 flX6_30 rfl (by omega) (congrArg Prod.fst sh_48) rt_48_2 rfl ?_
        refine V_iload_n (pc := 41) dX6_readSize_41 rfl rfl rfl ?_
        refine V_aload_n (pc := 42) dX6_readSize_42 rfl rfl rfl ?_
        refine V_getI (pc := 43) dX6_readSize_43 flX6_114 rfl (by omega) (congrArg Prod.fst sh_48) rfl ?_
        obtain ⟨q4, hq4, hf⟩ := obd hf
        refine V_cVv (md' := mX5_setSize) (pc := 46) dX6_readSize_46 mlX6_120 mVX5_setSize (tX5_setSize hG.2.2.2 (rQ_RT hG.2.2.2) (by omega) hq4) rfl (by omega) (congrArg Prod.fst (shQ hG.2.2.2)) rfl (Nat.le_of_ble_eq_true rfl) rfl ?_
        refine V_aload_n (pc := 49) dX6_readSize_49 rfl rfl rfl ?_
        refine V_bipush (pc := 50) dX6_readSize_50 bp_59 rfl ?_
        obtain ⟨q5, hq5, hf⟩ := bnd hf
        refine V_cVz (md' := mX6_take) (pc := 52) dX6_readSize_52 mlX6_117 mVX6_take (tX6_take hG hn hq5) rfl (by omega) (congrArg Prod.fst sh_48) rfl (Nat.le_of_ble_eq_true rfl) rfl ?_
        cases hf
        exact V_zretE (pc := 55) dX6_readSize_55 rfl rfl PoB_mk
      · replace hf := (if_pos hc).symm.trans hf
        refine V_iconst (pc := 35) dX6_readSize_35 ic_0 rfl ?_
        cases hf
        exact V_zretE (pc := 36) dX6_readSize_36 rfl (show (0 : Int32) = b2i false from rfl) PoB_mk
  · replace hf := (if_pos hc).symm.trans hf
    refine V_iconst (pc := 10) dX6_readSize_10 ic_0 rfl ?_
    cases hf
    exact V_zretE (pc := 11) dX6_readSize_11 rfl (show (0 : Int32) = b2i false from rfl) PoB_mk
/-! ShadowDoors$Reader.takeCell -/
noncomputable def fX6_takeCell (tl : Nat) (v1 : Int32) (I : HI) (L : HL) : Option (Bool × HI × HL) :=
  Option.bind (fX6_takeNumber (0 : Int32) ((I tl 0) - (1 : Int32)) I L) fun q1 =>
  if (b2i q1.1) = 0 then
    some (false, q1.2.1, q1.2.2)
  else
    Option.bind (
      if (q1.2.1 49 4) = (21 : Int32) then
        if (q1.2.1 tl 1) ≤ (q1.2.1 49 6) then
          some true
        else
          some false
      else
        some true
    ) fun b2 =>
    if b2 = true then
      Option.bind (fX6_takeNumber (0 : Int32) ((q1.2.1 tl 1) - (1 : Int32)) q1.2.1 q1.2.2) fun q3 =>
      some (q3.1, q3.2.1, q3.2.2)
    else
      let I4 : HI := up2 q1.2.1 48 4 (((q1.2.1 49 6) * (q1.2.1 tl 0)) + (q1.2.1 48 3))
      Option.bind (fX6_isTaken tl v1 I4 q1.2.2) fun q5 =>
      if (b2i q5) = 0 then
        Option.bind (fX6_takeNumber (0 : Int32) ((I4 tl 1) - (1 : Int32)) I4 q1.2.2) fun q6 =>
        some (q6.1, q6.2.1, q6.2.2)
      else
        obn (fX6_refuse (3 : Int32) I4) fun q7 =>
        some (q7.1, q7.2, q1.2.2)
set_option maxRecDepth 100000 in
set_option maxHeartbeats 4000000 in
theorem tX6_takeCell {g : GG} {n d : Nat} {tw dr sk tl ff : Nat} (hG : RG tw dr sk tl ff) (hn : 116 ≤ n) {v1 : Int32} {I : HI} {L : HL} {res : Bool × HI × HL} (hf : fX6_takeCell tl v1 I L = some res) : CT g mX6_takeCell (d + 7) 0 0 n (RT tw dr sk tl ff) I L [.ref 48, .int v1] (PoB n (RT tw dr sk tl ff) res.1 res.2.1 res.2.2) := by
  refine CT.of rfl (Nat.le_of_ble_eq_true rfl) ?_
  show V g mX6_takeCell (d + 7) 0 0 n (RT tw dr sk tl ff) I L 0 [some (.ref 48), some (.int v1)] [] (PoB n (RT tw dr sk tl ff) res.1 res.2.1 res.2.2)
  refine V_aload_n (pc := 0) dX6_takeCell_0 rfl rfl rfl ?_
  refine V_iconst (pc := 1) dX6_takeCell_1 ic_0 rfl ?_
  refine V_aload_n (pc := 2) dX6_takeCell_2 rfl rfl rfl ?_
  refine V_getR (pc := 3) dX6_takeCell_3 flX6_30 rfl (by omega) (congrArg Prod.fst sh_48) rt_48_2 rfl ?_
  refine V_getI (pc := 6) dX6_takeCell_6 flX6_167 rfl (by omega) (congrArg Prod.fst (shQ hG.2.2.2)) rfl ?_
  refine V_iconst (pc := 9) dX6_takeCell_9 ic_1 rfl ?_
  refine V_isub (pc := 10) dX6_takeCell_10 rfl ?_
  obtain ⟨q1, hq1, hf⟩ := bnd hf
  refine V_cVz (md' := mX6_takeNumber) (pc := 11) dX6_takeCell_11 mlX6_111 mVX6_takeNumber (tX6_takeNumber hG hn hq1) rfl (by omega) (congrArg Prod.fst sh_48) rfl (Nat.le_of_ble_eq_true rfl) rfl ?_
  refine V_if_ne (pc := 14) (tgt := 19) dX6_takeCell_14 (by decide) rfl (fun hc => ?_) (fun hc => ?_)
  · replace hf := (if_neg hc).symm.trans hf
    refine V_aload_n (pc := 19) dX6_takeCell_19 rfl rfl rfl ?_
    refine V_getI (pc := 20) dX6_takeCell_20 flX6_114 rfl (by omega) (congrArg Prod.fst sh_48) rfl ?_
    refine V_istore_n (ls' := [some _, some _, some _]) (pc := 23) dX6_takeCell_23 rfl (Nat.le_of_ble_eq_true rfl) rfl rfl ?_
    refine V_aload_n (pc := 24) dX6_takeCell_24 rfl rfl rfl ?_
    refine V_getR (pc := 25) dX6_takeCell_25 flX6_9 rfl (by omega) (congrArg Prod.fst sh_48) rt_48_0 rfl ?_
    refine V_getI (pc := 28) dX6_takeCell_28 flX6_57 rfl (by omega) (congrArg Prod.fst sh_49) rfl ?_
    refine V_bipush (pc := 31) dX6_takeCell_31 bp_21 rfl ?_
    obtain ⟨b2, hb2, hf⟩ := bnd hf
    have KTb2 : b2 = true → V g mX6_takeCell (d + 7) 0 0 n (RT tw dr sk tl ff) q1.2.1 q1.2.2 88 [some (.ref 48), some (.int v1), some (.int (q1.2.1 48 3))] [] (PoB n (RT tw dr sk tl ff) res.1 res.2.1 res.2.2) := fun hc => by
      replace hf := (if_pos hc).symm.trans hf
      refine V_aload_n (pc := 88) dX6_takeCell_88 rfl rfl rfl ?_
      refine V_iconst (pc := 89) dX6_takeCell_89 ic_0 rfl ?_
      refine V_aload_n (pc := 90) dX6_takeCell_90 rfl rfl rfl ?_
      refine V_getR (pc := 91) dX6_takeCell_91 flX6_30 rfl (by omega) (congrArg Prod.fst sh_48) rt_48_2 rfl ?_
      refine V_getI (pc := 94) dX6_takeCell_94 flX6_173 rfl (by omega) (congrArg Prod.fst (shQ hG.2.2.2)) rfl ?_
      refine V_iconst (pc := 97) dX6_takeCell_97 ic_1 rfl ?_
      refine V_isub (pc := 98) dX6_takeCell_98 rfl ?_
      obtain ⟨q3, hq3, hf⟩ := bnd hf
      refine V_cVz (md' := mX6_takeNumber) (pc := 99) dX6_takeCell_99 mlX6_111 mVX6_takeNumber (tX6_takeNumber hG hn hq3) rfl (by omega) (congrArg Prod.fst sh_48) rfl (Nat.le_of_ble_eq_true rfl) rfl ?_
      cases hf
      exact V_zretE (pc := 102) dX6_takeCell_102 rfl rfl PoB_mk
    have KFb2 : ¬ b2 = true → V g mX6_takeCell (d + 7) 0 0 n (RT tw dr sk tl ff) q1.2.1 q1.2.2 53 [some (.ref 48), some (.int v1), some (.int (q1.2.1 48 3))] [] (PoB n (RT tw dr sk tl ff) res.1 res.2.1 res.2.2) := fun hc => by
      replace hf := (if_neg hc).symm.trans hf
      refine V_aload_n (pc := 53) dX6_takeCell_53 rfl rfl rfl ?_
      refine V_aload_n (pc := 54) dX6_takeCell_54 rfl rfl rfl ?_
      refine V_getR (pc := 55) dX6_takeCell_55 flX6_9 rfl (by omega) (congrArg Prod.fst sh_48) rt_48_0 rfl ?_
      refine V_getI (pc := 58) dX6_takeCell_58 flX6_170 rfl (by omega) (congrArg Prod.fst sh_49) rfl ?_
      refine V_aload_n (pc := 61) dX6_takeCell_61 rfl rfl rfl ?_
      refine V_getR (pc := 62) dX6_takeCell_62 flX6_30 rfl (by omega) (congrArg Prod.fst sh_48) rt_48_2 rfl ?_
      refine V_getI (pc := 65) dX6_takeCell_65 flX6_167 rfl (by omega) (congrArg Prod.fst (shQ hG.2.2.2)) rfl ?_
      refine V_imul (pc := 68) dX6_takeCell_68 rfl ?_
      refine V_iload_n (pc := 69) dX6_takeCell_69 rfl rfl rfl ?_
      refine V_iadd (pc := 70) dX6_takeCell_70 rfl ?_
      let I4 : HI := up2 q1.2.1 48 4 (((q1.2.1 49 6) * (q1.2.1 tl 0)) + (q1.2.1 48 3))
      refine V_putI (pc := 71) dX6_takeCell_71 flX6_137 rfl rfl (by omega) (congrArg Prod.fst sh_48) rfl ?_
      refine V_aload_n (pc := 74) dX6_takeCell_74 rfl rfl rfl ?_
      refine V_iload_n (pc := 75) dX6_takeCell_75 rfl rfl rfl ?_
      obtain ⟨q5, hq5, hf⟩ := bnd hf
      refine V_cVz (md' := mX6_isTaken) (pc := 76) dX6_takeCell_76 mlX6_176 mVX6_isTaken (tX6_isTaken hG hn hq5) rfl (by omega) (congrArg Prod.fst sh_48) rfl (Nat.le_of_ble_eq_true rfl) rfl ?_
      refine V_if_eq (pc := 79) (tgt := 88) dX6_takeCell_79 (by decide) rfl (fun hc => ?_) (fun hc => ?_)
      · replace hf := (if_pos hc).symm.trans hf
        refine V_aload_n (pc := 88) dX6_takeCell_88 rfl rfl rfl ?_
        refine V_iconst (pc := 89) dX6_takeCell_89 ic_0 rfl ?_
        refine V_aload_n (pc := 90) dX6_takeCell_90 rfl rfl rfl ?_
        refine V_getR (pc := 91) dX6_takeCell_91 flX6_30 rfl (by omega) (congrArg Prod.fst sh_48) rt_48_2 rfl ?_
        refine V_getI (pc := 94) dX6_takeCell_94 flX6_173 rfl (by omega) (congrArg Prod.fst (shQ hG.2.2.2)) rfl ?_
        refine V_iconst (pc := 97) dX6_takeCell_97 ic_1 rfl ?_
        refine V_isub (pc := 98) dX6_takeCell_98 rfl ?_
        obtain ⟨q6, hq6, hf⟩ := bnd hf
        refine V_cVz (md' := mX6_takeNumber) (pc := 99) dX6_takeCell_99 mlX6_111 mVX6_takeNumber (tX6_takeNumber hG hn hq6) rfl (by omega) (congrArg Prod.fst sh_48) rfl (Nat.le_of_ble_eq_true rfl) rfl ?_
        cases hf
        exact V_zretE (pc := 102) dX6_takeCell_102 rfl rfl PoB_mk
      · replace hf := (if_neg hc).symm.trans hf
        refine V_aload_n (pc := 82) dX6_takeCell_82 rfl rfl rfl ?_
        refine V_iconst (pc := 83) dX6_takeCell_83 ic_3 rfl ?_
        obtain ⟨q7, hq7, hf⟩ := obd hf
        refine V_cVz (md' := mX6_refuse) (pc := 84) dX6_takeCell_84 mlX6_64 mVX6_refuse (tX6_refuse hG hn hq7) rfl (by omega) (congrArg Prod.fst sh_48) rfl (Nat.le_of_ble_eq_true rfl) rfl ?_
        cases hf
        exact V_zretE (pc := 87) dX6_takeCell_87 rfl rfl PoB_mk
    refine V_icmp_ne (pc := 33) (tgt := 88) dX6_takeCell_33 (by decide) rfl (fun hc => ?_) (fun hc => ?_)
    · replace hb2 := (if_neg hc).symm.trans hb2
      cases hb2
      exact KTb2 rfl
    · replace hb2 := (if_pos hc).symm.trans hb2
      refine V_aload_n (pc := 36) dX6_takeCell_36 rfl rfl rfl ?_
      refine V_getR (pc := 37) dX6_takeCell_37 flX6_9 rfl (by omega) (congrArg Prod.fst sh_48) rt_48_0 rfl ?_
      refine V_getI (pc := 40) dX6_takeCell_40 flX6_170 rfl (by omega) (congrArg Prod.fst sh_49) rfl ?_
      refine V_aload_n (pc := 43) dX6_takeCell_43 rfl rfl rfl ?_
      refine V_getR (pc := 44) dX6_takeCell_44 flX6_30 rfl (by omega) (congrArg Prod.fst sh_48) rt_48_2 rfl ?_
      refine V_getI (pc := 47) dX6_takeCell_47 flX6_173 rfl (by omega) (congrArg Prod.fst (shQ hG.2.2.2)) rfl ?_
      refine V_icmp_ge (pc := 50) (tgt := 88) dX6_takeCell_50 (by decide) rfl (fun hc => ?_) (fun hc => ?_)
      · replace hb2 := (if_pos hc).symm.trans hb2
        cases hb2
        exact KTb2 rfl
      · replace hb2 := (if_neg hc).symm.trans hb2
        cases hb2
        exact KFb2 (nbt rfl)
  · replace hf := (if_pos hc).symm.trans hf
    refine V_iconst (pc := 17) dX6_takeCell_17 ic_0 rfl ?_
    cases hf
    exact V_zretE (pc := 18) dX6_takeCell_18 rfl (show (0 : Int32) = b2i false from rfl) PoB_mk
/-! ShadowDoors$Reader.readWalls -/
noncomputable def fX6_readWalls_2 (tl : Nat) : Nat → Int32 → HI → HL → Option (Bool × HI × HL)
  | 0, _, _, _ => none
  | fu + 1, y1, I, L =>
    if (24 : Int32) < y1 then
      obn (fX6_refuse (2 : Int32) I) fun q1 =>
      some (q1.1, q1.2, L)
    else
      if (fJ13_bitCount_95d88 (L tl 3)) < (24 : Int32) then
        Option.bind (fX6_takeCell tl (2 : Int32) I L) fun q2 =>
        if (b2i q2.1) = 0 then
          some (false, q2.2.1, q2.2.2)
        else
          let L3 : HL := up2 q2.2.2 tl 3 ((q2.2.2 tl 3) ||| ((1 : Int64) <<< ((q2.2.1 48 4).toInt64 &&& 63)))
          if (q2.2.1 49 4) = (21 : Int32) then
            fX6_readWalls_2 tl fu (y1 + (1 : Int32)) q2.2.1 L3
          else
            Option.bind (fX6_take (59 : Int32) q2.2.1 L3) fun q4 =>
            some (q4.1, q4.2.1, q4.2.2)
      else
        obn (fX6_refuse (2 : Int32) I) fun q5 =>
        some (q5.1, q5.2, L)
set_option maxRecDepth 100000 in
set_option maxHeartbeats 4000000 in
theorem lX6_readWalls_2 {g : GG} {n d : Nat} {tw dr sk tl ff : Nat} (hG : RG tw dr sk tl ff) (hn : 116 ≤ n) {P : PP} : ∀ (fu : Nat) (y1 : Int32) (I : HI) (L : HL) (res : Bool × HI × HL), fX6_readWalls_2 tl fu y1 I L = some res → P (some (.int (b2i res.1))) n (RT tw dr sk tl ff) res.2.1 res.2.2 → V g mX6_readWalls (d + 8) 0 0 n (RT tw dr sk tl ff) I L 2 [some (.ref 48), some (.int y1)] [] P := by
  intro fu
  induction fu with
  | zero => intro y1 I L res hf; cases (show none = some res from hf)
  | succ fu ih =>
    intro y1 I L res hf K
    refine V_iload_n (pc := 2) dX6_readWalls_2 rfl rfl rfl ?_
    refine V_bipush (pc := 3) dX6_readWalls_3 bp_24 rfl ?_
    refine V_icmp_gt (pc := 5) (tgt := 82) dX6_readWalls_5 (by decide) rfl (fun hc => ?_) (fun hc => ?_)
    · replace hf := (if_pos hc).symm.trans hf
      refine V_aload_n (pc := 82) dX6_readWalls_82 rfl rfl rfl ?_
      refine V_iconst (pc := 83) dX6_readWalls_83 ic_2 rfl ?_
      obtain ⟨q1, hq1, hf⟩ := obd hf
      refine V_cVz (md' := mX6_refuse) (pc := 84) dX6_readWalls_84 mlX6_64 mVX6_refuse (tX6_refuse hG hn hq1) rfl (by omega) (congrArg Prod.fst sh_48) rfl (Nat.le_of_ble_eq_true rfl) rfl ?_
      cases hf
      exact V_zretE (pc := 87) dX6_readWalls_87 rfl rfl K
    · replace hf := (if_neg hc).symm.trans hf
      refine V_aload_n (pc := 8) dX6_readWalls_8 rfl rfl rfl ?_
      refine V_getR (pc := 9) dX6_readWalls_9 flX6_30 rfl (by omega) (congrArg Prod.fst sh_48) rt_48_2 rfl ?_
      refine V_getL (pc := 12) dX6_readWalls_12 flX6_124 rfl (by omega) (congrArg Prod.fst (shQ hG.2.2.2)) rfl ?_
      refine V_cSi (md' := mJ13_bitCount_95d88) (pc := 15) dX6_readWalls_15 mlX6_128 mSJ13_bitCount_95d88 (tJ13_bitCount_95d88 rfl) rfl rfl (Nat.le_of_ble_eq_true rfl) rfl ?_
      refine V_bipush (pc := 18) dX6_readWalls_18 bp_24 rfl ?_
      refine V_icmp_lt (pc := 20) (tgt := 29) dX6_readWalls_20 (by decide) rfl (fun hc => ?_) (fun hc => ?_)
      · replace hf := (if_pos hc).symm.trans hf
        refine V_aload_n (pc := 29) dX6_readWalls_29 rfl rfl rfl ?_
        refine V_iconst (pc := 30) dX6_readWalls_30 ic_2 rfl ?_
        obtain ⟨q2, hq2, hf⟩ := bnd hf
        refine V_cVz (md' := mX6_takeCell) (pc := 31) dX6_readWalls_31 mlX6_134 mVX6_takeCell (tX6_takeCell hG hn hq2) rfl (by omega) (congrArg Prod.fst sh_48) rfl (Nat.le_of_ble_eq_true rfl) rfl ?_
        refine V_if_ne (pc := 34) (tgt := 39) dX6_readWalls_34 (by decide) rfl (fun hc => ?_) (fun hc => ?_)
        · replace hf := (if_neg hc).symm.trans hf
          refine V_aload_n (pc := 39) dX6_readWalls_39 rfl rfl rfl ?_
          refine V_getR (pc := 40) dX6_readWalls_40 flX6_30 rfl (by omega) (congrArg Prod.fst sh_48) rt_48_2 rfl ?_
          refine V_dup (pc := 43) dX6_readWalls_43 rfl rfl ?_
          refine V_getL (pc := 44) dX6_readWalls_44 flX6_124 rfl (by omega) (congrArg Prod.fst (shQ hG.2.2.2)) rfl ?_
          refine V_lconst (pc := 47) dX6_readWalls_47 lc_1 rfl ?_
          refine V_aload_n (pc := 48) dX6_readWalls_48 rfl rfl rfl ?_
          refine V_getI (pc := 49) dX6_readWalls_49 flX6_137 rfl (by omega) (congrArg Prod.fst sh_48) rfl ?_
          refine V_lshl (pc := 52) dX6_readWalls_52 rfl ?_
          refine V_lor (pc := 53) dX6_readWalls_53 rfl ?_
          let L3 : HL := up2 q2.2.2 tl 3 ((q2.2.2 tl 3) ||| ((1 : Int64) <<< ((q2.2.1 48 4).toInt64 &&& 63)))
          refine V_putL (pc := 54) dX6_readWalls_54 flX6_124 rfl rfl (by omega) (congrArg Prod.fst (shQ hG.2.2.2)) rfl ?_
          refine V_aload_n (pc := 57) dX6_readWalls_57 rfl rfl rfl ?_
          refine V_getR (pc := 58) dX6_readWalls_58 flX6_9 rfl (by omega) (congrArg Prod.fst sh_48) rt_48_0 rfl ?_
          refine V_getI (pc := 61) dX6_readWalls_61 flX6_57 rfl (by omega) (congrArg Prod.fst sh_49) rfl ?_
          refine V_bipush (pc := 64) dX6_readWalls_64 bp_21 rfl ?_
          refine V_icmp_eq (pc := 66) (tgt := 76) dX6_readWalls_66 (by decide) rfl (fun hc => ?_) (fun hc => ?_)
          · replace hf := (if_pos hc).symm.trans hf
            refine V_iinc (ls' := [some _, some _]) (pc := 76) dX6_readWalls_76 rfl (Nat.le_of_ble_eq_true rfl) (congrArg _ ic_1) rfl rfl ?_
            refine V_goto (pc := 79) (tgt := 2) dX6_readWalls_79 (by decide) ?_
            exact V_wk (ih _ _ _ _ hf K) ⟨rfl, ⟨rfl, trivial⟩⟩
          · replace hf := (if_neg hc).symm.trans hf
            refine V_aload_n (pc := 69) dX6_readWalls_69 rfl rfl rfl ?_
            refine V_bipush (pc := 70) dX6_readWalls_70 bp_59 rfl ?_
            obtain ⟨q4, hq4, hf⟩ := bnd hf
            refine V_cVz (md' := mX6_take) (pc := 72) dX6_readWalls_72 mlX6_117 mVX6_take (tX6_take hG hn hq4) rfl (by omega) (congrArg Prod.fst sh_48) rfl (Nat.le_of_ble_eq_true rfl) rfl ?_
            cases hf
            exact V_zretE (pc := 75) dX6_readWalls_75 rfl rfl K
        · replace hf := (if_pos hc).symm.trans hf
          refine V_iconst (pc := 37) dX6_readWalls_37 ic_0 rfl ?_
          cases hf
          exact V_zretE (pc := 38) dX6_readWalls_38 rfl (show (0 : Int32) = b2i false from rfl) K
      · replace hf := (if_neg hc).symm.trans hf
        refine V_aload_n (pc := 23) dX6_readWalls_23 rfl rfl rfl ?_
        refine V_iconst (pc := 24) dX6_readWalls_24 ic_2 rfl ?_
        obtain ⟨q5, hq5, hf⟩ := obd hf
        refine V_cVz (md' := mX6_refuse) (pc := 25) dX6_readWalls_25 mlX6_64 mVX6_refuse (tX6_refuse hG hn hq5) rfl (by omega) (congrArg Prod.fst sh_48) rfl (Nat.le_of_ble_eq_true rfl) rfl ?_
        cases hf
        exact V_zretE (pc := 28) dX6_readWalls_28 rfl rfl K
noncomputable def fX6_readWalls (tl : Nat) (I : HI) (L : HL) : Option (Bool × HI × HL) :=
  Option.bind (fX6_readWalls_2 tl FUEL (0 : Int32) I L) fun q6 =>
  some (q6.1, q6.2.1, q6.2.2)
set_option maxRecDepth 100000 in
set_option maxHeartbeats 4000000 in
theorem tX6_readWalls {g : GG} {n d : Nat} {tw dr sk tl ff : Nat} (hG : RG tw dr sk tl ff) (hn : 116 ≤ n) {I : HI} {L : HL} {res : Bool × HI × HL} (hf : fX6_readWalls tl I L = some res) : CT g mX6_readWalls (d + 8) 0 0 n (RT tw dr sk tl ff) I L [.ref 48] (PoB n (RT tw dr sk tl ff) res.1 res.2.1 res.2.2) := by
  refine CT.of rfl (Nat.le_of_ble_eq_true rfl) ?_
  show V g mX6_readWalls (d + 8) 0 0 n (RT tw dr sk tl ff) I L 0 [some (.ref 48)] [] (PoB n (RT tw dr sk tl ff) res.1 res.2.1 res.2.2)
  refine V_iconst (pc := 0) dX6_readWalls_0 ic_0 rfl ?_
  refine V_istore_n (ls' := [some _, some _]) (pc := 1) dX6_readWalls_1 rfl (Nat.le_of_ble_eq_true rfl) rfl rfl ?_
  obtain ⟨q6, hq6, hf⟩ := bnd hf
  refine V_wk (lX6_readWalls_2 hG hn FUEL _ _ _ _ hq6 ?_) ⟨rfl, ⟨rfl, trivial⟩⟩
  cases hf
  exact PoB_mk
/-! ShadowDoors$Reader.takeName -/
noncomputable def fX6_takeName (tt1 : Nat) (I : HI) (L : HL) : Option (Bool × HI × HL) :=
  if (I 49 4) = (20 : Int32) then
    Option.bind (fX8_isNamed tt1 (L 49 7) I L) fun q1 =>
    if (b2i q1) = 0 then
      Option.bind (fX9_advance  I L) fun q2 =>
      some (true, q2.1, q2.2)
    else
      obn (fX6_refuse (3 : Int32) I) fun q3 =>
      some (q3.1, q3.2, L)
  else
    obn (fX6_refuse (2 : Int32) I) fun q4 =>
    some (q4.1, q4.2, L)
set_option maxRecDepth 100000 in
set_option maxHeartbeats 4000000 in
theorem tX6_takeName {g : GG} {n d : Nat} {tw dr sk tl ff : Nat} {tt1 : Nat} (hG : RG tw dr sk tl ff) (hn : 116 ≤ n) (htt1 : isT tt1) {I : HI} {L : HL} {res : Bool × HI × HL} (hf : fX6_takeName tt1 I L = some res) : CT g mX6_takeName (d + 6) 0 0 n (RT tw dr sk tl ff) I L [.ref 48, .ref tt1] (PoB n (RT tw dr sk tl ff) res.1 res.2.1 res.2.2) := by
  refine CT.of rfl (Nat.le_of_ble_eq_true rfl) ?_
  show V g mX6_takeName (d + 6) 0 0 n (RT tw dr sk tl ff) I L 0 [some (.ref 48), some (.ref tt1)] [] (PoB n (RT tw dr sk tl ff) res.1 res.2.1 res.2.2)
  refine V_aload_n (pc := 0) dX6_takeName_0 rfl rfl rfl ?_
  refine V_getR (pc := 1) dX6_takeName_1 flX6_9 rfl (by omega) (congrArg Prod.fst sh_48) rt_48_0 rfl ?_
  refine V_getI (pc := 4) dX6_takeName_4 flX6_57 rfl (by omega) (congrArg Prod.fst sh_49) rfl ?_
  refine V_bipush (pc := 7) dX6_takeName_7 bp_20 rfl ?_
  refine V_icmp_eq (pc := 9) (tgt := 18) dX6_takeName_9 (by decide) rfl (fun hc => ?_) (fun hc => ?_)
  · replace hf := (if_pos hc).symm.trans hf
    refine V_aload_n (pc := 18) dX6_takeName_18 rfl rfl rfl ?_
    refine V_aload_n (pc := 19) dX6_takeName_19 rfl rfl rfl ?_
    refine V_getR (pc := 20) dX6_takeName_20 flX6_9 rfl (by omega) (congrArg Prod.fst sh_48) rt_48_0 rfl ?_
    refine V_getL (pc := 23) dX6_takeName_23 flX6_140 rfl (by omega) (congrArg Prod.fst sh_49) rfl ?_
    obtain ⟨q1, hq1, hf⟩ := bnd hf
    refine V_cVz (md' := mX8_isNamed) (pc := 26) dX6_takeName_26 mlX6_163 mVX8_isNamed (tX8_isNamed htt1 (rT_RT htt1) (by omega) hq1) rfl (by omega) (congrArg Prod.fst (shT htt1)) rfl (Nat.le_of_ble_eq_true rfl) rfl ?_
    refine V_if_eq (pc := 29) (tgt := 38) dX6_takeName_29 (by decide) rfl (fun hc => ?_) (fun hc => ?_)
    · replace hf := (if_pos hc).symm.trans hf
      refine V_aload_n (pc := 38) dX6_takeName_38 rfl rfl rfl ?_
      refine V_getR (pc := 39) dX6_takeName_39 flX6_9 rfl (by omega) (congrArg Prod.fst sh_48) rt_48_0 rfl ?_
      obtain ⟨q2, hq2, hf⟩ := bnd hf
      refine V_cVv (md' := mX9_advance) (pc := 42) dX6_takeName_42 mlX6_68 mVX9_advance (tX9_advance hG hn hq2) rfl (by omega) (congrArg Prod.fst sh_49) rfl (Nat.le_of_ble_eq_true rfl) rfl ?_
      refine V_iconst (pc := 45) dX6_takeName_45 ic_1 rfl ?_
      cases hf
      exact V_zretE (pc := 46) dX6_takeName_46 rfl (show (1 : Int32) = b2i true from rfl) PoB_mk
    · replace hf := (if_neg hc).symm.trans hf
      refine V_aload_n (pc := 32) dX6_takeName_32 rfl rfl rfl ?_
      refine V_iconst (pc := 33) dX6_takeName_33 ic_3 rfl ?_
      obtain ⟨q3, hq3, hf⟩ := obd hf
      refine V_cVz (md' := mX6_refuse) (pc := 34) dX6_takeName_34 mlX6_64 mVX6_refuse (tX6_refuse hG hn hq3) rfl (by omega) (congrArg Prod.fst sh_48) rfl (Nat.le_of_ble_eq_true rfl) rfl ?_
      cases hf
      exact V_zretE (pc := 37) dX6_takeName_37 rfl rfl PoB_mk
  · replace hf := (if_neg hc).symm.trans hf
    refine V_aload_n (pc := 12) dX6_takeName_12 rfl rfl rfl ?_
    refine V_iconst (pc := 13) dX6_takeName_13 ic_2 rfl ?_
    obtain ⟨q4, hq4, hf⟩ := obd hf
    refine V_cVz (md' := mX6_refuse) (pc := 14) dX6_takeName_14 mlX6_64 mVX6_refuse (tX6_refuse hG hn hq4) rfl (by omega) (congrArg Prod.fst sh_48) rfl (Nat.le_of_ble_eq_true rfl) rfl ?_
    cases hf
    exact V_zretE (pc := 17) dX6_takeName_17 rfl rfl PoB_mk
/-! ShadowDoors$Reader.takeHours -/
noncomputable def fX6_takeHours (v1 : Int32) (I : HI) (L : HL) : Option (Bool × HI × HL) :=
  Option.bind (fX6_take v1 I L) fun q1 =>
  if (b2i q1.1) = 0 then
    some (false, q1.2.1, q1.2.2)
  else
    Option.bind (fX6_takeNumber (0 : Int32) (23 : Int32) q1.2.1 q1.2.2) fun q2 =>
    if (b2i q2.1) = 0 then
      some (false, q2.2.1, q2.2.2)
    else
      let I3 : HI := up2 q2.2.1 48 5 (q2.2.1 48 3)
      Option.bind (fX6_take (7 : Int32) I3 q2.2.2) fun q4 =>
      if (b2i q4.1) = 0 then
        some (false, q4.2.1, q4.2.2)
      else
        Option.bind (fX6_takeNumber ((q4.2.1 48 5) + (1 : Int32)) (24 : Int32) q4.2.1 q4.2.2) fun q5 =>
        if (b2i q5.1) = 0 then
          some (false, q5.2.1, q5.2.2)
        else
          some (true, q5.2.1, q5.2.2)
set_option maxRecDepth 100000 in
set_option maxHeartbeats 4000000 in
theorem tX6_takeHours {g : GG} {n d : Nat} {tw dr sk tl ff : Nat} (hG : RG tw dr sk tl ff) (hn : 116 ≤ n) {v1 : Int32} {I : HI} {L : HL} {res : Bool × HI × HL} (hf : fX6_takeHours v1 I L = some res) : CT g mX6_takeHours (d + 7) 0 0 n (RT tw dr sk tl ff) I L [.ref 48, .int v1] (PoB n (RT tw dr sk tl ff) res.1 res.2.1 res.2.2) := by
  refine CT.of rfl (Nat.le_of_ble_eq_true rfl) ?_
  show V g mX6_takeHours (d + 7) 0 0 n (RT tw dr sk tl ff) I L 0 [some (.ref 48), some (.int v1)] [] (PoB n (RT tw dr sk tl ff) res.1 res.2.1 res.2.2)
  refine V_aload_n (pc := 0) dX6_takeHours_0 rfl rfl rfl ?_
  refine V_iload_n (pc := 1) dX6_takeHours_1 rfl rfl rfl ?_
  obtain ⟨q1, hq1, hf⟩ := bnd hf
  refine V_cVz (md' := mX6_take) (pc := 2) dX6_takeHours_2 mlX6_117 mVX6_take (tX6_take hG hn hq1) rfl (by omega) (congrArg Prod.fst sh_48) rfl (Nat.le_of_ble_eq_true rfl) rfl ?_
  refine V_if_eq (pc := 5) (tgt := 18) dX6_takeHours_5 (by decide) rfl (fun hc => ?_) (fun hc => ?_)
  · replace hf := (if_pos hc).symm.trans hf
    refine V_iconst (pc := 18) dX6_takeHours_18 ic_0 rfl ?_
    cases hf
    exact V_zretE (pc := 19) dX6_takeHours_19 rfl (show (0 : Int32) = b2i false from rfl) PoB_mk
  · replace hf := (if_neg hc).symm.trans hf
    refine V_aload_n (pc := 8) dX6_takeHours_8 rfl rfl rfl ?_
    refine V_iconst (pc := 9) dX6_takeHours_9 ic_0 rfl ?_
    refine V_bipush (pc := 10) dX6_takeHours_10 bp_23 rfl ?_
    obtain ⟨q2, hq2, hf⟩ := bnd hf
    refine V_cVz (md' := mX6_takeNumber) (pc := 12) dX6_takeHours_12 mlX6_111 mVX6_takeNumber (tX6_takeNumber hG hn hq2) rfl (by omega) (congrArg Prod.fst sh_48) rfl (Nat.le_of_ble_eq_true rfl) rfl ?_
    refine V_if_ne (pc := 15) (tgt := 20) dX6_takeHours_15 (by decide) rfl (fun hc => ?_) (fun hc => ?_)
    · replace hf := (if_neg hc).symm.trans hf
      refine V_aload_n (pc := 20) dX6_takeHours_20 rfl rfl rfl ?_
      refine V_aload_n (pc := 21) dX6_takeHours_21 rfl rfl rfl ?_
      refine V_getI (pc := 22) dX6_takeHours_22 flX6_114 rfl (by omega) (congrArg Prod.fst sh_48) rfl ?_
      let I3 : HI := up2 q2.2.1 48 5 (q2.2.1 48 3)
      refine V_putI (pc := 25) dX6_takeHours_25 flX6_147 rfl rfl (by omega) (congrArg Prod.fst sh_48) rfl ?_
      refine V_aload_n (pc := 28) dX6_takeHours_28 rfl rfl rfl ?_
      refine V_bipush (pc := 29) dX6_takeHours_29 bp_7 rfl ?_
      obtain ⟨q4, hq4, hf⟩ := bnd hf
      refine V_cVz (md' := mX6_take) (pc := 31) dX6_takeHours_31 mlX6_117 mVX6_take (tX6_take hG hn hq4) rfl (by omega) (congrArg Prod.fst sh_48) rfl (Nat.le_of_ble_eq_true rfl) rfl ?_
      refine V_if_eq (pc := 34) (tgt := 56) dX6_takeHours_34 (by decide) rfl (fun hc => ?_) (fun hc => ?_)
      · replace hf := (if_pos hc).symm.trans hf
        refine V_iconst (pc := 56) dX6_takeHours_56 ic_0 rfl ?_
        cases hf
        exact V_zretE (pc := 57) dX6_takeHours_57 rfl (show (0 : Int32) = b2i false from rfl) PoB_mk
      · replace hf := (if_neg hc).symm.trans hf
        refine V_aload_n (pc := 37) dX6_takeHours_37 rfl rfl rfl ?_
        refine V_aload_n (pc := 38) dX6_takeHours_38 rfl rfl rfl ?_
        refine V_getI (pc := 39) dX6_takeHours_39 flX6_147 rfl (by omega) (congrArg Prod.fst sh_48) rfl ?_
        refine V_iconst (pc := 42) dX6_takeHours_42 ic_1 rfl ?_
        refine V_iadd (pc := 43) dX6_takeHours_43 rfl ?_
        refine V_bipush (pc := 44) dX6_takeHours_44 bp_24 rfl ?_
        obtain ⟨q5, hq5, hf⟩ := bnd hf
        refine V_cVz (md' := mX6_takeNumber) (pc := 46) dX6_takeHours_46 mlX6_111 mVX6_takeNumber (tX6_takeNumber hG hn hq5) rfl (by omega) (congrArg Prod.fst sh_48) rfl (Nat.le_of_ble_eq_true rfl) rfl ?_
        refine V_if_eq (pc := 49) (tgt := 56) dX6_takeHours_49 (by decide) rfl (fun hc => ?_) (fun hc => ?_)
        · replace hf := (if_pos hc).symm.trans hf
          refine V_iconst (pc := 56) dX6_takeHours_56 ic_0 rfl ?_
          cases hf
          exact V_zretE (pc := 57) dX6_takeHours_57 rfl (show (0 : Int32) = b2i false from rfl) PoB_mk
        · replace hf := (if_neg hc).symm.trans hf
          refine V_iconst (pc := 52) dX6_takeHours_52 ic_1 rfl ?_
          refine V_goto (pc := 53) (tgt := 57) dX6_takeHours_53 (by decide) ?_
          cases hf
          exact V_zretE (pc := 57) dX6_takeHours_57 rfl (show (1 : Int32) = b2i true from rfl) PoB_mk
    · replace hf := (if_pos hc).symm.trans hf
      refine V_iconst (pc := 18) dX6_takeHours_18 ic_0 rfl ?_
      cases hf
      exact V_zretE (pc := 19) dX6_takeHours_19 rfl (show (0 : Int32) = b2i false from rfl) PoB_mk
/-! ShadowDoors$Reader.readDoor -/
noncomputable def fX6_readDoor (tl : Nat) (I : HI) (L : HL) : Option (Bool × HI × HL) :=
  Option.bind (fX6_takeName (tl + 1) I L) fun q1 =>
  if (b2i q1.1) = 0 then
    some (false, q1.2.1, q1.2.2)
  else
    Option.bind (fX6_take (4 : Int32) q1.2.1 q1.2.2) fun q2 =>
    if (b2i q2.1) = 0 then
      some (false, q2.2.1, q2.2.2)
    else
      Option.bind (fX6_takeCell tl (3 : Int32) q2.2.1 q2.2.2) fun q3 =>
      if (b2i q3.1) = 0 then
        some (false, q3.2.1, q3.2.2)
      else
        Option.bind (fX6_take (5 : Int32) q3.2.1 q3.2.2) fun q4 =>
        if (b2i q4.1) = 0 then
          some (false, q4.2.1, q4.2.2)
        else
          Option.bind (fX6_takeNumber (1 : Int32) (9 : Int32) q4.2.1 q4.2.2) fun q5 =>
          if (b2i q5.1) = 0 then
            some (false, q5.2.1, q5.2.2)
          else
            let I6 : HI := up2 q5.2.1 48 5 (0 : Int32)
            let I7 : HI := up2 I6 48 3 (24 : Int32)
            if (I7 49 4) = (6 : Int32) then
              Option.bind (fX6_takeHours (6 : Int32) I7 q5.2.2) fun q10 =>
              if (b2i q10.1) = 0 then
                some (false, q10.2.1, q10.2.2)
              else
                Option.bind (fX8_add (tl + 1) (L 49 7) (q10.2.1 48 4) (q5.2.1 48 3) (q10.2.1 48 5) (q10.2.1 48 3) q10.2.1 q10.2.2) fun q11 =>
                Option.bind (fX6_take (59 : Int32) q11.1 q11.2) fun q12 =>
                some (q12.1, q12.2.1, q12.2.2)
            else
              Option.bind (fX8_add (tl + 1) (L 49 7) (I7 48 4) (q5.2.1 48 3) (I7 48 5) (I7 48 3) I7 q5.2.2) fun q8 =>
              Option.bind (fX6_take (59 : Int32) q8.1 q8.2) fun q9 =>
              some (q9.1, q9.2.1, q9.2.2)
set_option maxRecDepth 100000 in
set_option maxHeartbeats 4000000 in
theorem tX6_readDoor {g : GG} {n d : Nat} {tw dr sk tl ff : Nat} (hG : RG tw dr sk tl ff) (hn : 116 ≤ n) {I : HI} {L : HL} {res : Bool × HI × HL} (hf : fX6_readDoor tl I L = some res) : CT g mX6_readDoor (d + 8) 0 0 n (RT tw dr sk tl ff) I L [.ref 48] (PoB n (RT tw dr sk tl ff) res.1 res.2.1 res.2.2) := by
  refine CT.of rfl (Nat.le_of_ble_eq_true rfl) ?_
  show V g mX6_readDoor (d + 8) 0 0 n (RT tw dr sk tl ff) I L 0 [some (.ref 48)] [] (PoB n (RT tw dr sk tl ff) res.1 res.2.1 res.2.2)
  refine V_aload_n (pc := 0) dX6_readDoor_0 rfl rfl rfl ?_
  refine V_getR (pc := 1) dX6_readDoor_1 flX6_9 rfl (by omega) (congrArg Prod.fst sh_48) rt_48_0 rfl ?_
  refine V_getL (pc := 4) dX6_readDoor_4 flX6_140 rfl (by omega) (congrArg Prod.fst sh_49) rfl ?_
  refine V_lstore_n (ls' := [some _, some _, none]) (pc := 7) dX6_readDoor_7 rfl (Nat.le_of_ble_eq_true rfl) rfl rfl ?_
  refine V_aload_n (pc := 8) dX6_readDoor_8 rfl rfl rfl ?_
  refine V_aload_n (pc := 9) dX6_readDoor_9 rfl rfl rfl ?_
  refine V_getR (pc := 10) dX6_readDoor_10 flX6_30 rfl (by omega) (congrArg Prod.fst sh_48) rt_48_2 rfl ?_
  refine V_getR (pc := 13) dX6_readDoor_13 flX6_96 rfl (by omega) (congrArg Prod.fst (shQ hG.2.2.2)) (rQ_6 (rQ_RT hG.2.2.2)) rfl ?_
  obtain ⟨q1, hq1, hf⟩ := bnd hf
  refine V_cVz (md' := mX6_takeName) (pc := 16) dX6_readDoor_16 mlX6_143 mVX6_takeName (tX6_takeName hG hn (qT_6 hG.2.2.2) hq1) rfl (by omega) (congrArg Prod.fst sh_48) rfl (Nat.le_of_ble_eq_true rfl) rfl ?_
  refine V_if_eq (pc := 19) (tgt := 56) dX6_readDoor_19 (by decide) rfl (fun hc => ?_) (fun hc => ?_)
  · replace hf := (if_pos hc).symm.trans hf
    refine V_iconst (pc := 56) dX6_readDoor_56 ic_0 rfl ?_
    cases hf
    exact V_zretE (pc := 57) dX6_readDoor_57 rfl (show (0 : Int32) = b2i false from rfl) PoB_mk
  · replace hf := (if_neg hc).symm.trans hf
    refine V_aload_n (pc := 22) dX6_readDoor_22 rfl rfl rfl ?_
    refine V_iconst (pc := 23) dX6_readDoor_23 ic_4 rfl ?_
    obtain ⟨q2, hq2, hf⟩ := bnd hf
    refine V_cVz (md' := mX6_take) (pc := 24) dX6_readDoor_24 mlX6_117 mVX6_take (tX6_take hG hn hq2) rfl (by omega) (congrArg Prod.fst sh_48) rfl (Nat.le_of_ble_eq_true rfl) rfl ?_
    refine V_if_eq (pc := 27) (tgt := 56) dX6_readDoor_27 (by decide) rfl (fun hc => ?_) (fun hc => ?_)
    · replace hf := (if_pos hc).symm.trans hf
      refine V_iconst (pc := 56) dX6_readDoor_56 ic_0 rfl ?_
      cases hf
      exact V_zretE (pc := 57) dX6_readDoor_57 rfl (show (0 : Int32) = b2i false from rfl) PoB_mk
    · replace hf := (if_neg hc).symm.trans hf
      refine V_aload_n (pc := 30) dX6_readDoor_30 rfl rfl rfl ?_
      refine V_iconst (pc := 31) dX6_readDoor_31 ic_3 rfl ?_
      obtain ⟨q3, hq3, hf⟩ := bnd hf
      refine V_cVz (md' := mX6_takeCell) (pc := 32) dX6_readDoor_32 mlX6_134 mVX6_takeCell (tX6_takeCell hG hn hq3) rfl (by omega) (congrArg Prod.fst sh_48) rfl (Nat.le_of_ble_eq_true rfl) rfl ?_
      refine V_if_eq (pc := 35) (tgt := 56) dX6_readDoor_35 (by decide) rfl (fun hc => ?_) (fun hc => ?_)
      · replace hf := (if_pos hc).symm.trans hf
        refine V_iconst (pc := 56) dX6_readDoor_56 ic_0 rfl ?_
        cases hf
        exact V_zretE (pc := 57) dX6_readDoor_57 rfl (show (0 : Int32) = b2i false from rfl) PoB_mk
      · replace hf := (if_neg hc).symm.trans hf
        refine V_aload_n (pc := 38) dX6_readDoor_38 rfl rfl rfl ?_
        refine V_iconst (pc := 39) dX6_readDoor_39 ic_5 rfl ?_
        obtain ⟨q4, hq4, hf⟩ := bnd hf
        refine V_cVz (md' := mX6_take) (pc := 40) dX6_readDoor_40 mlX6_117 mVX6_take (tX6_take hG hn hq4) rfl (by omega) (congrArg Prod.fst sh_48) rfl (Nat.le_of_ble_eq_true rfl) rfl ?_
        refine V_if_eq (pc := 43) (tgt := 56) dX6_readDoor_43 (by decide) rfl (fun hc => ?_) (fun hc => ?_)
        · replace hf := (if_pos hc).symm.trans hf
          refine V_iconst (pc := 56) dX6_readDoor_56 ic_0 rfl ?_
          cases hf
          exact V_zretE (pc := 57) dX6_readDoor_57 rfl (show (0 : Int32) = b2i false from rfl) PoB_mk
        · replace hf := (if_neg hc).symm.trans hf
          refine V_aload_n (pc := 46) dX6_readDoor_46 rfl rfl rfl ?_
          refine V_iconst (pc := 47) dX6_readDoor_47 ic_1 rfl ?_
          refine V_bipush (pc := 48) dX6_readDoor_48 bp_9 rfl ?_
          obtain ⟨q5, hq5, hf⟩ := bnd hf
          refine V_cVz (md' := mX6_takeNumber) (pc := 50) dX6_readDoor_50 mlX6_111 mVX6_takeNumber (tX6_takeNumber hG hn hq5) rfl (by omega) (congrArg Prod.fst sh_48) rfl (Nat.le_of_ble_eq_true rfl) rfl ?_
          refine V_if_ne (pc := 53) (tgt := 58) dX6_readDoor_53 (by decide) rfl (fun hc => ?_) (fun hc => ?_)
          · replace hf := (if_neg hc).symm.trans hf
            refine V_aload_n (pc := 58) dX6_readDoor_58 rfl rfl rfl ?_
            refine V_getI (pc := 59) dX6_readDoor_59 flX6_114 rfl (by omega) (congrArg Prod.fst sh_48) rfl ?_
            refine V_istore_n (ls' := [some _, some _, none, some _]) (pc := 62) dX6_readDoor_62 rfl (Nat.le_of_ble_eq_true rfl) rfl rfl ?_
            refine V_aload_n (pc := 63) dX6_readDoor_63 rfl rfl rfl ?_
            refine V_iconst (pc := 64) dX6_readDoor_64 ic_0 rfl ?_
            let I6 : HI := up2 q5.2.1 48 5 (0 : Int32)
            refine V_putI (pc := 65) dX6_readDoor_65 flX6_147 rfl rfl (by omega) (congrArg Prod.fst sh_48) rfl ?_
            refine V_aload_n (pc := 68) dX6_readDoor_68 rfl rfl rfl ?_
            refine V_bipush (pc := 69) dX6_readDoor_69 bp_24 rfl ?_
            let I7 : HI := up2 I6 48 3 (24 : Int32)
            refine V_putI (pc := 71) dX6_readDoor_71 flX6_114 rfl rfl (by omega) (congrArg Prod.fst sh_48) rfl ?_
            refine V_aload_n (pc := 74) dX6_readDoor_74 rfl rfl rfl ?_
            refine V_getR (pc := 75) dX6_readDoor_75 flX6_9 rfl (by omega) (congrArg Prod.fst sh_48) rt_48_0 rfl ?_
            refine V_getI (pc := 78) dX6_readDoor_78 flX6_57 rfl (by omega) (congrArg Prod.fst sh_49) rfl ?_
            refine V_bipush (pc := 81) dX6_readDoor_81 bp_6 rfl ?_
            refine V_icmp_ne (pc := 83) (tgt := 97) dX6_readDoor_83 (by decide) rfl (fun hc => ?_) (fun hc => ?_)
            · replace hf := (if_neg hc).symm.trans hf
              refine V_aload_n (pc := 97) dX6_readDoor_97 rfl rfl rfl ?_
              refine V_getR (pc := 98) dX6_readDoor_98 flX6_30 rfl (by omega) (congrArg Prod.fst sh_48) rt_48_2 rfl ?_
              refine V_getR (pc := 101) dX6_readDoor_101 flX6_96 rfl (by omega) (congrArg Prod.fst (shQ hG.2.2.2)) (rQ_6 (rQ_RT hG.2.2.2)) rfl ?_
              refine V_lload_n (pc := 104) dX6_readDoor_104 rfl rfl rfl ?_
              refine V_aload_n (pc := 105) dX6_readDoor_105 rfl rfl rfl ?_
              refine V_getI (pc := 106) dX6_readDoor_106 flX6_137 rfl (by omega) (congrArg Prod.fst sh_48) rfl ?_
              refine V_iload_n (pc := 109) dX6_readDoor_109 rfl rfl rfl ?_
              refine V_aload_n (pc := 110) dX6_readDoor_110 rfl rfl rfl ?_
              refine V_getI (pc := 111) dX6_readDoor_111 flX6_147 rfl (by omega) (congrArg Prod.fst sh_48) rfl ?_
              refine V_aload_n (pc := 114) dX6_readDoor_114 rfl rfl rfl ?_
              refine V_getI (pc := 115) dX6_readDoor_115 flX6_114 rfl (by omega) (congrArg Prod.fst sh_48) rfl ?_
              obtain ⟨q8, hq8, hf⟩ := bnd hf
              refine V_cVv (md' := mX8_add) (pc := 118) dX6_readDoor_118 mlX6_152 mVX8_add (tX8_add (qT_6 hG.2.2.2) (rQ_s6 (rQ_RT hG.2.2.2)) (by omega) hq8) rfl (by omega) (congrArg Prod.fst (shT (qT_6 hG.2.2.2))) rfl (Nat.le_of_ble_eq_true rfl) rfl ?_
              refine V_aload_n (pc := 121) dX6_readDoor_121 rfl rfl rfl ?_
              refine V_bipush (pc := 122) dX6_readDoor_122 bp_59 rfl ?_
              obtain ⟨q9, hq9, hf⟩ := bnd hf
              refine V_cVz (md' := mX6_take) (pc := 124) dX6_readDoor_124 mlX6_117 mVX6_take (tX6_take hG hn hq9) rfl (by omega) (congrArg Prod.fst sh_48) rfl (Nat.le_of_ble_eq_true rfl) rfl ?_
              cases hf
              exact V_zretE (pc := 127) dX6_readDoor_127 rfl rfl PoB_mk
            · replace hf := (if_pos hc).symm.trans hf
              refine V_aload_n (pc := 86) dX6_readDoor_86 rfl rfl rfl ?_
              refine V_bipush (pc := 87) dX6_readDoor_87 bp_6 rfl ?_
              obtain ⟨q10, hq10, hf⟩ := bnd hf
              refine V_cVz (md' := mX6_takeHours) (pc := 89) dX6_readDoor_89 mlX6_149 mVX6_takeHours (tX6_takeHours hG hn hq10) rfl (by omega) (congrArg Prod.fst sh_48) rfl (Nat.le_of_ble_eq_true rfl) rfl ?_
              refine V_if_ne (pc := 92) (tgt := 97) dX6_readDoor_92 (by decide) rfl (fun hc => ?_) (fun hc => ?_)
              · replace hf := (if_neg hc).symm.trans hf
                refine V_aload_n (pc := 97) dX6_readDoor_97 rfl rfl rfl ?_
                refine V_getR (pc := 98) dX6_readDoor_98 flX6_30 rfl (by omega) (congrArg Prod.fst sh_48) rt_48_2 rfl ?_
                refine V_getR (pc := 101) dX6_readDoor_101 flX6_96 rfl (by omega) (congrArg Prod.fst (shQ hG.2.2.2)) (rQ_6 (rQ_RT hG.2.2.2)) rfl ?_
                refine V_lload_n (pc := 104) dX6_readDoor_104 rfl rfl rfl ?_
                refine V_aload_n (pc := 105) dX6_readDoor_105 rfl rfl rfl ?_
                refine V_getI (pc := 106) dX6_readDoor_106 flX6_137 rfl (by omega) (congrArg Prod.fst sh_48) rfl ?_
                refine V_iload_n (pc := 109) dX6_readDoor_109 rfl rfl rfl ?_
                refine V_aload_n (pc := 110) dX6_readDoor_110 rfl rfl rfl ?_
                refine V_getI (pc := 111) dX6_readDoor_111 flX6_147 rfl (by omega) (congrArg Prod.fst sh_48) rfl ?_
                refine V_aload_n (pc := 114) dX6_readDoor_114 rfl rfl rfl ?_
                refine V_getI (pc := 115) dX6_readDoor_115 flX6_114 rfl (by omega) (congrArg Prod.fst sh_48) rfl ?_
                obtain ⟨q11, hq11, hf⟩ := bnd hf
                refine V_cVv (md' := mX8_add) (pc := 118) dX6_readDoor_118 mlX6_152 mVX8_add (tX8_add (qT_6 hG.2.2.2) (rQ_s6 (rQ_RT hG.2.2.2)) (by omega) hq11) rfl (by omega) (congrArg Prod.fst (shT (qT_6 hG.2.2.2))) rfl (Nat.le_of_ble_eq_true rfl) rfl ?_
                refine V_aload_n (pc := 121) dX6_readDoor_121 rfl rfl rfl ?_
                refine V_bipush (pc := 122) dX6_readDoor_122 bp_59 rfl ?_
                obtain ⟨q12, hq12, hf⟩ := bnd hf
                refine V_cVz (md' := mX6_take) (pc := 124) dX6_readDoor_124 mlX6_117 mVX6_take (tX6_take hG hn hq12) rfl (by omega) (congrArg Prod.fst sh_48) rfl (Nat.le_of_ble_eq_true rfl) rfl ?_
                cases hf
                exact V_zretE (pc := 127) dX6_readDoor_127 rfl rfl PoB_mk
              · replace hf := (if_pos hc).symm.trans hf
                refine V_iconst (pc := 95) dX6_readDoor_95 ic_0 rfl ?_
                cases hf
                exact V_zretE (pc := 96) dX6_readDoor_96 rfl (show (0 : Int32) = b2i false from rfl) PoB_mk
          · replace hf := (if_pos hc).symm.trans hf
            refine V_iconst (pc := 56) dX6_readDoor_56 ic_0 rfl ?_
            cases hf
            exact V_zretE (pc := 57) dX6_readDoor_57 rfl (show (0 : Int32) = b2i false from rfl) PoB_mk
/-! ShadowDoors$Reader.readLamp -/
noncomputable def fX6_readLamp (tl : Nat) (I : HI) (L : HL) : Option (Bool × HI × HL) :=
  Option.bind (fX6_takeName (tl + 7) I L) fun q1 =>
  if (b2i q1.1) = 0 then
    some (false, q1.2.1, q1.2.2)
  else
    Option.bind (fX6_take (4 : Int32) q1.2.1 q1.2.2) fun q2 =>
    if (b2i q2.1) = 0 then
      some (false, q2.2.1, q2.2.2)
    else
      Option.bind (fX6_takeCell tl (8 : Int32) q2.2.1 q2.2.2) fun q3 =>
      if (b2i q3.1) = 0 then
        some (false, q3.2.1, q3.2.2)
      else
        Option.bind (fX6_takeHours (9 : Int32) q3.2.1 q3.2.2) fun q4 =>
        if (b2i q4.1) = 0 then
          some (false, q4.2.1, q4.2.2)
        else
          Option.bind (fX8_add (tl + 7) (L 49 7) (q4.2.1 48 4) (0 : Int32) (q4.2.1 48 5) (q4.2.1 48 3) q4.2.1 q4.2.2) fun q5 =>
          Option.bind (fX6_take (59 : Int32) q5.1 q5.2) fun q6 =>
          some (q6.1, q6.2.1, q6.2.2)
set_option maxRecDepth 100000 in
set_option maxHeartbeats 4000000 in
theorem tX6_readLamp {g : GG} {n d : Nat} {tw dr sk tl ff : Nat} (hG : RG tw dr sk tl ff) (hn : 116 ≤ n) {I : HI} {L : HL} {res : Bool × HI × HL} (hf : fX6_readLamp tl I L = some res) : CT g mX6_readLamp (d + 8) 0 0 n (RT tw dr sk tl ff) I L [.ref 48] (PoB n (RT tw dr sk tl ff) res.1 res.2.1 res.2.2) := by
  refine CT.of rfl (Nat.le_of_ble_eq_true rfl) ?_
  show V g mX6_readLamp (d + 8) 0 0 n (RT tw dr sk tl ff) I L 0 [some (.ref 48)] [] (PoB n (RT tw dr sk tl ff) res.1 res.2.1 res.2.2)
  refine V_aload_n (pc := 0) dX6_readLamp_0 rfl rfl rfl ?_
  refine V_getR (pc := 1) dX6_readLamp_1 flX6_9 rfl (by omega) (congrArg Prod.fst sh_48) rt_48_0 rfl ?_
  refine V_getL (pc := 4) dX6_readLamp_4 flX6_140 rfl (by omega) (congrArg Prod.fst sh_49) rfl ?_
  refine V_lstore_n (ls' := [some _, some _, none]) (pc := 7) dX6_readLamp_7 rfl (Nat.le_of_ble_eq_true rfl) rfl rfl ?_
  refine V_aload_n (pc := 8) dX6_readLamp_8 rfl rfl rfl ?_
  refine V_aload_n (pc := 9) dX6_readLamp_9 rfl rfl rfl ?_
  refine V_getR (pc := 10) dX6_readLamp_10 flX6_30 rfl (by omega) (congrArg Prod.fst sh_48) rt_48_2 rfl ?_
  refine V_getR (pc := 13) dX6_readLamp_13 flX6_105 rfl (by omega) (congrArg Prod.fst (shQ hG.2.2.2)) (rQ_7 (rQ_RT hG.2.2.2)) rfl ?_
  obtain ⟨q1, hq1, hf⟩ := bnd hf
  refine V_cVz (md' := mX6_takeName) (pc := 16) dX6_readLamp_16 mlX6_143 mVX6_takeName (tX6_takeName hG hn (qT_7 hG.2.2.2) hq1) rfl (by omega) (congrArg Prod.fst sh_48) rfl (Nat.le_of_ble_eq_true rfl) rfl ?_
  refine V_if_eq (pc := 19) (tgt := 48) dX6_readLamp_19 (by decide) rfl (fun hc => ?_) (fun hc => ?_)
  · replace hf := (if_pos hc).symm.trans hf
    refine V_iconst (pc := 48) dX6_readLamp_48 ic_0 rfl ?_
    cases hf
    exact V_zretE (pc := 49) dX6_readLamp_49 rfl (show (0 : Int32) = b2i false from rfl) PoB_mk
  · replace hf := (if_neg hc).symm.trans hf
    refine V_aload_n (pc := 22) dX6_readLamp_22 rfl rfl rfl ?_
    refine V_iconst (pc := 23) dX6_readLamp_23 ic_4 rfl ?_
    obtain ⟨q2, hq2, hf⟩ := bnd hf
    refine V_cVz (md' := mX6_take) (pc := 24) dX6_readLamp_24 mlX6_117 mVX6_take (tX6_take hG hn hq2) rfl (by omega) (congrArg Prod.fst sh_48) rfl (Nat.le_of_ble_eq_true rfl) rfl ?_
    refine V_if_eq (pc := 27) (tgt := 48) dX6_readLamp_27 (by decide) rfl (fun hc => ?_) (fun hc => ?_)
    · replace hf := (if_pos hc).symm.trans hf
      refine V_iconst (pc := 48) dX6_readLamp_48 ic_0 rfl ?_
      cases hf
      exact V_zretE (pc := 49) dX6_readLamp_49 rfl (show (0 : Int32) = b2i false from rfl) PoB_mk
    · replace hf := (if_neg hc).symm.trans hf
      refine V_aload_n (pc := 30) dX6_readLamp_30 rfl rfl rfl ?_
      refine V_bipush (pc := 31) dX6_readLamp_31 bp_8 rfl ?_
      obtain ⟨q3, hq3, hf⟩ := bnd hf
      refine V_cVz (md' := mX6_takeCell) (pc := 33) dX6_readLamp_33 mlX6_134 mVX6_takeCell (tX6_takeCell hG hn hq3) rfl (by omega) (congrArg Prod.fst sh_48) rfl (Nat.le_of_ble_eq_true rfl) rfl ?_
      refine V_if_eq (pc := 36) (tgt := 48) dX6_readLamp_36 (by decide) rfl (fun hc => ?_) (fun hc => ?_)
      · replace hf := (if_pos hc).symm.trans hf
        refine V_iconst (pc := 48) dX6_readLamp_48 ic_0 rfl ?_
        cases hf
        exact V_zretE (pc := 49) dX6_readLamp_49 rfl (show (0 : Int32) = b2i false from rfl) PoB_mk
      · replace hf := (if_neg hc).symm.trans hf
        refine V_aload_n (pc := 39) dX6_readLamp_39 rfl rfl rfl ?_
        refine V_bipush (pc := 40) dX6_readLamp_40 bp_9 rfl ?_
        obtain ⟨q4, hq4, hf⟩ := bnd hf
        refine V_cVz (md' := mX6_takeHours) (pc := 42) dX6_readLamp_42 mlX6_149 mVX6_takeHours (tX6_takeHours hG hn hq4) rfl (by omega) (congrArg Prod.fst sh_48) rfl (Nat.le_of_ble_eq_true rfl) rfl ?_
        refine V_if_ne (pc := 45) (tgt := 50) dX6_readLamp_45 (by decide) rfl (fun hc => ?_) (fun hc => ?_)
        · replace hf := (if_neg hc).symm.trans hf
          refine V_aload_n (pc := 50) dX6_readLamp_50 rfl rfl rfl ?_
          refine V_getR (pc := 51) dX6_readLamp_51 flX6_30 rfl (by omega) (congrArg Prod.fst sh_48) rt_48_2 rfl ?_
          refine V_getR (pc := 54) dX6_readLamp_54 flX6_105 rfl (by omega) (congrArg Prod.fst (shQ hG.2.2.2)) (rQ_7 (rQ_RT hG.2.2.2)) rfl ?_
          refine V_lload_n (pc := 57) dX6_readLamp_57 rfl rfl rfl ?_
          refine V_aload_n (pc := 58) dX6_readLamp_58 rfl rfl rfl ?_
          refine V_getI (pc := 59) dX6_readLamp_59 flX6_137 rfl (by omega) (congrArg Prod.fst sh_48) rfl ?_
          refine V_iconst (pc := 62) dX6_readLamp_62 ic_0 rfl ?_
          refine V_aload_n (pc := 63) dX6_readLamp_63 rfl rfl rfl ?_
          refine V_getI (pc := 64) dX6_readLamp_64 flX6_147 rfl (by omega) (congrArg Prod.fst sh_48) rfl ?_
          refine V_aload_n (pc := 67) dX6_readLamp_67 rfl rfl rfl ?_
          refine V_getI (pc := 68) dX6_readLamp_68 flX6_114 rfl (by omega) (congrArg Prod.fst sh_48) rfl ?_
          obtain ⟨q5, hq5, hf⟩ := bnd hf
          refine V_cVv (md' := mX8_add) (pc := 71) dX6_readLamp_71 mlX6_152 mVX8_add (tX8_add (qT_7 hG.2.2.2) (rQ_s7 (rQ_RT hG.2.2.2)) (by omega) hq5) rfl (by omega) (congrArg Prod.fst (shT (qT_7 hG.2.2.2))) rfl (Nat.le_of_ble_eq_true rfl) rfl ?_
          refine V_aload_n (pc := 74) dX6_readLamp_74 rfl rfl rfl ?_
          refine V_bipush (pc := 75) dX6_readLamp_75 bp_59 rfl ?_
          obtain ⟨q6, hq6, hf⟩ := bnd hf
          refine V_cVz (md' := mX6_take) (pc := 77) dX6_readLamp_77 mlX6_117 mVX6_take (tX6_take hG hn hq6) rfl (by omega) (congrArg Prod.fst sh_48) rfl (Nat.le_of_ble_eq_true rfl) rfl ?_
          cases hf
          exact V_zretE (pc := 80) dX6_readLamp_80 rfl rfl PoB_mk
        · replace hf := (if_pos hc).symm.trans hf
          refine V_iconst (pc := 48) dX6_readLamp_48 ic_0 rfl ?_
          cases hf
          exact V_zretE (pc := 49) dX6_readLamp_49 rfl (show (0 : Int32) = b2i false from rfl) PoB_mk
/-! ShadowDoors$Reader.readPerson -/
noncomputable def fX6_readPerson (tl : Nat) (I : HI) (L : HL) : Option (Bool × HI × HL) :=
  Option.bind (fX6_takeName (tl + 13) I L) fun q1 =>
  if (b2i q1.1) = 0 then
    some (false, q1.2.1, q1.2.2)
  else
    Option.bind (fX6_take (4 : Int32) q1.2.1 q1.2.2) fun q2 =>
    if (b2i q2.1) = 0 then
      some (false, q2.2.1, q2.2.2)
    else
      Option.bind (fX6_takeCell tl (10 : Int32) q2.2.1 q2.2.2) fun q3 =>
      if (b2i q3.1) = 0 then
        some (false, q3.2.1, q3.2.2)
      else
        Option.bind (fX8_add (tl + 13) (L 49 7) (q3.2.1 48 4) (0 : Int32) (0 : Int32) (24 : Int32) q3.2.1 q3.2.2) fun q4 =>
        Option.bind (fX6_take (59 : Int32) q4.1 q4.2) fun q5 =>
        some (q5.1, q5.2.1, q5.2.2)
set_option maxRecDepth 100000 in
set_option maxHeartbeats 4000000 in
theorem tX6_readPerson {g : GG} {n d : Nat} {tw dr sk tl ff : Nat} (hG : RG tw dr sk tl ff) (hn : 116 ≤ n) {I : HI} {L : HL} {res : Bool × HI × HL} (hf : fX6_readPerson tl I L = some res) : CT g mX6_readPerson (d + 8) 0 0 n (RT tw dr sk tl ff) I L [.ref 48] (PoB n (RT tw dr sk tl ff) res.1 res.2.1 res.2.2) := by
  refine CT.of rfl (Nat.le_of_ble_eq_true rfl) ?_
  show V g mX6_readPerson (d + 8) 0 0 n (RT tw dr sk tl ff) I L 0 [some (.ref 48)] [] (PoB n (RT tw dr sk tl ff) res.1 res.2.1 res.2.2)
  refine V_aload_n (pc := 0) dX6_readPerson_0 rfl rfl rfl ?_
  refine V_getR (pc := 1) dX6_readPerson_1 flX6_9 rfl (by omega) (congrArg Prod.fst sh_48) rt_48_0 rfl ?_
  refine V_getL (pc := 4) dX6_readPerson_4 flX6_140 rfl (by omega) (congrArg Prod.fst sh_49) rfl ?_
  refine V_lstore_n (ls' := [some _, some _, none]) (pc := 7) dX6_readPerson_7 rfl (Nat.le_of_ble_eq_true rfl) rfl rfl ?_
  refine V_aload_n (pc := 8) dX6_readPerson_8 rfl rfl rfl ?_
  refine V_aload_n (pc := 9) dX6_readPerson_9 rfl rfl rfl ?_
  refine V_getR (pc := 10) dX6_readPerson_10 flX6_30 rfl (by omega) (congrArg Prod.fst sh_48) rt_48_2 rfl ?_
  refine V_getR (pc := 13) dX6_readPerson_13 flX6_108 rfl (by omega) (congrArg Prod.fst (shQ hG.2.2.2)) (rQ_8 (rQ_RT hG.2.2.2)) rfl ?_
  obtain ⟨q1, hq1, hf⟩ := bnd hf
  refine V_cVz (md' := mX6_takeName) (pc := 16) dX6_readPerson_16 mlX6_143 mVX6_takeName (tX6_takeName hG hn (qT_8 hG.2.2.2) hq1) rfl (by omega) (congrArg Prod.fst sh_48) rfl (Nat.le_of_ble_eq_true rfl) rfl ?_
  refine V_if_eq (pc := 19) (tgt := 39) dX6_readPerson_19 (by decide) rfl (fun hc => ?_) (fun hc => ?_)
  · replace hf := (if_pos hc).symm.trans hf
    refine V_iconst (pc := 39) dX6_readPerson_39 ic_0 rfl ?_
    cases hf
    exact V_zretE (pc := 40) dX6_readPerson_40 rfl (show (0 : Int32) = b2i false from rfl) PoB_mk
  · replace hf := (if_neg hc).symm.trans hf
    refine V_aload_n (pc := 22) dX6_readPerson_22 rfl rfl rfl ?_
    refine V_iconst (pc := 23) dX6_readPerson_23 ic_4 rfl ?_
    obtain ⟨q2, hq2, hf⟩ := bnd hf
    refine V_cVz (md' := mX6_take) (pc := 24) dX6_readPerson_24 mlX6_117 mVX6_take (tX6_take hG hn hq2) rfl (by omega) (congrArg Prod.fst sh_48) rfl (Nat.le_of_ble_eq_true rfl) rfl ?_
    refine V_if_eq (pc := 27) (tgt := 39) dX6_readPerson_27 (by decide) rfl (fun hc => ?_) (fun hc => ?_)
    · replace hf := (if_pos hc).symm.trans hf
      refine V_iconst (pc := 39) dX6_readPerson_39 ic_0 rfl ?_
      cases hf
      exact V_zretE (pc := 40) dX6_readPerson_40 rfl (show (0 : Int32) = b2i false from rfl) PoB_mk
    · replace hf := (if_neg hc).symm.trans hf
      refine V_aload_n (pc := 30) dX6_readPerson_30 rfl rfl rfl ?_
      refine V_bipush (pc := 31) dX6_readPerson_31 bp_10 rfl ?_
      obtain ⟨q3, hq3, hf⟩ := bnd hf
      refine V_cVz (md' := mX6_takeCell) (pc := 33) dX6_readPerson_33 mlX6_134 mVX6_takeCell (tX6_takeCell hG hn hq3) rfl (by omega) (congrArg Prod.fst sh_48) rfl (Nat.le_of_ble_eq_true rfl) rfl ?_
      refine V_if_ne (pc := 36) (tgt := 41) dX6_readPerson_36 (by decide) rfl (fun hc => ?_) (fun hc => ?_)
      · replace hf := (if_neg hc).symm.trans hf
        refine V_aload_n (pc := 41) dX6_readPerson_41 rfl rfl rfl ?_
        refine V_getR (pc := 42) dX6_readPerson_42 flX6_30 rfl (by omega) (congrArg Prod.fst sh_48) rt_48_2 rfl ?_
        refine V_getR (pc := 45) dX6_readPerson_45 flX6_108 rfl (by omega) (congrArg Prod.fst (shQ hG.2.2.2)) (rQ_8 (rQ_RT hG.2.2.2)) rfl ?_
        refine V_lload_n (pc := 48) dX6_readPerson_48 rfl rfl rfl ?_
        refine V_aload_n (pc := 49) dX6_readPerson_49 rfl rfl rfl ?_
        refine V_getI (pc := 50) dX6_readPerson_50 flX6_137 rfl (by omega) (congrArg Prod.fst sh_48) rfl ?_
        refine V_iconst (pc := 53) dX6_readPerson_53 ic_0 rfl ?_
        refine V_iconst (pc := 54) dX6_readPerson_54 ic_0 rfl ?_
        refine V_bipush (pc := 55) dX6_readPerson_55 bp_24 rfl ?_
        obtain ⟨q4, hq4, hf⟩ := bnd hf
        refine V_cVv (md' := mX8_add) (pc := 57) dX6_readPerson_57 mlX6_152 mVX8_add (tX8_add (qT_8 hG.2.2.2) (rQ_s8 (rQ_RT hG.2.2.2)) (by omega) hq4) rfl (by omega) (congrArg Prod.fst (shT (qT_8 hG.2.2.2))) rfl (Nat.le_of_ble_eq_true rfl) rfl ?_
        refine V_aload_n (pc := 60) dX6_readPerson_60 rfl rfl rfl ?_
        refine V_bipush (pc := 61) dX6_readPerson_61 bp_59 rfl ?_
        obtain ⟨q5, hq5, hf⟩ := bnd hf
        refine V_cVz (md' := mX6_take) (pc := 63) dX6_readPerson_63 mlX6_117 mVX6_take (tX6_take hG hn hq5) rfl (by omega) (congrArg Prod.fst sh_48) rfl (Nat.le_of_ble_eq_true rfl) rfl ?_
        cases hf
        exact V_zretE (pc := 66) dX6_readPerson_66 rfl rfl PoB_mk
      · replace hf := (if_pos hc).symm.trans hf
        refine V_iconst (pc := 39) dX6_readPerson_39 ic_0 rfl ?_
        cases hf
        exact V_zretE (pc := 40) dX6_readPerson_40 rfl (show (0 : Int32) = b2i false from rfl) PoB_mk
/-! ShadowDoors$Reader.readCloud -/
noncomputable def fX6_readCloud (tl : Nat) (I : HI) (L : HL) : Option (Bool × HI × HL) :=
  let I1 : HI := up2 I 48 7 (b2i true)
  Option.bind (fX6_takeNumber (0 : Int32) (100 : Int32) I1 L) fun q2 =>
  if (b2i q2.1) = 0 then
    some (false, q2.2.1, q2.2.2)
  else
    let I3 : HI := up2 q2.2.1 tl 10 (q2.2.1 48 3)
    Option.bind (fX6_take (59 : Int32) I3 q2.2.2) fun q4 =>
    some (q4.1, q4.2.1, q4.2.2)
set_option maxRecDepth 100000 in
set_option maxHeartbeats 4000000 in
theorem tX6_readCloud {g : GG} {n d : Nat} {tw dr sk tl ff : Nat} (hG : RG tw dr sk tl ff) (hn : 116 ≤ n) {I : HI} {L : HL} {res : Bool × HI × HL} (hf : fX6_readCloud tl I L = some res) : CT g mX6_readCloud (d + 7) 0 0 n (RT tw dr sk tl ff) I L [.ref 48] (PoB n (RT tw dr sk tl ff) res.1 res.2.1 res.2.2) := by
  refine CT.of rfl (Nat.le_of_ble_eq_true rfl) ?_
  show V g mX6_readCloud (d + 7) 0 0 n (RT tw dr sk tl ff) I L 0 [some (.ref 48)] [] (PoB n (RT tw dr sk tl ff) res.1 res.2.1 res.2.2)
  refine V_aload_n (pc := 0) dX6_readCloud_0 rfl rfl rfl ?_
  refine V_iconst (pc := 1) dX6_readCloud_1 ic_1 rfl ?_
  let I1 : HI := up2 I 48 7 (b2i true)
  refine V_putZE (pc := 2) dX6_readCloud_2 flX6_45 rfl rfl (by omega) (congrArg Prod.fst sh_48) (show (1 : Int32) = b2i true from rfl) rfl ?_
  refine V_aload_n (pc := 5) dX6_readCloud_5 rfl rfl rfl ?_
  refine V_iconst (pc := 6) dX6_readCloud_6 ic_0 rfl ?_
  refine V_bipush (pc := 7) dX6_readCloud_7 bp_100 rfl ?_
  obtain ⟨q2, hq2, hf⟩ := bnd hf
  refine V_cVz (md' := mX6_takeNumber) (pc := 9) dX6_readCloud_9 mlX6_111 mVX6_takeNumber (tX6_takeNumber hG hn hq2) rfl (by omega) (congrArg Prod.fst sh_48) rfl (Nat.le_of_ble_eq_true rfl) rfl ?_
  refine V_if_ne (pc := 12) (tgt := 17) dX6_readCloud_12 (by decide) rfl (fun hc => ?_) (fun hc => ?_)
  · replace hf := (if_neg hc).symm.trans hf
    refine V_aload_n (pc := 17) dX6_readCloud_17 rfl rfl rfl ?_
    refine V_getR (pc := 18) dX6_readCloud_18 flX6_30 rfl (by omega) (congrArg Prod.fst sh_48) rt_48_2 rfl ?_
    refine V_aload_n (pc := 21) dX6_readCloud_21 rfl rfl rfl ?_
    refine V_getI (pc := 22) dX6_readCloud_22 flX6_114 rfl (by omega) (congrArg Prod.fst sh_48) rfl ?_
    let I3 : HI := up2 q2.2.1 tl 10 (q2.2.1 48 3)
    refine V_putI (pc := 25) dX6_readCloud_25 flX6_160 rfl rfl (by omega) (congrArg Prod.fst (shQ hG.2.2.2)) rfl ?_
    refine V_aload_n (pc := 28) dX6_readCloud_28 rfl rfl rfl ?_
    refine V_bipush (pc := 29) dX6_readCloud_29 bp_59 rfl ?_
    obtain ⟨q4, hq4, hf⟩ := bnd hf
    refine V_cVz (md' := mX6_take) (pc := 31) dX6_readCloud_31 mlX6_117 mVX6_take (tX6_take hG hn hq4) rfl (by omega) (congrArg Prod.fst sh_48) rfl (Nat.le_of_ble_eq_true rfl) rfl ?_
    cases hf
    exact V_zretE (pc := 34) dX6_readCloud_34 rfl rfl PoB_mk
  · replace hf := (if_pos hc).symm.trans hf
    refine V_iconst (pc := 15) dX6_readCloud_15 ic_0 rfl ?_
    cases hf
    exact V_zretE (pc := 16) dX6_readCloud_16 rfl (show (0 : Int32) = b2i false from rfl) PoB_mk
