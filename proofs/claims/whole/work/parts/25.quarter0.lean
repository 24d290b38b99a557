/-! ShadowDoors$FormulaReader.readFormula -/
noncomputable def fX2_readFormula (uu1 : Nat) (ff : Nat) (I : HI) (L : HL) : Option (Bool × Nat × HI × HL) :=
  Option.bind (fRE uu1 RF (0 : Int32) I L) fun q1 =>
  some (q1.1, uu1, q1.2.1, q1.2.2)
set_option maxRecDepth 100000 in
set_option maxHeartbeats 4000000 in
theorem tX2_readFormula {g : GG} {n d : Nat} {tw dr sk tl ff : Nat} {uu1 : Nat} (hG : RG tw dr sk tl ff) (hn : 116 ≤ n) (huu1 : isF uu1) {I : HI} {L : HL} {res : Bool × Nat × HI × HL} (hf : fX2_readFormula uu1 ff I L = some res) : CT g mX2_readFormula (d + 169) 0 0 n (RT tw dr sk tl ff) I L [.ref 51, .ref uu1] (PoB n (RT tw dr sk tl res.2.1) res.1 res.2.2.1 res.2.2.2) := by
  refine CT.of rfl (Nat.le_of_ble_eq_true rfl) ?_
  show V g mX2_readFormula (d + 169) 0 0 n (RT tw dr sk tl ff) I L 0 [some (.ref 51), some (.ref uu1)] [] (PoB n (RT tw dr sk tl res.2.1) res.1 res.2.2.1 res.2.2.2)
  refine V_aload_n (pc := 0) dX2_readFormula_0 rfl rfl rfl ?_
  refine V_aload_n (pc := 1) dX2_readFormula_1 rfl rfl rfl ?_
  refine V_putRE (pc := 2) dX2_readFormula_2 flX2_15 (by first | exact Or.inl ⟨_, rfl⟩ | exact Or.inr ⟨_, rfl⟩) rfl (by omega) (congrArg Prod.fst sh_51) rts_ff rfl ?_
  refine V_aload_n (pc := 5) dX2_readFormula_5 rfl rfl rfl ?_
  refine V_iconst (pc := 6) dX2_readFormula_6 ic_0 rfl ?_
  obtain ⟨q1, hq1, hf⟩ := bnd hf
  refine V_cVz (md' := mX2_readEither) (pc := 7) dX2_readFormula_7 mlX2_19 mVX2_readEither (tREF ⟨hG.1, hG.2.1, hG.2.2.1, hG.2.2.2⟩ hn huu1 hq1) rfl (by omega) (congrArg Prod.fst sh_51) rfl (Nat.le_of_ble_eq_true rfl) rfl ?_
  cases hf
  exact V_zretE (pc := 10) dX2_readFormula_10 rfl rfl PoB_mk
/-! ShadowDoors$Reader.readShade -/
noncomputable def fX6_readShade (tl : Nat) (ff : Nat) (I : HI) (L : HL) : Option (Bool × Nat × HI × HL) :=
  let I1 : HI := up2 I 48 6 (b2i true)
  Option.bind (fX2_readFormula (tl + 19) ff I1 L) fun q2 =>
  if (b2i q2.1) = 0 then
    obn (fX6_refuse (2 : Int32) q2.2.2.1) fun q4 =>
    some (q4.1, q2.2.1, q4.2, q2.2.2.2)
  else
    Option.bind (fX6_take (59 : Int32) q2.2.2.1 q2.2.2.2) fun q3 =>
    some (q3.1, q2.2.1, q3.2.1, q3.2.2)
set_option maxRecDepth 100000 in
set_option maxHeartbeats 4000000 in
theorem tX6_readShade {g : GG} {n d : Nat} {tw dr sk tl ff : Nat} (hG : RG tw dr sk tl ff) (hn : 116 ≤ n) {I : HI} {L : HL} {res : Bool × Nat × HI × HL} (hf : fX6_readShade tl ff I L = some res) : CT g mX6_readShade (d + 170) 0 0 n (RT tw dr sk tl ff) I L [.ref 48] (PoB n (RT tw dr sk tl res.2.1) res.1 res.2.2.1 res.2.2.2) := by
  refine CT.of rfl (Nat.le_of_ble_eq_true rfl) ?_
  show V g mX6_readShade (d + 170) 0 0 n (RT tw dr sk tl ff) I L 0 [some (.ref 48)] [] (PoB n (RT tw dr sk tl res.2.1) res.1 res.2.2.1 res.2.2.2)
  refine V_aload_n (pc := 0) dX6_readShade_0 rfl rfl rfl ?_
  refine V_iconst (pc := 1) dX6_readShade_1 ic_1 rfl ?_
  let I1 : HI := up2 I 48 6 (b2i true)
  refine V_putZE (pc := 2) dX6_readShade_2 flX6_41 rfl rfl (by omega) (congrArg Prod.fst sh_48) (show (1 : Int32) = b2i true from rfl) rfl ?_
  refine V_aload_n (pc := 5) dX6_readShade_5 rfl rfl rfl ?_
  refine V_getR (pc := 6) dX6_readShade_6 flX6_26 rfl (by omega) (congrArg Prod.fst sh_48) rt_48_1 rfl ?_
  refine V_aload_n (pc := 9) dX6_readShade_9 rfl rfl rfl ?_
  refine V_getR (pc := 10) dX6_readShade_10 flX6_30 rfl (by omega) (congrArg Prod.fst sh_48) rt_48_2 rfl ?_
  refine V_getR (pc := 13) dX6_readShade_13 flX6_17 rfl (by omega) (congrArg Prod.fst (shQ hG.2.2.2)) (rQ_9 (rQ_RT hG.2.2.2)) rfl ?_
  obtain ⟨q2, hq2, hf⟩ := bnd hf
  refine V_cVz (md' := mX2_readFormula) (pc := 16) dX6_readShade_16 mlX6_156 mVX2_readFormula (tX2_readFormula hG hn (qF_9 hG.2.2.2) hq2) rfl (by omega) (congrArg Prod.fst sh_51) rfl (Nat.le_of_ble_eq_true rfl) rfl ?_
  refine V_if_ne (pc := 19) (tgt := 28) dX6_readShade_19 (by decide) rfl (fun hc => ?_) (fun hc => ?_)
  · replace hf := (if_neg hc).symm.trans hf
    refine V_aload_n (pc := 28) dX6_readShade_28 rfl rfl rfl ?_
    refine V_bipush (pc := 29) dX6_readShade_29 bp_59 rfl ?_
    obtain ⟨q3, hq3, hf⟩ := bnd hf
    refine V_cVz (md' := mX6_take) (pc := 31) dX6_readShade_31 mlX6_117 mVX6_take (tX6_take ⟨hG.1, hG.2.1, hG.2.2.1, hG.2.2.2⟩ hn hq3) rfl (by omega) (congrArg Prod.fst sh_48) rfl (Nat.le_of_ble_eq_true rfl) rfl ?_
    cases hf
    exact V_zretE (pc := 34) dX6_readShade_34 rfl rfl PoB_mk
  · replace hf := (if_pos hc).symm.trans hf
    refine V_aload_n (pc := 22) dX6_readShade_22 rfl rfl rfl ?_
    refine V_iconst (pc := 23) dX6_readShade_23 ic_2 rfl ?_
    obtain ⟨q4, hq4, hf⟩ := obd hf
    refine V_cVz (md' := mX6_refuse) (pc := 24) dX6_readShade_24 mlX6_64 mVX6_refuse (tX6_refuse ⟨hG.1, hG.2.1, hG.2.2.1, hG.2.2.2⟩ hn hq4) rfl (by omega) (congrArg Prod.fst sh_48) rfl (Nat.le_of_ble_eq_true rfl) rfl ?_
    cases hf
    exact V_zretE (pc := 27) dX6_readShade_27 rfl rfl PoB_mk
/-! ShadowDoors$Reader.readInto -/
noncomputable def fX6_readInto_45 (qq1 : Nat) (tl : Nat) (ff : Nat) : Nat → Int32 → Int32 → Int32 → Nat → HI → HL → Option ((Int32 × Nat × HI × HL) ⊕ (Bool × Nat × HI × HL))
  | 0, _, _, _, _, _, _ => none
  | fu + 1, y2, y3, y4, zf, I, L =>
    Option.bind (
      if y2 < y4 then
        some true
      else
        if y3 = 0 then
          some true
        else
          if (I 49 4) = (22 : Int32) then
            some true
          else
            some false
    ) fun b7 =>
    if b7 = true then
      some (.inl (y3, zf, I, L))
    else
      if (b2i (fX6_mayBegin qq1 (I 49 4) y4 I)) = 0 then
        obn (fX6_refuse (2 : Int32) I) fun q22 =>
        some (.inr (q22.1, zf, q22.2, L))
      else
        Option.bind (fX9_advance  I L) fun q8 =>
        if (I 49 4) = (0 : Int32) then
          Option.bind (fX6_readSize qq1 q8.1 q8.2) fun q10 =>
          fX6_readInto_45 qq1 tl ff fu y2 (b2i q10.1) (y4 + (1 : Int32)) zf q10.2.1 q10.2.2
        else
          if (I 49 4) = (2 : Int32) then
            Option.bind (fX6_readWalls qq1 q8.1 q8.2) fun q12 =>
            fX6_readInto_45 qq1 tl ff fu y2 (b2i q12.1) (y4 + (1 : Int32)) zf q12.2.1 q12.2.2
          else
            if (I 49 4) = (3 : Int32) then
              Option.bind (fX6_readDoor qq1 q8.1 q8.2) fun q14 =>
              fX6_readInto_45 qq1 tl ff fu y2 (b2i q14.1) (y4 + (1 : Int32)) zf q14.2.1 q14.2.2
            else
              if (I 49 4) = (8 : Int32) then
                Option.bind (fX6_readLamp qq1 q8.1 q8.2) fun q16 =>
                fX6_readInto_45 qq1 tl ff fu y2 (b2i q16.1) (y4 + (1 : Int32)) zf q16.2.1 q16.2.2
              else
                if (I 49 4) = (10 : Int32) then
                  Option.bind (fX6_readPerson qq1 q8.1 q8.2) fun q18 =>
                  fX6_readInto_45 qq1 tl ff fu y2 (b2i q18.1) (y4 + (1 : Int32)) zf q18.2.1 q18.2.2
                else
                  if (I 49 4) = (11 : Int32) then
                    Option.bind (fX6_readShade qq1 zf q8.1 q8.2) fun q20 =>
                    fX6_readInto_45 qq1 tl ff fu y2 (b2i q20.1) (y4 + (1 : Int32)) q20.2.1 q20.2.2.1 q20.2.2.2
                  else
                    Option.bind (fX6_readCloud qq1 q8.1 q8.2) fun q21 =>
                    fX6_readInto_45 qq1 tl ff fu y2 (b2i q21.1) (y4 + (1 : Int32)) zf q21.2.1 q21.2.2
set_option maxRecDepth 100000 in
set_option maxHeartbeats 4000000 in
theorem lX6_readInto_45 {g : GG} {n d : Nat} {tw dr sk tl ff : Nat} {qq1 : Nat} (hG : RG tw dr sk tl ff) (hn : 116 ≤ n) (hqq1 : isQ qq1) {P : PP} : ∀ (fu : Nat) (y2 : Int32) (y3 : Int32) (y4 : Int32) (zf : Nat) (I : HI) (L : HL) (res : (Int32 × Nat × HI × HL) ⊕ (Bool × Nat × HI × HL)), fX6_readInto_45 qq1 tl ff fu y2 y3 y4 zf I L = some res → (∀ a, res = .inl a → V g mX6_readInto (d + 171) 0 0 n (RT tw dr sk qq1 a.2.1) a.2.2.1 a.2.2.2 223 [some (.ref 48), none, none, some (.int a.1)] [] P) → (∀ b, res = .inr b → P (some (.int (b2i b.1))) n (RT tw dr sk qq1 b.2.1) b.2.2.1 b.2.2.2) → V g mX6_readInto (d + 171) 0 0 n (RT tw dr sk qq1 zf) I L 45 [some (.ref 48), none, some (.int y2), some (.int y3), some (.int y4)] [] P := by
  intro fu
  induction fu with
  | zero => intro y2 y3 y4 zf I L res hf; cases (show none = some res from hf)
  | succ fu ih =>
    intro y2 y3 y4 zf I L res hf K1 K2
    refine V_iload (pc := 45) dX6_readInto_45 rfl rfl ?_
    refine V_iload_n (pc := 47) dX6_readInto_47 rfl rfl rfl ?_
    obtain ⟨b7, hb7, hf⟩ := bnd hf
    have KTb7 : b7 = true → V g mX6_readInto (d + 171) 0 0 n (RT tw dr sk qq1 zf) I L 223 [some (.ref 48), none, some (.int y2), some (.int y3), some (.int y4)] [] P := fun hc => by
      replace hf := (if_pos hc).symm.trans hf
      cases hf
      exact V_wk (K1 _ rfl) ⟨rfl, ⟨rfl, trivial⟩⟩
    have KFb7 : ¬ b7 = true → V g mX6_readInto (d + 171) 0 0 n (RT tw dr sk qq1 zf) I L 67 [some (.ref 48), none, some (.int y2), some (.int y3), some (.int y4)] [] P := fun hc => by
      replace hf := (if_neg hc).symm.trans hf
      refine V_aload_n (pc := 67) dX6_readInto_67 rfl rfl rfl ?_
      refine V_getR (pc := 68) dX6_readInto_68 flX6_9 rfl (by omega) (congrArg Prod.fst sh_48) rt_48_0 rfl ?_
      refine V_getI (pc := 71) dX6_readInto_71 flX6_57 rfl (by omega) (congrArg Prod.fst sh_49) rfl ?_
      refine V_istore (ls' := [some _, none, some _, some _, some _, some _]) (pc := 74) dX6_readInto_74 (Nat.le_of_ble_eq_true rfl) rfl rfl ?_
      refine V_aload_n (pc := 76) dX6_readInto_76 rfl rfl rfl ?_
      refine V_iload (pc := 77) dX6_readInto_77 rfl rfl ?_
      refine V_iload (pc := 79) dX6_readInto_79 rfl rfl ?_
      refine V_cVz (md' := mX6_mayBegin) (pc := 81) dX6_readInto_81 mlX6_60 mVX6_mayBegin (tX6_mayBegin ⟨hG.1, hG.2.1, hG.2.2.1, hqq1⟩ hn rfl) rfl (by omega) (congrArg Prod.fst sh_48) rfl (Nat.le_of_ble_eq_true rfl) rfl ?_
      refine V_if_ne (pc := 84) (tgt := 93) dX6_readInto_84 (by decide) rfl (fun hc => ?_) (fun hc => ?_)
      · replace hf := (if_neg hc).symm.trans hf
        refine V_aload_n (pc := 93) dX6_readInto_93 rfl rfl rfl ?_
        refine V_getR (pc := 94) dX6_readInto_94 flX6_9 rfl (by omega) (congrArg Prod.fst sh_48) rt_48_0 rfl ?_
        obtain ⟨q8, hq8, hf⟩ := bnd hf
        refine V_cVv (md' := mX9_advance) (pc := 97) dX6_readInto_97 mlX6_68 mVX9_advance (tX9_advance ⟨hG.1, hG.2.1, hG.2.2.1, hqq1⟩ hn hq8) rfl (by omega) (congrArg Prod.fst sh_49) rfl (Nat.le_of_ble_eq_true rfl) rfl ?_
        refine V_iload (pc := 100) dX6_readInto_100 rfl rfl ?_
        by_cases hc9 : (I 49 4) = (0 : Int32)
        · replace hf := (if_pos hc9).symm.trans hf
          refine V_tsIn (pc := 102) (tgt := 164) dX6_readInto_102 (by rw [hc9]; decide) (by rw [hc9]; decide) (by rw [hc9]; first | done | rfl) (by decide) ?_
          refine V_aload_n (pc := 164) dX6_readInto_164 rfl rfl rfl ?_
          obtain ⟨q10, hq10, hf⟩ := bnd hf
          refine V_cVz (md' := mX6_readSize) (pc := 165) dX6_readInto_165 mlX6_71 mVX6_readSize (tX6_readSize ⟨hG.1, hG.2.1, hG.2.2.1, hqq1⟩ hn hq10) rfl (by omega) (congrArg Prod.fst sh_48) rfl (Nat.le_of_ble_eq_true rfl) rfl ?_
          refine V_istore_n (ls' := [some _, none, some _, some _, some _, some _]) (pc := 168) dX6_readInto_168 rfl (Nat.le_of_ble_eq_true rfl) rfl rfl ?_
          refine V_goto (pc := 169) (tgt := 217) dX6_readInto_169 (by decide) ?_
          refine V_iinc (ls' := [some _, none, some _, some _, some _, some _]) (pc := 217) dX6_readInto_217 rfl (Nat.le_of_ble_eq_true rfl) (congrArg _ ic_1) rfl rfl ?_
          refine V_goto (pc := 220) (tgt := 45) dX6_readInto_220 (by decide) ?_
          exact V_wk (ih _ _ _ _ _ _ _ hf K1 K2) ⟨rfl, ⟨rfl, ⟨rfl, ⟨rfl, trivial⟩⟩⟩⟩
        · replace hf := (if_neg hc9).symm.trans hf
          by_cases hc11 : (I 49 4) = (2 : Int32)
          · replace hf := (if_pos hc11).symm.trans hf
            refine V_tsIn (pc := 102) (tgt := 172) dX6_readInto_102 (by rw [hc11]; decide) (by rw [hc11]; decide) (by rw [hc11]; first | done | rfl) (by decide) ?_
            refine V_aload_n (pc := 172) dX6_readInto_172 rfl rfl rfl ?_
            obtain ⟨q12, hq12, hf⟩ := bnd hf
            refine V_cVz (md' := mX6_readWalls) (pc := 173) dX6_readInto_173 mlX6_75 mVX6_readWalls (tX6_readWalls ⟨hG.1, hG.2.1, hG.2.2.1, hqq1⟩ hn hq12) rfl (by omega) (congrArg Prod.fst sh_48) rfl (Nat.le_of_ble_eq_true rfl) rfl ?_
            refine V_istore_n (ls' := [some _, none, some _, some _, some _, some _]) (pc := 176) dX6_readInto_176 rfl (Nat.le_of_ble_eq_true rfl) rfl rfl ?_
            refine V_goto (pc := 177) (tgt := 217) dX6_readInto_177 (by decide) ?_
            refine V_iinc (ls' := [some _, none, some _, some _, some _, some _]) (pc := 217) dX6_readInto_217 rfl (Nat.le_of_ble_eq_true rfl) (congrArg _ ic_1) rfl rfl ?_
            refine V_goto (pc := 220) (tgt := 45) dX6_readInto_220 (by decide) ?_
            exact V_wk (ih _ _ _ _ _ _ _ hf K1 K2) ⟨rfl, ⟨rfl, ⟨rfl, ⟨rfl, trivial⟩⟩⟩⟩
          · replace hf := (if_neg hc11).symm.trans hf
            by_cases hc13 : (I 49 4) = (3 : Int32)
            · replace hf := (if_pos hc13).symm.trans hf
              refine V_tsIn (pc := 102) (tgt := 180) dX6_readInto_102 (by rw [hc13]; decide) (by rw [hc13]; decide) (by rw [hc13]; first | done | rfl) (by decide) ?_
              refine V_aload_n (pc := 180) dX6_readInto_180 rfl rfl rfl ?_
              obtain ⟨q14, hq14, hf⟩ := bnd hf
              refine V_cVz (md' := mX6_readDoor) (pc := 181) dX6_readInto_181 mlX6_78 mVX6_readDoor (tX6_readDoor ⟨hG.1, hG.2.1, hG.2.2.1, hqq1⟩ hn hq14) rfl (by omega) (congrArg Prod.fst sh_48) rfl (Nat.le_of_ble_eq_true rfl) rfl ?_
              refine V_istore_n (ls' := [some _, none, some _, some _, some _, some _]) (pc := 184) dX6_readInto_184 rfl (Nat.le_of_ble_eq_true rfl) rfl rfl ?_
              refine V_goto (pc := 185) (tgt := 217) dX6_readInto_185 (by decide) ?_
              refine V_iinc (ls' := [some _, none, some _, some _, some _, some _]) (pc := 217) dX6_readInto_217 rfl (Nat.le_of_ble_eq_true rfl) (congrArg _ ic_1) rfl rfl ?_
              refine V_goto (pc := 220) (tgt := 45) dX6_readInto_220 (by decide) ?_
              exact V_wk (ih _ _ _ _ _ _ _ hf K1 K2) ⟨rfl, ⟨rfl, ⟨rfl, ⟨rfl, trivial⟩⟩⟩⟩
            · replace hf := (if_neg hc13).symm.trans hf
              by_cases hc15 : (I 49 4) = (8 : Int32)
              · replace hf := (if_pos hc15).symm.trans hf
                refine V_tsIn (pc := 102) (tgt := 188) dX6_readInto_102 (by rw [hc15]; decide) (by rw [hc15]; decide) (by rw [hc15]; first | done | rfl) (by decide) ?_
                refine V_aload_n (pc := 188) dX6_readInto_188 rfl rfl rfl ?_
                obtain ⟨q16, hq16, hf⟩ := bnd hf
                refine V_cVz (md' := mX6_readLamp) (pc := 189) dX6_readInto_189 mlX6_81 mVX6_readLamp (tX6_readLamp ⟨hG.1, hG.2.1, hG.2.2.1, hqq1⟩ hn hq16) rfl (by omega) (congrArg Prod.fst sh_48) rfl (Nat.le_of_ble_eq_true rfl) rfl ?_
                refine V_istore_n (ls' := [some _, none, some _, some _, some _, some _]) (pc := 192) dX6_readInto_192 rfl (Nat.le_of_ble_eq_true rfl) rfl rfl ?_
                refine V_goto (pc := 193) (tgt := 217) dX6_readInto_193 (by decide) ?_
                refine V_iinc (ls' := [some _, none, some _, some _, some _, some _]) (pc := 217) dX6_readInto_217 rfl (Nat.le_of_ble_eq_true rfl) (congrArg _ ic_1) rfl rfl ?_
                refine V_goto (pc := 220) (tgt := 45) dX6_readInto_220 (by decide) ?_
                exact V_wk (ih _ _ _ _ _ _ _ hf K1 K2) ⟨rfl, ⟨rfl, ⟨rfl, ⟨rfl, trivial⟩⟩⟩⟩
              · replace hf := (if_neg hc15).symm.trans hf
                by_cases hc17 : (I 49 4) = (10 : Int32)
                · replace hf := (if_pos hc17).symm.trans hf
                  refine V_tsIn (pc := 102) (tgt := 196) dX6_readInto_102 (by rw [hc17]; decide) (by rw [hc17]; decide) (by rw [hc17]; first | done | rfl) (by decide) ?_
                  refine V_aload_n (pc := 196) dX6_readInto_196 rfl rfl rfl ?_
                  obtain ⟨q18, hq18, hf⟩ := bnd hf
                  refine V_cVz (md' := mX6_readPerson) (pc := 197) dX6_readInto_197 mlX6_84 mVX6_readPerson (tX6_readPerson ⟨hG.1, hG.2.1, hG.2.2.1, hqq1⟩ hn hq18) rfl (by omega) (congrArg Prod.fst sh_48) rfl (Nat.le_of_ble_eq_true rfl) rfl ?_
                  refine V_istore_n (ls' := [some _, none, some _, some _, some _, some _]) (pc := 200) dX6_readInto_200 rfl (Nat.le_of_ble_eq_true rfl) rfl rfl ?_
                  refine V_goto (pc := 201) (tgt := 217) dX6_readInto_201 (by decide) ?_
                  refine V_iinc (ls' := [some _, none, some _, some _, some _, some _]) (pc := 217) dX6_readInto_217 rfl (Nat.le_of_ble_eq_true rfl) (congrArg _ ic_1) rfl rfl ?_
                  refine V_goto (pc := 220) (tgt := 45) dX6_readInto_220 (by decide) ?_
                  exact V_wk (ih _ _ _ _ _ _ _ hf K1 K2) ⟨rfl, ⟨rfl, ⟨rfl, ⟨rfl, trivial⟩⟩⟩⟩
                · replace hf := (if_neg hc17).symm.trans hf
                  by_cases hc19 : (I 49 4) = (11 : Int32)
                  · replace hf := (if_pos hc19).symm.trans hf
                    refine V_tsIn (pc := 102) (tgt := 204) dX6_readInto_102 (by rw [hc19]; decide) (by rw [hc19]; decide) (by rw [hc19]; first | done | rfl) (by decide) ?_
                    refine V_aload_n (pc := 204) dX6_readInto_204 rfl rfl rfl ?_
                    obtain ⟨q20, hq20, hf⟩ := bnd hf
                    refine V_cVz (md' := mX6_readShade) (pc := 205) dX6_readInto_205 mlX6_87 mVX6_readShade (tX6_readShade ⟨hG.1, hG.2.1, hG.2.2.1, hqq1⟩ hn hq20) rfl (by omega) (congrArg Prod.fst sh_48) rfl (Nat.le_of_ble_eq_true rfl) rfl ?_
                    refine V_istore_n (ls' := [some _, none, some _, some _, some _, some _]) (pc := 208) dX6_readInto_208 rfl (Nat.le_of_ble_eq_true rfl) rfl rfl ?_
                    refine V_goto (pc := 209) (tgt := 217) dX6_readInto_209 (by decide) ?_
                    refine V_iinc (ls' := [some _, none, some _, some _, some _, some _]) (pc := 217) dX6_readInto_217 rfl (Nat.le_of_ble_eq_true rfl) (congrArg _ ic_1) rfl rfl ?_
                    refine V_goto (pc := 220) (tgt := 45) dX6_readInto_220 (by decide) ?_
                    exact V_wk (ih _ _ _ _ _ _ _ hf K1 K2) ⟨rfl, ⟨rfl, ⟨rfl, ⟨rfl, trivial⟩⟩⟩⟩
                  · replace hf := (if_neg hc19).symm.trans hf
                    have KD23 : V g mX6_readInto (d + 171) 0 0 n (RT tw dr sk qq1 zf) q8.1 q8.2 212 [some (.ref 48), none, some (.int y2), some (.int y3), some (.int y4), some (.int (I 49 4))] [] P := by
                      refine V_aload_n (pc := 212) dX6_readInto_212 rfl rfl rfl ?_
                      obtain ⟨q21, hq21, hf⟩ := bnd hf
                      refine V_cVz (md' := mX6_readCloud) (pc := 213) dX6_readInto_213 mlX6_90 mVX6_readCloud (tX6_readCloud ⟨hG.1, hG.2.1, hG.2.2.1, hqq1⟩ hn hq21) rfl (by omega) (congrArg Prod.fst sh_48) rfl (Nat.le_of_ble_eq_true rfl) rfl ?_
                      refine V_istore_n (ls' := [some _, none, some _, some _, some _, some _]) (pc := 216) dX6_readInto_216 rfl (Nat.le_of_ble_eq_true rfl) rfl rfl ?_
                      refine V_iinc (ls' := [some _, none, some _, some _, some _, some _]) (pc := 217) dX6_readInto_217 rfl (Nat.le_of_ble_eq_true rfl) (congrArg _ ic_1) rfl rfl ?_
                      refine V_goto (pc := 220) (tgt := 45) dX6_readInto_220 (by decide) ?_
                      exact V_wk (ih _ _ _ _ _ _ _ hf K1 K2) ⟨rfl, ⟨rfl, ⟨rfl, ⟨rfl, trivial⟩⟩⟩⟩
                    by_cases hc24 : (I 49 4) = (1 : Int32)
                    · exact V_tsIn (pc := 102) (tgt := 212) dX6_readInto_102 (by rw [hc24]; decide) (by rw [hc24]; decide) (by rw [hc24]; first | done | rfl) (by decide) KD23
                    by_cases hc25 : (I 49 4) = (4 : Int32)
                    · exact V_tsIn (pc := 102) (tgt := 212) dX6_readInto_102 (by rw [hc25]; decide) (by rw [hc25]; decide) (by rw [hc25]; first | done | rfl) (by decide) KD23
                    by_cases hc26 : (I 49 4) = (5 : Int32)
                    · exact V_tsIn (pc := 102) (tgt := 212) dX6_readInto_102 (by rw [hc26]; decide) (by rw [hc26]; decide) (by rw [hc26]; first | done | rfl) (by decide) KD23
                    by_cases hc27 : (I 49 4) = (6 : Int32)
                    · exact V_tsIn (pc := 102) (tgt := 212) dX6_readInto_102 (by rw [hc27]; decide) (by rw [hc27]; decide) (by rw [hc27]; first | done | rfl) (by decide) KD23
                    by_cases hc28 : (I 49 4) = (7 : Int32)
                    · exact V_tsIn (pc := 102) (tgt := 212) dX6_readInto_102 (by rw [hc28]; decide) (by rw [hc28]; decide) (by rw [hc28]; first | done | rfl) (by decide) KD23
                    by_cases hc29 : (I 49 4) = (9 : Int32)
                    · exact V_tsIn (pc := 102) (tgt := 212) dX6_readInto_102 (by rw [hc29]; decide) (by rw [hc29]; decide) (by rw [hc29]; first | done | rfl) (by decide) KD23
                    refine V_tsOut (pc := 102) (tgt := 212) dX6_readInto_102 (by have e0 := swn (k := (0 : Int32)) (z := 0) hc9 rfl; have e1 := swn (k := (2 : Int32)) (z := 2) hc11 rfl; have e2 := swn (k := (3 : Int32)) (z := 3) hc13 rfl; have e3 := swn (k := (8 : Int32)) (z := 8) hc15 rfl; have e4 := swn (k := (10 : Int32)) (z := 10) hc17 rfl; have e5 := swn (k := (11 : Int32)) (z := 11) hc19 rfl; have e6 := swn (k := (1 : Int32)) (z := 1) hc24 rfl; have e7 := swn (k := (4 : Int32)) (z := 4) hc25 rfl; have e8 := swn (k := (5 : Int32)) (z := 5) hc26 rfl; have e9 := swn (k := (6 : Int32)) (z := 6) hc27 rfl; have e10 := swn (k := (7 : Int32)) (z := 7) hc28 rfl; have e11 := swn (k := (9 : Int32)) (z := 9) hc29 rfl; omega) (by decide) KD23
      · replace hf := (if_pos hc).symm.trans hf
        refine V_aload_n (pc := 87) dX6_readInto_87 rfl rfl rfl ?_
        refine V_iconst (pc := 88) dX6_readInto_88 ic_2 rfl ?_
        obtain ⟨q22, hq22, hf⟩ := obd hf
        refine V_cVz (md' := mX6_refuse) (pc := 89) dX6_readInto_89 mlX6_64 mVX6_refuse (tX6_refuse ⟨hG.1, hG.2.1, hG.2.2.1, hqq1⟩ hn hq22) rfl (by omega) (congrArg Prod.fst sh_48) rfl (Nat.le_of_ble_eq_true rfl) rfl ?_
        cases hf
        exact V_zretE (pc := 92) dX6_readInto_92 rfl rfl (K2 _ rfl)
    refine V_icmp_gt (pc := 48) (tgt := 223) dX6_readInto_48 (by decide) rfl (fun hc => ?_) (fun hc => ?_)
    · replace hb7 := (if_pos hc).symm.trans hb7
      cases hb7
      exact KTb7 rfl
    · replace hb7 := (if_neg hc).symm.trans hb7
      refine V_iload_n (pc := 51) dX6_readInto_51 rfl rfl rfl ?_
      refine V_if_eq (pc := 52) (tgt := 223) dX6_readInto_52 (by decide) rfl (fun hc => ?_) (fun hc => ?_)
      · replace hb7 := (if_pos hc).symm.trans hb7
        cases hb7
        exact KTb7 rfl
      · replace hb7 := (if_neg hc).symm.trans hb7
        refine V_aload_n (pc := 55) dX6_readInto_55 rfl rfl rfl ?_
        refine V_getR (pc := 56) dX6_readInto_56 flX6_9 rfl (by omega) (congrArg Prod.fst sh_48) rt_48_0 rfl ?_
        refine V_getI (pc := 59) dX6_readInto_59 flX6_57 rfl (by omega) (congrArg Prod.fst sh_49) rfl ?_
        refine V_bipush (pc := 62) dX6_readInto_62 bp_22 rfl ?_
        refine V_icmp_eq (pc := 64) (tgt := 223) dX6_readInto_64 (by decide) rfl (fun hc => ?_) (fun hc => ?_)
        · replace hb7 := (if_pos hc).symm.trans hb7
          cases hb7
          exact KTb7 rfl
        · replace hb7 := (if_neg hc).symm.trans hb7
          cases hb7
          exact KFb7 (nbt rfl)
noncomputable def fX6_readInto (qq1 : Nat) (tl : Nat) (ff : Nat) (v2 : Int32) (I : HI) (L : HL) : Option (Bool × Nat × HI × HL) :=
  obn (fX5_clear qq1 I L) fun q1 =>
  let I2 : HI := up2 q1.1 48 6 (b2i false)
  let I3 : HI := up2 I2 48 7 (b2i false)
  let I4 : HI := up2 I3 48 8 (0 : Int32)
  let I5 : HI := up2 I4 48 9 (-1 : Int32)
  Option.bind (fX9_begin v2 I5 q1.2) fun q6 =>
  Option.bind (fX6_readInto_45 qq1 tl ff FUEL v2 (1 : Int32) (0 : Int32) ff q6.1 q6.2) fun q30 => match q30 with
  | .inl a31 =>
    if a31.1 = 0 then
      Option.bind (i2b a31.1) fun b33 =>
      some (b33, a31.2.1, a31.2.2.1, a31.2.2.2)
    else
      Option.bind (fX5_settle qq1 a31.2.2.1 a31.2.2.2) fun q34 =>
      Option.bind (i2b a31.1) fun b35 =>
      some (b35, a31.2.1, a31.2.2.1, q34)
  | .inr b32 =>
    some (b32.1, b32.2.1, b32.2.2.1, b32.2.2.2)
set_option maxRecDepth 100000 in
set_option maxHeartbeats 4000000 in
theorem tX6_readInto {g : GG} {n d : Nat} {tw dr sk tl ff : Nat} {qq1 : Nat} (hG : RG tw dr sk tl ff) (hn : 116 ≤ n) (hqq1 : isQ qq1) {v2 : Int32} {I : HI} {L : HL} {res : Bool × Nat × HI × HL} (hf : fX6_readInto qq1 tl ff v2 I L = some res) : CT g mX6_readInto (d + 171) 0 0 n (RT tw dr sk tl ff) I L [.ref 48, .ref qq1, .int v2] (PoB n (RT tw dr sk qq1 res.2.1) res.1 res.2.2.1 res.2.2.2) := by
  refine CT.of rfl (Nat.le_of_ble_eq_true rfl) ?_
  show V g mX6_readInto (d + 171) 0 0 n (RT tw dr sk tl ff) I L 0 [some (.ref 48), some (.ref qq1), some (.int v2)] [] (PoB n (RT tw dr sk qq1 res.2.1) res.1 res.2.2.1 res.2.2.2)
  refine V_aload_n (pc := 0) dX6_readInto_0 rfl rfl rfl ?_
  refine V_aload_n (pc := 1) dX6_readInto_1 rfl rfl rfl ?_
  refine V_putRE (pc := 2) dX6_readInto_2 flX6_30 (by first | exact Or.inl ⟨_, rfl⟩ | exact Or.inr ⟨_, rfl⟩) rfl (by omega) (congrArg Prod.fst sh_48) rts_tl rfl ?_
  refine V_aload_n (pc := 5) dX6_readInto_5 rfl rfl rfl ?_
  refine V_getR (pc := 6) dX6_readInto_6 flX6_30 rfl (by omega) (congrArg Prod.fst sh_48) rt_48_2 rfl ?_
  obtain ⟨q1, hq1, hf⟩ := obd hf
  refine V_cVv (md' := mX5_clear) (pc := 9) dX6_readInto_9 mlX6_38 mVX5_clear (tX5_clear hqq1 (rQ_RT hqq1) (by omega) hq1) rfl (by omega) (congrArg Prod.fst (shQ hqq1)) rfl (Nat.le_of_ble_eq_true rfl) rfl ?_
  refine V_aload_n (pc := 12) dX6_readInto_12 rfl rfl rfl ?_
  refine V_iconst (pc := 13) dX6_readInto_13 ic_0 rfl ?_
  let I2 : HI := up2 q1.1 48 6 (b2i false)
  refine V_putZE (pc := 14) dX6_readInto_14 flX6_41 rfl rfl (by omega) (congrArg Prod.fst sh_48) (show (0 : Int32) = b2i false from rfl) rfl ?_
  refine V_aload_n (pc := 17) dX6_readInto_17 rfl rfl rfl ?_
  refine V_iconst (pc := 18) dX6_readInto_18 ic_0 rfl ?_
  let I3 : HI := up2 I2 48 7 (b2i false)
  refine V_putZE (pc := 19) dX6_readInto_19 flX6_45 rfl rfl (by omega) (congrArg Prod.fst sh_48) (show (0 : Int32) = b2i false from rfl) rfl ?_
  refine V_aload_n (pc := 22) dX6_readInto_22 rfl rfl rfl ?_
  refine V_iconst (pc := 23) dX6_readInto_23 ic_0 rfl ?_
  let I4 : HI := up2 I3 48 8 (0 : Int32)
  refine V_putI (pc := 24) dX6_readInto_24 flX6_48 rfl rfl (by omega) (congrArg Prod.fst sh_48) rfl ?_
  refine V_aload_n (pc := 27) dX6_readInto_27 rfl rfl rfl ?_
  refine V_iconst (pc := 28) dX6_readInto_28 ic_m1 rfl ?_
  let I5 : HI := up2 I4 48 9 (-1 : Int32)
  refine V_putI (pc := 29) dX6_readInto_29 flX6_34 rfl rfl (by omega) (congrArg Prod.fst sh_48) rfl ?_
  refine V_aload_n (pc := 32) dX6_readInto_32 rfl rfl rfl ?_
  refine V_getR (pc := 33) dX6_readInto_33 flX6_9 rfl (by omega) (congrArg Prod.fst sh_48) rt_48_0 rfl ?_
  refine V_iload_n (pc := 36) dX6_readInto_36 rfl rfl rfl ?_
  obtain ⟨q6, hq6, hf⟩ := bnd hf
  refine V_cVv (md' := mX9_begin) (pc := 37) dX6_readInto_37 mlX6_51 mVX9_begin (tX9_begin ⟨hG.1, hG.2.1, hG.2.2.1, hqq1⟩ hn hq6) rfl (by omega) (congrArg Prod.fst sh_49) rfl (Nat.le_of_ble_eq_true rfl) rfl ?_
  refine V_iconst (pc := 40) dX6_readInto_40 ic_1 rfl ?_
  refine V_istore_n (ls' := [some _, some _, some _, some _]) (pc := 41) dX6_readInto_41 rfl (Nat.le_of_ble_eq_true rfl) rfl rfl ?_
  refine V_iconst (pc := 42) dX6_readInto_42 ic_0 rfl ?_
  refine V_istore (ls' := [some _, some _, some _, some _, some _]) (pc := 43) dX6_readInto_43 (Nat.le_of_ble_eq_true rfl) rfl rfl ?_
  obtain ⟨q30, hq30, hf⟩ := bnd hf
  refine V_wk (lX6_readInto_45 hG hn hqq1 FUEL _ _ _ _ _ _ _ hq30 (fun a31 ha31 => ?_) (fun b32 hb32 => ?_)) ⟨rfl, ⟨rfl, ⟨rfl, ⟨rfl, trivial⟩⟩⟩⟩
  · subst ha31
    refine V_iload_n (pc := 223) dX6_readInto_223 rfl rfl rfl ?_
    refine V_if_eq (pc := 224) (tgt := 234) dX6_readInto_224 (by decide) rfl (fun hc => ?_) (fun hc => ?_)
    · replace hf := (if_pos hc).symm.trans hf
      refine V_iload_n (pc := 234) dX6_readInto_234 rfl rfl rfl ?_
      obtain ⟨b33, hb33, hf⟩ := bnd hf
      cases hf
      exact V_zretE (pc := 235) dX6_readInto_235 rfl (i2b_eq hb33) PoB_mk
    · replace hf := (if_neg hc).symm.trans hf
      refine V_aload_n (pc := 227) dX6_readInto_227 rfl rfl rfl ?_
      refine V_getR (pc := 228) dX6_readInto_228 flX6_30 rfl (by omega) (congrArg Prod.fst sh_48) rt_48_2 rfl ?_
      obtain ⟨q34, hq34, hf⟩ := bnd hf
      refine V_cVv (md' := mX5_settle) (pc := 231) dX6_readInto_231 mlX6_93 mVX5_settle (tX5_settle hqq1 (rQ_RT hqq1) (by omega) hq34) rfl (by omega) (congrArg Prod.fst (shQ hqq1)) rfl (Nat.le_of_ble_eq_true rfl) rfl ?_
      refine V_iload_n (pc := 234) dX6_readInto_234 rfl rfl rfl ?_
      obtain ⟨b35, hb35, hf⟩ := bnd hf
      cases hf
      exact V_zretE (pc := 235) dX6_readInto_235 rfl (i2b_eq hb35) PoB_mk
  · subst hb32
    cases hf
    exact PoB_mk
/-! ShadowDoors.quarter -/
noncomputable def fX11_quarter (tw : Nat) (dr : Nat) (sk : Nat) (tl : Nat) (ff : Nat) (I : HI) (L : HL) : Option (Int32 × Nat × Nat × Nat × Nat × Nat × HI × HL) :=
  Option.bind (fX6_readInto dr tl ff (I 0 1) I L) fun q1 =>
  let I2 : HI := up2 q1.2.2.1 0 1 (0 : Int32)
  if (b2i q1.1) = 0 then
    some ((-1 : Int32), tw, dr, sk, dr, q1.2.1, I2, q1.2.2.2)
  else
    Option.bind (fX4_begin dr I2) fun q3 =>
    Option.bind (fX4_packed  q3) fun q4 =>
    Option.bind (fX0_begin q4 q3 q1.2.2.2) fun q5 =>
    let I6 : HI := up2 q5.1 0 8 (0 : Int32)
    obn (fX7_forget dr sk q5.2) fun q7 =>
    obn (fX10_forget  I6) fun q8 =>
    obn (fX3_forget  q8) fun q9 =>
    some ((q9 (dr + 1) 0), dr, tw, dr, dr, q1.2.1, q9, q7)
set_option maxRecDepth 100000 in
set_option maxHeartbeats 4000000 in
theorem tX11_quarter {g : GG} {n d : Nat} {tw dr sk tl ff : Nat} (hG : RG tw dr sk tl ff) (hn : 116 ≤ n) {I : HI} {L : HL} {res : Int32 × Nat × Nat × Nat × Nat × Nat × HI × HL} (hf : fX11_quarter tw dr sk tl ff I L = some res) : CT g mX11_quarter (d + 172) 0 0 n (RT tw dr sk tl ff) I L [.ref 0] (PoI n (RT res.2.1 res.2.2.1 res.2.2.2.1 res.2.2.2.2.1 res.2.2.2.2.2.1) res.1 res.2.2.2.2.2.2.1 res.2.2.2.2.2.2.2) := by
  refine CT.of rfl (Nat.le_of_ble_eq_true rfl) ?_
  show V g mX11_quarter (d + 172) 0 0 n (RT tw dr sk tl ff) I L 0 [some (.ref 0)] [] (PoI n (RT res.2.1 res.2.2.1 res.2.2.2.1 res.2.2.2.2.1 res.2.2.2.2.2.1) res.1 res.2.2.2.2.2.2.1 res.2.2.2.2.2.2.2)
  refine V_aload_n (pc := 0) dX11_quarter_0 rfl rfl rfl ?_
  refine V_getR (pc := 1) dX11_quarter_1 flX11_33 rfl (by omega) (congrArg Prod.fst sh_0) rt_0_2 rfl ?_
  refine V_aload_n (pc := 4) dX11_quarter_4 rfl rfl rfl ?_
  refine V_getR (pc := 5) dX11_quarter_5 flX11_20 rfl (by omega) (congrArg Prod.fst sh_0) rt_0_4 rfl ?_
  refine V_aload_n (pc := 8) dX11_quarter_8 rfl rfl rfl ?_
  refine V_getI (pc := 9) dX11_quarter_9 flX11_90 rfl (by omega) (congrArg Prod.fst sh_0) rfl ?_
  obtain ⟨q1, hq1, hf⟩ := bnd hf
  refine V_cVz (md' := mX6_readInto) (pc := 12) dX11_quarter_12 mlX11_98 mVX6_readInto (tX6_readInto hG hn hG.2.1 hq1) rfl (by omega) (congrArg Prod.fst sh_48) rfl (Nat.le_of_ble_eq_true rfl) rfl ?_
  refine V_istore_n (ls' := [some _, some _]) (pc := 15) dX11_quarter_15 rfl (Nat.le_of_ble_eq_true rfl) rfl rfl ?_
  refine V_aload_n (pc := 16) dX11_quarter_16 rfl rfl rfl ?_
  refine V_iconst (pc := 17) dX11_quarter_17 ic_0 rfl ?_
  let I2 : HI := up2 q1.2.2.1 0 1 (0 : Int32)
  refine V_putI (pc := 18) dX11_quarter_18 flX11_90 rfl rfl (by omega) (congrArg Prod.fst sh_0) rfl ?_
  refine V_iload_n (pc := 21) dX11_quarter_21 rfl rfl rfl ?_
  refine V_if_ne (pc := 22) (tgt := 27) dX11_quarter_22 (by decide) rfl (fun hc => ?_) (fun hc => ?_)
  · replace hf := (if_neg hc).symm.trans hf
    refine V_aload_n (pc := 27) dX11_quarter_27 rfl rfl rfl ?_
    refine V_getR (pc := 28) dX11_quarter_28 flX11_16 rfl (by omega) (congrArg Prod.fst sh_0) rt_0_3 rfl ?_
    refine V_astore_n (ls' := [some _, some _, some _]) (pc := 31) dX11_quarter_31 rfl (Nat.le_of_ble_eq_true rfl) rfl rfl ?_
    refine V_aload_n (pc := 32) dX11_quarter_32 rfl rfl rfl ?_
    refine V_aload_n (pc := 33) dX11_quarter_33 rfl rfl rfl ?_
    refine V_getR (pc := 34) dX11_quarter_34 flX11_20 rfl (by omega) (congrArg Prod.fst sh_0) rt_0_4 rfl ?_
    refine V_putRE (pc := 37) dX11_quarter_37 flX11_16 (by first | exact Or.inl ⟨_, rfl⟩ | exact Or.inr ⟨_, rfl⟩) rfl (by omega) (congrArg Prod.fst sh_0) rts_tw rfl ?_
    refine V_aload_n (pc := 40) dX11_quarter_40 rfl rfl rfl ?_
    refine V_aload_n (pc := 41) dX11_quarter_41 rfl rfl rfl ?_
    refine V_putRE (pc := 42) dX11_quarter_42 flX11_20 (by first | exact Or.inl ⟨_, rfl⟩ | exact Or.inr ⟨_, rfl⟩) rfl (by omega) (congrArg Prod.fst sh_0) rts_dr rfl ?_
    refine V_aload_n (pc := 45) dX11_quarter_45 rfl rfl rfl ?_
    refine V_getR (pc := 46) dX11_quarter_46 flX11_40 rfl (by omega) (congrArg Prod.fst sh_0) rt_0_5 rfl ?_
    refine V_aload_n (pc := 49) dX11_quarter_49 rfl rfl rfl ?_
    refine V_getR (pc := 50) dX11_quarter_50 flX11_16 rfl (by omega) (congrArg Prod.fst sh_0) rt_0_3 rfl ?_
    obtain ⟨q3, hq3, hf⟩ := bnd hf
    refine V_cVv (md' := mX4_begin) (pc := 53) dX11_quarter_53 mlX11_44 mVX4_begin (tX4_begin rN_RT (by omega) hG.2.1 (rQ_RT hG.2.1) (by omega) hq3) rfl (by omega) (congrArg Prod.fst sh_52) rfl (Nat.le_of_ble_eq_true rfl) rfl ?_
    refine V_aload_n (pc := 56) dX11_quarter_56 rfl rfl rfl ?_
    refine V_getR (pc := 57) dX11_quarter_57 flX11_51 rfl (by omega) (congrArg Prod.fst sh_0) rt_0_6 rfl ?_
    refine V_aload_n (pc := 60) dX11_quarter_60 rfl rfl rfl ?_
    refine V_getR (pc := 61) dX11_quarter_61 flX11_40 rfl (by omega) (congrArg Prod.fst sh_0) rt_0_5 rfl ?_
    obtain ⟨q4, hq4, hf⟩ := bnd hf
    refine V_cVl (md' := mX4_packed) (pc := 64) dX11_quarter_64 mlX11_55 mVX4_packed (tX4_packed rN_RT (by omega) hq4) rfl (by omega) (congrArg Prod.fst sh_52) rfl (Nat.le_of_ble_eq_true rfl) rfl ?_
    obtain ⟨q5, hq5, hf⟩ := bnd hf
    refine V_cVv (md' := mX0_begin) (pc := 67) dX11_quarter_67 mlX11_59 mVX0_begin (tX0_begin rA_RT (by omega) hq5) rfl (by omega) (congrArg Prod.fst sh_54) rfl (Nat.le_of_ble_eq_true rfl) rfl ?_
    refine V_aload_n (pc := 70) dX11_quarter_70 rfl rfl rfl ?_
    refine V_iconst (pc := 71) dX11_quarter_71 ic_0 rfl ?_
    let I6 : HI := up2 q5.1 0 8 (0 : Int32)
    refine V_putI (pc := 72) dX11_quarter_72 flX11_102 rfl rfl (by omega) (congrArg Prod.fst sh_0) rfl ?_
    refine V_aload_n (pc := 75) dX11_quarter_75 rfl rfl rfl ?_
    refine V_getR (pc := 76) dX11_quarter_76 flX11_70 rfl (by omega) (congrArg Prod.fst sh_0) rt_0_9 rfl ?_
    refine V_aload_n (pc := 79) dX11_quarter_79 rfl rfl rfl ?_
    refine V_getR (pc := 80) dX11_quarter_80 flX11_16 rfl (by omega) (congrArg Prod.fst sh_0) rt_0_3 rfl ?_
    obtain ⟨q7, hq7, hf⟩ := obd hf
    refine V_cVv (md' := mX7_forget) (pc := 83) dX11_quarter_83 mlX11_105 mVX7_forget (tX7_forget ⟨hG.2.1, hG.1, hG.2.2.1, hG.2.1⟩ hn hG.2.1 hq7) rfl (by omega) (congrArg Prod.fst sh_57) rfl (Nat.le_of_ble_eq_true rfl) rfl ?_
    refine V_aload_n (pc := 86) dX11_quarter_86 rfl rfl rfl ?_
    refine V_getR (pc := 87) dX11_quarter_87 flX11_79 rfl (by omega) (congrArg Prod.fst sh_0) rt_0_10 rfl ?_
    obtain ⟨q8, hq8, hf⟩ := obd hf
    refine V_cVv (md' := mX10_forget) (pc := 90) dX11_quarter_90 mlX11_108 mVX10_forget (tX10_forget ⟨hG.2.1, hG.1, hG.2.1, hG.2.1⟩ hn hq8) rfl (by omega) (congrArg Prod.fst sh_61) rfl (Nat.le_of_ble_eq_true rfl) rfl ?_
    refine V_aload_n (pc := 93) dX11_quarter_93 rfl rfl rfl ?_
    refine V_getR (pc := 94) dX11_quarter_94 flX11_86 rfl (by omega) (congrArg Prod.fst sh_0) rt_0_11 rfl ?_
    obtain ⟨q9, hq9, hf⟩ := obd hf
    refine V_cVv (md' := mX3_forget) (pc := 97) dX11_quarter_97 mlX11_110 mVX3_forget (tX3_forget ⟨hG.2.1, hG.1, hG.2.1, hG.2.1⟩ hn hq9) rfl (by omega) (congrArg Prod.fst sh_66) rfl (Nat.le_of_ble_eq_true rfl) rfl ?_
    refine V_aload_n (pc := 100) dX11_quarter_100 rfl rfl rfl ?_
    refine V_getR (pc := 101) dX11_quarter_101 flX11_16 rfl (by omega) (congrArg Prod.fst sh_0) rt_0_3 rfl ?_
    refine V_getR (pc := 104) dX11_quarter_104 flX11_111 rfl (by omega) (congrArg Prod.fst (shQ hG.2.1)) (rQ_6 (rQ_RT hG.2.1)) rfl ?_
    refine V_getI (pc := 107) dX11_quarter_107 flX11_115 rfl (by omega) (congrArg Prod.fst (shT (qT_6 hG.2.1))) rfl ?_
    cases hf
    exact V_iret (pc := 110) dX11_quarter_110 rfl PoI_mk
  · replace hf := (if_pos hc).symm.trans hf
    refine V_iconst (pc := 25) dX11_quarter_25 ic_m1 rfl ?_
    cases hf
    exact V_iret (pc := 26) dX11_quarter_26 rfl PoI_mk
