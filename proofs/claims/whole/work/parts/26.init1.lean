section VT0
variable {g : GG} {md : MD} {d kc ks n : Nat} {r : HR} {I : HI} {L : HL} {pc : Nat} {ls : List (Option Value)} {st : List Value} {P : PP}
theorem V_ldcS0 {pc' : Nat} (hd : decode md.2.1 pc = .ok (.ldc 19, 2)) (ho : md.1.cls = RX9) (hp : pc + 2 = pc') (h : V g md d kc ks n r I L pc' ls (.retAddr 0 :: st) P) : V g md d kc ks n r I L pc ls st P := by
  subst hp
  intro p e s m args below meth c' H lc locs cells slots mc ms hF hR hS hl hc hs' hz
  have hown := hF.2.2.2.1
  rw [ho] at hown
  exact va_ldcS hF.1 hF.2.1 hown hF.2.2.2.2.2.2.2.2.2.1.2.2.1 hd (h p e s m args below meth c' H lc locs cells slots mc ms hF hR hS hl hc hs' hz)
end VT0
theorem bp_19 : (Int8.ofInt 19).toInt32 = (19 : Int32) := by decide
/-! ShadowDoors$Tokens (made) -/
noncomputable def fX9_init_21 : Nat → Int32 → Int32 → HI → HL → Option (HL)
  | 0, _, _, _, _ => none
  | fu + 1, y2, y3, I, L =>
    if (fJ0_length_8abf5 0) ≤ y3 then
      some L
    else
      Option.bind (fJ0_charAt_5068e 0 y3) fun q6 =>
      if q6 = (32 : Int32) then
        fX9_init_21 fu (y2 + (1 : Int32)) (y3 + (1 : Int32)) I L
      else
        if (Int32.ofNat 19) ≤ y2 then
          fX9_init_21 fu y2 (y3 + (1 : Int32)) I L
        else
          if inb y2 19 = true then
            if inb y2 19 = true then
              let L9 : HL := up2 L 50 y2.toNatClampNeg (fX9_withLetter (L 50 y2.toNatClampNeg) q6)
              fX9_init_21 fu y2 (y3 + (1 : Int32)) I L9
            else none
          else none
set_option maxRecDepth 100000 in
set_option maxHeartbeats 4000000 in
theorem lX9_init_21 {g : GG} {n d : Nat} {r : HR} (hrw : r 49 1 = some 50) (hn : 51 ≤ n) {P : PP} : ∀ (fu : Nat) (y2 : Int32) (y3 : Int32) (I : HI) (L : HL) (res : HL), fX9_init_21 fu y2 y3 I L = some res → P none n r I res → V g mX9_init (d + 5) 0 (0) (n) r I L 21 [some (.ref 49), none, some (.int y2), some (.int y3)] [] P := by
  intro fu
  induction fu with
  | zero => intro y2 y3 I L res hf; cases (show none = some res from hf)
  | succ fu ih =>
    intro y2 y3 I L res hf K
    refine V_iload_n (pc := 21) dX9_init_21 rfl rfl rfl ?_
    refine V_ldcS0 (pc := 22) dX9_init_22 rfl rfl ?_
    refine V_cXi (md' := mJ0_length_8abf5) (pc := 24) dX9_init_24 mlX9_21 mXJ0_length_8abf5 (tJ0_length_8abf5 (by decide) rfl) rfl (by decide) rfl (Nat.le_of_ble_eq_true rfl) rfl ?_
    refine V_icmp_ge (pc := 27) (tgt := 83) dX9_init_27 (by decide) rfl (fun hc => ?_) (fun hc => ?_)
    · replace hf := (if_pos hc).symm.trans hf
      cases hf
      exact V_vret (pc := 83) dX9_init_83 rfl K
    · replace hf := (if_neg hc).symm.trans hf
      refine V_ldcS0 (pc := 30) dX9_init_30 rfl rfl ?_
      refine V_iload_n (pc := 32) dX9_init_32 rfl rfl rfl ?_
      obtain ⟨q6, hq6, hf⟩ := bnd hf
      refine V_cXi (md' := mJ0_charAt_5068e) (pc := 33) dX9_init_33 mlX9_27 mXJ0_charAt_5068e (tJ0_charAt_5068e (by decide) hq6) rfl (by decide) rfl (Nat.le_of_ble_eq_true rfl) rfl ?_
      refine V_istore (ls' := [some _, none, some _, some _, some _]) (pc := 36) dX9_init_36 (Nat.le_of_ble_eq_true rfl) rfl rfl ?_
      refine V_iload (pc := 38) dX9_init_38 rfl rfl ?_
      refine V_bipush (pc := 40) dX9_init_40 bp_32 rfl ?_
      refine V_icmp_ne (pc := 42) (tgt := 51) dX9_init_42 (by decide) rfl (fun hc => ?_) (fun hc => ?_)
      · replace hf := (if_neg hc).symm.trans hf
        refine V_iload_n (pc := 51) dX9_init_51 rfl rfl rfl ?_
        refine V_aload_n (pc := 52) dX9_init_52 rfl rfl rfl ?_
        refine V_getR (pc := 53) dX9_init_53 flX9_9 rfl (by omega) (congrArg Prod.fst sh_49) hrw rfl ?_
        refine V_alen (pc := 56) dX9_init_56 (by omega) sh_50 (by decide) rfl ?_
        refine V_icmp_ge (pc := 57) (tgt := 77) dX9_init_57 (by decide) rfl (fun hc => ?_) (fun hc => ?_)
        · replace hf := (if_pos hc).symm.trans hf
          refine V_iinc (ls' := [some _, none, some _, some _, some _]) (pc := 77) dX9_init_77 rfl (Nat.le_of_ble_eq_true rfl) (congrArg _ ic_1) rfl rfl ?_
          refine V_goto (pc := 80) (tgt := 21) dX9_init_80 (by decide) ?_
          exact V_wk (ih _ _ _ _ _ hf K) ⟨rfl, ⟨rfl, ⟨rfl, trivial⟩⟩⟩
        · replace hf := (if_neg hc).symm.trans hf
          refine V_aload_n (pc := 60) dX9_init_60 rfl rfl rfl ?_
          refine V_getR (pc := 61) dX9_init_61 flX9_9 rfl (by omega) (congrArg Prod.fst sh_49) hrw rfl ?_
          refine V_iload_n (pc := 64) dX9_init_64 rfl rfl rfl ?_
          refine V_aload_n (pc := 65) dX9_init_65 rfl rfl rfl ?_
          refine V_getR (pc := 66) dX9_init_66 flX9_9 rfl (by omega) (congrArg Prod.fst sh_49) hrw rfl ?_
          refine V_iload_n (pc := 69) dX9_init_69 rfl rfl rfl ?_
          obtain ⟨hc7, hf⟩ := pif hf
          refine V_lald (pc := 70) dX9_init_70 (by omega) sh_50 hc7 rfl ?_
          refine V_iload (pc := 71) dX9_init_71 rfl rfl ?_
          refine V_cSl (md' := mX9_withLetter) (pc := 73) dX9_init_73 mlX9_31 mSX9_withLetter (tX9_withLetter rfl) rfl rfl (Nat.le_of_ble_eq_true rfl) rfl ?_
          obtain ⟨hc8, hf⟩ := pif hf
          let L9 : HL := up2 L 50 y2.toNatClampNeg (fX9_withLetter (L 50 y2.toNatClampNeg) q6)
          refine V_last (pc := 76) dX9_init_76 (by omega) sh_50 hc8 rfl ?_
          refine V_iinc (ls' := [some _, none, some _, some _, some _]) (pc := 77) dX9_init_77 rfl (Nat.le_of_ble_eq_true rfl) (congrArg _ ic_1) rfl rfl ?_
          refine V_goto (pc := 80) (tgt := 21) dX9_init_80 (by decide) ?_
          exact V_wk (ih _ _ _ _ _ hf K) ⟨rfl, ⟨rfl, ⟨rfl, trivial⟩⟩⟩
      · replace hf := (if_pos hc).symm.trans hf
        refine V_iinc (ls' := [some _, none, some _, some _, some _]) (pc := 45) dX9_init_45 rfl (Nat.le_of_ble_eq_true rfl) (congrArg _ ic_1) rfl rfl ?_
        refine V_goto (pc := 48) (tgt := 77) dX9_init_48 (by decide) ?_
        refine V_iinc (ls' := [some _, none, some _, some _, some _]) (pc := 77) dX9_init_77 rfl (Nat.le_of_ble_eq_true rfl) (congrArg _ ic_1) rfl rfl ?_
        refine V_goto (pc := 80) (tgt := 21) dX9_init_80 (by decide) ?_
        exact V_wk (ih _ _ _ _ _ hf K) ⟨rfl, ⟨rfl, ⟨rfl, trivial⟩⟩⟩
def rX9_init (r : HR) : HR :=
  let r1 : HR := zr0 none r (50)
  let r4 : HR := up2 r1 49 1 (some 50)
  let r5 : HR := up2 r4 49 0 (some 1)
  r5
noncomputable def fX9_init (I : HI) (L : HL) : Option (HI × HL) :=
  let I2 : HI := zr0 0 I (50)
  let L3 : HL := zr0 0 L (50)
  Option.bind (fX9_init_21 FUEL (0 : Int32) (0 : Int32) I2 L3) fun q10 =>
  some (I2, q10)
set_option maxRecDepth 100000 in
set_option maxHeartbeats 4000000 in
theorem tX9_init {g : GG} {d : Nat} {r : HR} {I : HI} {L : HL} {res : HI × HL} (hf : fX9_init I L = some res) : CT g mX9_init (d + 5) 1 (19) (50) r I L [.ref 49, .ref 1] (PoV (51) (rX9_init r) res.1 res.2) := by
  refine CT.of rfl (Nat.le_of_ble_eq_true rfl) ?_
  show V g mX9_init (d + 5) 1 (19) (50) r I L 0 [some (.ref 49), some (.ref 1)] [] (PoV (51) (rX9_init r) res.1 res.2)
  refine V_aload_n (pc := 0) dX9_init_0 rfl rfl rfl ?_
  refine V_objInit (pc := 1) dX9_init_1 ⟨mlX9_3, wobj.1, wobj.2⟩ (Nat.le_of_ble_eq_true rfl) rfl ?_
  refine V_aload_n (pc := 4) dX9_init_4 rfl rfl rfl ?_
  refine V_bipush (pc := 5) dX9_init_5 bp_19 rfl ?_
  let r1 : HR := zr0 none r (50)
  let I2 : HI := zr0 0 I (50)
  let L3 : HL := zr0 0 L (50)
  refine V_newa (k := 1) (N := 19) (kc := 0) (ks := 0) (pc := 7) dX9_init_7 rfl rfl (fun _ _ h => h) (by decide) wa_long sh_50 (by decide) (by decide) (by decide) rfl rfl ?_
  let r4 : HR := up2 r1 49 1 (some 50)
  refine V_putR (pc := 9) dX9_init_9 flX9_9 (by first | exact Or.inl ⟨_, rfl⟩ | exact Or.inr ⟨_, rfl⟩) (Or.inr ⟨rfl, rfl, rfl⟩) (by omega) (congrArg Prod.fst sh_49) rfl ?_
  refine V_aload_n (pc := 12) dX9_init_12 rfl rfl rfl ?_
  refine V_aload_n (pc := 13) dX9_init_13 rfl rfl rfl ?_
  let r5 : HR := up2 r4 49 0 (some 1)
  refine V_putR (pc := 14) dX9_init_14 flX9_15 (by first | exact Or.inl ⟨_, rfl⟩ | exact Or.inr ⟨_, rfl⟩) (Or.inr ⟨rfl, rfl, rfl⟩) (by omega) (congrArg Prod.fst sh_49) rfl ?_
  refine V_iconst (pc := 17) dX9_init_17 ic_0 rfl ?_
  refine V_istore_n (ls' := [some _, some _, some _]) (pc := 18) dX9_init_18 rfl (Nat.le_of_ble_eq_true rfl) rfl rfl ?_
  refine V_iconst (pc := 19) dX9_init_19 ic_0 rfl ?_
  refine V_istore_n (ls' := [some _, some _, some _, some _]) (pc := 20) dX9_init_20 rfl (Nat.le_of_ble_eq_true rfl) rfl rfl ?_
  obtain ⟨q10, hq10, hf⟩ := bnd hf
  refine V_wk (lX9_init_21 rfl (by decide) FUEL _ _ _ _ _ hq10 ?_) ⟨rfl, ⟨rfl, ⟨rfl, trivial⟩⟩⟩
  cases hf
  exact PoV_mk
/-! ShadowDoors$Reader (made) -/
def rX6_init (r : HR) : HR :=
  let r1 : HR := up2 r 48 0 (some 49)
  let r2 : HR := zr0 none r1 (51)
  let r6 : HR := rX2_init r2
  let r7 : HR := up2 r6 48 1 (some 51)
  let r8 : HR := up2 r7 48 2 (some 25)
  r8
noncomputable def fX6_init (I : HI) (L : HL) : Option (HI × HL) :=
  let I3 : HI := zr0 0 I (51)
  let L4 : HL := zr0 0 L (51)
  obn (fX2_init  I3 L4) fun q5 =>
  let I9 : HI := up2 q5.1 48 9 (-1 : Int32)
  some (I9, q5.2)
set_option maxRecDepth 100000 in
set_option maxHeartbeats 4000000 in
theorem tX6_init {g : GG} {d : Nat} {r : HR} (hr0 : r 25 9 = some 44) {I : HI} {L : HL} {res : HI × HL} (hf : fX6_init I L = some res) : CT g mX6_init (d + 2) 1 (2) (51) r I L [.ref 48, .ref 49, .ref 25] (PoV (52) (rX6_init r) res.1 res.2) := by
  simp only [fX6_init] at hf
  refine CT.of rfl (Nat.le_of_ble_eq_true rfl) ?_
  show V g mX6_init (d + 2) 1 (2) (51) r I L 0 [some (.ref 48), some (.ref 49), some (.ref 25)] [] (PoV (52) (rX6_init r) res.1 res.2)
  refine V_aload_n (pc := 0) dX6_init_0 rfl rfl rfl ?_
  refine V_objInit (pc := 1) dX6_init_1 ⟨mlX6_3, wobj.1, wobj.2⟩ (Nat.le_of_ble_eq_true rfl) rfl ?_
  refine V_aload_n (pc := 4) dX6_init_4 rfl rfl rfl ?_
  refine V_aload_n (pc := 5) dX6_init_5 rfl rfl rfl ?_
  let r1 : HR := up2 r 48 0 (some 49)
  refine V_putR (pc := 6) dX6_init_6 flX6_9 (by first | exact Or.inl ⟨_, rfl⟩ | exact Or.inr ⟨_, rfl⟩) (Or.inr ⟨rfl, rfl, rfl⟩) (by omega) (congrArg Prod.fst sh_48) rfl ?_
  refine V_aload_n (pc := 9) dX6_init_9 rfl rfl rfl ?_
  let r2 : HR := zr0 none r1 (51)
  let I3 : HI := zr0 0 I (51)
  let L4 : HL := zr0 0 L (51)
  refine V_new (kc := 0) (ks := 0) (pc := 10) dX6_init_10 nlX6_15 (congrArg Prod.fst sh_51) rfl ?_
  refine V_dup (pc := 13) dX6_init_13 rfl rfl ?_
  refine V_aload_n (pc := 14) dX6_init_14 rfl rfl rfl ?_
  refine V_aload_n (pc := 15) dX6_init_15 rfl rfl rfl ?_
  refine V_getR (pc := 16) dX6_init_16 flX6_17 rfl (by omega) (congrArg Prod.fst sh_25) hr0 rfl ?_
  obtain ⟨q5, hq5, hf⟩ := obd hf
  refine V_callI (md' := mX2_init) (kc' := 0) (ks' := 0) (pc := 19) dX6_init_19 mlX6_23 mIX2_init (tX2_init  hq5) rfl rfl (Nat.le_of_ble_eq_true rfl) rfl (by decide) rfl (fun v n2 r2 I2 L2 hq => ?_)
  obtain ⟨rfl, rfl, rfl, rfl, rfl⟩ := hq
  let r6 : HR := rX2_init r2
  let r7 : HR := up2 r6 48 1 (some 51)
  refine V_putR (pc := 22) dX6_init_22 flX6_26 (by first | exact Or.inl ⟨_, rfl⟩ | exact Or.inr ⟨_, rfl⟩) (Or.inr ⟨rfl, rfl, rfl⟩) (by omega) (congrArg Prod.fst sh_48) rfl ?_
  refine V_aload_n (pc := 25) dX6_init_25 rfl rfl rfl ?_
  refine V_aload_n (pc := 26) dX6_init_26 rfl rfl rfl ?_
  let r8 : HR := up2 r7 48 2 (some 25)
  refine V_putR (pc := 27) dX6_init_27 flX6_30 (by first | exact Or.inl ⟨_, rfl⟩ | exact Or.inr ⟨_, rfl⟩) (Or.inl rfl) (by omega) (congrArg Prod.fst sh_48) rfl ?_
  refine V_aload_n (pc := 30) dX6_init_30 rfl rfl rfl ?_
  refine V_iconst (pc := 31) dX6_init_31 ic_m1 rfl ?_
  let I9 : HI := up2 q5.1 48 9 (-1 : Int32)
  refine V_putI (pc := 32) dX6_init_32 flX6_34 rfl rfl (by omega) (congrArg Prod.fst sh_48) rfl ?_
  cases hf
  exact V_vret (pc := 35) dX6_init_35 rfl PoV_mk
/-! ShadowDoors (made) -/
def rX11_init (r : HR) : HR :=
  let r1 : HR := zr0 none r (1)
  let r4 : HR := up2 r1 0 0 (some 1)
  let r5 : HR := zr0 none r4 (2)
  let r9 : HR := rX5_init 2 r5
  let r10 : HR := up2 r9 0 3 (some 2)
  let r11 : HR := zr0 none r10 (25)
  let r15 : HR := rX5_init 25 r11
  let r16 : HR := up2 r15 0 4 (some 25)
  let r17 : HR := zr0 none r16 (48)
  let r20 : HR := zr0 none r17 (49)
  let r24 : HR := rX9_init r20
  let r26 : HR := rX6_init r24
  let r27 : HR := up2 r26 0 2 (some 48)
  let r28 : HR := zr0 none r27 (52)
  let r32 : HR := rX4_init r28
  let r33 : HR := up2 r32 0 5 (some 52)
  let r35 : HR := zr0 none r33 (54)
  let r39 : HR := rX0_init r35
  let r40 : HR := up2 r39 0 6 (some 54)
  let r43 : HR := zr0 none r40 (56)
  let r46 : HR := up2 r43 0 7 (some 56)
  let r47 : HR := zr0 none r46 (57)
  let r51 : HR := rX7_init r47
  let r52 : HR := up2 r51 0 9 (some 57)
  let r53 : HR := zr0 none r52 (61)
  let r57 : HR := rX10_init r53
  let r58 : HR := up2 r57 0 10 (some 61)
  let r59 : HR := zr0 none r58 (66)
  let r63 : HR := rX3_init r59
  let r64 : HR := up2 r63 0 11 (some 66)
  r64
noncomputable def fX11_init (I : HI) (L : HL) : Option (HI × HL) :=
  let I2 : HI := zr0 0 I (1)
  let L3 : HL := zr0 0 L (1)
  let I6 : HI := zr0 0 I2 (2)
  let L7 : HL := zr0 0 L3 (2)
  Option.bind (fX5_init 2 I6 L7) fun q8 =>
  let I12 : HI := zr0 0 q8.1 (25)
  let L13 : HL := zr0 0 q8.2 (25)
  Option.bind (fX5_init 25 I12 L13) fun q14 =>
  let I18 : HI := zr0 0 q14.1 (48)
  let L19 : HL := zr0 0 q14.2 (48)
  let I21 : HI := zr0 0 I18 (49)
  let L22 : HL := zr0 0 L19 (49)
  Option.bind (fX9_init  I21 L22) fun q23 =>
  Option.bind (fX6_init  q23.1 q23.2) fun q25 =>
  let I29 : HI := zr0 0 q25.1 (52)
  let L30 : HL := zr0 0 q25.2 (52)
  obn (fX4_init  I29 L30) fun q31 =>
  Option.bind (fX4_begin 2 q31.1) fun q34 =>
  let I36 : HI := zr0 0 q34 (54)
  let L37 : HL := zr0 0 q31.2 (54)
  obn (fX0_init  I36 L37) fun q38 =>
  Option.bind (fX4_packed  q38.1) fun q41 =>
  Option.bind (fX0_begin q41 q38.1 q38.2) fun q42 =>
  let I44 : HI := zr0 0 q42.1 (56)
  let L45 : HL := zr0 0 q42.2 (56)
  let I48 : HI := zr0 0 I44 (57)
  let L49 : HL := zr0 0 L45 (57)
  obn (fX7_init  I48 L49) fun q50 =>
  let I54 : HI := zr0 0 q50.1 (61)
  let L55 : HL := zr0 0 q50.2 (61)
  obn (fX10_init  I54 L55) fun q56 =>
  let I60 : HI := zr0 0 q56.1 (66)
  let L61 : HL := zr0 0 q56.2 (66)
  obn (fX3_init  I60 L61) fun q62 =>
  some (q62.1, q62.2)
set_option maxRecDepth 100000 in
set_option maxHeartbeats 4000000 in
theorem tX11_init {g : GG} {d : Nat} {r : HR}  {I : HI} {L : HL} {res : HI × HL} (hf : fX11_init I L = some res) : CT g mX11_init (d + 7) 72 (3506) (1) r I L [.ref 0] (PoV (73) (rX11_init r) res.1 res.2) := by
  simp only [fX11_init] at hf
  refine CT.of rfl (Nat.le_of_ble_eq_true rfl) ?_
  show V g mX11_init (d + 7) 72 (3506) (1) r I L 0 [some (.ref 0)] [] (PoV (73) (rX11_init r) res.1 res.2)
  refine V_aload_n (pc := 0) dX11_init_0 rfl rfl rfl ?_
  refine V_objInit (pc := 1) dX11_init_1 ⟨mlX11_3, wobj.1, wobj.2⟩ (Nat.le_of_ble_eq_true rfl) rfl ?_
  refine V_aload_n (pc := 4) dX11_init_4 rfl rfl rfl ?_
  refine V_sipush (pc := 5) dX11_init_5 sp_1600 rfl ?_
  let r1 : HR := zr0 none r (1)
  let I2 : HI := zr0 0 I (1)
  let L3 : HL := zr0 0 L (1)
  refine V_newa (k := 2) (N := 1600) (kc := 71) (ks := 1906) (pc := 8) dX11_init_8 rfl rfl (fun _ _ h => h) (by decide) wa_byte sh_1 (by decide) (by decide) (by decide) rfl rfl ?_
  let r4 : HR := up2 r1 0 0 (some 1)
  refine V_putR (pc := 10) dX11_init_10 flX11_9 (by first | exact Or.inl ⟨_, rfl⟩ | exact Or.inr ⟨_, rfl⟩) (Or.inr ⟨rfl, rfl, rfl⟩) (by omega) (congrArg Prod.fst sh_0) rfl ?_
  refine V_aload_n (pc := 13) dX11_init_13 rfl rfl rfl ?_
  let r5 : HR := zr0 none r4 (2)
  let I6 : HI := zr0 0 I2 (2)
  let L7 : HL := zr0 0 L3 (2)
  refine V_new (kc := 70) (ks := 1894) (pc := 14) dX11_init_14 nlX11_13 (congrArg Prod.fst sh_2) rfl ?_
  refine V_dup (pc := 17) dX11_init_17 rfl rfl ?_
  obtain ⟨q8, hq8, hf⟩ := bnd hf
  refine V_callI (md' := mX5_init) (kc' := 48) (ks' := 1419) (pc := 18) dX11_init_18 mlX11_15 mIX5_init (tX5_init (show isQ 2 by decide) hq8) rfl rfl (Nat.le_of_ble_eq_true rfl) rfl (by decide) rfl (fun v n2 r2 I2 L2 hq => ?_)
  obtain ⟨rfl, rfl, rfl, rfl, rfl⟩ := hq
  let r9 : HR := rX5_init 2 r5
  let r10 : HR := up2 r9 0 3 (some 2)
  refine V_putR (pc := 21) dX11_init_21 flX11_16 (by first | exact Or.inl ⟨_, rfl⟩ | exact Or.inr ⟨_, rfl⟩) (Or.inl rfl) (by omega) (congrArg Prod.fst sh_0) rfl ?_
  refine V_aload_n (pc := 24) dX11_init_24 rfl rfl rfl ?_
  let r11 : HR := zr0 none r10 (25)
  let I12 : HI := zr0 0 q8.1 (25)
  let L13 : HL := zr0 0 q8.2 (25)
  refine V_new (kc := 47) (ks := 1407) (pc := 25) dX11_init_25 nlX11_13 (congrArg Prod.fst sh_25) rfl ?_
  refine V_dup (pc := 28) dX11_init_28 rfl rfl ?_
  obtain ⟨q14, hq14, hf⟩ := bnd hf
  refine V_callI (md' := mX5_init) (kc' := 25) (ks' := 932) (pc := 29) dX11_init_29 mlX11_15 mIX5_init (tX5_init (show isQ 25 by decide) hq14) rfl rfl (Nat.le_of_ble_eq_true rfl) rfl (by decide) rfl (fun v n2 r2 I2 L2 hq => ?_)
  obtain ⟨rfl, rfl, rfl, rfl, rfl⟩ := hq
  let r15 : HR := rX5_init 25 r11
  let r16 : HR := up2 r15 0 4 (some 25)
  refine V_putR (pc := 32) dX11_init_32 flX11_20 (by first | exact Or.inl ⟨_, rfl⟩ | exact Or.inr ⟨_, rfl⟩) (Or.inl rfl) (by omega) (congrArg Prod.fst sh_0) rfl ?_
  refine V_aload_n (pc := 35) dX11_init_35 rfl rfl rfl ?_
  let r17 : HR := zr0 none r16 (48)
  let I18 : HI := zr0 0 q14.1 (48)
  let L19 : HL := zr0 0 q14.2 (48)
  refine V_new (kc := 24) (ks := 922) (pc := 36) dX11_init_36 nlX11_23 (congrArg Prod.fst sh_48) rfl ?_
  refine V_dup (pc := 39) dX11_init_39 rfl rfl ?_
  let r20 : HR := zr0 none r17 (49)
  let I21 : HI := zr0 0 I18 (49)
  let L22 : HL := zr0 0 L19 (49)
  refine V_new (kc := 23) (ks := 914) (pc := 40) dX11_init_40 nlX11_25 (congrArg Prod.fst sh_49) rfl ?_
  refine V_dup (pc := 43) dX11_init_43 rfl rfl ?_
  refine V_aload_n (pc := 44) dX11_init_44 rfl rfl rfl ?_
  refine V_getR (pc := 45) dX11_init_45 flX11_9 rfl (by omega) (congrArg Prod.fst sh_0) rfl rfl ?_
  obtain ⟨q23, hq23, hf⟩ := bnd hf
  refine V_callI (md' := mX9_init) (kc' := 22) (ks' := 895) (pc := 48) dX11_init_48 mlX11_27 mIX9_init (tX9_init  hq23) rfl rfl (Nat.le_of_ble_eq_true rfl) rfl (by decide) rfl (fun v n2 r2 I2 L2 hq => ?_)
  obtain ⟨rfl, rfl, rfl, rfl, rfl⟩ := hq
  let r24 : HR := rX9_init r20
  refine V_aload_n (pc := 51) dX11_init_51 rfl rfl rfl ?_
  refine V_getR (pc := 52) dX11_init_52 flX11_20 rfl (by omega) (congrArg Prod.fst sh_0) rfl rfl ?_
  obtain ⟨q25, hq25, hf⟩ := bnd hf
  refine V_callI (md' := mX6_init) (kc' := 21) (ks' := 893) (pc := 55) dX11_init_55 mlX11_30 mIX6_init (tX6_init rfl hq25) rfl rfl (Nat.le_of_ble_eq_true rfl) rfl (by decide) rfl (fun v n2 r2 I2 L2 hq => ?_)
  obtain ⟨rfl, rfl, rfl, rfl, rfl⟩ := hq
  let r26 : HR := rX6_init r24
  let r27 : HR := up2 r26 0 2 (some 48)
  refine V_putR (pc := 58) dX11_init_58 flX11_33 (by first | exact Or.inl ⟨_, rfl⟩ | exact Or.inr ⟨_, rfl⟩) (Or.inr ⟨rfl, rfl, rfl⟩) (by omega) (congrArg Prod.fst sh_0) rfl ?_
  refine V_aload_n (pc := 61) dX11_init_61 rfl rfl rfl ?_
  let r28 : HR := zr0 none r27 (52)
  let I29 : HI := zr0 0 q25.1 (52)
  let L30 : HL := zr0 0 q25.2 (52)
  refine V_new (kc := 20) (ks := 887) (pc := 62) dX11_init_62 nlX11_37 (congrArg Prod.fst sh_52) rfl ?_
  refine V_dup (pc := 65) dX11_init_65 rfl rfl ?_
  obtain ⟨q31, hq31, hf⟩ := obd hf
  refine V_callIN (md' := mX4_init) (k := 1) (kc' := 19) (ks' := 883) (pc := 66) dX11_init_66 rfl mIX4_init (tX4_init  hq31) rfl rfl (Nat.le_of_ble_eq_true rfl) rfl (by decide) rfl (fun v n2 r2 I2 L2 hq => ?_)
  obtain ⟨rfl, rfl, rfl, rfl, rfl⟩ := hq
  let r32 : HR := rX4_init r28
  let r33 : HR := up2 r32 0 5 (some 52)
  refine V_putR (pc := 69) dX11_init_69 flX11_40 (by first | exact Or.inl ⟨_, rfl⟩ | exact Or.inr ⟨_, rfl⟩) (Or.inr ⟨rfl, rfl, rfl⟩) (by omega) (congrArg Prod.fst sh_0) rfl ?_
  refine V_aload_n (pc := 72) dX11_init_72 rfl rfl rfl ?_
  refine V_getR (pc := 73) dX11_init_73 flX11_40 rfl (by omega) (congrArg Prod.fst sh_0) rfl rfl ?_
  refine V_aload_n (pc := 76) dX11_init_76 rfl rfl rfl ?_
  refine V_getR (pc := 77) dX11_init_77 flX11_16 rfl (by omega) (congrArg Prod.fst sh_0) rfl rfl ?_
  obtain ⟨q34, hq34, hf⟩ := bnd hf
  refine V_cVv (md' := mX4_begin) (pc := 80) dX11_init_80 mlX11_44 mVX4_begin (tX4_begin rfl (by omega) (show isQ 2 by decide) (by exact ⟨rfl, rfl, rfl, rfl, rfl, ⟨rfl, rfl, rfl, rfl, rfl⟩, ⟨rfl, rfl, rfl, rfl, rfl⟩, ⟨rfl, rfl, rfl, rfl, rfl⟩, ⟨rfl, rfl⟩⟩) (by omega) hq34) rfl (by omega) (congrArg Prod.fst sh_52) rfl (Nat.le_of_ble_eq_true rfl) rfl ?_
  refine V_aload_n (pc := 83) dX11_init_83 rfl rfl rfl ?_
  let r35 : HR := zr0 none r33 (54)
  let I36 : HI := zr0 0 q34 (54)
  let L37 : HL := zr0 0 q31.2 (54)
  refine V_new (kc := 18) (ks := 880) (pc := 84) dX11_init_84 nlX11_48 (congrArg Prod.fst sh_54) rfl ?_
  refine V_dup (pc := 87) dX11_init_87 rfl rfl ?_
  obtain ⟨q38, hq38, hf⟩ := obd hf
  refine V_callIN (md' := mX0_init) (k := 2) (kc' := 17) (ks' := 839) (pc := 88) dX11_init_88 rfl mIX0_init (tX0_init  hq38) rfl rfl (Nat.le_of_ble_eq_true rfl) rfl (by decide) rfl (fun v n2 r2 I2 L2 hq => ?_)
  obtain ⟨rfl, rfl, rfl, rfl, rfl⟩ := hq
  let r39 : HR := rX0_init r35
  let r40 : HR := up2 r39 0 6 (some 54)
  refine V_putR (pc := 91) dX11_init_91 flX11_51 (by first | exact Or.inl ⟨_, rfl⟩ | exact Or.inr ⟨_, rfl⟩) (Or.inr ⟨rfl, rfl, rfl⟩) (by omega) (congrArg Prod.fst sh_0) rfl ?_
  refine V_aload_n (pc := 94) dX11_init_94 rfl rfl rfl ?_
  refine V_getR (pc := 95) dX11_init_95 flX11_51 rfl (by omega) (congrArg Prod.fst sh_0) rfl rfl ?_
  refine V_aload_n (pc := 98) dX11_init_98 rfl rfl rfl ?_
  refine V_getR (pc := 99) dX11_init_99 flX11_40 rfl (by omega) (congrArg Prod.fst sh_0) rfl rfl ?_
  obtain ⟨q41, hq41, hf⟩ := bnd hf
  refine V_cVl (md' := mX4_packed) (pc := 102) dX11_init_102 mlX11_55 mVX4_packed (tX4_packed rfl (by omega) hq41) rfl (by omega) (congrArg Prod.fst sh_52) rfl (Nat.le_of_ble_eq_true rfl) rfl ?_
  obtain ⟨q42, hq42, hf⟩ := bnd hf
  refine V_cVv (md' := mX0_begin) (pc := 105) dX11_init_105 mlX11_59 mVX0_begin (tX0_begin rfl (by omega) hq42) rfl (by omega) (congrArg Prod.fst sh_54) rfl (Nat.le_of_ble_eq_true rfl) rfl ?_
  refine V_aload_n (pc := 108) dX11_init_108 rfl rfl rfl ?_
  refine V_iconst (pc := 109) dX11_init_109 ic_3 rfl ?_
  let r43 : HR := zr0 none r40 (56)
  let I44 : HI := zr0 0 q42.1 (56)
  let L45 : HL := zr0 0 q42.2 (56)
  refine V_newa (k := 1) (N := 3) (kc := 16) (ks := 836) (pc := 110) dX11_init_110 rfl rfl (fun _ _ h => h) (by decide) wa_long sh_56 (by decide) (by decide) (by decide) rfl rfl ?_
  let r46 : HR := up2 r43 0 7 (some 56)
  refine V_putR (pc := 112) dX11_init_112 flX11_62 (by first | exact Or.inl ⟨_, rfl⟩ | exact Or.inr ⟨_, rfl⟩) (Or.inr ⟨rfl, rfl, rfl⟩) (by omega) (congrArg Prod.fst sh_0) rfl ?_
  refine V_aload_n (pc := 115) dX11_init_115 rfl rfl rfl ?_
  let r47 : HR := zr0 none r46 (57)
  let I48 : HI := zr0 0 I44 (57)
  let L49 : HL := zr0 0 L45 (57)
  refine V_new (kc := 15) (ks := 826) (pc := 116) dX11_init_116 nlX11_66 (congrArg Prod.fst sh_57) rfl ?_
  refine V_dup (pc := 119) dX11_init_119 rfl rfl ?_
  refine V_aload_n (pc := 120) dX11_init_120 rfl rfl rfl ?_
  refine V_getR (pc := 121) dX11_init_121 flX11_16 rfl (by omega) (congrArg Prod.fst sh_0) rfl rfl ?_
  obtain ⟨q50, hq50, hf⟩ := obd hf
  refine V_callI (md' := mX7_init) (kc' := 12) (ks' := 375) (pc := 124) dX11_init_124 mlX11_68 mIX7_init (tX7_init  hq50) rfl rfl (Nat.le_of_ble_eq_true rfl) rfl (by decide) rfl (fun v n2 r2 I2 L2 hq => ?_)
  obtain ⟨rfl, rfl, rfl, rfl, rfl⟩ := hq
  let r51 : HR := rX7_init r47
  let r52 : HR := up2 r51 0 9 (some 57)
  refine V_putR (pc := 127) dX11_init_127 flX11_70 (by first | exact Or.inl ⟨_, rfl⟩ | exact Or.inr ⟨_, rfl⟩) (Or.inr ⟨rfl, rfl, rfl⟩) (by omega) (congrArg Prod.fst sh_0) rfl ?_
  refine V_aload_n (pc := 130) dX11_init_130 rfl rfl rfl ?_
  let r53 : HR := zr0 none r52 (61)
  let I54 : HI := zr0 0 q50.1 (61)
  let L55 : HL := zr0 0 q50.2 (61)
  refine V_new (kc := 11) (ks := 365) (pc := 131) dX11_init_131 nlX11_74 (congrArg Prod.fst sh_61) rfl ?_
  refine V_dup (pc := 134) dX11_init_134 rfl rfl ?_
  refine V_aload_n (pc := 135) dX11_init_135 rfl rfl rfl ?_
  refine V_getR (pc := 136) dX11_init_136 flX11_70 rfl (by omega) (congrArg Prod.fst sh_0) rfl rfl ?_
  obtain ⟨q56, hq56, hf⟩ := obd hf
  refine V_callI (md' := mX10_init) (kc' := 7) (ks' := 140) (pc := 139) dX11_init_139 mlX11_76 mIX10_init (tX10_init  hq56) rfl rfl (Nat.le_of_ble_eq_true rfl) rfl (by decide) rfl (fun v n2 r2 I2 L2 hq => ?_)
  obtain ⟨rfl, rfl, rfl, rfl, rfl⟩ := hq
  let r57 : HR := rX10_init r53
  let r58 : HR := up2 r57 0 10 (some 61)
  refine V_putR (pc := 142) dX11_init_142 flX11_79 (by first | exact Or.inl ⟨_, rfl⟩ | exact Or.inr ⟨_, rfl⟩) (Or.inr ⟨rfl, rfl, rfl⟩) (by omega) (congrArg Prod.fst sh_0) rfl ?_
  refine V_aload_n (pc := 145) dX11_init_145 rfl rfl rfl ?_
  let r59 : HR := zr0 none r58 (66)
  let I60 : HI := zr0 0 q56.1 (66)
  let L61 : HL := zr0 0 q56.2 (66)
  refine V_new (kc := 6) (ks := 128) (pc := 146) dX11_init_146 nlX11_83 (congrArg Prod.fst sh_66) rfl ?_
  refine V_dup (pc := 149) dX11_init_149 rfl rfl ?_
  obtain ⟨q62, hq62, hf⟩ := obd hf
  refine V_callIN (md' := mX3_init) (k := 3) (kc' := 0) (ks' := 0) (pc := 150) dX11_init_150 rfl mIX3_init (tX3_init  hq62) rfl rfl (Nat.le_of_ble_eq_true rfl) rfl (by decide) rfl (fun v n2 r2 I2 L2 hq => ?_)
  obtain ⟨rfl, rfl, rfl, rfl, rfl⟩ := hq
  let r63 : HR := rX3_init r59
  let r64 : HR := up2 r63 0 11 (some 66)
  refine V_putR (pc := 153) dX11_init_153 flX11_86 (by first | exact Or.inl ⟨_, rfl⟩ | exact Or.inr ⟨_, rfl⟩) (Or.inr ⟨rfl, rfl, rfl⟩) (by omega) (congrArg Prod.fst sh_0) rfl ?_
  cases hf
  exact V_vret (pc := 156) dX11_init_156 rfl PoV_mk
