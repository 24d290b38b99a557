/-! ShadowDoors$Acts.begin -/
noncomputable def fX0_begin (v1 : Int64) (I : HI) (L : HL) : Option (HI × HL) :=
  if inb (0 : Int32) 41 = true then
    let L2 : HL := up2 L 55 (0 : Int32).toNatClampNeg v1
    let I3 : HI := up2 I 54 1 (0 : Int32)
    let I4 : HI := up2 I3 54 2 (0 : Int32)
    some (I4, L2)
  else none
set_option maxRecDepth 100000 in
set_option maxHeartbeats 4000000 in
theorem tX0_begin {g : GG} {n d : Nat} {r : HR} (hr : rA r) (hn : 56 ≤ n) {v1 : Int64} {I : HI} {L : HL} {res : HI × HL} (hf : fX0_begin v1 I L = some res) : CT g mX0_begin (d + 1) 0 0 n r I L [.ref 54, .long v1] (PoV n r res.1 res.2) := by
  refine CT.of rfl (Nat.le_of_ble_eq_true rfl) ?_
  show V g mX0_begin (d + 1) 0 0 n r I L 0 [some (.ref 54), some (.long v1), none] [] (PoV n r res.1 res.2)
  refine V_aload_n (pc := 0) dX0_begin_0 rfl rfl rfl ?_
  refine V_getR (pc := 1) dX0_begin_1 flX0_9 rfl (by omega) (congrArg Prod.fst sh_54) hr rfl ?_
  refine V_iconst (pc := 4) dX0_begin_4 ic_0 rfl ?_
  refine V_lload_n (pc := 5) dX0_begin_5 rfl rfl rfl ?_
  obtain ⟨hc1, hf⟩ := pif hf
  let L2 : HL := up2 L 55 (0 : Int32).toNatClampNeg v1
  refine V_last (pc := 6) dX0_begin_6 (by omega) sh_55 hc1 rfl ?_
  refine V_aload_n (pc := 7) dX0_begin_7 rfl rfl rfl ?_
  refine V_iconst (pc := 8) dX0_begin_8 ic_0 rfl ?_
  let I3 : HI := up2 I 54 1 (0 : Int32)
  refine V_putI (pc := 9) dX0_begin_9 flX0_15 rfl rfl (by omega) (congrArg Prod.fst sh_54) rfl ?_
  refine V_aload_n (pc := 12) dX0_begin_12 rfl rfl rfl ?_
  refine V_iconst (pc := 13) dX0_begin_13 ic_0 rfl ?_
  let I4 : HI := up2 I3 54 2 (0 : Int32)
  refine V_putI (pc := 14) dX0_begin_14 flX0_19 rfl rfl (by omega) (congrArg Prod.fst sh_54) rfl ?_
  cases hf
  exact V_vret (pc := 17) dX0_begin_17 rfl PoV_mk
/-! ShadowDoors$Acts.add -/
noncomputable def fX0_add (v1 : Int64) (I : HI) (L : HL) : Option (HI × HL) :=
  Option.bind (
    if (I 54 1) < (40 : Int32) then
      some (I, L)
    else
      if cpok (1 : Int32) (0 : Int32) (40 : Int32) 41 41 = true then
        let L6 : HL := cp2 L 55 (1 : Int32).toNatClampNeg 55 (0 : Int32).toNatClampNeg (40 : Int32).toNatClampNeg
        let I7 : HI := up2 I 54 1 (39 : Int32)
        some (I7, L6)
      else none
  ) fun q4 =>
  let I8 : HI := up2 q4.1 54 1 ((q4.1 54 1) + (1 : Int32))
  if inb (I8 54 1) 41 = true then
    let L10 : HL := up2 q4.2 55 (I8 54 1).toNatClampNeg v1
    let I11 : HI := up2 I8 54 2 (I8 54 1)
    some (I11, L10)
  else none
set_option maxRecDepth 100000 in
set_option maxHeartbeats 4000000 in
theorem tX0_add {g : GG} {n d : Nat} {r : HR} (hr : rA r) (hn : 56 ≤ n) {v1 : Int64} {I : HI} {L : HL} {res : HI × HL} (hf : fX0_add v1 I L = some res) : CT g mX0_add (d + 2) 0 0 n r I L [.ref 54, .long v1] (PoV n r res.1 res.2) := by
  refine CT.of rfl (Nat.le_of_ble_eq_true rfl) ?_
  show V g mX0_add (d + 2) 0 0 n r I L 0 [some (.ref 54), some (.long v1), none] [] (PoV n r res.1 res.2)
  refine V_aload_n (pc := 0) dX0_add_0 rfl rfl rfl ?_
  refine V_getI (pc := 1) dX0_add_1 flX0_15 rfl (by omega) (congrArg Prod.fst sh_54) rfl ?_
  refine V_bipush (pc := 4) dX0_add_4 bp_40 rfl ?_
  obtain ⟨q4, hq4, hf⟩ := bnd hf
  have Kq4 : V g mX0_add (d + 2) 0 0 n r q4.1 q4.2 30 [some (.ref 54), some (.long v1)] [] (PoV n r res.1 res.2) := by
    refine V_aload_n (pc := 30) dX0_add_30 rfl rfl rfl ?_
    refine V_dup (pc := 31) dX0_add_31 rfl rfl ?_
    refine V_getI (pc := 32) dX0_add_32 flX0_15 rfl (by omega) (congrArg Prod.fst sh_54) rfl ?_
    refine V_iconst (pc := 35) dX0_add_35 ic_1 rfl ?_
    refine V_iadd (pc := 36) dX0_add_36 rfl ?_
    let I8 : HI := up2 q4.1 54 1 ((q4.1 54 1) + (1 : Int32))
    refine V_putI (pc := 37) dX0_add_37 flX0_15 rfl rfl (by omega) (congrArg Prod.fst sh_54) rfl ?_
    refine V_aload_n (pc := 40) dX0_add_40 rfl rfl rfl ?_
    refine V_getR (pc := 41) dX0_add_41 flX0_9 rfl (by omega) (congrArg Prod.fst sh_54) hr rfl ?_
    refine V_aload_n (pc := 44) dX0_add_44 rfl rfl rfl ?_
    refine V_getI (pc := 45) dX0_add_45 flX0_15 rfl (by omega) (congrArg Prod.fst sh_54) rfl ?_
    refine V_lload_n (pc := 48) dX0_add_48 rfl rfl rfl ?_
    obtain ⟨hc9, hf⟩ := pif hf
    let L10 : HL := up2 q4.2 55 (I8 54 1).toNatClampNeg v1
    refine V_last (pc := 49) dX0_add_49 (by omega) sh_55 hc9 rfl ?_
    refine V_aload_n (pc := 50) dX0_add_50 rfl rfl rfl ?_
    refine V_aload_n (pc := 51) dX0_add_51 rfl rfl rfl ?_
    refine V_getI (pc := 52) dX0_add_52 flX0_15 rfl (by omega) (congrArg Prod.fst sh_54) rfl ?_
    let I11 : HI := up2 I8 54 2 (I8 54 1)
    refine V_putI (pc := 55) dX0_add_55 flX0_19 rfl rfl (by omega) (congrArg Prod.fst sh_54) rfl ?_
    cases hf
    exact V_vret (pc := 58) dX0_add_58 rfl PoV_mk
  refine V_icmp_lt (pc := 6) (tgt := 30) dX0_add_6 (by decide) rfl (fun hc => ?_) (fun hc => ?_)
  · replace hq4 := (if_pos hc).symm.trans hq4
    cases hq4
    exact V_wk Kq4 ⟨rfl, ⟨rfl, trivial⟩⟩
  · replace hq4 := (if_neg hc).symm.trans hq4
    refine V_aload_n (pc := 9) dX0_add_9 rfl rfl rfl ?_
    refine V_getR (pc := 10) dX0_add_10 flX0_9 rfl (by omega) (congrArg Prod.fst sh_54) hr rfl ?_
    refine V_iconst (pc := 13) dX0_add_13 ic_1 rfl ?_
    refine V_aload_n (pc := 14) dX0_add_14 rfl rfl rfl ?_
    refine V_getR (pc := 15) dX0_add_15 flX0_9 rfl (by omega) (congrArg Prod.fst sh_54) hr rfl ?_
    refine V_iconst (pc := 18) dX0_add_18 ic_0 rfl ?_
    refine V_bipush (pc := 19) dX0_add_19 bp_40 rfl ?_
    obtain ⟨hc5, hq4⟩ := pif hq4
    let L6 : HL := cp2 L 55 (1 : Int32).toNatClampNeg 55 (0 : Int32).toNatClampNeg (40 : Int32).toNatClampNeg
    refine V_copyL (pc := 21) dX0_add_21 mlX0_22 (by omega) (by omega) sh_55 sh_55 hc5 (Nat.le_of_ble_eq_true rfl) rfl ?_
    refine V_aload_n (pc := 24) dX0_add_24 rfl rfl rfl ?_
    refine V_bipush (pc := 25) dX0_add_25 bp_39 rfl ?_
    let I7 : HI := up2 I 54 1 (39 : Int32)
    refine V_putI (pc := 27) dX0_add_27 flX0_15 rfl rfl (by omega) (congrArg Prod.fst sh_54) rfl ?_
    cases hq4
    exact V_wk Kq4 ⟨rfl, ⟨rfl, trivial⟩⟩
/-! ShadowDoors$Acts.stepBack -/
noncomputable def fX0_stepBack (I : HI) : Bool × HI :=
  if 0 < (I 54 1) then
    let I1 : HI := up2 I 54 1 ((I 54 1) - (1 : Int32))
    (true, I1)
  else
    (false, I)
set_option maxRecDepth 100000 in
set_option maxHeartbeats 4000000 in
theorem tX0_stepBack {g : GG} {n d : Nat} {r : HR} (hr : rA r) (hn : 56 ≤ n) {I : HI} {L : HL} {res : Bool × HI} (hf : fX0_stepBack I = res) : CT g mX0_stepBack (d + 1) 0 0 n r I L [.ref 54] (PoB n r res.1 res.2 L) := by
  refine CT.of rfl (Nat.le_of_ble_eq_true rfl) ?_
  show V g mX0_stepBack (d + 1) 0 0 n r I L 0 [some (.ref 54)] [] (PoB n r res.1 res.2 L)
  refine V_aload_n (pc := 0) dX0_stepBack_0 rfl rfl rfl ?_
  refine V_getI (pc := 1) dX0_stepBack_1 flX0_15 rfl (by omega) (congrArg Prod.fst sh_54) rfl ?_
  refine V_if_gt (pc := 4) (tgt := 9) dX0_stepBack_4 (by decide) rfl (fun hc => ?_) (fun hc => ?_)
  · replace hf := (if_pos hc).symm.trans hf
    refine V_aload_n (pc := 9) dX0_stepBack_9 rfl rfl rfl ?_
    refine V_dup (pc := 10) dX0_stepBack_10 rfl rfl ?_
    refine V_getI (pc := 11) dX0_stepBack_11 flX0_15 rfl (by omega) (congrArg Prod.fst sh_54) rfl ?_
    refine V_iconst (pc := 14) dX0_stepBack_14 ic_1 rfl ?_
    refine V_isub (pc := 15) dX0_stepBack_15 rfl ?_
    let I1 : HI := up2 I 54 1 ((I 54 1) - (1 : Int32))
    refine V_putI (pc := 16) dX0_stepBack_16 flX0_15 rfl rfl (by omega) (congrArg Prod.fst sh_54) rfl ?_
    refine V_iconst (pc := 19) dX0_stepBack_19 ic_1 rfl ?_
    cases hf
    exact V_zretE (pc := 20) dX0_stepBack_20 rfl (show (1 : Int32) = b2i true from rfl) PoB_mk
  · replace hf := (if_neg hc).symm.trans hf
    refine V_iconst (pc := 7) dX0_stepBack_7 ic_0 rfl ?_
    cases hf
    exact V_zretE (pc := 8) dX0_stepBack_8 rfl (show (0 : Int32) = b2i false from rfl) PoB_mk
/-! ShadowDoors$Acts.stepOn -/
noncomputable def fX0_stepOn (I : HI) : Bool × HI :=
  if (I 54 1) < (I 54 2) then
    let I1 : HI := up2 I 54 1 ((I 54 1) + (1 : Int32))
    (true, I1)
  else
    (false, I)
set_option maxRecDepth 100000 in
set_option maxHeartbeats 4000000 in
theorem tX0_stepOn {g : GG} {n d : Nat} {r : HR} (hr : rA r) (hn : 56 ≤ n) {I : HI} {L : HL} {res : Bool × HI} (hf : fX0_stepOn I = res) : CT g mX0_stepOn (d + 1) 0 0 n r I L [.ref 54] (PoB n r res.1 res.2 L) := by
  refine CT.of rfl (Nat.le_of_ble_eq_true rfl) ?_
  show V g mX0_stepOn (d + 1) 0 0 n r I L 0 [some (.ref 54)] [] (PoB n r res.1 res.2 L)
  refine V_aload_n (pc := 0) dX0_stepOn_0 rfl rfl rfl ?_
  refine V_getI (pc := 1) dX0_stepOn_1 flX0_15 rfl (by omega) (congrArg Prod.fst sh_54) rfl ?_
  refine V_aload_n (pc := 4) dX0_stepOn_4 rfl rfl rfl ?_
  refine V_getI (pc := 5) dX0_stepOn_5 flX0_19 rfl (by omega) (congrArg Prod.fst sh_54) rfl ?_
  refine V_icmp_lt (pc := 8) (tgt := 13) dX0_stepOn_8 (by decide) rfl (fun hc => ?_) (fun hc => ?_)
  · replace hf := (if_pos hc).symm.trans hf
    refine V_aload_n (pc := 13) dX0_stepOn_13 rfl rfl rfl ?_
    refine V_dup (pc := 14) dX0_stepOn_14 rfl rfl ?_
    refine V_getI (pc := 15) dX0_stepOn_15 flX0_15 rfl (by omega) (congrArg Prod.fst sh_54) rfl ?_
    refine V_iconst (pc := 18) dX0_stepOn_18 ic_1 rfl ?_
    refine V_iadd (pc := 19) dX0_stepOn_19 rfl ?_
    let I1 : HI := up2 I 54 1 ((I 54 1) + (1 : Int32))
    refine V_putI (pc := 20) dX0_stepOn_20 flX0_15 rfl rfl (by omega) (congrArg Prod.fst sh_54) rfl ?_
    refine V_iconst (pc := 23) dX0_stepOn_23 ic_1 rfl ?_
    cases hf
    exact V_zretE (pc := 24) dX0_stepOn_24 rfl (show (1 : Int32) = b2i true from rfl) PoB_mk
  · replace hf := (if_neg hc).symm.trans hf
    refine V_iconst (pc := 11) dX0_stepOn_11 ic_0 rfl ?_
    cases hf
    exact V_zretE (pc := 12) dX0_stepOn_12 rfl (show (0 : Int32) = b2i false from rfl) PoB_mk
/-! ShadowDoors$Acts.current -/
noncomputable def fX0_current (I : HI) (L : HL) : Option (Int64) :=
  if inb (I 54 1) 41 = true then
    some (L 55 (I 54 1).toNatClampNeg)
  else none
set_option maxRecDepth 100000 in
set_option maxHeartbeats 4000000 in
theorem tX0_current {g : GG} {n d : Nat} {r : HR} (hr : rA r) (hn : 56 ≤ n) {I : HI} {L : HL} {res : Int64} (hf : fX0_current I L = some res) : CT g mX0_current (d + 1) 0 0 n r I L [.ref 54] (PoL n r res I L) := by
  refine CT.of rfl (Nat.le_of_ble_eq_true rfl) ?_
  show V g mX0_current (d + 1) 0 0 n r I L 0 [some (.ref 54)] [] (PoL n r res I L)
  refine V_aload_n (pc := 0) dX0_current_0 rfl rfl rfl ?_
  refine V_getR (pc := 1) dX0_current_1 flX0_9 rfl (by omega) (congrArg Prod.fst sh_54) hr rfl ?_
  refine V_aload_n (pc := 4) dX0_current_4 rfl rfl rfl ?_
  refine V_getI (pc := 5) dX0_current_5 flX0_15 rfl (by omega) (congrArg Prod.fst sh_54) rfl ?_
  obtain ⟨hc1, hf⟩ := pif hf
  refine V_lald (pc := 8) dX0_current_8 (by omega) sh_55 hc1 rfl ?_
  cases hf
  exact V_lret (pc := 9) dX0_current_9 rfl PoL_mk
/-! ShadowDoors$Formula.clear -/
noncomputable def fX1_clear (uu : Nat) (I : HI) : HI :=
  let I1 : HI := up2 I uu 2 (0 : Int32)
  let I2 : HI := up2 I1 uu 3 (0 : Int32)
  let I3 : HI := up2 I2 uu 4 (b2i false)
  I3
set_option maxRecDepth 100000 in
set_option maxHeartbeats 4000000 in
theorem tX1_clear {g : GG} {n d : Nat} {r : HR} {uu : Nat} (huu : isF uu) (hr : rF r uu) (hn : uu + 3 ≤ n) {I : HI} {L : HL} {res : HI} (hf : fX1_clear uu I = res) : CT g mX1_clear (d + 1) 0 0 n r I L [.ref uu] (PoV n r res L) := by
  refine CT.of rfl (Nat.le_of_ble_eq_true rfl) ?_
  show V g mX1_clear (d + 1) 0 0 n r I L 0 [some (.ref uu)] [] (PoV n r res L)
  refine V_aload_n (pc := 0) dX1_clear_0 rfl rfl rfl ?_
  refine V_iconst (pc := 1) dX1_clear_1 ic_0 rfl ?_
  let I1 : HI := up2 I uu 2 (0 : Int32)
  refine V_putI (pc := 2) dX1_clear_2 flX1_18 rfl rfl (by omega) (congrArg Prod.fst (shF huu)) rfl ?_
  refine V_aload_n (pc := 5) dX1_clear_5 rfl rfl rfl ?_
  refine V_iconst (pc := 6) dX1_clear_6 ic_0 rfl ?_
  let I2 : HI := up2 I1 uu 3 (0 : Int32)
  refine V_putI (pc := 7) dX1_clear_7 flX1_22 rfl rfl (by omega) (congrArg Prod.fst (shF huu)) rfl ?_
  refine V_aload_n (pc := 10) dX1_clear_10 rfl rfl rfl ?_
  refine V_iconst (pc := 11) dX1_clear_11 ic_0 rfl ?_
  let I3 : HI := up2 I2 uu 4 (b2i false)
  refine V_putZE (pc := 12) dX1_clear_12 flX1_25 rfl rfl (by omega) (congrArg Prod.fst (shF huu)) (show (0 : Int32) = b2i false from rfl) rfl ?_
  cases hf
  exact V_vret (pc := 15) dX1_clear_15 rfl PoV_mk
/-! ShadowDoors$Formula.put -/
noncomputable def fX1_put (uu : Nat) (v1 : Int32) (I : HI) : Option (HI) :=
  if (Int32.ofNat 270) ≤ (I uu 2) then
    some I
  else
    if inb (I uu 2) 270 = true then
      let I2 : HI := up2 I (uu + 1) (I uu 2).toNatClampNeg v1
      let I3 : HI := up2 I2 uu 2 ((I2 uu 2) + (1 : Int32))
      some I3
    else none
set_option maxRecDepth 100000 in
set_option maxHeartbeats 4000000 in
theorem tX1_put {g : GG} {n d : Nat} {r : HR} {uu : Nat} (huu : isF uu) (hr : rF r uu) (hn : uu + 3 ≤ n) {v1 : Int32} {I : HI} {L : HL} {res : HI} (hf : fX1_put uu v1 I = some res) : CT g mX1_put (d + 1) 0 0 n r I L [.ref uu, .int v1] (PoV n r res L) := by
  refine CT.of rfl (Nat.le_of_ble_eq_true rfl) ?_
  show V g mX1_put (d + 1) 0 0 n r I L 0 [some (.ref uu), some (.int v1)] [] (PoV n r res L)
  refine V_aload_n (pc := 0) dX1_put_0 rfl rfl rfl ?_
  refine V_getI (pc := 1) dX1_put_1 flX1_18 rfl (by omega) (congrArg Prod.fst (shF huu)) rfl ?_
  refine V_aload_n (pc := 4) dX1_put_4 rfl rfl rfl ?_
  refine V_getR (pc := 5) dX1_put_5 flX1_9 rfl (by omega) (congrArg Prod.fst (shF huu)) (rF_0 hr) rfl ?_
  refine V_alen (pc := 8) dX1_put_8 (by omega) (shF1 huu) (by decide) rfl ?_
  refine V_icmp_ge (pc := 9) (tgt := 32) dX1_put_9 (by decide) rfl (fun hc => ?_) (fun hc => ?_)
  · replace hf := (if_pos hc).symm.trans hf
    cases hf
    exact V_vret (pc := 32) dX1_put_32 rfl PoV_mk
  · replace hf := (if_neg hc).symm.trans hf
    refine V_aload_n (pc := 12) dX1_put_12 rfl rfl rfl ?_
    refine V_getR (pc := 13) dX1_put_13 flX1_9 rfl (by omega) (congrArg Prod.fst (shF huu)) (rF_0 hr) rfl ?_
    refine V_aload_n (pc := 16) dX1_put_16 rfl rfl rfl ?_
    refine V_getI (pc := 17) dX1_put_17 flX1_18 rfl (by omega) (congrArg Prod.fst (shF huu)) rfl ?_
    refine V_iload_n (pc := 20) dX1_put_20 rfl rfl rfl ?_
    obtain ⟨hc1, hf⟩ := pif hf
    let I2 : HI := up2 I (uu + 1) (I uu 2).toNatClampNeg v1
    refine V_iast (pc := 21) dX1_put_21 (by omega) (shF1 huu) hc1 rfl ?_
    refine V_aload_n (pc := 22) dX1_put_22 rfl rfl rfl ?_
    refine V_dup (pc := 23) dX1_put_23 rfl rfl ?_
    refine V_getI (pc := 24) dX1_put_24 flX1_18 rfl (by omega) (congrArg Prod.fst (shF huu)) rfl ?_
    refine V_iconst (pc := 27) dX1_put_27 ic_1 rfl ?_
    refine V_iadd (pc := 28) dX1_put_28 rfl ?_
    let I3 : HI := up2 I2 uu 2 ((I2 uu 2) + (1 : Int32))
    refine V_putI (pc := 29) dX1_put_29 flX1_18 rfl rfl (by omega) (congrArg Prod.fst (shF huu)) rfl ?_
    cases hf
    exact V_vret (pc := 32) dX1_put_32 rfl PoV_mk
/-! ShadowDoors$Formula.addNumber -/
noncomputable def fX1_addNumber (uu : Nat) (v1 : Int32) (I : HI) : Option (HI) :=
  Option.bind (fX1_put uu v1 I) fun q1 =>
  let I2 : HI := up2 q1 uu 3 ((q1 uu 3) + (1 : Int32))
  some I2
set_option maxRecDepth 100000 in
set_option maxHeartbeats 4000000 in
theorem tX1_addNumber {g : GG} {n d : Nat} {r : HR} {uu : Nat} (huu : isF uu) (hr : rF r uu) (hn : uu + 3 ≤ n) {v1 : Int32} {I : HI} {L : HL} {res : HI} (hf : fX1_addNumber uu v1 I = some res) : CT g mX1_addNumber (d + 2) 0 0 n r I L [.ref uu, .int v1] (PoV n r res L) := by
  refine CT.of rfl (Nat.le_of_ble_eq_true rfl) ?_
  show V g mX1_addNumber (d + 2) 0 0 n r I L 0 [some (.ref uu), some (.int v1)] [] (PoV n r res L)
  refine V_aload_n (pc := 0) dX1_addNumber_0 rfl rfl rfl ?_
  refine V_iload_n (pc := 1) dX1_addNumber_1 rfl rfl rfl ?_
  obtain ⟨q1, hq1, hf⟩ := bnd hf
  refine V_cVv (md' := mX1_put) (pc := 2) dX1_addNumber_2 mlX1_29 mVX1_put (tX1_put huu hr (by omega) hq1) rfl (by omega) (congrArg Prod.fst (shF huu)) rfl (Nat.le_of_ble_eq_true rfl) rfl ?_
  refine V_aload_n (pc := 5) dX1_addNumber_5 rfl rfl rfl ?_
  refine V_dup (pc := 6) dX1_addNumber_6 rfl rfl ?_
  refine V_getI (pc := 7) dX1_addNumber_7 flX1_22 rfl (by omega) (congrArg Prod.fst (shF huu)) rfl ?_
  refine V_iconst (pc := 10) dX1_addNumber_10 ic_1 rfl ?_
  refine V_iadd (pc := 11) dX1_addNumber_11 rfl ?_
  let I2 : HI := up2 q1 uu 3 ((q1 uu 3) + (1 : Int32))
  refine V_putI (pc := 12) dX1_addNumber_12 flX1_22 rfl rfl (by omega) (congrArg Prod.fst (shF huu)) rfl ?_
  cases hf
  exact V_vret (pc := 15) dX1_addNumber_15 rfl PoV_mk
/-! ShadowDoors$Formula.addUnit -/
noncomputable def fX1_addUnit (uu : Nat) (v1 : Int32) (I : HI) : Option (HI) :=
  Option.bind (fX1_put uu ((-100 : Int32) - v1) I) fun q1 =>
  let I2 : HI := up2 q1 uu 3 ((q1 uu 3) + (1 : Int32))
  if v1 = (18 : Int32) then
    Option.bind (i2b ((I2 uu 4) ||| (1 : Int32))) fun b6 =>
    let I5 : HI := up2 I2 uu 4 (b2i b6)
    some I5
  else
    Option.bind (i2b ((I2 uu 4) ||| (0 : Int32))) fun b4 =>
    let I3 : HI := up2 I2 uu 4 (b2i b4)
    some I3
set_option maxRecDepth 100000 in
set_option maxHeartbeats 4000000 in
theorem tX1_addUnit {g : GG} {n d : Nat} {r : HR} {uu : Nat} (huu : isF uu) (hr : rF r uu) (hn : uu + 3 ≤ n) {v1 : Int32} {I : HI} {L : HL} {res : HI} (hf : fX1_addUnit uu v1 I = some res) : CT g mX1_addUnit (d + 2) 0 0 n r I L [.ref uu, .int v1] (PoV n r res L) := by
  refine CT.of rfl (Nat.le_of_ble_eq_true rfl) ?_
  show V g mX1_addUnit (d + 2) 0 0 n r I L 0 [some (.ref uu), some (.int v1)] [] (PoV n r res L)
  refine V_aload_n (pc := 0) dX1_addUnit_0 rfl rfl rfl ?_
  refine V_bipush (pc := 1) dX1_addUnit_1 bp_m100 rfl ?_
  refine V_iload_n (pc := 3) dX1_addUnit_3 rfl rfl rfl ?_
  refine V_isub (pc := 4) dX1_addUnit_4 rfl ?_
  obtain ⟨q1, hq1, hf⟩ := bnd hf
  refine V_cVv (md' := mX1_put) (pc := 5) dX1_addUnit_5 mlX1_29 mVX1_put (tX1_put huu hr (by omega) hq1) rfl (by omega) (congrArg Prod.fst (shF huu)) rfl (Nat.le_of_ble_eq_true rfl) rfl ?_
  refine V_aload_n (pc := 8) dX1_addUnit_8 rfl rfl rfl ?_
  refine V_dup (pc := 9) dX1_addUnit_9 rfl rfl ?_
  refine V_getI (pc := 10) dX1_addUnit_10 flX1_22 rfl (by omega) (congrArg Prod.fst (shF huu)) rfl ?_
  refine V_iconst (pc := 13) dX1_addUnit_13 ic_1 rfl ?_
  refine V_iadd (pc := 14) dX1_addUnit_14 rfl ?_
  let I2 : HI := up2 q1 uu 3 ((q1 uu 3) + (1 : Int32))
  refine V_putI (pc := 15) dX1_addUnit_15 flX1_22 rfl rfl (by omega) (congrArg Prod.fst (shF huu)) rfl ?_
  refine V_aload_n (pc := 18) dX1_addUnit_18 rfl rfl rfl ?_
  refine V_dup (pc := 19) dX1_addUnit_19 rfl rfl ?_
  refine V_getI (pc := 20) dX1_addUnit_20 flX1_25 rfl (by omega) (congrArg Prod.fst (shF huu)) rfl ?_
  refine V_iload_n (pc := 23) dX1_addUnit_23 rfl rfl rfl ?_
  refine V_bipush (pc := 24) dX1_addUnit_24 bp_18 rfl ?_
  refine V_icmp_ne (pc := 26) (tgt := 33) dX1_addUnit_26 (by decide) rfl (fun hc => ?_) (fun hc => ?_)
  · replace hf := (if_neg hc).symm.trans hf
    refine V_iconst (pc := 33) dX1_addUnit_33 ic_0 rfl ?_
    refine V_ior (pc := 34) dX1_addUnit_34 rfl ?_
    obtain ⟨b4, hb4, hf⟩ := bnd hf
    let I3 : HI := up2 I2 uu 4 (b2i b4)
    refine V_putZE (pc := 35) dX1_addUnit_35 flX1_25 rfl rfl (by omega) (congrArg Prod.fst (shF huu)) (i2b_eq hb4) rfl ?_
    cases hf
    exact V_vret (pc := 38) dX1_addUnit_38 rfl PoV_mk
  · replace hf := (if_pos hc).symm.trans hf
    refine V_iconst (pc := 29) dX1_addUnit_29 ic_1 rfl ?_
    refine V_goto (pc := 30) (tgt := 34) dX1_addUnit_30 (by decide) ?_
    refine V_ior (pc := 34) dX1_addUnit_34 rfl ?_
    obtain ⟨b6, hb6, hf⟩ := bnd hf
    let I5 : HI := up2 I2 uu 4 (b2i b6)
    refine V_putZE (pc := 35) dX1_addUnit_35 flX1_25 rfl rfl (by omega) (congrArg Prod.fst (shF huu)) (i2b_eq hb6) rfl ?_
    cases hf
    exact V_vret (pc := 38) dX1_addUnit_38 rfl PoV_mk
/-! ShadowDoors$Formula.addDeed -/
noncomputable def fX1_addDeed (uu : Nat) (v1 : Int32) (I : HI) : Option (HI) :=
  Option.bind (fX1_put uu ((-100 : Int32) - v1) I) fun q1 =>
  some q1
set_option maxRecDepth 100000 in
set_option maxHeartbeats 4000000 in
theorem tX1_addDeed {g : GG} {n d : Nat} {r : HR} {uu : Nat} (huu : isF uu) (hr : rF r uu) (hn : uu + 3 ≤ n) {v1 : Int32} {I : HI} {L : HL} {res : HI} (hf : fX1_addDeed uu v1 I = some res) : CT g mX1_addDeed (d + 2) 0 0 n r I L [.ref uu, .int v1] (PoV n r res L) := by
  refine CT.of rfl (Nat.le_of_ble_eq_true rfl) ?_
  show V g mX1_addDeed (d + 2) 0 0 n r I L 0 [some (.ref uu), some (.int v1)] [] (PoV n r res L)
  refine V_aload_n (pc := 0) dX1_addDeed_0 rfl rfl rfl ?_
  refine V_bipush (pc := 1) dX1_addDeed_1 bp_m100 rfl ?_
  refine V_iload_n (pc := 3) dX1_addDeed_3 rfl rfl rfl ?_
  refine V_isub (pc := 4) dX1_addDeed_4 rfl ?_
  obtain ⟨q1, hq1, hf⟩ := bnd hf
  refine V_cVv (md' := mX1_put) (pc := 5) dX1_addDeed_5 mlX1_29 mVX1_put (tX1_put huu hr (by omega) hq1) rfl (by omega) (congrArg Prod.fst (shF huu)) rfl (Nat.le_of_ble_eq_true rfl) rfl ?_
  cases hf
  exact V_vret (pc := 8) dX1_addDeed_8 rfl PoV_mk
/-! ShadowDoors$Formula.outcome -/
noncomputable def fX1_outcome (v1 : Int32) (v2 : Int32) (v3 : Int32) : Option (Int32) :=
  if v1 = (14 : Int32) then
    Option.bind (
      if v2 = 0 then
        some true
      else
        if v3 = 0 then
          some true
        else
          some false
    ) fun b2 =>
    if b2 = true then
      some (0 : Int32)
    else
      some (1 : Int32)
  else
    if v1 = (37 : Int32) then
      if v3 = 0 then
        some (0 : Int32)
      else
        if v3 = 0 then none else
        some (v2 - v2 / v3 * v3)
    else
      if v1 = (42 : Int32) then
        some (v2 * v3)
      else
        if v1 = (43 : Int32) then
          some (v2 + v3)
        else
          if v1 = (45 : Int32) then
            some (v2 - v3)
          else
            if v1 = (47 : Int32) then
              if v3 = 0 then
                some (0 : Int32)
              else
                if v3 = 0 then none else
                some (v2 / v3)
            else
              if v1 = (60 : Int32) then
                if v3 ≤ v2 then
                  some (0 : Int32)
                else
                  some (1 : Int32)
              else
                if v1 = (61 : Int32) then
                  if v2 = v3 then
                    some (1 : Int32)
                  else
                    some (0 : Int32)
                else
                  if v1 = (62 : Int32) then
                    if v2 ≤ v3 then
                      some (0 : Int32)
                    else
                      some (1 : Int32)
                  else
                    Option.bind (
                      if v2 = 0 then
                        if v3 = 0 then
                          some false
                        else
                          some true
                      else
                        some true
                    ) fun b13 =>
                    if b13 = true then
                      some (1 : Int32)
                    else
                      some (0 : Int32)
set_option maxRecDepth 100000 in
set_option maxHeartbeats 4000000 in
theorem tX1_outcome {g : GG} {n d : Nat} {r : HR}  {v1 : Int32} {v2 : Int32} {v3 : Int32} {I : HI} {L : HL} {res : Int32} (hf : fX1_outcome v1 v2 v3 = some res) : CT g mX1_outcome (d + 1) 0 0 n r I L [.int v1, .int v2, .int v3] (PoI n r res I L) := by
  refine CT.of rfl (Nat.le_of_ble_eq_true rfl) ?_
  show V g mX1_outcome (d + 1) 0 0 n r I L 0 [some (.int v1), some (.int v2), some (.int v3)] [] (PoI n r res I L)
  refine V_iload_n (pc := 0) dX1_outcome_0 rfl rfl rfl ?_
  by_cases hc1 : v1 = (14 : Int32)
  · replace hf := (if_pos hc1).symm.trans hf
    refine V_lsw (off := 152) (pc := 1) (tgt := 153) dX1_outcome_1 (by decide) (by rw [hc1]; first | done | rfl) (by decide) ?_
    refine V_iload_n (pc := 153) dX1_outcome_153 rfl rfl rfl ?_
    obtain ⟨b2, hb2, hf⟩ := bnd hf
    have KTb2 : b2 = true → V g mX1_outcome (d + 1) 0 0 n r I L 165 [some (.int v1), some (.int v2), some (.int v3)] [] (PoI n r res I L) := fun hc => by
      replace hf := (if_pos hc).symm.trans hf
      refine V_iconst (pc := 165) dX1_outcome_165 ic_0 rfl ?_
      cases hf
      exact V_iret (pc := 166) dX1_outcome_166 rfl PoI_mk
    have KFb2 : ¬ b2 = true → V g mX1_outcome (d + 1) 0 0 n r I L 161 [some (.int v1), some (.int v2), some (.int v3)] [] (PoI n r res I L) := fun hc => by
      replace hf := (if_neg hc).symm.trans hf
      refine V_iconst (pc := 161) dX1_outcome_161 ic_1 rfl ?_
      refine V_goto (pc := 162) (tgt := 166) dX1_outcome_162 (by decide) ?_
      cases hf
      exact V_iret (pc := 166) dX1_outcome_166 rfl PoI_mk
    refine V_if_eq (pc := 154) (tgt := 165) dX1_outcome_154 (by decide) rfl (fun hc => ?_) (fun hc => ?_)
    · replace hb2 := (if_pos hc).symm.trans hb2
      cases hb2
      exact KTb2 rfl
    · replace hb2 := (if_neg hc).symm.trans hb2
      refine V_iload_n (pc := 157) dX1_outcome_157 rfl rfl rfl ?_
      refine V_if_eq (pc := 158) (tgt := 165) dX1_outcome_158 (by decide) rfl (fun hc => ?_) (fun hc => ?_)
      · replace hb2 := (if_pos hc).symm.trans hb2
        cases hb2
        exact KTb2 rfl
      · replace hb2 := (if_neg hc).symm.trans hb2
        cases hb2
        exact KFb2 (nbt rfl)
  · replace hf := (if_neg hc1).symm.trans hf
    by_cases hc3 : v1 = (37 : Int32)
    · replace hf := (if_pos hc3).symm.trans hf
      refine V_lsw (off := 107) (pc := 1) (tgt := 108) dX1_outcome_1 (by decide) (by rw [hc3]; first | done | rfl) (by decide) ?_
      refine V_iload_n (pc := 108) dX1_outcome_108 rfl rfl rfl ?_
      refine V_if_ne (pc := 109) (tgt := 116) dX1_outcome_109 (by decide) rfl (fun hc => ?_) (fun hc => ?_)
      · replace hf := (if_neg hc).symm.trans hf
        refine V_iload_n (pc := 116) dX1_outcome_116 rfl rfl rfl ?_
        refine V_iload_n (pc := 117) dX1_outcome_117 rfl rfl rfl ?_
        obtain ⟨hc4, hf⟩ := nif hf
        refine V_irem (pc := 118) dX1_outcome_118 hc4 rfl ?_
        cases hf
        exact V_iret (pc := 119) dX1_outcome_119 rfl PoI_mk
      · replace hf := (if_pos hc).symm.trans hf
        refine V_iconst (pc := 112) dX1_outcome_112 ic_0 rfl ?_
        refine V_goto (pc := 113) (tgt := 119) dX1_outcome_113 (by decide) ?_
        cases hf
        exact V_iret (pc := 119) dX1_outcome_119 rfl PoI_mk
    · replace hf := (if_neg hc3).symm.trans hf
      by_cases hc5 : v1 = (42 : Int32)
      · replace hf := (if_pos hc5).symm.trans hf
        refine V_lsw (off := 91) (pc := 1) (tgt := 92) dX1_outcome_1 (by decide) (by rw [hc5]; first | done | rfl) (by decide) ?_
        refine V_iload_n (pc := 92) dX1_outcome_92 rfl rfl rfl ?_
        refine V_iload_n (pc := 93) dX1_outcome_93 rfl rfl rfl ?_
        refine V_imul (pc := 94) dX1_outcome_94 rfl ?_
        cases hf
        exact V_iret (pc := 95) dX1_outcome_95 rfl PoI_mk
      · replace hf := (if_neg hc5).symm.trans hf
        by_cases hc6 : v1 = (43 : Int32)
        · replace hf := (if_pos hc6).symm.trans hf
          refine V_lsw (off := 83) (pc := 1) (tgt := 84) dX1_outcome_1 (by decide) (by rw [hc6]; first | done | rfl) (by decide) ?_
          refine V_iload_n (pc := 84) dX1_outcome_84 rfl rfl rfl ?_
          refine V_iload_n (pc := 85) dX1_outcome_85 rfl rfl rfl ?_
          refine V_iadd (pc := 86) dX1_outcome_86 rfl ?_
          cases hf
          exact V_iret (pc := 87) dX1_outcome_87 rfl PoI_mk
        · replace hf := (if_neg hc6).symm.trans hf
          by_cases hc7 : v1 = (45 : Int32)
          · replace hf := (if_pos hc7).symm.trans hf
            refine V_lsw (off := 87) (pc := 1) (tgt := 88) dX1_outcome_1 (by decide) (by rw [hc7]; first | done | rfl) (by decide) ?_
            refine V_iload_n (pc := 88) dX1_outcome_88 rfl rfl rfl ?_
            refine V_iload_n (pc := 89) dX1_outcome_89 rfl rfl rfl ?_
            refine V_isub (pc := 90) dX1_outcome_90 rfl ?_
            cases hf
            exact V_iret (pc := 91) dX1_outcome_91 rfl PoI_mk
          · replace hf := (if_neg hc7).symm.trans hf
            by_cases hc8 : v1 = (47 : Int32)
            · replace hf := (if_pos hc8).symm.trans hf
              refine V_lsw (off := 95) (pc := 1) (tgt := 96) dX1_outcome_1 (by decide) (by rw [hc8]; first | done | rfl) (by decide) ?_
              refine V_iload_n (pc := 96) dX1_outcome_96 rfl rfl rfl ?_
              refine V_if_ne (pc := 97) (tgt := 104) dX1_outcome_97 (by decide) rfl (fun hc => ?_) (fun hc => ?_)
              · replace hf := (if_neg hc).symm.trans hf
                refine V_iload_n (pc := 104) dX1_outcome_104 rfl rfl rfl ?_
                refine V_iload_n (pc := 105) dX1_outcome_105 rfl rfl rfl ?_
                obtain ⟨hc9, hf⟩ := nif hf
                refine V_idiv (pc := 106) dX1_outcome_106 hc9 rfl ?_
                cases hf
                exact V_iret (pc := 107) dX1_outcome_107 rfl PoI_mk
              · replace hf := (if_pos hc).symm.trans hf
                refine V_iconst (pc := 100) dX1_outcome_100 ic_0 rfl ?_
                refine V_goto (pc := 101) (tgt := 107) dX1_outcome_101 (by decide) ?_
                cases hf
                exact V_iret (pc := 107) dX1_outcome_107 rfl PoI_mk
            · replace hf := (if_neg hc8).symm.trans hf
              by_cases hc10 : v1 = (60 : Int32)
              · replace hf := (if_pos hc10).symm.trans hf
                refine V_lsw (off := 119) (pc := 1) (tgt := 120) dX1_outcome_1 (by decide) (by rw [hc10]; first | done | rfl) (by decide) ?_
                refine V_iload_n (pc := 120) dX1_outcome_120 rfl rfl rfl ?_
                refine V_iload_n (pc := 121) dX1_outcome_121 rfl rfl rfl ?_
                refine V_icmp_ge (pc := 122) (tgt := 129) dX1_outcome_122 (by decide) rfl (fun hc => ?_) (fun hc => ?_)
                · replace hf := (if_pos hc).symm.trans hf
                  refine V_iconst (pc := 129) dX1_outcome_129 ic_0 rfl ?_
                  cases hf
                  exact V_iret (pc := 130) dX1_outcome_130 rfl PoI_mk
                · replace hf := (if_neg hc).symm.trans hf
                  refine V_iconst (pc := 125) dX1_outcome_125 ic_1 rfl ?_
                  refine V_goto (pc := 126) (tgt := 130) dX1_outcome_126 (by decide) ?_
                  cases hf
                  exact V_iret (pc := 130) dX1_outcome_130 rfl PoI_mk
              · replace hf := (if_neg hc10).symm.trans hf
                by_cases hc11 : v1 = (61 : Int32)
                · replace hf := (if_pos hc11).symm.trans hf
                  refine V_lsw (off := 141) (pc := 1) (tgt := 142) dX1_outcome_1 (by decide) (by rw [hc11]; first | done | rfl) (by decide) ?_
                  refine V_iload_n (pc := 142) dX1_outcome_142 rfl rfl rfl ?_
                  refine V_iload_n (pc := 143) dX1_outcome_143 rfl rfl rfl ?_
                  refine V_icmp_ne (pc := 144) (tgt := 151) dX1_outcome_144 (by decide) rfl (fun hc => ?_) (fun hc => ?_)
                  · replace hf := (if_neg hc).symm.trans hf
                    refine V_iconst (pc := 151) dX1_outcome_151 ic_0 rfl ?_
                    cases hf
                    exact V_iret (pc := 152) dX1_outcome_152 rfl PoI_mk
                  · replace hf := (if_pos hc).symm.trans hf
                    refine V_iconst (pc := 147) dX1_outcome_147 ic_1 rfl ?_
                    refine V_goto (pc := 148) (tgt := 152) dX1_outcome_148 (by decide) ?_
                    cases hf
                    exact V_iret (pc := 152) dX1_outcome_152 rfl PoI_mk
                · replace hf := (if_neg hc11).symm.trans hf
                  by_cases hc12 : v1 = (62 : Int32)
                  · replace hf := (if_pos hc12).symm.trans hf
                    refine V_lsw (off := 130) (pc := 1) (tgt := 131) dX1_outcome_1 (by decide) (by rw [hc12]; first | done | rfl) (by decide) ?_
                    refine V_iload_n (pc := 131) dX1_outcome_131 rfl rfl rfl ?_
                    refine V_iload_n (pc := 132) dX1_outcome_132 rfl rfl rfl ?_
                    refine V_icmp_le (pc := 133) (tgt := 140) dX1_outcome_133 (by decide) rfl (fun hc => ?_) (fun hc => ?_)
                    · replace hf := (if_pos hc).symm.trans hf
                      refine V_iconst (pc := 140) dX1_outcome_140 ic_0 rfl ?_
                      cases hf
                      exact V_iret (pc := 141) dX1_outcome_141 rfl PoI_mk
                    · replace hf := (if_neg hc).symm.trans hf
                      refine V_iconst (pc := 136) dX1_outcome_136 ic_1 rfl ?_
                      refine V_goto (pc := 137) (tgt := 141) dX1_outcome_137 (by decide) ?_
                      cases hf
                      exact V_iret (pc := 141) dX1_outcome_141 rfl PoI_mk
                  · replace hf := (if_neg hc12).symm.trans hf
                    have KD14 : V g mX1_outcome (d + 1) 0 0 n r I L 167 [some (.int v1), some (.int v2), some (.int v3)] [] (PoI n r res I L) := by
                      refine V_iload_n (pc := 167) dX1_outcome_167 rfl rfl rfl ?_
                      obtain ⟨b13, hb13, hf⟩ := bnd hf
                      have KTb13 : b13 = true → V g mX1_outcome (d + 1) 0 0 n r I L 175 [some (.int v1), some (.int v2), some (.int v3)] [] (PoI n r res I L) := fun hc => by
                        replace hf := (if_pos hc).symm.trans hf
                        refine V_iconst (pc := 175) dX1_outcome_175 ic_1 rfl ?_
                        refine V_goto (pc := 176) (tgt := 180) dX1_outcome_176 (by decide) ?_
                        cases hf
                        exact V_iret (pc := 180) dX1_outcome_180 rfl PoI_mk
                      have KFb13 : ¬ b13 = true → V g mX1_outcome (d + 1) 0 0 n r I L 179 [some (.int v1), some (.int v2), some (.int v3)] [] (PoI n r res I L) := fun hc => by
                        replace hf := (if_neg hc).symm.trans hf
                        refine V_iconst (pc := 179) dX1_outcome_179 ic_0 rfl ?_
                        cases hf
                        exact V_iret (pc := 180) dX1_outcome_180 rfl PoI_mk
                      refine V_if_ne (pc := 168) (tgt := 175) dX1_outcome_168 (by decide) rfl (fun hc => ?_) (fun hc => ?_)
                      · replace hb13 := (if_neg hc).symm.trans hb13
                        cases hb13
                        exact KTb13 rfl
                      · replace hb13 := (if_pos hc).symm.trans hb13
                        refine V_iload_n (pc := 171) dX1_outcome_171 rfl rfl rfl ?_
                        refine V_if_eq (pc := 172) (tgt := 179) dX1_outcome_172 (by decide) rfl (fun hc => ?_) (fun hc => ?_)
                        · replace hb13 := (if_pos hc).symm.trans hb13
                          cases hb13
                          exact KFb13 (nbt rfl)
                        · replace hb13 := (if_neg hc).symm.trans hb13
                          cases hb13
                          exact KTb13 rfl
                    refine V_lsw (off := 166) (pc := 1) (tgt := 167) dX1_outcome_1 (by decide) (by have e0 := swn (k := (14 : Int32)) (z := 14) hc1 rfl; have e1 := swn (k := (37 : Int32)) (z := 37) hc3 rfl; have e2 := swn (k := (42 : Int32)) (z := 42) hc5 rfl; have e3 := swn (k := (43 : Int32)) (z := 43) hc6 rfl; have e4 := swn (k := (45 : Int32)) (z := 45) hc7 rfl; have e5 := swn (k := (47 : Int32)) (z := 47) hc8 rfl; have e6 := swn (k := (60 : Int32)) (z := 60) hc10 rfl; have e7 := swn (k := (61 : Int32)) (z := 61) hc11 rfl; have e8 := swn (k := (62 : Int32)) (z := 62) hc12 rfl; simp only [Op.lookupswitch.offset_cons, Op.lookupswitch.offset_nil]; rw [if_neg (fun z => e0 z.symm)]; rw [if_neg (fun z => e1 z.symm)]; rw [if_neg (fun z => e2 z.symm)]; rw [if_neg (fun z => e3 z.symm)]; rw [if_neg (fun z => e4 z.symm)]; rw [if_neg (fun z => e5 z.symm)]; rw [if_neg (fun z => e6 z.symm)]; rw [if_neg (fun z => e7 z.symm)]; rw [if_neg (fun z => e8 z.symm)]) (by decide) KD14
/-! ShadowDoors$Formula.valueFor -/
noncomputable def fX1_valueFor_6 (uu : Nat) : Nat → Int32 → Int32 → Int32 → Int32 → Int32 → HI → Option (Int32 × HI)
  | 0, _, _, _, _, _, _ => none
  | fu + 1, y1, y2, y3, y4, y5, I =>
    if (I uu 2) ≤ y5 then
      some (y4, I)
    else
      if inb y5 270 = true then
        let x2 : Int32 := ((-100 : Int32) - (I (uu + 1) y5.toNatClampNeg))
        if x2 = (15 : Int32) then
          if y4 ≤ 0 then
            fX1_valueFor_6 uu fu y1 y2 y3 y4 (y5 + (1 : Int32)) I
          else
            if inb (y4 - (1 : Int32)) 30 = true then
              if (I (uu + 2) (y4 - (1 : Int32)).toNatClampNeg) = 0 then
                if inb (y4 - (1 : Int32)) 30 = true then
                  let I24 : HI := up2 I (uu + 2) (y4 - (1 : Int32)).toNatClampNeg (1 : Int32)
                  fX1_valueFor_6 uu fu y1 y2 y3 y4 (y5 + (1 : Int32)) I24
                else none
              else
                if inb (y4 - (1 : Int32)) 30 = true then
                  let I22 : HI := up2 I (uu + 2) (y4 - (1 : Int32)).toNatClampNeg (0 : Int32)
                  fX1_valueFor_6 uu fu y1 y2 y3 y4 (y5 + (1 : Int32)) I22
                else none
            else none
        else
          if inb y5 270 = true then
            Option.bind (
              if 0 ≤ (I (uu + 1) y5.toNatClampNeg) then
                some true
              else
                if x2 < (16 : Int32) then
                  some false
                else
                  if (18 : Int32) < x2 then
                    some false
                  else
                    some true
            ) fun b4 =>
            if b4 = true then
              if (Int32.ofNat 30) ≤ y4 then
                fX1_valueFor_6 uu fu y1 y2 y3 y4 (y5 + (1 : Int32)) I
              else
                if inb y5 270 = true then
                  if (I (uu + 1) y5.toNatClampNeg) < 0 then
                    if x2 = (16 : Int32) then
                      if inb y4 30 = true then
                        let I11 : HI := up2 I (uu + 2) y4.toNatClampNeg y1
                        fX1_valueFor_6 uu fu y1 y2 y3 (y4 + (1 : Int32)) (y5 + (1 : Int32)) I11
                      else none
                    else
                      if x2 = (17 : Int32) then
                        if inb y4 30 = true then
                          let I9 : HI := up2 I (uu + 2) y4.toNatClampNeg y2
                          fX1_valueFor_6 uu fu y1 y2 y3 (y4 + (1 : Int32)) (y5 + (1 : Int32)) I9
                        else none
                      else
                        if inb y4 30 = true then
                          let I7 : HI := up2 I (uu + 2) y4.toNatClampNeg y3
                          fX1_valueFor_6 uu fu y1 y2 y3 (y4 + (1 : Int32)) (y5 + (1 : Int32)) I7
                        else none
                  else
                    if inb y5 270 = true then
                      if inb y4 30 = true then
                        let I14 : HI := up2 I (uu + 2) y4.toNatClampNeg (I (uu + 1) y5.toNatClampNeg)
                        fX1_valueFor_6 uu fu y1 y2 y3 (y4 + (1 : Int32)) (y5 + (1 : Int32)) I14
                      else none
                    else none
                else none
            else
              if y4 ≤ (1 : Int32) then
                fX1_valueFor_6 uu fu y1 y2 y3 y4 (y5 + (1 : Int32)) I
              else
                if inb ((y4 + (-1 : Int32)) - (1 : Int32)) 30 = true then
                  if inb (y4 + (-1 : Int32)) 30 = true then
                    Option.bind (fX1_outcome x2 (I (uu + 2) ((y4 + (-1 : Int32)) - (1 : Int32)).toNatClampNeg) (I (uu + 2) (y4 + (-1 : Int32)).toNatClampNeg)) fun q17 =>
                    if inb ((y4 + (-1 : Int32)) - (1 : Int32)) 30 = true then
                      let I19 : HI := up2 I (uu + 2) ((y4 + (-1 : Int32)) - (1 : Int32)).toNatClampNeg q17
                      fX1_valueFor_6 uu fu y1 y2 y3 (y4 + (-1 : Int32)) (y5 + (1 : Int32)) I19
                    else none
                  else none
                else none
          else none
      else none
set_option maxRecDepth 100000 in
set_option maxHeartbeats 4000000 in
theorem lX1_valueFor_6 {g : GG} {n d : Nat} {r : HR} {uu : Nat} (huu : isF uu) (hr : rF r uu) (hn : uu + 3 ≤ n) {P : PP} : ∀ (fu : Nat) (y1 : Int32) (y2 : Int32) (y3 : Int32) (y4 : Int32) (y5 : Int32) (I : HI) (L : HL) (res : Int32 × HI), fX1_valueFor_6 uu fu y1 y2 y3 y4 y5 I = some res → V g mX1_valueFor (d + 2) 0 0 n r res.2 L 203 [some (.ref uu), none, none, none, some (.int res.1)] [] P → V g mX1_valueFor (d + 2) 0 0 n r I L 6 [some (.ref uu), some (.int y1), some (.int y2), some (.int y3), some (.int y4), some (.int y5)] [] P := by
  intro fu
  induction fu with
  | zero => intro y1 y2 y3 y4 y5 I L res hf; cases (show none = some res from hf)
  | succ fu ih =>
    intro y1 y2 y3 y4 y5 I L res hf K
    refine V_iload (pc := 6) dX1_valueFor_6 rfl rfl ?_
    refine V_aload_n (pc := 8) dX1_valueFor_8 rfl rfl rfl ?_
    refine V_getI (pc := 9) dX1_valueFor_9 flX1_18 rfl (by omega) (congrArg Prod.fst (shF huu)) rfl ?_
    refine V_icmp_ge (pc := 12) (tgt := 203) dX1_valueFor_12 (by decide) rfl (fun hc => ?_) (fun hc => ?_)
    · replace hf := (if_pos hc).symm.trans hf
      cases hf
      exact V_wk K ⟨rfl, ⟨rfl, trivial⟩⟩
    · replace hf := (if_neg hc).symm.trans hf
      refine V_bipush (pc := 15) dX1_valueFor_15 bp_m100 rfl ?_
      refine V_aload_n (pc := 17) dX1_valueFor_17 rfl rfl rfl ?_
      refine V_getR (pc := 18) dX1_valueFor_18 flX1_9 rfl (by omega) (congrArg Prod.fst (shF huu)) (rF_0 hr) rfl ?_
      refine V_iload (pc := 21) dX1_valueFor_21 rfl rfl ?_
      obtain ⟨hc1, hf⟩ := pif hf
      refine V_iald (pc := 23) dX1_valueFor_23 (by omega) (shF1 huu) hc1 rfl ?_
      refine V_isub (pc := 24) dX1_valueFor_24 rfl ?_
      let x2 : Int32 := ((-100 : Int32) - (I (uu + 1) y5.toNatClampNeg))
      refine V_istore (ls' := [some _, some _, some _, some _, some _, some _, some _]) (pc := 25) dX1_valueFor_25 (Nat.le_of_ble_eq_true rfl) rfl rfl ?_
      refine V_iload (pc := 27) dX1_valueFor_27 rfl rfl ?_
      refine V_bipush (pc := 29) dX1_valueFor_29 bp_15 rfl ?_
      refine V_icmp_ne (pc := 31) (tgt := 68) dX1_valueFor_31 (by decide) rfl (fun hc => ?_) (fun hc => ?_)
      · replace hf := (if_neg hc).symm.trans hf
        refine V_aload_n (pc := 68) dX1_valueFor_68 rfl rfl rfl ?_
        refine V_getR (pc := 69) dX1_valueFor_69 flX1_9 rfl (by omega) (congrArg Prod.fst (shF huu)) (rF_0 hr) rfl ?_
        refine V_iload (pc := 72) dX1_valueFor_72 rfl rfl ?_
        obtain ⟨hc3, hf⟩ := pif hf
        refine V_iald (pc := 74) dX1_valueFor_74 (by omega) (shF1 huu) hc3 rfl ?_
        obtain ⟨b4, hb4, hf⟩ := bnd hf
        have KTb4 : b4 = true → V g mX1_valueFor (d + 2) 0 0 n r I L 92 [some (.ref uu), some (.int y1), some (.int y2), some (.int y3), some (.int y4), some (.int y5), some (.int x2)] [] P := fun hc => by
          replace hf := (if_pos hc).symm.trans hf
          refine V_iload (pc := 92) dX1_valueFor_92 rfl rfl ?_
          refine V_aload_n (pc := 94) dX1_valueFor_94 rfl rfl rfl ?_
          refine V_getR (pc := 95) dX1_valueFor_95 flX1_15 rfl (by omega) (congrArg Prod.fst (shF huu)) (rF_1 hr) rfl ?_
          refine V_alen (pc := 98) dX1_valueFor_98 (by omega) (shF2 huu) (by decide) rfl ?_
          refine V_icmp_ge (pc := 99) (tgt := 197) dX1_valueFor_99 (by decide) rfl (fun hc => ?_) (fun hc => ?_)
          · replace hf := (if_pos hc).symm.trans hf
            refine V_iinc (ls' := [some _, some _, some _, some _, some _, some _, some _]) (pc := 197) dX1_valueFor_197 rfl (Nat.le_of_ble_eq_true rfl) (congrArg _ ic_1) rfl rfl ?_
            refine V_goto (pc := 200) (tgt := 6) dX1_valueFor_200 (by decide) ?_
            exact V_wk (ih _ _ _ _ _ _ _ _ hf K) ⟨rfl, ⟨rfl, ⟨rfl, ⟨rfl, ⟨rfl, ⟨rfl, trivial⟩⟩⟩⟩⟩⟩
          · replace hf := (if_neg hc).symm.trans hf
            refine V_aload_n (pc := 102) dX1_valueFor_102 rfl rfl rfl ?_
            refine V_getR (pc := 103) dX1_valueFor_103 flX1_15 rfl (by omega) (congrArg Prod.fst (shF huu)) (rF_1 hr) rfl ?_
            refine V_iload (pc := 106) dX1_valueFor_106 rfl rfl ?_
            refine V_aload_n (pc := 108) dX1_valueFor_108 rfl rfl rfl ?_
            refine V_getR (pc := 109) dX1_valueFor_109 flX1_9 rfl (by omega) (congrArg Prod.fst (shF huu)) (rF_0 hr) rfl ?_
            refine V_iload (pc := 112) dX1_valueFor_112 rfl rfl ?_
            obtain ⟨hc5, hf⟩ := pif hf
            refine V_iald (pc := 114) dX1_valueFor_114 (by omega) (shF1 huu) hc5 rfl ?_
            refine V_if_lt (pc := 115) (tgt := 128) dX1_valueFor_115 (by decide) rfl (fun hc => ?_) (fun hc => ?_)
            · replace hf := (if_pos hc).symm.trans hf
              refine V_iload (pc := 128) dX1_valueFor_128 rfl rfl ?_
              refine V_bipush (pc := 130) dX1_valueFor_130 bp_16 rfl ?_
              refine V_icmp_ne (pc := 132) (tgt := 139) dX1_valueFor_132 (by decide) rfl (fun hc => ?_) (fun hc => ?_)
              · replace hf := (if_neg hc).symm.trans hf
                refine V_iload (pc := 139) dX1_valueFor_139 rfl rfl ?_
                refine V_bipush (pc := 141) dX1_valueFor_141 bp_17 rfl ?_
                refine V_icmp_ne (pc := 143) (tgt := 150) dX1_valueFor_143 (by decide) rfl (fun hc => ?_) (fun hc => ?_)
                · replace hf := (if_neg hc).symm.trans hf
                  refine V_iload_n (pc := 150) dX1_valueFor_150 rfl rfl rfl ?_
                  obtain ⟨hc6, hf⟩ := pif hf
                  let I7 : HI := up2 I (uu + 2) y4.toNatClampNeg y3
                  refine V_iast (pc := 151) dX1_valueFor_151 (by omega) (shF2 huu) hc6 rfl ?_
                  refine V_iinc (ls' := [some _, some _, some _, some _, some _, some _, some _]) (pc := 152) dX1_valueFor_152 rfl (Nat.le_of_ble_eq_true rfl) (congrArg _ ic_1) rfl rfl ?_
                  refine V_goto (pc := 155) (tgt := 197) dX1_valueFor_155 (by decide) ?_
                  refine V_iinc (ls' := [some _, some _, some _, some _, some _, some _, some _]) (pc := 197) dX1_valueFor_197 rfl (Nat.le_of_ble_eq_true rfl) (congrArg _ ic_1) rfl rfl ?_
                  refine V_goto (pc := 200) (tgt := 6) dX1_valueFor_200 (by decide) ?_
                  exact V_wk (ih _ _ _ _ _ _ _ _ hf K) ⟨rfl, ⟨rfl, ⟨rfl, ⟨rfl, ⟨rfl, ⟨rfl, trivial⟩⟩⟩⟩⟩⟩
                · replace hf := (if_pos hc).symm.trans hf
                  refine V_iload_n (pc := 146) dX1_valueFor_146 rfl rfl rfl ?_
                  refine V_goto (pc := 147) (tgt := 151) dX1_valueFor_147 (by decide) ?_
                  obtain ⟨hc8, hf⟩ := pif hf
                  let I9 : HI := up2 I (uu + 2) y4.toNatClampNeg y2
                  refine V_iast (pc := 151) dX1_valueFor_151 (by omega) (shF2 huu) hc8 rfl ?_
                  refine V_iinc (ls' := [some _, some _, some _, some _, some _, some _, some _]) (pc := 152) dX1_valueFor_152 rfl (Nat.le_of_ble_eq_true rfl) (congrArg _ ic_1) rfl rfl ?_
                  refine V_goto (pc := 155) (tgt := 197) dX1_valueFor_155 (by decide) ?_
                  refine V_iinc (ls' := [some _, some _, some _, some _, some _, some _, some _]) (pc := 197) dX1_valueFor_197 rfl (Nat.le_of_ble_eq_true rfl) (congrArg _ ic_1) rfl rfl ?_
                  refine V_goto (pc := 200) (tgt := 6) dX1_valueFor_200 (by decide) ?_
                  exact V_wk (ih _ _ _ _ _ _ _ _ hf K) ⟨rfl, ⟨rfl, ⟨rfl, ⟨rfl, ⟨rfl, ⟨rfl, trivial⟩⟩⟩⟩⟩⟩
              · replace hf := (if_pos hc).symm.trans hf
                refine V_iload_n (pc := 135) dX1_valueFor_135 rfl rfl rfl ?_
                refine V_goto (pc := 136) (tgt := 151) dX1_valueFor_136 (by decide) ?_
                obtain ⟨hc10, hf⟩ := pif hf
                let I11 : HI := up2 I (uu + 2) y4.toNatClampNeg y1
                refine V_iast (pc := 151) dX1_valueFor_151 (by omega) (shF2 huu) hc10 rfl ?_
                refine V_iinc (ls' := [some _, some _, some _, some _, some _, some _, some _]) (pc := 152) dX1_valueFor_152 rfl (Nat.le_of_ble_eq_true rfl) (congrArg _ ic_1) rfl rfl ?_
                refine V_goto (pc := 155) (tgt := 197) dX1_valueFor_155 (by decide) ?_
                refine V_iinc (ls' := [some _, some _, some _, some _, some _, some _, some _]) (pc := 197) dX1_valueFor_197 rfl (Nat.le_of_ble_eq_true rfl) (congrArg _ ic_1) rfl rfl ?_
                refine V_goto (pc := 200) (tgt := 6) dX1_valueFor_200 (by decide) ?_
                exact V_wk (ih _ _ _ _ _ _ _ _ hf K) ⟨rfl, ⟨rfl, ⟨rfl, ⟨rfl, ⟨rfl, ⟨rfl, trivial⟩⟩⟩⟩⟩⟩
            · replace hf := (if_neg hc).symm.trans hf
              refine V_aload_n (pc := 118) dX1_valueFor_118 rfl rfl rfl ?_
              refine V_getR (pc := 119) dX1_valueFor_119 flX1_9 rfl (by omega) (congrArg Prod.fst (shF huu)) (rF_0 hr) rfl ?_
              refine V_iload (pc := 122) dX1_valueFor_122 rfl rfl ?_
              obtain ⟨hc12, hf⟩ := pif hf
              refine V_iald (pc := 124) dX1_valueFor_124 (by omega) (shF1 huu) hc12 rfl ?_
              refine V_goto (pc := 125) (tgt := 151) dX1_valueFor_125 (by decide) ?_
              obtain ⟨hc13, hf⟩ := pif hf
              let I14 : HI := up2 I (uu + 2) y4.toNatClampNeg (I (uu + 1) y5.toNatClampNeg)
              refine V_iast (pc := 151) dX1_valueFor_151 (by omega) (shF2 huu) hc13 rfl ?_
              refine V_iinc (ls' := [some _, some _, some _, some _, some _, some _, some _]) (pc := 152) dX1_valueFor_152 rfl (Nat.le_of_ble_eq_true rfl) (congrArg _ ic_1) rfl rfl ?_
              refine V_goto (pc := 155) (tgt := 197) dX1_valueFor_155 (by decide) ?_
              refine V_iinc (ls' := [some _, some _, some _, some _, some _, some _, some _]) (pc := 197) dX1_valueFor_197 rfl (Nat.le_of_ble_eq_true rfl) (congrArg _ ic_1) rfl rfl ?_
              refine V_goto (pc := 200) (tgt := 6) dX1_valueFor_200 (by decide) ?_
              exact V_wk (ih _ _ _ _ _ _ _ _ hf K) ⟨rfl, ⟨rfl, ⟨rfl, ⟨rfl, ⟨rfl, ⟨rfl, trivial⟩⟩⟩⟩⟩⟩
        have KFb4 : ¬ b4 = true → V g mX1_valueFor (d + 2) 0 0 n r I L 158 [some (.ref uu), some (.int y1), some (.int y2), some (.int y3), some (.int y4), some (.int y5), some (.int x2)] [] P := fun hc => by
          replace hf := (if_neg hc).symm.trans hf
          refine V_iload (pc := 158) dX1_valueFor_158 rfl rfl ?_
          refine V_iconst (pc := 160) dX1_valueFor_160 ic_1 rfl ?_
          refine V_icmp_le (pc := 161) (tgt := 197) dX1_valueFor_161 (by decide) rfl (fun hc => ?_) (fun hc => ?_)
          · replace hf := (if_pos hc).symm.trans hf
            refine V_iinc (ls' := [some _, some _, some _, some _, some _, some _, some _]) (pc := 197) dX1_valueFor_197 rfl (Nat.le_of_ble_eq_true rfl) (congrArg _ ic_1) rfl rfl ?_
            refine V_goto (pc := 200) (tgt := 6) dX1_valueFor_200 (by decide) ?_
            exact V_wk (ih _ _ _ _ _ _ _ _ hf K) ⟨rfl, ⟨rfl, ⟨rfl, ⟨rfl, ⟨rfl, ⟨rfl, trivial⟩⟩⟩⟩⟩⟩
          · replace hf := (if_neg hc).symm.trans hf
            refine V_iinc (ls' := [some _, some _, some _, some _, some _, some _, some _]) (pc := 164) dX1_valueFor_164 rfl (Nat.le_of_ble_eq_true rfl) (congrArg _ ic_m1) rfl rfl ?_
            refine V_aload_n (pc := 167) dX1_valueFor_167 rfl rfl rfl ?_
            refine V_getR (pc := 168) dX1_valueFor_168 flX1_15 rfl (by omega) (congrArg Prod.fst (shF huu)) (rF_1 hr) rfl ?_
            refine V_iload (pc := 171) dX1_valueFor_171 rfl rfl ?_
            refine V_iconst (pc := 173) dX1_valueFor_173 ic_1 rfl ?_
            refine V_isub (pc := 174) dX1_valueFor_174 rfl ?_
            refine V_iload (pc := 175) dX1_valueFor_175 rfl rfl ?_
            refine V_aload_n (pc := 177) dX1_valueFor_177 rfl rfl rfl ?_
            refine V_getR (pc := 178) dX1_valueFor_178 flX1_15 rfl (by omega) (congrArg Prod.fst (shF huu)) (rF_1 hr) rfl ?_
            refine V_iload (pc := 181) dX1_valueFor_181 rfl rfl ?_
            refine V_iconst (pc := 183) dX1_valueFor_183 ic_1 rfl ?_
            refine V_isub (pc := 184) dX1_valueFor_184 rfl ?_
            obtain ⟨hc15, hf⟩ := pif hf
            refine V_iald (pc := 185) dX1_valueFor_185 (by omega) (shF2 huu) hc15 rfl ?_
            refine V_aload_n (pc := 186) dX1_valueFor_186 rfl rfl rfl ?_
            refine V_getR (pc := 187) dX1_valueFor_187 flX1_15 rfl (by omega) (congrArg Prod.fst (shF huu)) (rF_1 hr) rfl ?_
            refine V_iload (pc := 190) dX1_valueFor_190 rfl rfl ?_
            obtain ⟨hc16, hf⟩ := pif hf
            refine V_iald (pc := 192) dX1_valueFor_192 (by omega) (shF2 huu) hc16 rfl ?_
            obtain ⟨q17, hq17, hf⟩ := bnd hf
            refine V_cSi (md' := mX1_outcome) (pc := 193) dX1_valueFor_193 mlX1_33 mSX1_outcome (tX1_outcome hq17) rfl rfl (Nat.le_of_ble_eq_true rfl) rfl ?_
            obtain ⟨hc18, hf⟩ := pif hf
            let I19 : HI := up2 I (uu + 2) ((y4 + (-1 : Int32)) - (1 : Int32)).toNatClampNeg q17
            refine V_iast (pc := 196) dX1_valueFor_196 (by omega) (shF2 huu) hc18 rfl ?_
            refine V_iinc (ls' := [some _, some _, some _, some _, some _, some _, some _]) (pc := 197) dX1_valueFor_197 rfl (Nat.le_of_ble_eq_true rfl) (congrArg _ ic_1) rfl rfl ?_
            refine V_goto (pc := 200) (tgt := 6) dX1_valueFor_200 (by decide) ?_
            exact V_wk (ih _ _ _ _ _ _ _ _ hf K) ⟨rfl, ⟨rfl, ⟨rfl, ⟨rfl, ⟨rfl, ⟨rfl, trivial⟩⟩⟩⟩⟩⟩
        refine V_if_ge (pc := 75) (tgt := 92) dX1_valueFor_75 (by decide) rfl (fun hc => ?_) (fun hc => ?_)
        · replace hb4 := (if_pos hc).symm.trans hb4
          cases hb4
          exact KTb4 rfl
        · replace hb4 := (if_neg hc).symm.trans hb4
          refine V_iload (pc := 78) dX1_valueFor_78 rfl rfl ?_
          refine V_bipush (pc := 80) dX1_valueFor_80 bp_16 rfl ?_
          refine V_icmp_lt (pc := 82) (tgt := 158) dX1_valueFor_82 (by decide) rfl (fun hc => ?_) (fun hc => ?_)
          · replace hb4 := (if_pos hc).symm.trans hb4
            cases hb4
            exact KFb4 (nbt rfl)
          · replace hb4 := (if_neg hc).symm.trans hb4
            refine V_iload (pc := 85) dX1_valueFor_85 rfl rfl ?_
            refine V_bipush (pc := 87) dX1_valueFor_87 bp_18 rfl ?_
            refine V_icmp_gt (pc := 89) (tgt := 158) dX1_valueFor_89 (by decide) rfl (fun hc => ?_) (fun hc => ?_)
            · replace hb4 := (if_pos hc).symm.trans hb4
              cases hb4
              exact KFb4 (nbt rfl)
            · replace hb4 := (if_neg hc).symm.trans hb4
              cases hb4
              exact KTb4 rfl
      · replace hf := (if_pos hc).symm.trans hf
        refine V_iload (pc := 34) dX1_valueFor_34 rfl rfl ?_
        refine V_if_le (pc := 36) (tgt := 197) dX1_valueFor_36 (by decide) rfl (fun hc => ?_) (fun hc => ?_)
        · replace hf := (if_pos hc).symm.trans hf
          refine V_iinc (ls' := [some _, some _, some _, some _, some _, some _, some _]) (pc := 197) dX1_valueFor_197 rfl (Nat.le_of_ble_eq_true rfl) (congrArg _ ic_1) rfl rfl ?_
          refine V_goto (pc := 200) (tgt := 6) dX1_valueFor_200 (by decide) ?_
          exact V_wk (ih _ _ _ _ _ _ _ _ hf K) ⟨rfl, ⟨rfl, ⟨rfl, ⟨rfl, ⟨rfl, ⟨rfl, trivial⟩⟩⟩⟩⟩⟩
        · replace hf := (if_neg hc).symm.trans hf
          refine V_aload_n (pc := 39) dX1_valueFor_39 rfl rfl rfl ?_
          refine V_getR (pc := 40) dX1_valueFor_40 flX1_15 rfl (by omega) (congrArg Prod.fst (shF huu)) (rF_1 hr) rfl ?_
          refine V_iload (pc := 43) dX1_valueFor_43 rfl rfl ?_
          refine V_iconst (pc := 45) dX1_valueFor_45 ic_1 rfl ?_
          refine V_isub (pc := 46) dX1_valueFor_46 rfl ?_
          refine V_aload_n (pc := 47) dX1_valueFor_47 rfl rfl rfl ?_
          refine V_getR (pc := 48) dX1_valueFor_48 flX1_15 rfl (by omega) (congrArg Prod.fst (shF huu)) (rF_1 hr) rfl ?_
          refine V_iload (pc := 51) dX1_valueFor_51 rfl rfl ?_
          refine V_iconst (pc := 53) dX1_valueFor_53 ic_1 rfl ?_
          refine V_isub (pc := 54) dX1_valueFor_54 rfl ?_
          obtain ⟨hc20, hf⟩ := pif hf
          refine V_iald (pc := 55) dX1_valueFor_55 (by omega) (shF2 huu) hc20 rfl ?_
          refine V_if_ne (pc := 56) (tgt := 63) dX1_valueFor_56 (by decide) rfl (fun hc => ?_) (fun hc => ?_)
          · replace hf := (if_neg hc).symm.trans hf
            refine V_iconst (pc := 63) dX1_valueFor_63 ic_0 rfl ?_
            obtain ⟨hc21, hf⟩ := pif hf
            let I22 : HI := up2 I (uu + 2) (y4 - (1 : Int32)).toNatClampNeg (0 : Int32)
            refine V_iast (pc := 64) dX1_valueFor_64 (by omega) (shF2 huu) hc21 rfl ?_
            refine V_goto (pc := 65) (tgt := 197) dX1_valueFor_65 (by decide) ?_
            refine V_iinc (ls' := [some _, some _, some _, some _, some _, some _, some _]) (pc := 197) dX1_valueFor_197 rfl (Nat.le_of_ble_eq_true rfl) (congrArg _ ic_1) rfl rfl ?_
            refine V_goto (pc := 200) (tgt := 6) dX1_valueFor_200 (by decide) ?_
            exact V_wk (ih _ _ _ _ _ _ _ _ hf K) ⟨rfl, ⟨rfl, ⟨rfl, ⟨rfl, ⟨rfl, ⟨rfl, trivial⟩⟩⟩⟩⟩⟩
          · replace hf := (if_pos hc).symm.trans hf
            refine V_iconst (pc := 59) dX1_valueFor_59 ic_1 rfl ?_
            refine V_goto (pc := 60) (tgt := 64) dX1_valueFor_60 (by decide) ?_
            obtain ⟨hc23, hf⟩ := pif hf
            let I24 : HI := up2 I (uu + 2) (y4 - (1 : Int32)).toNatClampNeg (1 : Int32)
            refine V_iast (pc := 64) dX1_valueFor_64 (by omega) (shF2 huu) hc23 rfl ?_
            refine V_goto (pc := 65) (tgt := 197) dX1_valueFor_65 (by decide) ?_
            refine V_iinc (ls' := [some _, some _, some _, some _, some _, some _, some _]) (pc := 197) dX1_valueFor_197 rfl (Nat.le_of_ble_eq_true rfl) (congrArg _ ic_1) rfl rfl ?_
            refine V_goto (pc := 200) (tgt := 6) dX1_valueFor_200 (by decide) ?_
            exact V_wk (ih _ _ _ _ _ _ _ _ hf K) ⟨rfl, ⟨rfl, ⟨rfl, ⟨rfl, ⟨rfl, ⟨rfl, trivial⟩⟩⟩⟩⟩⟩
noncomputable def fX1_valueFor (uu : Nat) (v1 : Int32) (v2 : Int32) (v3 : Int32) (I : HI) : Option (Int32 × HI) :=
  Option.bind (fX1_valueFor_6 uu FUEL v1 v2 v3 (0 : Int32) (0 : Int32) I) fun q25 =>
  if q25.1 ≤ 0 then
    some ((0 : Int32), q25.2)
  else
    if inb (0 : Int32) 30 = true then
      some ((q25.2 (uu + 2) (0 : Int32).toNatClampNeg), q25.2)
    else none
set_option maxRecDepth 100000 in
set_option maxHeartbeats 4000000 in
theorem tX1_valueFor {g : GG} {n d : Nat} {r : HR} {uu : Nat} (huu : isF uu) (hr : rF r uu) (hn : uu + 3 ≤ n) {v1 : Int32} {v2 : Int32} {v3 : Int32} {I : HI} {L : HL} {res : Int32 × HI} (hf : fX1_valueFor uu v1 v2 v3 I = some res) : CT g mX1_valueFor (d + 2) 0 0 n r I L [.ref uu, .int v1, .int v2, .int v3] (PoI n r res.1 res.2 L) := by
  refine CT.of rfl (Nat.le_of_ble_eq_true rfl) ?_
  show V g mX1_valueFor (d + 2) 0 0 n r I L 0 [some (.ref uu), some (.int v1), some (.int v2), some (.int v3)] [] (PoI n r res.1 res.2 L)
  refine V_iconst (pc := 0) dX1_valueFor_0 ic_0 rfl ?_
  refine V_istore (ls' := [some _, some _, some _, some _, some _]) (pc := 1) dX1_valueFor_1 (Nat.le_of_ble_eq_true rfl) rfl rfl ?_
  refine V_iconst (pc := 3) dX1_valueFor_3 ic_0 rfl ?_
  refine V_istore (ls' := [some _, some _, some _, some _, some _, some _]) (pc := 4) dX1_valueFor_4 (Nat.le_of_ble_eq_true rfl) rfl rfl ?_
  obtain ⟨q25, hq25, hf⟩ := bnd hf
  refine V_wk (lX1_valueFor_6 huu hr hn FUEL _ _ _ _ _ _ _ _ hq25 ?_) ⟨rfl, ⟨rfl, ⟨rfl, ⟨rfl, ⟨rfl, ⟨rfl, trivial⟩⟩⟩⟩⟩⟩
  refine V_iload (pc := 203) dX1_valueFor_203 rfl rfl ?_
  refine V_if_le (pc := 205) (tgt := 217) dX1_valueFor_205 (by decide) rfl (fun hc => ?_) (fun hc => ?_)
  · replace hf := (if_pos hc).symm.trans hf
    refine V_iconst (pc := 217) dX1_valueFor_217 ic_0 rfl ?_
    cases hf
    exact V_iret (pc := 218) dX1_valueFor_218 rfl PoI_mk
  · replace hf := (if_neg hc).symm.trans hf
    refine V_aload_n (pc := 208) dX1_valueFor_208 rfl rfl rfl ?_
    refine V_getR (pc := 209) dX1_valueFor_209 flX1_15 rfl (by omega) (congrArg Prod.fst (shF huu)) (rF_1 hr) rfl ?_
    refine V_iconst (pc := 212) dX1_valueFor_212 ic_0 rfl ?_
    obtain ⟨hc26, hf⟩ := pif hf
    refine V_iald (pc := 213) dX1_valueFor_213 (by omega) (shF2 huu) hc26 rfl ?_
    refine V_goto (pc := 214) (tgt := 218) dX1_valueFor_214 (by decide) ?_
    cases hf
    exact V_iret (pc := 218) dX1_valueFor_218 rfl PoI_mk
/-! ShadowDoors$Tokens.isLetter -/
noncomputable def fX9_isLetter (v1 : Int32) : Bool :=
  tbn (
    if v1 < (97 : Int32) then
      true
    else
      if (122 : Int32) < v1 then
        true
      else
        false
  ) fun b1 =>
  if b1 = true then
    false
  else
    true
set_option maxRecDepth 100000 in
set_option maxHeartbeats 4000000 in
theorem tX9_isLetter {g : GG} {n d : Nat} {r : HR}  {v1 : Int32} {I : HI} {L : HL} {res : Bool} (hf : fX9_isLetter v1 = res) : CT g mX9_isLetter (d + 1) 0 0 n r I L [.int v1] (PoB n r res I L) := by
  refine CT.of rfl (Nat.le_of_ble_eq_true rfl) ?_
  show V g mX9_isLetter (d + 1) 0 0 n r I L 0 [some (.int v1)] [] (PoB n r res I L)
  refine V_iload_n (pc := 0) dX9_isLetter_0 rfl rfl rfl ?_
  refine V_bipush (pc := 1) dX9_isLetter_1 bp_97 rfl ?_
  obtain ⟨b1, hb1, hf⟩ := tbd hf
  have KTb1 : b1 = true → V g mX9_isLetter (d + 1) 0 0 n r I L 16 [some (.int v1)] [] (PoB n r res I L) := fun hc => by
    replace hf := (if_pos hc).symm.trans hf
    refine V_iconst (pc := 16) dX9_isLetter_16 ic_0 rfl ?_
    cases hf
    exact V_zretE (pc := 17) dX9_isLetter_17 rfl (show (0 : Int32) = b2i false from rfl) PoB_mk
  have KFb1 : ¬ b1 = true → V g mX9_isLetter (d + 1) 0 0 n r I L 12 [some (.int v1)] [] (PoB n r res I L) := fun hc => by
    replace hf := (if_neg hc).symm.trans hf
    refine V_iconst (pc := 12) dX9_isLetter_12 ic_1 rfl ?_
    refine V_goto (pc := 13) (tgt := 17) dX9_isLetter_13 (by decide) ?_
    cases hf
    exact V_zretE (pc := 17) dX9_isLetter_17 rfl (show (1 : Int32) = b2i true from rfl) PoB_mk
  refine V_icmp_lt (pc := 3) (tgt := 16) dX9_isLetter_3 (by decide) rfl (fun hc => ?_) (fun hc => ?_)
  · replace hb1 := (if_pos hc).symm.trans hb1
    cases hb1
    exact KTb1 rfl
  · replace hb1 := (if_neg hc).symm.trans hb1
    refine V_iload_n (pc := 6) dX9_isLetter_6 rfl rfl rfl ?_
    refine V_bipush (pc := 7) dX9_isLetter_7 bp_122 rfl ?_
    refine V_icmp_gt (pc := 9) (tgt := 16) dX9_isLetter_9 (by decide) rfl (fun hc => ?_) (fun hc => ?_)
    · replace hb1 := (if_pos hc).symm.trans hb1
      cases hb1
      exact KTb1 rfl
    · replace hb1 := (if_neg hc).symm.trans hb1
      cases hb1
      exact KFb1 (nbt rfl)
/-! ShadowDoors$Tokens.withLetter -/
noncomputable def fX9_withLetter (v1 : Int64) (v2 : Int32) : Int64 :=
  ((v1 * (32 : Int64)) + ((v2 - (97 : Int32)) + (1 : Int32)).toInt64)
set_option maxRecDepth 100000 in
set_option maxHeartbeats 4000000 in
theorem tX9_withLetter {g : GG} {n d : Nat} {r : HR}  {v1 : Int64} {v2 : Int32} {I : HI} {L : HL} {res : Int64} (hf : fX9_withLetter v1 v2 = res) : CT g mX9_withLetter (d + 1) 0 0 n r I L [.long v1, .int v2] (PoL n r res I L) := by
  refine CT.of rfl (Nat.le_of_ble_eq_true rfl) ?_
  show V g mX9_withLetter (d + 1) 0 0 n r I L 0 [some (.long v1), none, some (.int v2)] [] (PoL n r res I L)
  refine V_lload_n (pc := 0) dX9_withLetter_0 rfl rfl rfl ?_
  refine V_ldc2 (pc := 1) dX9_withLetter_1 klX9_79 rfl ?_
  refine V_lmul (pc := 4) dX9_withLetter_4 rfl ?_
  refine V_iload_n (pc := 5) dX9_withLetter_5 rfl rfl rfl ?_
  refine V_bipush (pc := 6) dX9_withLetter_6 bp_97 rfl ?_
  refine V_isub (pc := 8) dX9_withLetter_8 rfl ?_
  refine V_iconst (pc := 9) dX9_withLetter_9 ic_1 rfl ?_
  refine V_iadd (pc := 10) dX9_withLetter_10 rfl ?_
  refine V_i2l (pc := 11) dX9_withLetter_11 rfl ?_
  refine V_ladd (pc := 12) dX9_withLetter_12 rfl ?_
  cases hf
  exact V_lret (pc := 13) dX9_withLetter_13 rfl PoL_mk
/-! ShadowDoors$Tokens.kindOfWord -/
noncomputable def fX9_kindOfWord_2 : Nat → Int32 → HL → Option (Int32)
  | 0, _, _ => none
  | fu + 1, y1, L =>
    if (Int32.ofNat 19) ≤ y1 then
      some (20 : Int32)
    else
      if inb y1 19 = true then
        if (L 50 y1.toNatClampNeg) = (L 49 7) then
          some y1
        else
          fX9_kindOfWord_2 fu (y1 + (1 : Int32)) L
      else none
set_option maxRecDepth 100000 in
set_option maxHeartbeats 4000000 in
theorem lX9_kindOfWord_2 {g : GG} {n d : Nat} {tw dr sk tl ff : Nat} (hG : RG tw dr sk tl ff) (hn : 116 ≤ n) {P : PP} : ∀ (fu : Nat) (y1 : Int32) (I : HI) (L : HL) (res : Int32), fX9_kindOfWord_2 fu y1 L = some res → P (some (.int res)) n (RT tw dr sk tl ff) I L → V g mX9_kindOfWord (d + 1) 0 0 n (RT tw dr sk tl ff) I L 2 [some (.ref 49), some (.int y1)] [] P := by
  intro fu
  induction fu with
  | zero => intro y1 I L res hf; cases (show none = some res from hf)
  | succ fu ih =>
    intro y1 I L res hf K
    refine V_iload_n (pc := 2) dX9_kindOfWord_2 rfl rfl rfl ?_
    refine V_aload_n (pc := 3) dX9_kindOfWord_3 rfl rfl rfl ?_
    refine V_getR (pc := 4) dX9_kindOfWord_4 flX9_9 rfl (by omega) (congrArg Prod.fst sh_49) rt_49_1 rfl ?_
    refine V_alen (pc := 7) dX9_kindOfWord_7 (by omega) sh_50 (by decide) rfl ?_
    refine V_icmp_ge (pc := 8) (tgt := 33) dX9_kindOfWord_8 (by decide) rfl (fun hc => ?_) (fun hc => ?_)
    · replace hf := (if_pos hc).symm.trans hf
      refine V_bipush (pc := 33) dX9_kindOfWord_33 bp_20 rfl ?_
      cases hf
      exact V_iret (pc := 35) dX9_kindOfWord_35 rfl K
    · replace hf := (if_neg hc).symm.trans hf
      refine V_aload_n (pc := 11) dX9_kindOfWord_11 rfl rfl rfl ?_
      refine V_getR (pc := 12) dX9_kindOfWord_12 flX9_9 rfl (by omega) (congrArg Prod.fst sh_49) rt_49_1 rfl ?_
      refine V_iload_n (pc := 15) dX9_kindOfWord_15 rfl rfl rfl ?_
      obtain ⟨hc1, hf⟩ := pif hf
      refine V_lald (pc := 16) dX9_kindOfWord_16 (by omega) sh_50 hc1 rfl ?_
      refine V_aload_n (pc := 17) dX9_kindOfWord_17 rfl rfl rfl ?_
      refine V_getL (pc := 18) dX9_kindOfWord_18 flX9_53 rfl (by omega) (congrArg Prod.fst sh_49) rfl ?_
      refine V_lc_ne (pc := 21) (tgt := 27) dX9_kindOfWord_21 rfl dX9_kindOfWord_22 (by decide) rfl (fun hc => ?_) (fun hc => ?_)
      · replace hf := (if_neg hc).symm.trans hf
        refine V_iinc (ls' := [some _, some _]) (pc := 27) dX9_kindOfWord_27 rfl (Nat.le_of_ble_eq_true rfl) (congrArg _ ic_1) rfl rfl ?_
        refine V_goto (pc := 30) (tgt := 2) dX9_kindOfWord_30 (by decide) ?_
        exact V_wk (ih _ _ _ _ hf K) ⟨rfl, ⟨rfl, trivial⟩⟩
      · replace hf := (if_pos hc).symm.trans hf
        refine V_iload_n (pc := 25) dX9_kindOfWord_25 rfl rfl rfl ?_
        cases hf
        exact V_iret (pc := 26) dX9_kindOfWord_26 rfl K
noncomputable def fX9_kindOfWord (L : HL) : Option (Int32) :=
  Option.bind (fX9_kindOfWord_2 FUEL (0 : Int32) L) fun q2 =>
  some q2
set_option maxRecDepth 100000 in
set_option maxHeartbeats 4000000 in
theorem tX9_kindOfWord {g : GG} {n d : Nat} {tw dr sk tl ff : Nat} (hG : RG tw dr sk tl ff) (hn : 116 ≤ n) {I : HI} {L : HL} {res : Int32} (hf : fX9_kindOfWord L = some res) : CT g mX9_kindOfWord (d + 1) 0 0 n (RT tw dr sk tl ff) I L [.ref 49] (PoI n (RT tw dr sk tl ff) res I L) := by
  refine CT.of rfl (Nat.le_of_ble_eq_true rfl) ?_
  show V g mX9_kindOfWord (d + 1) 0 0 n (RT tw dr sk tl ff) I L 0 [some (.ref 49)] [] (PoI n (RT tw dr sk tl ff) res I L)
  refine V_iconst (pc := 0) dX9_kindOfWord_0 ic_0 rfl ?_
  refine V_istore_n (ls' := [some _, some _]) (pc := 1) dX9_kindOfWord_1 rfl (Nat.le_of_ble_eq_true rfl) rfl rfl ?_
  obtain ⟨q2, hq2, hf⟩ := bnd hf
  refine V_wk (lX9_kindOfWord_2 hG hn FUEL _ _ _ _ hq2 ?_) ⟨rfl, ⟨rfl, trivial⟩⟩
  cases hf
  exact PoI_mk
/-! ShadowDoors$Tokens.isDigit -/
noncomputable def fX9_isDigit (v1 : Int32) : Bool :=
  tbn (
    if v1 < (48 : Int32) then
      true
    else
      if (57 : Int32) < v1 then
        true
      else
        false
  ) fun b1 =>
  if b1 = true then
    false
  else
    true
set_option maxRecDepth 100000 in
set_option maxHeartbeats 4000000 in
theorem tX9_isDigit {g : GG} {n d : Nat} {r : HR}  {v1 : Int32} {I : HI} {L : HL} {res : Bool} (hf : fX9_isDigit v1 = res) : CT g mX9_isDigit (d + 1) 0 0 n r I L [.int v1] (PoB n r res I L) := by
  refine CT.of rfl (Nat.le_of_ble_eq_true rfl) ?_
  show V g mX9_isDigit (d + 1) 0 0 n r I L 0 [some (.int v1)] [] (PoB n r res I L)
  refine V_iload_n (pc := 0) dX9_isDigit_0 rfl rfl rfl ?_
  refine V_bipush (pc := 1) dX9_isDigit_1 bp_48 rfl ?_
  obtain ⟨b1, hb1, hf⟩ := tbd hf
  have KTb1 : b1 = true → V g mX9_isDigit (d + 1) 0 0 n r I L 16 [some (.int v1)] [] (PoB n r res I L) := fun hc => by
    replace hf := (if_pos hc).symm.trans hf
    refine V_iconst (pc := 16) dX9_isDigit_16 ic_0 rfl ?_
    cases hf
    exact V_zretE (pc := 17) dX9_isDigit_17 rfl (show (0 : Int32) = b2i false from rfl) PoB_mk
  have KFb1 : ¬ b1 = true → V g mX9_isDigit (d + 1) 0 0 n r I L 12 [some (.int v1)] [] (PoB n r res I L) := fun hc => by
    replace hf := (if_neg hc).symm.trans hf
    refine V_iconst (pc := 12) dX9_isDigit_12 ic_1 rfl ?_
    refine V_goto (pc := 13) (tgt := 17) dX9_isDigit_13 (by decide) ?_
    cases hf
    exact V_zretE (pc := 17) dX9_isDigit_17 rfl (show (1 : Int32) = b2i true from rfl) PoB_mk
  refine V_icmp_lt (pc := 3) (tgt := 16) dX9_isDigit_3 (by decide) rfl (fun hc => ?_) (fun hc => ?_)
  · replace hb1 := (if_pos hc).symm.trans hb1
    cases hb1
    exact KTb1 rfl
  · replace hb1 := (if_neg hc).symm.trans hb1
    refine V_iload_n (pc := 6) dX9_isDigit_6 rfl rfl rfl ?_
    refine V_bipush (pc := 7) dX9_isDigit_7 bp_57 rfl ?_
    refine V_icmp_gt (pc := 9) (tgt := 16) dX9_isDigit_9 (by decide) rfl (fun hc => ?_) (fun hc => ?_)
    · replace hb1 := (if_pos hc).symm.trans hb1
      cases hb1
      exact KTb1 rfl
    · replace hb1 := (if_neg hc).symm.trans hb1
      cases hb1
      exact KFb1 (nbt rfl)
/-! ShadowDoors$Looks.forget -/
noncomputable def fX3_forget (I : HI) : HI :=
  let I1 : HI := up2 I 66 0 (0 : Int32)
  let I2 : HI := up2 I1 66 8 (0 : Int32)
  let I3 : HI := up2 I2 66 9 (0 : Int32)
  I3
set_option maxRecDepth 100000 in
set_option maxHeartbeats 4000000 in
theorem tX3_forget {g : GG} {n d : Nat} {tw dr sk tl ff : Nat} (hG : RG tw dr sk tl ff) (hn : 116 ≤ n) {I : HI} {L : HL} {res : HI} (hf : fX3_forget I = res) : CT g mX3_forget (d + 1) 0 0 n (RT tw dr sk tl ff) I L [.ref 66] (PoV n (RT tw dr sk tl ff) res L) := by
  refine CT.of rfl (Nat.le_of_ble_eq_true rfl) ?_
  show V g mX3_forget (d + 1) 0 0 n (RT tw dr sk tl ff) I L 0 [some (.ref 66)] [] (PoV n (RT tw dr sk tl ff) res L)
  refine V_aload_n (pc := 0) dX3_forget_0 rfl rfl rfl ?_
  refine V_iconst (pc := 1) dX3_forget_1 ic_0 rfl ?_
  let I1 : HI := up2 I 66 0 (0 : Int32)
  refine V_putI (pc := 2) dX3_forget_2 flX3_31 rfl rfl (by omega) (congrArg Prod.fst sh_66) rfl ?_
  refine V_aload_n (pc := 5) dX3_forget_5 rfl rfl rfl ?_
  refine V_iconst (pc := 6) dX3_forget_6 ic_0 rfl ?_
  let I2 : HI := up2 I1 66 8 (0 : Int32)
  refine V_putI (pc := 7) dX3_forget_7 flX3_35 rfl rfl (by omega) (congrArg Prod.fst sh_66) rfl ?_
  refine V_aload_n (pc := 10) dX3_forget_10 rfl rfl rfl ?_
  refine V_iconst (pc := 11) dX3_forget_11 ic_0 rfl ?_
  let I3 : HI := up2 I2 66 9 (0 : Int32)
  refine V_putI (pc := 12) dX3_forget_12 flX3_38 rfl rfl (by omega) (congrArg Prod.fst sh_66) rfl ?_
  cases hf
  exact V_vret (pc := 15) dX3_forget_15 rfl PoV_mk
/-! ShadowDoors$Looks.tell -/
noncomputable def fX3_tell (v1 : Int32) (v2 : Int32) (v3 : Int32) (I : HI) : Option (Int32 × HI) :=
  if (I 66 0) < (30 : Int32) then
    if inb (I 66 0) 30 = true then
      let I2 : HI := up2 I 67 (I 66 0).toNatClampNeg v1
      if inb (I2 66 0) 30 = true then
        let I4 : HI := up2 I2 68 (I2 66 0).toNatClampNeg v2
        if inb (I4 66 0) 30 = true then
          let I6 : HI := up2 I4 69 (I4 66 0).toNatClampNeg (I4 66 1)
          Option.bind (
            if v3 = 0 then
              some I6
            else
              let I9 : HI := up2 I6 66 8 ((I6 66 8) ||| ((1 : Int32) <<< ((I6 66 0) &&& 31)))
              some I9
          ) fun q8 =>
          let I10 : HI := up2 q8 66 0 ((q8 66 0) + (1 : Int32))
          some (((I10 66 0) - (1 : Int32)), I10)
        else none
      else none
    else none
  else
    some ((-1 : Int32), I)
set_option maxRecDepth 100000 in
set_option maxHeartbeats 4000000 in
theorem tX3_tell {g : GG} {n d : Nat} {tw dr sk tl ff : Nat} (hG : RG tw dr sk tl ff) (hn : 116 ≤ n) {v1 : Int32} {v2 : Int32} {v3 : Int32} {I : HI} {L : HL} {res : Int32 × HI} (hf : fX3_tell v1 v2 v3 I = some res) : CT g mX3_tell (d + 1) 0 0 n (RT tw dr sk tl ff) I L [.ref 66, .int v1, .int v2, .int v3] (PoI n (RT tw dr sk tl ff) res.1 res.2 L) := by
  refine CT.of rfl (Nat.le_of_ble_eq_true rfl) ?_
  show V g mX3_tell (d + 1) 0 0 n (RT tw dr sk tl ff) I L 0 [some (.ref 66), some (.int v1), some (.int v2), some (.int v3)] [] (PoI n (RT tw dr sk tl ff) res.1 res.2 L)
  refine V_aload_n (pc := 0) dX3_tell_0 rfl rfl rfl ?_
  refine V_getI (pc := 1) dX3_tell_1 flX3_31 rfl (by omega) (congrArg Prod.fst sh_66) rfl ?_
  refine V_bipush (pc := 4) dX3_tell_4 bp_30 rfl ?_
  refine V_icmp_lt (pc := 6) (tgt := 11) dX3_tell_6 (by decide) rfl (fun hc => ?_) (fun hc => ?_)
  · replace hf := (if_pos hc).symm.trans hf
    refine V_aload_n (pc := 11) dX3_tell_11 rfl rfl rfl ?_
    refine V_getR (pc := 12) dX3_tell_12 flX3_9 rfl (by omega) (congrArg Prod.fst sh_66) rt_66_4 rfl ?_
    refine V_aload_n (pc := 15) dX3_tell_15 rfl rfl rfl ?_
    refine V_getI (pc := 16) dX3_tell_16 flX3_31 rfl (by omega) (congrArg Prod.fst sh_66) rfl ?_
    refine V_iload_n (pc := 19) dX3_tell_19 rfl rfl rfl ?_
    obtain ⟨hc1, hf⟩ := pif hf
    let I2 : HI := up2 I 67 (I 66 0).toNatClampNeg v1
    refine V_iast (pc := 20) dX3_tell_20 (by omega) sh_67 hc1 rfl ?_
    refine V_aload_n (pc := 21) dX3_tell_21 rfl rfl rfl ?_
    refine V_getR (pc := 22) dX3_tell_22 flX3_15 rfl (by omega) (congrArg Prod.fst sh_66) rt_66_5 rfl ?_
    refine V_aload_n (pc := 25) dX3_tell_25 rfl rfl rfl ?_
    refine V_getI (pc := 26) dX3_tell_26 flX3_31 rfl (by omega) (congrArg Prod.fst sh_66) rfl ?_
    refine V_iload_n (pc := 29) dX3_tell_29 rfl rfl rfl ?_
    obtain ⟨hc3, hf⟩ := pif hf
    let I4 : HI := up2 I2 68 (I2 66 0).toNatClampNeg v2
    refine V_iast (pc := 30) dX3_tell_30 (by omega) sh_68 hc3 rfl ?_
    refine V_aload_n (pc := 31) dX3_tell_31 rfl rfl rfl ?_
    refine V_getR (pc := 32) dX3_tell_32 flX3_18 rfl (by omega) (congrArg Prod.fst sh_66) rt_66_6 rfl ?_
    refine V_aload_n (pc := 35) dX3_tell_35 rfl rfl rfl ?_
    refine V_getI (pc := 36) dX3_tell_36 flX3_31 rfl (by omega) (congrArg Prod.fst sh_66) rfl ?_
    refine V_aload_n (pc := 39) dX3_tell_39 rfl rfl rfl ?_
    refine V_getI (pc := 40) dX3_tell_40 flX3_41 rfl (by omega) (congrArg Prod.fst sh_66) rfl ?_
    obtain ⟨hc5, hf⟩ := pif hf
    let I6 : HI := up2 I4 69 (I4 66 0).toNatClampNeg (I4 66 1)
    refine V_iast (pc := 43) dX3_tell_43 (by omega) sh_69 hc5 rfl ?_
    refine V_iload_n (pc := 44) dX3_tell_44 rfl rfl rfl ?_
    obtain ⟨q8, hq8, hf⟩ := bnd hf
    have Kq8 : V g mX3_tell (d + 1) 0 0 n (RT tw dr sk tl ff) q8 L 63 [some (.ref 66)] [] (PoI n (RT tw dr sk tl ff) res.1 res.2 L) := by
      refine V_aload_n (pc := 63) dX3_tell_63 rfl rfl rfl ?_
      refine V_dup (pc := 64) dX3_tell_64 rfl rfl ?_
      refine V_getI (pc := 65) dX3_tell_65 flX3_31 rfl (by omega) (congrArg Prod.fst sh_66) rfl ?_
      refine V_iconst (pc := 68) dX3_tell_68 ic_1 rfl ?_
      refine V_iadd (pc := 69) dX3_tell_69 rfl ?_
      let I10 : HI := up2 q8 66 0 ((q8 66 0) + (1 : Int32))
      refine V_putI (pc := 70) dX3_tell_70 flX3_31 rfl rfl (by omega) (congrArg Prod.fst sh_66) rfl ?_
      refine V_aload_n (pc := 73) dX3_tell_73 rfl rfl rfl ?_
      refine V_getI (pc := 74) dX3_tell_74 flX3_31 rfl (by omega) (congrArg Prod.fst sh_66) rfl ?_
      refine V_iconst (pc := 77) dX3_tell_77 ic_1 rfl ?_
      refine V_isub (pc := 78) dX3_tell_78 rfl ?_
      cases hf
      exact V_iret (pc := 79) dX3_tell_79 rfl PoI_mk
    refine V_if_eq (pc := 45) (tgt := 63) dX3_tell_45 (by decide) rfl (fun hc => ?_) (fun hc => ?_)
    · replace hq8 := (if_pos hc).symm.trans hq8
      cases hq8
      exact V_wk Kq8 ⟨rfl, trivial⟩
    · replace hq8 := (if_neg hc).symm.trans hq8
      refine V_aload_n (pc := 48) dX3_tell_48 rfl rfl rfl ?_
      refine V_dup (pc := 49) dX3_tell_49 rfl rfl ?_
      refine V_getI (pc := 50) dX3_tell_50 flX3_35 rfl (by omega) (congrArg Prod.fst sh_66) rfl ?_
      refine V_iconst (pc := 53) dX3_tell_53 ic_1 rfl ?_
      refine V_aload_n (pc := 54) dX3_tell_54 rfl rfl rfl ?_
      refine V_getI (pc := 55) dX3_tell_55 flX3_31 rfl (by omega) (congrArg Prod.fst sh_66) rfl ?_
      refine V_ishl (pc := 58) dX3_tell_58 rfl ?_
      refine V_ior (pc := 59) dX3_tell_59 rfl ?_
      let I9 : HI := up2 I6 66 8 ((I6 66 8) ||| ((1 : Int32) <<< ((I6 66 0) &&& 31)))
      refine V_putI (pc := 60) dX3_tell_60 flX3_35 rfl rfl (by omega) (congrArg Prod.fst sh_66) rfl ?_
      cases hq8
      exact V_wk Kq8 ⟨rfl, trivial⟩
  · replace hf := (if_neg hc).symm.trans hf
    refine V_iconst (pc := 9) dX3_tell_9 ic_m1 rfl ?_
    cases hf
    exact V_iret (pc := 10) dX3_tell_10 rfl PoI_mk
/-! ShadowDoors.isBit -/
noncomputable def fX11_isBit (v1 : Int32) (v2 : Int32) : Bool :=
  if ((v1.toUInt32 >>> (v2.toUInt32 &&& Int32.toUInt32 31)).toInt32 &&& (1 : Int32)) = 0 then
    false
  else
    true
set_option maxRecDepth 100000 in
set_option maxHeartbeats 4000000 in
theorem tX11_isBit {g : GG} {n d : Nat} {r : HR}  {v1 : Int32} {v2 : Int32} {I : HI} {L : HL} {res : Bool} (hf : fX11_isBit v1 v2 = res) : CT g mX11_isBit (d + 1) 0 0 n r I L [.int v1, .int v2] (PoB n r res I L) := by
  refine CT.of rfl (Nat.le_of_ble_eq_true rfl) ?_
  show V g mX11_isBit (d + 1) 0 0 n r I L 0 [some (.int v1), some (.int v2)] [] (PoB n r res I L)
  refine V_iload_n (pc := 0) dX11_isBit_0 rfl rfl rfl ?_
  refine V_iload_n (pc := 1) dX11_isBit_1 rfl rfl rfl ?_
  refine V_iushr (pc := 2) dX11_isBit_2 rfl ?_
  refine V_iconst (pc := 3) dX11_isBit_3 ic_1 rfl ?_
  refine V_iand (pc := 4) dX11_isBit_4 rfl ?_
  refine V_if_eq (pc := 5) (tgt := 12) dX11_isBit_5 (by decide) rfl (fun hc => ?_) (fun hc => ?_)
  · replace hf := (if_pos hc).symm.trans hf
    refine V_iconst (pc := 12) dX11_isBit_12 ic_0 rfl ?_
    cases hf
    exact V_zretE (pc := 13) dX11_isBit_13 rfl (show (0 : Int32) = b2i false from rfl) PoB_mk
  · replace hf := (if_neg hc).symm.trans hf
    refine V_iconst (pc := 8) dX11_isBit_8 ic_1 rfl ?_
    refine V_goto (pc := 9) (tgt := 13) dX11_isBit_9 (by decide) ?_
    cases hf
    exact V_zretE (pc := 13) dX11_isBit_13 rfl (show (1 : Int32) = b2i true from rfl) PoB_mk
/-! ShadowDoors$Looks.takeBack -/
noncomputable def fX3_takeBack (v1 : Int32) (I : HI) : Option (Bool × HI) :=
  Option.bind (
    if v1 < 0 then
      some true
    else
      if (I 66 0) ≤ v1 then
        some true
      else
        if (b2i (fX11_isBit (I 66 9) v1)) = 0 then
          some false
        else
          some true
  ) fun b1 =>
  if b1 = true then
    some (false, I)
  else
    let I2 : HI := up2 I 66 9 ((I 66 9) ||| ((1 : Int32) <<< (v1 &&& 31)))
    if inb v1 30 = true then
      let I4 : HI := up2 I2 70 v1.toNatClampNeg (I2 66 1)
      some (true, I4)
    else none
set_option maxRecDepth 100000 in
set_option maxHeartbeats 4000000 in
theorem tX3_takeBack {g : GG} {n d : Nat} {tw dr sk tl ff : Nat} (hG : RG tw dr sk tl ff) (hn : 116 ≤ n) {v1 : Int32} {I : HI} {L : HL} {res : Bool × HI} (hf : fX3_takeBack v1 I = some res) : CT g mX3_takeBack (d + 2) 0 0 n (RT tw dr sk tl ff) I L [.ref 66, .int v1] (PoB n (RT tw dr sk tl ff) res.1 res.2 L) := by
  refine CT.of rfl (Nat.le_of_ble_eq_true rfl) ?_
  show V g mX3_takeBack (d + 2) 0 0 n (RT tw dr sk tl ff) I L 0 [some (.ref 66), some (.int v1)] [] (PoB n (RT tw dr sk tl ff) res.1 res.2 L)
  refine V_iload_n (pc := 0) dX3_takeBack_0 rfl rfl rfl ?_
  obtain ⟨b1, hb1, hf⟩ := bnd hf
  have KTb1 : b1 = true → V g mX3_takeBack (d + 2) 0 0 n (RT tw dr sk tl ff) I L 23 [some (.ref 66), some (.int v1)] [] (PoB n (RT tw dr sk tl ff) res.1 res.2 L) := fun hc => by
    replace hf := (if_pos hc).symm.trans hf
    refine V_iconst (pc := 23) dX3_takeBack_23 ic_0 rfl ?_
    cases hf
    exact V_zretE (pc := 24) dX3_takeBack_24 rfl (show (0 : Int32) = b2i false from rfl) PoB_mk
  have KFb1 : ¬ b1 = true → V g mX3_takeBack (d + 2) 0 0 n (RT tw dr sk tl ff) I L 25 [some (.ref 66), some (.int v1)] [] (PoB n (RT tw dr sk tl ff) res.1 res.2 L) := fun hc => by
    replace hf := (if_neg hc).symm.trans hf
    refine V_aload_n (pc := 25) dX3_takeBack_25 rfl rfl rfl ?_
    refine V_dup (pc := 26) dX3_takeBack_26 rfl rfl ?_
    refine V_getI (pc := 27) dX3_takeBack_27 flX3_38 rfl (by omega) (congrArg Prod.fst sh_66) rfl ?_
    refine V_iconst (pc := 30) dX3_takeBack_30 ic_1 rfl ?_
    refine V_iload_n (pc := 31) dX3_takeBack_31 rfl rfl rfl ?_
    refine V_ishl (pc := 32) dX3_takeBack_32 rfl ?_
    refine V_ior (pc := 33) dX3_takeBack_33 rfl ?_
    let I2 : HI := up2 I 66 9 ((I 66 9) ||| ((1 : Int32) <<< (v1 &&& 31)))
    refine V_putI (pc := 34) dX3_takeBack_34 flX3_38 rfl rfl (by omega) (congrArg Prod.fst sh_66) rfl ?_
    refine V_aload_n (pc := 37) dX3_takeBack_37 rfl rfl rfl ?_
    refine V_getR (pc := 38) dX3_takeBack_38 flX3_21 rfl (by omega) (congrArg Prod.fst sh_66) rt_66_7 rfl ?_
    refine V_iload_n (pc := 41) dX3_takeBack_41 rfl rfl rfl ?_
    refine V_aload_n (pc := 42) dX3_takeBack_42 rfl rfl rfl ?_
    refine V_getI (pc := 43) dX3_takeBack_43 flX3_41 rfl (by omega) (congrArg Prod.fst sh_66) rfl ?_
    obtain ⟨hc3, hf⟩ := pif hf
    let I4 : HI := up2 I2 70 v1.toNatClampNeg (I2 66 1)
    refine V_iast (pc := 46) dX3_takeBack_46 (by omega) sh_70 hc3 rfl ?_
    refine V_iconst (pc := 47) dX3_takeBack_47 ic_1 rfl ?_
    cases hf
    exact V_zretE (pc := 48) dX3_takeBack_48 rfl (show (1 : Int32) = b2i true from rfl) PoB_mk
  refine V_if_lt (pc := 1) (tgt := 23) dX3_takeBack_1 (by decide) rfl (fun hc => ?_) (fun hc => ?_)
  · replace hb1 := (if_pos hc).symm.trans hb1
    cases hb1
    exact KTb1 rfl
  · replace hb1 := (if_neg hc).symm.trans hb1
    refine V_iload_n (pc := 4) dX3_takeBack_4 rfl rfl rfl ?_
    refine V_aload_n (pc := 5) dX3_takeBack_5 rfl rfl rfl ?_
    refine V_getI (pc := 6) dX3_takeBack_6 flX3_31 rfl (by omega) (congrArg Prod.fst sh_66) rfl ?_
    refine V_icmp_ge (pc := 9) (tgt := 23) dX3_takeBack_9 (by decide) rfl (fun hc => ?_) (fun hc => ?_)
    · replace hb1 := (if_pos hc).symm.trans hb1
      cases hb1
      exact KTb1 rfl
    · replace hb1 := (if_neg hc).symm.trans hb1
      refine V_aload_n (pc := 12) dX3_takeBack_12 rfl rfl rfl ?_
      refine V_getI (pc := 13) dX3_takeBack_13 flX3_38 rfl (by omega) (congrArg Prod.fst sh_66) rfl ?_
      refine V_iload_n (pc := 16) dX3_takeBack_16 rfl rfl rfl ?_
      refine V_cNz (md' := mX11_isBit) (k := 6) (pc := 17) dX3_takeBack_17 rfl mSX11_isBit (tX11_isBit rfl) rfl rfl (Nat.le_of_ble_eq_true rfl) rfl ?_
      refine V_if_eq (pc := 20) (tgt := 25) dX3_takeBack_20 (by decide) rfl (fun hc => ?_) (fun hc => ?_)
      · replace hb1 := (if_pos hc).symm.trans hb1
        cases hb1
        exact KFb1 (nbt rfl)
      · replace hb1 := (if_neg hc).symm.trans hb1
        cases hb1
        exact KTb1 rfl
/-! ShadowDoors$Looks.counts -/
noncomputable def fX3_counts (v1 : Int32) (v2 : Int32) (I : HI) : Option (Bool) :=
  if inb v1 30 = true then
    Option.bind (
      if v2 < (I 69 v1.toNatClampNeg) then
        some true
      else
        if (b2i (fX11_isBit (I 66 9) v1)) = 0 then
          some false
        else
          if inb v1 30 = true then
            if (I 70 v1.toNatClampNeg) ≤ v2 then
              some true
            else
              some false
          else none
    ) fun b2 =>
    if b2 = true then
      some false
    else
      some true
  else none
set_option maxRecDepth 100000 in
set_option maxHeartbeats 4000000 in
theorem tX3_counts {g : GG} {n d : Nat} {tw dr sk tl ff : Nat} (hG : RG tw dr sk tl ff) (hn : 116 ≤ n) {v1 : Int32} {v2 : Int32} {I : HI} {L : HL} {res : Bool} (hf : fX3_counts v1 v2 I = some res) : CT g mX3_counts (d + 2) 0 0 n (RT tw dr sk tl ff) I L [.ref 66, .int v1, .int v2] (PoB n (RT tw dr sk tl ff) res I L) := by
  refine CT.of rfl (Nat.le_of_ble_eq_true rfl) ?_
  show V g mX3_counts (d + 2) 0 0 n (RT tw dr sk tl ff) I L 0 [some (.ref 66), some (.int v1), some (.int v2)] [] (PoB n (RT tw dr sk tl ff) res I L)
  refine V_aload_n (pc := 0) dX3_counts_0 rfl rfl rfl ?_
  refine V_getR (pc := 1) dX3_counts_1 flX3_18 rfl (by omega) (congrArg Prod.fst sh_66) rt_66_6 rfl ?_
  refine V_iload_n (pc := 4) dX3_counts_4 rfl rfl rfl ?_
  obtain ⟨hc1, hf⟩ := pif hf
  refine V_iald (pc := 5) dX3_counts_5 (by omega) sh_69 hc1 rfl ?_
  refine V_iload_n (pc := 6) dX3_counts_6 rfl rfl rfl ?_
  obtain ⟨b2, hb2, hf⟩ := bnd hf
  have KTb2 : b2 = true → V g mX3_counts (d + 2) 0 0 n (RT tw dr sk tl ff) I L 35 [some (.ref 66), some (.int v1), some (.int v2)] [] (PoB n (RT tw dr sk tl ff) res I L) := fun hc => by
    replace hf := (if_pos hc).symm.trans hf
    refine V_iconst (pc := 35) dX3_counts_35 ic_0 rfl ?_
    cases hf
    exact V_zretE (pc := 36) dX3_counts_36 rfl (show (0 : Int32) = b2i false from rfl) PoB_mk
  have KFb2 : ¬ b2 = true → V g mX3_counts (d + 2) 0 0 n (RT tw dr sk tl ff) I L 31 [some (.ref 66), some (.int v1), some (.int v2)] [] (PoB n (RT tw dr sk tl ff) res I L) := fun hc => by
    replace hf := (if_neg hc).symm.trans hf
    refine V_iconst (pc := 31) dX3_counts_31 ic_1 rfl ?_
    refine V_goto (pc := 32) (tgt := 36) dX3_counts_32 (by decide) ?_
    cases hf
    exact V_zretE (pc := 36) dX3_counts_36 rfl (show (1 : Int32) = b2i true from rfl) PoB_mk
  refine V_icmp_gt (pc := 7) (tgt := 35) dX3_counts_7 (by decide) rfl (fun hc => ?_) (fun hc => ?_)
  · replace hb2 := (if_pos hc).symm.trans hb2
    cases hb2
    exact KTb2 rfl
  · replace hb2 := (if_neg hc).symm.trans hb2
    refine V_aload_n (pc := 10) dX3_counts_10 rfl rfl rfl ?_
    refine V_getI (pc := 11) dX3_counts_11 flX3_38 rfl (by omega) (congrArg Prod.fst sh_66) rfl ?_
    refine V_iload_n (pc := 14) dX3_counts_14 rfl rfl rfl ?_
    refine V_cNz (md' := mX11_isBit) (k := 6) (pc := 15) dX3_counts_15 rfl mSX11_isBit (tX11_isBit rfl) rfl rfl (Nat.le_of_ble_eq_true rfl) rfl ?_
    refine V_if_eq (pc := 18) (tgt := 31) dX3_counts_18 (by decide) rfl (fun hc => ?_) (fun hc => ?_)
    · replace hb2 := (if_pos hc).symm.trans hb2
      cases hb2
      exact KFb2 (nbt rfl)
    · replace hb2 := (if_neg hc).symm.trans hb2
      refine V_aload_n (pc := 21) dX3_counts_21 rfl rfl rfl ?_
      refine V_getR (pc := 22) dX3_counts_22 flX3_21 rfl (by omega) (congrArg Prod.fst sh_66) rt_66_7 rfl ?_
      refine V_iload_n (pc := 25) dX3_counts_25 rfl rfl rfl ?_
      obtain ⟨hc3, hb2⟩ := pif hb2
      refine V_iald (pc := 26) dX3_counts_26 (by omega) sh_70 hc3 rfl ?_
      refine V_iload_n (pc := 27) dX3_counts_27 rfl rfl rfl ?_
      refine V_icmp_le (pc := 28) (tgt := 35) dX3_counts_28 (by decide) rfl (fun hc => ?_) (fun hc => ?_)
      · replace hb2 := (if_pos hc).symm.trans hb2
        cases hb2
        exact KTb2 rfl
      · replace hb2 := (if_neg hc).symm.trans hb2
        cases hb2
        exact KFb2 (nbt rfl)
/-! ShadowDoors$Sky.cut -/
noncomputable def fX7_cut (v1 : Int32) : Int32 :=
  (if (-8 : Int32) < (if v1 < (8 : Int32) then v1 else (8 : Int32)) then (if v1 < (8 : Int32) then v1 else (8 : Int32)) else (-8 : Int32))
set_option maxRecDepth 100000 in
set_option maxHeartbeats 4000000 in
theorem tX7_cut {g : GG} {n d : Nat} {r : HR}  {v1 : Int32} {I : HI} {L : HL} {res : Int32} (hf : fX7_cut v1 = res) : CT g mX7_cut (d + 2) 0 0 n r I L [.int v1] (PoI n r res I L) := by
  refine CT.of rfl (Nat.le_of_ble_eq_true rfl) ?_
  show V g mX7_cut (d + 2) 0 0 n r I L 0 [some (.int v1)] [] (PoI n r res I L)
  refine V_bipush (pc := 0) dX7_cut_0 bp_m8 rfl ?_
  refine V_bipush (pc := 2) dX7_cut_2 bp_8 rfl ?_
  refine V_iload_n (pc := 4) dX7_cut_4 rfl rfl rfl ?_
  refine V_mmin (pc := 5) dX7_cut_5 mlX7_107 (Nat.le_of_ble_eq_true rfl) rfl ?_
  refine V_mmax (pc := 8) dX7_cut_8 mlX7_113 (Nat.le_of_ble_eq_true rfl) rfl ?_
  cases hf
  exact V_iret (pc := 11) dX7_cut_11 rfl PoI_mk
/-! ShadowDoors$Looks.findLengths -/
noncomputable def fX3_findLengths_2 (qq1 : Nat) : Nat → Int32 → Int32 → HI → Option (HI)
  | 0, _, _, _ => none
  | fu + 1, y2, y3, I =>
    if (4 : Int32) ≤ y3 then
      some I
    else
      Option.bind (fX1_valueFor (qq1 + 19) (y3 + (1 : Int32)) y2 (0 : Int32) I) fun q1 =>
      if inb y3 4 = true then
        let I3 : HI := up2 q1.2 72 y3.toNatClampNeg (fX7_cut q1.1)
        fX3_findLengths_2 qq1 fu y2 (y3 + (1 : Int32)) I3
      else none
set_option maxRecDepth 100000 in
set_option maxHeartbeats 4000000 in
theorem lX3_findLengths_2 {g : GG} {n d : Nat} {tw dr sk tl ff : Nat} {qq1 : Nat} (hG : RG tw dr sk tl ff) (hn : 116 ≤ n) (hqq1 : isQ qq1) {P : PP} : ∀ (fu : Nat) (y2 : Int32) (y3 : Int32) (I : HI) (L : HL) (res : HI), fX3_findLengths_2 qq1 fu y2 y3 I = some res → P none n (RT tw dr sk tl ff) res L → V g mX3_findLengths (d + 3) 0 0 n (RT tw dr sk tl ff) I L 2 [some (.ref 66), some (.ref qq1), some (.int y2), some (.int y3)] [] P := by
  intro fu
  induction fu with
  | zero => intro y2 y3 I L res hf; cases (show none = some res from hf)
  | succ fu ih =>
    intro y2 y3 I L res hf K
    refine V_iload_n (pc := 2) dX3_findLengths_2 rfl rfl rfl ?_
    refine V_iconst (pc := 3) dX3_findLengths_3 ic_4 rfl ?_
    refine V_icmp_ge (pc := 4) (tgt := 34) dX3_findLengths_4 (by decide) rfl (fun hc => ?_) (fun hc => ?_)
    · replace hf := (if_pos hc).symm.trans hf
      cases hf
      exact V_vret (pc := 34) dX3_findLengths_34 rfl K
    · replace hf := (if_neg hc).symm.trans hf
      refine V_aload_n (pc := 7) dX3_findLengths_7 rfl rfl rfl ?_
      refine V_getR (pc := 8) dX3_findLengths_8 flX3_28 rfl (by omega) (congrArg Prod.fst sh_66) rt_66_11 rfl ?_
      refine V_iload_n (pc := 11) dX3_findLengths_11 rfl rfl rfl ?_
      refine V_aload_n (pc := 12) dX3_findLengths_12 rfl rfl rfl ?_
      refine V_getR (pc := 13) dX3_findLengths_13 flX3_90 rfl (by omega) (congrArg Prod.fst (shQ hqq1)) (rQ_9 (rQ_RT hqq1)) rfl ?_
      refine V_iload_n (pc := 16) dX3_findLengths_16 rfl rfl rfl ?_
      refine V_iconst (pc := 17) dX3_findLengths_17 ic_1 rfl ?_
      refine V_iadd (pc := 18) dX3_findLengths_18 rfl ?_
      refine V_iload_n (pc := 19) dX3_findLengths_19 rfl rfl rfl ?_
      refine V_iconst (pc := 20) dX3_findLengths_20 ic_0 rfl ?_
      obtain ⟨q1, hq1, hf⟩ := bnd hf
      refine V_cVi (md' := mX1_valueFor) (pc := 21) dX3_findLengths_21 mlX3_94 mVX1_valueFor (tX1_valueFor (qF_9 hqq1) (rQ_s9 (rQ_RT hqq1)) (by omega) hq1) rfl (by omega) (congrArg Prod.fst (shF (qF_9 hqq1))) rfl (Nat.le_of_ble_eq_true rfl) rfl ?_
      refine V_cSi (md' := mX7_cut) (pc := 24) dX3_findLengths_24 mlX3_100 mSX7_cut (tX7_cut rfl) rfl rfl (Nat.le_of_ble_eq_true rfl) rfl ?_
      obtain ⟨hc2, hf⟩ := pif hf
      let I3 : HI := up2 q1.2 72 y3.toNatClampNeg (fX7_cut q1.1)
      refine V_iast (pc := 27) dX3_findLengths_27 (by omega) sh_72 hc2 rfl ?_
      refine V_iinc (ls' := [some _, some _, some _, some _]) (pc := 28) dX3_findLengths_28 rfl (Nat.le_of_ble_eq_true rfl) (congrArg _ ic_1) rfl rfl ?_
      refine V_goto (pc := 31) (tgt := 2) dX3_findLengths_31 (by decide) ?_
      exact V_wk (ih _ _ _ _ _ hf K) ⟨rfl, ⟨rfl, ⟨rfl, ⟨rfl, trivial⟩⟩⟩⟩
noncomputable def fX3_findLengths (qq1 : Nat) (v2 : Int32) (I : HI) : Option (HI) :=
  Option.bind (fX3_findLengths_2 qq1 FUEL v2 (0 : Int32) I) fun q4 =>
  some q4
set_option maxRecDepth 100000 in
set_option maxHeartbeats 4000000 in
theorem tX3_findLengths {g : GG} {n d : Nat} {tw dr sk tl ff : Nat} {qq1 : Nat} (hG : RG tw dr sk tl ff) (hn : 116 ≤ n) (hqq1 : isQ qq1) {v2 : Int32} {I : HI} {L : HL} {res : HI} (hf : fX3_findLengths qq1 v2 I = some res) : CT g mX3_findLengths (d + 3) 0 0 n (RT tw dr sk tl ff) I L [.ref 66, .ref qq1, .int v2] (PoV n (RT tw dr sk tl ff) res L) := by
  refine CT.of rfl (Nat.le_of_ble_eq_true rfl) ?_
  show V g mX3_findLengths (d + 3) 0 0 n (RT tw dr sk tl ff) I L 0 [some (.ref 66), some (.ref qq1), some (.int v2)] [] (PoV n (RT tw dr sk tl ff) res L)
  refine V_iconst (pc := 0) dX3_findLengths_0 ic_0 rfl ?_
  refine V_istore_n (ls' := [some _, some _, some _, some _]) (pc := 1) dX3_findLengths_1 rfl (Nat.le_of_ble_eq_true rfl) rfl rfl ?_
  obtain ⟨q4, hq4, hf⟩ := bnd hf
  refine V_wk (lX3_findLengths_2 hG hn hqq1 FUEL _ _ _ _ _ hq4 ?_) ⟨rfl, ⟨rfl, ⟨rfl, ⟨rfl, trivial⟩⟩⟩⟩
  cases hf
  exact PoV_mk
/-! ShadowDoors$Quarter.rowBits -/
noncomputable def fX5_rowBits (qq : Nat) (v1 : Int32) (v2 : Int32) (I : HI) : Option (Int64) :=
  Option.bind (
    if (I qq 0) ≤ 0 then
      some (0 : Int32)
    else
      if (I qq 0) = 0 then none else
      some (v1 - v1 / (I qq 0) * (I qq 0))
  ) fun q2 =>
  if v2 ≤ 0 then
    let x4 : Int32 := (if q2 < (-(if v2 < (-8 : Int32) then (-8 : Int32) else v2)) then q2 else (-(if v2 < (-8 : Int32) then (-8 : Int32) else v2)))
    some ((((1 : Int64) <<< (x4.toInt64 &&& 63)) - (1 : Int64)) <<< ((v1 - x4).toInt64 &&& 63))
  else
    let x5 : Int32 := (if (((I qq 0) - (1 : Int32)) - q2) < v2 then (((I qq 0) - (1 : Int32)) - q2) else v2)
    some ((((1 : Int64) <<< (x5.toInt64 &&& 63)) - (1 : Int64)) <<< ((v1 + (1 : Int32)).toInt64 &&& 63))
set_option maxRecDepth 100000 in
set_option maxHeartbeats 4000000 in
theorem tX5_rowBits {g : GG} {n d : Nat} {r : HR} {qq : Nat} (hqq : isQ qq) (hr : rQ r qq) (hn : qq + 23 ≤ n) {v1 : Int32} {v2 : Int32} {I : HI} {L : HL} {res : Int64} (hf : fX5_rowBits qq v1 v2 I = some res) : CT g mX5_rowBits (d + 2) 0 0 n r I L [.ref qq, .int v1, .int v2] (PoL n r res I L) := by
  refine CT.of rfl (Nat.le_of_ble_eq_true rfl) ?_
  show V g mX5_rowBits (d + 2) 0 0 n r I L 0 [some (.ref qq), some (.int v1), some (.int v2)] [] (PoL n r res I L)
  refine V_aload_n (pc := 0) dX5_rowBits_0 rfl rfl rfl ?_
  refine V_getI (pc := 1) dX5_rowBits_1 flX5_59 rfl (by omega) (congrArg Prod.fst (shQ hqq)) rfl ?_
  obtain ⟨q2, hq2, hf⟩ := bnd hf
  have Kq2 : V g mX5_rowBits (d + 2) 0 0 n r I L 17 [some (.ref qq), some (.int v1), some (.int v2)] [.int q2] (PoL n r res I L) := by
    refine V_istore_n (ls' := [some _, some _, some _, some _]) (pc := 17) dX5_rowBits_17 rfl (Nat.le_of_ble_eq_true rfl) rfl rfl ?_
    refine V_iload_n (pc := 18) dX5_rowBits_18 rfl rfl rfl ?_
    refine V_if_le (pc := 19) (tgt := 47) dX5_rowBits_19 (by decide) rfl (fun hc => ?_) (fun hc => ?_)
    · replace hf := (if_pos hc).symm.trans hf
      refine V_iload_n (pc := 47) dX5_rowBits_47 rfl rfl rfl ?_
      refine V_bipush (pc := 48) dX5_rowBits_48 bp_m8 rfl ?_
      refine V_mmax (pc := 50) dX5_rowBits_50 mlX5_92 (Nat.le_of_ble_eq_true rfl) rfl ?_
      refine V_ineg (pc := 53) dX5_rowBits_53 rfl ?_
      refine V_iload_n (pc := 54) dX5_rowBits_54 rfl rfl rfl ?_
      refine V_mmin (pc := 55) dX5_rowBits_55 mlX5_86 (Nat.le_of_ble_eq_true rfl) rfl ?_
      let x4 : Int32 := (if q2 < (-(if v2 < (-8 : Int32) then (-8 : Int32) else v2)) then q2 else (-(if v2 < (-8 : Int32) then (-8 : Int32) else v2)))
      refine V_istore (ls' := [some _, some _, some _, some _, some _]) (pc := 58) dX5_rowBits_58 (Nat.le_of_ble_eq_true rfl) rfl rfl ?_
      refine V_lconst (pc := 60) dX5_rowBits_60 lc_1 rfl ?_
      refine V_iload (pc := 61) dX5_rowBits_61 rfl rfl ?_
      refine V_lshl (pc := 63) dX5_rowBits_63 rfl ?_
      refine V_lconst (pc := 64) dX5_rowBits_64 lc_1 rfl ?_
      refine V_lsub (pc := 65) dX5_rowBits_65 rfl ?_
      refine V_iload_n (pc := 66) dX5_rowBits_66 rfl rfl rfl ?_
      refine V_iload (pc := 67) dX5_rowBits_67 rfl rfl ?_
      refine V_isub (pc := 69) dX5_rowBits_69 rfl ?_
      refine V_lshl (pc := 70) dX5_rowBits_70 rfl ?_
      cases hf
      exact V_lret (pc := 71) dX5_rowBits_71 rfl PoL_mk
    · replace hf := (if_neg hc).symm.trans hf
      refine V_iload_n (pc := 22) dX5_rowBits_22 rfl rfl rfl ?_
      refine V_aload_n (pc := 23) dX5_rowBits_23 rfl rfl rfl ?_
      refine V_getI (pc := 24) dX5_rowBits_24 flX5_59 rfl (by omega) (congrArg Prod.fst (shQ hqq)) rfl ?_
      refine V_iconst (pc := 27) dX5_rowBits_27 ic_1 rfl ?_
      refine V_isub (pc := 28) dX5_rowBits_28 rfl ?_
      refine V_iload_n (pc := 29) dX5_rowBits_29 rfl rfl rfl ?_
      refine V_isub (pc := 30) dX5_rowBits_30 rfl ?_
      refine V_mmin (pc := 31) dX5_rowBits_31 mlX5_86 (Nat.le_of_ble_eq_true rfl) rfl ?_
      let x5 : Int32 := (if (((I qq 0) - (1 : Int32)) - q2) < v2 then (((I qq 0) - (1 : Int32)) - q2) else v2)
      refine V_istore (ls' := [some _, some _, some _, some _, some _]) (pc := 34) dX5_rowBits_34 (Nat.le_of_ble_eq_true rfl) rfl rfl ?_
      refine V_lconst (pc := 36) dX5_rowBits_36 lc_1 rfl ?_
      refine V_iload (pc := 37) dX5_rowBits_37 rfl rfl ?_
      refine V_lshl (pc := 39) dX5_rowBits_39 rfl ?_
      refine V_lconst (pc := 40) dX5_rowBits_40 lc_1 rfl ?_
      refine V_lsub (pc := 41) dX5_rowBits_41 rfl ?_
      refine V_iload_n (pc := 42) dX5_rowBits_42 rfl rfl rfl ?_
      refine V_iconst (pc := 43) dX5_rowBits_43 ic_1 rfl ?_
      refine V_iadd (pc := 44) dX5_rowBits_44 rfl ?_
      refine V_lshl (pc := 45) dX5_rowBits_45 rfl ?_
      cases hf
      exact V_lret (pc := 46) dX5_rowBits_46 rfl PoL_mk
  refine V_if_le (pc := 4) (tgt := 16) dX5_rowBits_4 (by decide) rfl (fun hc => ?_) (fun hc => ?_)
  · replace hq2 := (if_pos hc).symm.trans hq2
    refine V_iconst (pc := 16) dX5_rowBits_16 ic_0 rfl ?_
    cases hq2
    exact V_wk Kq2 ⟨rfl, ⟨rfl, ⟨rfl, trivial⟩⟩⟩
  · replace hq2 := (if_neg hc).symm.trans hq2
    refine V_iload_n (pc := 7) dX5_rowBits_7 rfl rfl rfl ?_
    refine V_aload_n (pc := 8) dX5_rowBits_8 rfl rfl rfl ?_
    refine V_getI (pc := 9) dX5_rowBits_9 flX5_59 rfl (by omega) (congrArg Prod.fst (shQ hqq)) rfl ?_
    obtain ⟨hc3, hq2⟩ := nif hq2
    refine V_irem (pc := 12) dX5_rowBits_12 hc3 rfl ?_
    refine V_goto (pc := 13) (tgt := 17) dX5_rowBits_13 (by decide) ?_
    cases hq2
    exact V_wk Kq2 ⟨rfl, ⟨rfl, ⟨rfl, trivial⟩⟩⟩
/-! ShadowDoors$Looks.doorsShading -/
noncomputable def fX3_doorsShading (qq1 : Nat) (v2 : Int32) (v3 : Int32) (I : HI) : Option (Int64) :=
  if inb v3 4 = true then
    Option.bind (fX5_rowBits qq1 v2 (-(I 72 v3.toNatClampNeg)) I) fun q2 =>
    some q2
  else none
set_option maxRecDepth 100000 in
set_option maxHeartbeats 4000000 in
theorem tX3_doorsShading {g : GG} {n d : Nat} {tw dr sk tl ff : Nat} {qq1 : Nat} (hG : RG tw dr sk tl ff) (hn : 116 ≤ n) (hqq1 : isQ qq1) {v2 : Int32} {v3 : Int32} {I : HI} {L : HL} {res : Int64} (hf : fX3_doorsShading qq1 v2 v3 I = some res) : CT g mX3_doorsShading (d + 3) 0 0 n (RT tw dr sk tl ff) I L [.ref 66, .ref qq1, .int v2, .int v3] (PoL n (RT tw dr sk tl ff) res I L) := by
  refine CT.of rfl (Nat.le_of_ble_eq_true rfl) ?_
  show V g mX3_doorsShading (d + 3) 0 0 n (RT tw dr sk tl ff) I L 0 [some (.ref 66), some (.ref qq1), some (.int v2), some (.int v3)] [] (PoL n (RT tw dr sk tl ff) res I L)
  refine V_aload_n (pc := 0) dX3_doorsShading_0 rfl rfl rfl ?_
  refine V_iload_n (pc := 1) dX3_doorsShading_1 rfl rfl rfl ?_
  refine V_aload_n (pc := 2) dX3_doorsShading_2 rfl rfl rfl ?_
  refine V_getR (pc := 3) dX3_doorsShading_3 flX3_28 rfl (by omega) (congrArg Prod.fst sh_66) rt_66_11 rfl ?_
  refine V_iload_n (pc := 6) dX3_doorsShading_6 rfl rfl rfl ?_
  obtain ⟨hc1, hf⟩ := pif hf
  refine V_iald (pc := 7) dX3_doorsShading_7 (by omega) sh_72 hc1 rfl ?_
  refine V_ineg (pc := 8) dX3_doorsShading_8 rfl ?_
  obtain ⟨q2, hq2, hf⟩ := bnd hf
  refine V_cVl (md' := mX5_rowBits) (pc := 9) dX3_doorsShading_9 mlX3_86 mVX5_rowBits (tX5_rowBits hqq1 (rQ_RT hqq1) (by omega) hq2) rfl (by omega) (congrArg Prod.fst (shQ hqq1)) rfl (Nat.le_of_ble_eq_true rfl) rfl ?_
  cases hf
  exact V_lret (pc := 12) dX3_doorsShading_12 rfl PoL_mk
/-! ShadowDoors$Looks.keepFitting -/
noncomputable def fX3_keepFitting_2 (qq1 : Nat) : Nat → Int32 → Int32 → HI → HL → Option (HL)
  | 0, _, _, _, _ => none
  | fu + 1, y2, y3, I, L =>
    if (4 : Int32) ≤ y3 then
      some L
    else
      if inb y2 30 = true then
        Option.bind (fX3_doorsShading qq1 (I 68 y2.toNatClampNeg) y3 I) fun q2 =>
        if inb y3 4 = true then
          if (b2i (fX11_isBit (I 66 8) y2)) = 0 then
            if inb y3 4 = true then
              let L5 : HL := up2 L 71 y3.toNatClampNeg ((L 71 y3.toNatClampNeg) &&& (q2 ^^^ (-1 : Int64)))
              fX3_keepFitting_2 qq1 fu y2 (y3 + (1 : Int32)) I L5
            else none
          else
            if inb y3 4 = true then
              let L7 : HL := up2 L 71 y3.toNatClampNeg ((L 71 y3.toNatClampNeg) &&& q2)
              fX3_keepFitting_2 qq1 fu y2 (y3 + (1 : Int32)) I L7
            else none
        else none
      else none
set_option maxRecDepth 100000 in
set_option maxHeartbeats 4000000 in
theorem lX3_keepFitting_2 {g : GG} {n d : Nat} {tw dr sk tl ff : Nat} {qq1 : Nat} (hG : RG tw dr sk tl ff) (hn : 116 ≤ n) (hqq1 : isQ qq1) {P : PP} : ∀ (fu : Nat) (y2 : Int32) (y3 : Int32) (I : HI) (L : HL) (res : HL), fX3_keepFitting_2 qq1 fu y2 y3 I L = some res → P none n (RT tw dr sk tl ff) I res → V g mX3_keepFitting (d + 4) 0 0 n (RT tw dr sk tl ff) I L 2 [some (.ref 66), some (.ref qq1), some (.int y2), some (.int y3)] [] P := by
  intro fu
  induction fu with
  | zero => intro y2 y3 I L res hf; cases (show none = some res from hf)
  | succ fu ih =>
    intro y2 y3 I L res hf K
    refine V_iload_n (pc := 2) dX3_keepFitting_2 rfl rfl rfl ?_
    refine V_iconst (pc := 3) dX3_keepFitting_3 ic_4 rfl ?_
    refine V_icmp_ge (pc := 4) (tgt := 58) dX3_keepFitting_4 (by decide) rfl (fun hc => ?_) (fun hc => ?_)
    · replace hf := (if_pos hc).symm.trans hf
      cases hf
      exact V_vret (pc := 58) dX3_keepFitting_58 rfl K
    · replace hf := (if_neg hc).symm.trans hf
      refine V_aload_n (pc := 7) dX3_keepFitting_7 rfl rfl rfl ?_
      refine V_aload_n (pc := 8) dX3_keepFitting_8 rfl rfl rfl ?_
      refine V_aload_n (pc := 9) dX3_keepFitting_9 rfl rfl rfl ?_
      refine V_getR (pc := 10) dX3_keepFitting_10 flX3_15 rfl (by omega) (congrArg Prod.fst sh_66) rt_66_5 rfl ?_
      refine V_iload_n (pc := 13) dX3_keepFitting_13 rfl rfl rfl ?_
      obtain ⟨hc1, hf⟩ := pif hf
      refine V_iald (pc := 14) dX3_keepFitting_14 (by omega) sh_68 hc1 rfl ?_
      refine V_iload_n (pc := 15) dX3_keepFitting_15 rfl rfl rfl ?_
      obtain ⟨q2, hq2, hf⟩ := bnd hf
      refine V_cVl (md' := mX3_doorsShading) (pc := 16) dX3_keepFitting_16 mlX3_74 mVX3_doorsShading (tX3_doorsShading hG hn hqq1 hq2) rfl (by omega) (congrArg Prod.fst sh_66) rfl (Nat.le_of_ble_eq_true rfl) rfl ?_
      refine V_lstore (ls' := [some _, some _, some _, some _, some _, none]) (pc := 19) dX3_keepFitting_19 (Nat.le_of_ble_eq_true rfl) rfl rfl ?_
      refine V_aload_n (pc := 21) dX3_keepFitting_21 rfl rfl rfl ?_
      refine V_getR (pc := 22) dX3_keepFitting_22 flX3_24 rfl (by omega) (congrArg Prod.fst sh_66) rt_66_10 rfl ?_
      refine V_iload_n (pc := 25) dX3_keepFitting_25 rfl rfl rfl ?_
      refine V_dup2_11 (pc := 26) dX3_keepFitting_26 rfl rfl rfl ?_
      obtain ⟨hc3, hf⟩ := pif hf
      refine V_lald (pc := 27) dX3_keepFitting_27 (by omega) sh_71 hc3 rfl ?_
      refine V_aload_n (pc := 28) dX3_keepFitting_28 rfl rfl rfl ?_
      refine V_getI (pc := 29) dX3_keepFitting_29 flX3_35 rfl (by omega) (congrArg Prod.fst sh_66) rfl ?_
      refine V_iload_n (pc := 32) dX3_keepFitting_32 rfl rfl rfl ?_
      refine V_cNz (md' := mX11_isBit) (k := 6) (pc := 33) dX3_keepFitting_33 rfl mSX11_isBit (tX11_isBit rfl) rfl rfl (Nat.le_of_ble_eq_true rfl) rfl ?_
      refine V_if_eq (pc := 36) (tgt := 44) dX3_keepFitting_36 (by decide) rfl (fun hc => ?_) (fun hc => ?_)
      · replace hf := (if_pos hc).symm.trans hf
        refine V_lload (pc := 44) dX3_keepFitting_44 rfl rfl ?_
        refine V_ldc2 (pc := 46) dX3_keepFitting_46 klX3_78 rfl ?_
        refine V_lxor (pc := 49) dX3_keepFitting_49 rfl ?_
        refine V_land (pc := 50) dX3_keepFitting_50 rfl ?_
        obtain ⟨hc4, hf⟩ := pif hf
        let L5 : HL := up2 L 71 y3.toNatClampNeg ((L 71 y3.toNatClampNeg) &&& (q2 ^^^ (-1 : Int64)))
        refine V_last (pc := 51) dX3_keepFitting_51 (by omega) sh_71 hc4 rfl ?_
        refine V_iinc (ls' := [some _, some _, some _, some _, some _, none]) (pc := 52) dX3_keepFitting_52 rfl (Nat.le_of_ble_eq_true rfl) (congrArg _ ic_1) rfl rfl ?_
        refine V_goto (pc := 55) (tgt := 2) dX3_keepFitting_55 (by decide) ?_
        exact V_wk (ih _ _ _ _ _ hf K) ⟨rfl, ⟨rfl, ⟨rfl, ⟨rfl, trivial⟩⟩⟩⟩
      · replace hf := (if_neg hc).symm.trans hf
        refine V_lload (pc := 39) dX3_keepFitting_39 rfl rfl ?_
        refine V_goto (pc := 41) (tgt := 50) dX3_keepFitting_41 (by decide) ?_
        refine V_land (pc := 50) dX3_keepFitting_50 rfl ?_
        obtain ⟨hc6, hf⟩ := pif hf
        let L7 : HL := up2 L 71 y3.toNatClampNeg ((L 71 y3.toNatClampNeg) &&& q2)
        refine V_last (pc := 51) dX3_keepFitting_51 (by omega) sh_71 hc6 rfl ?_
        refine V_iinc (ls' := [some _, some _, some _, some _, some _, none]) (pc := 52) dX3_keepFitting_52 rfl (Nat.le_of_ble_eq_true rfl) (congrArg _ ic_1) rfl rfl ?_
        refine V_goto (pc := 55) (tgt := 2) dX3_keepFitting_55 (by decide) ?_
        exact V_wk (ih _ _ _ _ _ hf K) ⟨rfl, ⟨rfl, ⟨rfl, ⟨rfl, trivial⟩⟩⟩⟩
noncomputable def fX3_keepFitting (qq1 : Nat) (v2 : Int32) (I : HI) (L : HL) : Option (HL) :=
  Option.bind (fX3_keepFitting_2 qq1 FUEL v2 (0 : Int32) I L) fun q8 =>
  some q8
set_option maxRecDepth 100000 in
set_option maxHeartbeats 4000000 in
theorem tX3_keepFitting {g : GG} {n d : Nat} {tw dr sk tl ff : Nat} {qq1 : Nat} (hG : RG tw dr sk tl ff) (hn : 116 ≤ n) (hqq1 : isQ qq1) {v2 : Int32} {I : HI} {L : HL} {res : HL} (hf : fX3_keepFitting qq1 v2 I L = some res) : CT g mX3_keepFitting (d + 4) 0 0 n (RT tw dr sk tl ff) I L [.ref 66, .ref qq1, .int v2] (PoV n (RT tw dr sk tl ff) I res) := by
  refine CT.of rfl (Nat.le_of_ble_eq_true rfl) ?_
  show V g mX3_keepFitting (d + 4) 0 0 n (RT tw dr sk tl ff) I L 0 [some (.ref 66), some (.ref qq1), some (.int v2)] [] (PoV n (RT tw dr sk tl ff) I res)
  refine V_iconst (pc := 0) dX3_keepFitting_0 ic_0 rfl ?_
  refine V_istore_n (ls' := [some _, some _, some _, some _]) (pc := 1) dX3_keepFitting_1 rfl (Nat.le_of_ble_eq_true rfl) rfl rfl ?_
  obtain ⟨q8, hq8, hf⟩ := bnd hf
  refine V_wk (lX3_keepFitting_2 hG hn hqq1 FUEL _ _ _ _ _ hq8 ?_) ⟨rfl, ⟨rfl, ⟨rfl, ⟨rfl, trivial⟩⟩⟩⟩
  cases hf
  exact PoV_mk
/-! ShadowDoors$Looks.countFitting -/
noncomputable def fX3_countFitting_4 : Nat → Int32 → Int32 → HL → Option (Int32)
  | 0, _, _, _ => none
  | fu + 1, y1, y2, L =>
    if (4 : Int32) ≤ y2 then
      some y1
    else
      if inb y2 4 = true then
        let x2 : Int32 := (y1 + (fJ13_bitCount_95d88 (L 71 y2.toNatClampNeg)))
        fX3_countFitting_4 fu x2 (y2 + (1 : Int32)) L
      else none
set_option maxRecDepth 100000 in
set_option maxHeartbeats 4000000 in
theorem lX3_countFitting_4 {g : GG} {n d : Nat} {tw dr sk tl ff : Nat} (hG : RG tw dr sk tl ff) (hn : 116 ≤ n) {P : PP} : ∀ (fu : Nat) (y1 : Int32) (y2 : Int32) (I : HI) (L : HL) (res : Int32), fX3_countFitting_4 fu y1 y2 L = some res → P (some (.int res)) n (RT tw dr sk tl ff) I L → V g mX3_countFitting (d + 2) 0 0 n (RT tw dr sk tl ff) I L 4 [some (.ref 66), some (.int y1), some (.int y2)] [] P := by
  intro fu
  induction fu with
  | zero => intro y1 y2 I L res hf; cases (show none = some res from hf)
  | succ fu ih =>
    intro y1 y2 I L res hf K
    refine V_iload_n (pc := 4) dX3_countFitting_4 rfl rfl rfl ?_
    refine V_iconst (pc := 5) dX3_countFitting_5 ic_4 rfl ?_
    refine V_icmp_ge (pc := 6) (tgt := 27) dX3_countFitting_6 (by decide) rfl (fun hc => ?_) (fun hc => ?_)
    · replace hf := (if_pos hc).symm.trans hf
      refine V_iload_n (pc := 27) dX3_countFitting_27 rfl rfl rfl ?_
      cases hf
      exact V_iret (pc := 28) dX3_countFitting_28 rfl K
    · replace hf := (if_neg hc).symm.trans hf
      refine V_iload_n (pc := 9) dX3_countFitting_9 rfl rfl rfl ?_
      refine V_aload_n (pc := 10) dX3_countFitting_10 rfl rfl rfl ?_
      refine V_getR (pc := 11) dX3_countFitting_11 flX3_24 rfl (by omega) (congrArg Prod.fst sh_66) rt_66_10 rfl ?_
      refine V_iload_n (pc := 14) dX3_countFitting_14 rfl rfl rfl ?_
      obtain ⟨hc1, hf⟩ := pif hf
      refine V_lald (pc := 15) dX3_countFitting_15 (by omega) sh_71 hc1 rfl ?_
      refine V_cSi (md' := mJ13_bitCount_95d88) (pc := 16) dX3_countFitting_16 mlX3_80 mSJ13_bitCount_95d88 (tJ13_bitCount_95d88 rfl) rfl rfl (Nat.le_of_ble_eq_true rfl) rfl ?_
      refine V_iadd (pc := 19) dX3_countFitting_19 rfl ?_
      let x2 : Int32 := (y1 + (fJ13_bitCount_95d88 (L 71 y2.toNatClampNeg)))
      refine V_istore_n (ls' := [some _, some _, some _]) (pc := 20) dX3_countFitting_20 rfl (Nat.le_of_ble_eq_true rfl) rfl rfl ?_
      refine V_iinc (ls' := [some _, some _, some _]) (pc := 21) dX3_countFitting_21 rfl (Nat.le_of_ble_eq_true rfl) (congrArg _ ic_1) rfl rfl ?_
      refine V_goto (pc := 24) (tgt := 4) dX3_countFitting_24 (by decide) ?_
      exact V_wk (ih _ _ _ _ _ hf K) ⟨rfl, ⟨rfl, ⟨rfl, trivial⟩⟩⟩
noncomputable def fX3_countFitting (L : HL) : Option (Int32) :=
  Option.bind (fX3_countFitting_4 FUEL (0 : Int32) (0 : Int32) L) fun q3 =>
  some q3
set_option maxRecDepth 100000 in
set_option maxHeartbeats 4000000 in
theorem tX3_countFitting {g : GG} {n d : Nat} {tw dr sk tl ff : Nat} (hG : RG tw dr sk tl ff) (hn : 116 ≤ n) {I : HI} {L : HL} {res : Int32} (hf : fX3_countFitting L = some res) : CT g mX3_countFitting (d + 2) 0 0 n (RT tw dr sk tl ff) I L [.ref 66] (PoI n (RT tw dr sk tl ff) res I L) := by
  refine CT.of rfl (Nat.le_of_ble_eq_true rfl) ?_
  show V g mX3_countFitting (d + 2) 0 0 n (RT tw dr sk tl ff) I L 0 [some (.ref 66)] [] (PoI n (RT tw dr sk tl ff) res I L)
  refine V_iconst (pc := 0) dX3_countFitting_0 ic_0 rfl ?_
  refine V_istore_n (ls' := [some _, some _]) (pc := 1) dX3_countFitting_1 rfl (Nat.le_of_ble_eq_true rfl) rfl rfl ?_
  refine V_iconst (pc := 2) dX3_countFitting_2 ic_0 rfl ?_
  refine V_istore_n (ls' := [some _, some _, some _]) (pc := 3) dX3_countFitting_3 rfl (Nat.le_of_ble_eq_true rfl) rfl rfl ?_
  obtain ⟨q3, hq3, hf⟩ := bnd hf
  refine V_wk (lX3_countFitting_4 hG hn FUEL _ _ _ _ _ hq3 ?_) ⟨rfl, ⟨rfl, ⟨rfl, trivial⟩⟩⟩
  cases hf
  exact PoI_mk
/-! ShadowDoors$Looks.findFitting -/
noncomputable def fX3_findFitting_13 (qq1 : Nat) : Nat → Int32 → Int32 → HI → HL → Option (Int32 × HI × HL)
  | 0, _, _, _, _ => none
  | fu + 1, y2, y3, I, L =>
    if (I 66 0) ≤ y3 then
      Option.bind (fX3_countFitting  L) fun q2 =>
      some (q2, I, L)
    else
      Option.bind (fX3_counts y3 y2 I) fun q3 =>
      if (b2i q3) = 0 then
        fX3_findFitting_13 qq1 fu y2 (y3 + (1 : Int32)) I L
      else
        if inb y3 30 = true then
          Option.bind (fX3_findLengths qq1 (I 67 y3.toNatClampNeg) I) fun q5 =>
          Option.bind (fX3_keepFitting qq1 y3 q5 L) fun q6 =>
          fX3_findFitting_13 qq1 fu y2 (y3 + (1 : Int32)) q5 q6
        else none
set_option maxRecDepth 100000 in
set_option maxHeartbeats 4000000 in
theorem lX3_findFitting_13 {g : GG} {n d : Nat} {tw dr sk tl ff : Nat} {qq1 : Nat} (hG : RG tw dr sk tl ff) (hn : 116 ≤ n) (hqq1 : isQ qq1) {P : PP} : ∀ (fu : Nat) (y2 : Int32) (y3 : Int32) (I : HI) (L : HL) (res : Int32 × HI × HL), fX3_findFitting_13 qq1 fu y2 y3 I L = some res → P (some (.int res.1)) n (RT tw dr sk tl ff) res.2.1 res.2.2 → V g mX3_findFitting (d + 5) 0 0 n (RT tw dr sk tl ff) I L 13 [some (.ref 66), some (.ref qq1), some (.int y2), some (.int y3)] [] P := by
  intro fu
  induction fu with
  | zero => intro y2 y3 I L res hf; cases (show none = some res from hf)
  | succ fu ih =>
    intro y2 y3 I L res hf K
    refine V_iload_n (pc := 13) dX3_findFitting_13 rfl rfl rfl ?_
    refine V_aload_n (pc := 14) dX3_findFitting_14 rfl rfl rfl ?_
    refine V_getI (pc := 15) dX3_findFitting_15 flX3_31 rfl (by omega) (congrArg Prod.fst sh_66) rfl ?_
    refine V_icmp_ge (pc := 18) (tgt := 53) dX3_findFitting_18 (by decide) rfl (fun hc => ?_) (fun hc => ?_)
    · replace hf := (if_pos hc).symm.trans hf
      refine V_aload_n (pc := 53) dX3_findFitting_53 rfl rfl rfl ?_
      obtain ⟨q2, hq2, hf⟩ := bnd hf
      refine V_cVi (md' := mX3_countFitting) (pc := 54) dX3_findFitting_54 mlX3_70 mVX3_countFitting (tX3_countFitting hG hn hq2) rfl (by omega) (congrArg Prod.fst sh_66) rfl (Nat.le_of_ble_eq_true rfl) rfl ?_
      cases hf
      exact V_iret (pc := 57) dX3_findFitting_57 rfl K
    · replace hf := (if_neg hc).symm.trans hf
      refine V_aload_n (pc := 21) dX3_findFitting_21 rfl rfl rfl ?_
      refine V_iload_n (pc := 22) dX3_findFitting_22 rfl rfl rfl ?_
      refine V_iload_n (pc := 23) dX3_findFitting_23 rfl rfl rfl ?_
      obtain ⟨q3, hq3, hf⟩ := bnd hf
      refine V_cVz (md' := mX3_counts) (pc := 24) dX3_findFitting_24 mlX3_60 mVX3_counts (tX3_counts hG hn hq3) rfl (by omega) (congrArg Prod.fst sh_66) rfl (Nat.le_of_ble_eq_true rfl) rfl ?_
      refine V_if_eq (pc := 27) (tgt := 47) dX3_findFitting_27 (by decide) rfl (fun hc => ?_) (fun hc => ?_)
      · replace hf := (if_pos hc).symm.trans hf
        refine V_iinc (ls' := [some _, some _, some _, some _]) (pc := 47) dX3_findFitting_47 rfl (Nat.le_of_ble_eq_true rfl) (congrArg _ ic_1) rfl rfl ?_
        refine V_goto (pc := 50) (tgt := 13) dX3_findFitting_50 (by decide) ?_
        exact V_wk (ih _ _ _ _ _ hf K) ⟨rfl, ⟨rfl, ⟨rfl, ⟨rfl, trivial⟩⟩⟩⟩
      · replace hf := (if_neg hc).symm.trans hf
        refine V_aload_n (pc := 30) dX3_findFitting_30 rfl rfl rfl ?_
        refine V_aload_n (pc := 31) dX3_findFitting_31 rfl rfl rfl ?_
        refine V_aload_n (pc := 32) dX3_findFitting_32 rfl rfl rfl ?_
        refine V_getR (pc := 33) dX3_findFitting_33 flX3_9 rfl (by omega) (congrArg Prod.fst sh_66) rt_66_4 rfl ?_
        refine V_iload_n (pc := 36) dX3_findFitting_36 rfl rfl rfl ?_
        obtain ⟨hc4, hf⟩ := pif hf
        refine V_iald (pc := 37) dX3_findFitting_37 (by omega) sh_67 hc4 rfl ?_
        obtain ⟨q5, hq5, hf⟩ := bnd hf
        refine V_cVv (md' := mX3_findLengths) (pc := 38) dX3_findFitting_38 mlX3_63 mVX3_findLengths (tX3_findLengths hG hn hqq1 hq5) rfl (by omega) (congrArg Prod.fst sh_66) rfl (Nat.le_of_ble_eq_true rfl) rfl ?_
        refine V_aload_n (pc := 41) dX3_findFitting_41 rfl rfl rfl ?_
        refine V_aload_n (pc := 42) dX3_findFitting_42 rfl rfl rfl ?_
        refine V_iload_n (pc := 43) dX3_findFitting_43 rfl rfl rfl ?_
        obtain ⟨q6, hq6, hf⟩ := bnd hf
        refine V_cVv (md' := mX3_keepFitting) (pc := 44) dX3_findFitting_44 mlX3_67 mVX3_keepFitting (tX3_keepFitting hG hn hqq1 hq6) rfl (by omega) (congrArg Prod.fst sh_66) rfl (Nat.le_of_ble_eq_true rfl) rfl ?_
        refine V_iinc (ls' := [some _, some _, some _, some _]) (pc := 47) dX3_findFitting_47 rfl (Nat.le_of_ble_eq_true rfl) (congrArg _ ic_1) rfl rfl ?_
        refine V_goto (pc := 50) (tgt := 13) dX3_findFitting_50 (by decide) ?_
        exact V_wk (ih _ _ _ _ _ hf K) ⟨rfl, ⟨rfl, ⟨rfl, ⟨rfl, trivial⟩⟩⟩⟩
noncomputable def fX3_findFitting (qq1 : Nat) (v2 : Int32) (I : HI) (L : HL) : Option (Int32 × HI × HL) :=
  Option.bind (fJ7_fill_d0a16 71 4 (L qq1 4) L) fun q1 =>
  Option.bind (fX3_findFitting_13 qq1 FUEL v2 (0 : Int32) I q1) fun q7 =>
  some (q7.1, q7.2.1, q7.2.2)
set_option maxRecDepth 100000 in
set_option maxHeartbeats 4000000 in
theorem tX3_findFitting {g : GG} {n d : Nat} {tw dr sk tl ff : Nat} {qq1 : Nat} (hG : RG tw dr sk tl ff) (hn : 116 ≤ n) (hqq1 : isQ qq1) {v2 : Int32} {I : HI} {L : HL} {res : Int32 × HI × HL} (hf : fX3_findFitting qq1 v2 I L = some res) : CT g mX3_findFitting (d + 5) 0 0 n (RT tw dr sk tl ff) I L [.ref 66, .ref qq1, .int v2] (PoI n (RT tw dr sk tl ff) res.1 res.2.1 res.2.2) := by
  refine CT.of rfl (Nat.le_of_ble_eq_true rfl) ?_
  show V g mX3_findFitting (d + 5) 0 0 n (RT tw dr sk tl ff) I L 0 [some (.ref 66), some (.ref qq1), some (.int v2)] [] (PoI n (RT tw dr sk tl ff) res.1 res.2.1 res.2.2)
  refine V_aload_n (pc := 0) dX3_findFitting_0 rfl rfl rfl ?_
  refine V_getR (pc := 1) dX3_findFitting_1 flX3_24 rfl (by omega) (congrArg Prod.fst sh_66) rt_66_10 rfl ?_
  refine V_aload_n (pc := 4) dX3_findFitting_4 rfl rfl rfl ?_
  refine V_getL (pc := 5) dX3_findFitting_5 flX3_48 rfl (by omega) (congrArg Prod.fst (shQ hqq1)) rfl ?_
  obtain ⟨q1, hq1, hf⟩ := bnd hf
  refine V_cSv (md' := mJ7_fill_d0a16) (pc := 8) dX3_findFitting_8 mlX3_54 mSJ7_fill_d0a16 (tJ7_fill_d0a16 sh_71 (by omega) hq1) rfl rfl (Nat.le_of_ble_eq_true rfl) rfl ?_
  refine V_iconst (pc := 11) dX3_findFitting_11 ic_0 rfl ?_
  refine V_istore_n (ls' := [some _, some _, some _, some _]) (pc := 12) dX3_findFitting_12 rfl (Nat.le_of_ble_eq_true rfl) rfl rfl ?_
  obtain ⟨q7, hq7, hf⟩ := bnd hf
  refine V_wk (lX3_findFitting_13 hG hn hqq1 FUEL _ _ _ _ _ hq7 ?_) ⟨rfl, ⟨rfl, ⟨rfl, ⟨rfl, trivial⟩⟩⟩⟩
  cases hf
  exact PoI_mk
/-! ShadowDoors$Looks.fittingCells -/
noncomputable def fX3_fittingCells_4 : Nat → Int64 → Int32 → HL → Option (Int64)
  | 0, _, _, _ => none
  | fu + 1, y1, y3, L =>
    if (4 : Int32) ≤ y3 then
      some y1
    else
      if inb y3 4 = true then
        let x2 : Int64 := (y1 ||| (L 71 y3.toNatClampNeg))
        fX3_fittingCells_4 fu x2 (y3 + (1 : Int32)) L
      else none
set_option maxRecDepth 100000 in
set_option maxHeartbeats 4000000 in
theorem lX3_fittingCells_4 {g : GG} {n d : Nat} {tw dr sk tl ff : Nat} (hG : RG tw dr sk tl ff) (hn : 116 ≤ n) {P : PP} : ∀ (fu : Nat) (y1 : Int64) (y3 : Int32) (I : HI) (L : HL) (res : Int64), fX3_fittingCells_4 fu y1 y3 L = some res → P (some (.long res)) n (RT tw dr sk tl ff) I L → V g mX3_fittingCells (d + 1) 0 0 n (RT tw dr sk tl ff) I L 4 [some (.ref 66), some (.long y1), none, some (.int y3)] [] P := by
  intro fu
  induction fu with
  | zero => intro y1 y3 I L res hf; cases (show none = some res from hf)
  | succ fu ih =>
    intro y1 y3 I L res hf K
    refine V_iload_n (pc := 4) dX3_fittingCells_4 rfl rfl rfl ?_
    refine V_iconst (pc := 5) dX3_fittingCells_5 ic_4 rfl ?_
    refine V_icmp_ge (pc := 6) (tgt := 24) dX3_fittingCells_6 (by decide) rfl (fun hc => ?_) (fun hc => ?_)
    · replace hf := (if_pos hc).symm.trans hf
      refine V_lload_n (pc := 24) dX3_fittingCells_24 rfl rfl rfl ?_
      cases hf
      exact V_lret (pc := 25) dX3_fittingCells_25 rfl K
    · replace hf := (if_neg hc).symm.trans hf
      refine V_lload_n (pc := 9) dX3_fittingCells_9 rfl rfl rfl ?_
      refine V_aload_n (pc := 10) dX3_fittingCells_10 rfl rfl rfl ?_
      refine V_getR (pc := 11) dX3_fittingCells_11 flX3_24 rfl (by omega) (congrArg Prod.fst sh_66) rt_66_10 rfl ?_
      refine V_iload_n (pc := 14) dX3_fittingCells_14 rfl rfl rfl ?_
      obtain ⟨hc1, hf⟩ := pif hf
      refine V_lald (pc := 15) dX3_fittingCells_15 (by omega) sh_71 hc1 rfl ?_
      refine V_lor (pc := 16) dX3_fittingCells_16 rfl ?_
      let x2 : Int64 := (y1 ||| (L 71 y3.toNatClampNeg))
      refine V_lstore_n (ls' := [some _, some _, none, some _]) (pc := 17) dX3_fittingCells_17 rfl (Nat.le_of_ble_eq_true rfl) rfl rfl ?_
      refine V_iinc (ls' := [some _, some _, none, some _]) (pc := 18) dX3_fittingCells_18 rfl (Nat.le_of_ble_eq_true rfl) (congrArg _ ic_1) rfl rfl ?_
      refine V_goto (pc := 21) (tgt := 4) dX3_fittingCells_21 (by decide) ?_
      exact V_wk (ih _ _ _ _ _ hf K) ⟨rfl, ⟨rfl, ⟨rfl, trivial⟩⟩⟩
noncomputable def fX3_fittingCells (L : HL) : Option (Int64) :=
  Option.bind (fX3_fittingCells_4 FUEL (0 : Int64) (0 : Int32) L) fun q3 =>
  some q3
set_option maxRecDepth 100000 in
set_option maxHeartbeats 4000000 in
theorem tX3_fittingCells {g : GG} {n d : Nat} {tw dr sk tl ff : Nat} (hG : RG tw dr sk tl ff) (hn : 116 ≤ n) {I : HI} {L : HL} {res : Int64} (hf : fX3_fittingCells L = some res) : CT g mX3_fittingCells (d + 1) 0 0 n (RT tw dr sk tl ff) I L [.ref 66] (PoL n (RT tw dr sk tl ff) res I L) := by
  refine CT.of rfl (Nat.le_of_ble_eq_true rfl) ?_
  show V g mX3_fittingCells (d + 1) 0 0 n (RT tw dr sk tl ff) I L 0 [some (.ref 66)] [] (PoL n (RT tw dr sk tl ff) res I L)
  refine V_lconst (pc := 0) dX3_fittingCells_0 lc_0 rfl ?_
  refine V_lstore_n (ls' := [some _, some _, none]) (pc := 1) dX3_fittingCells_1 rfl (Nat.le_of_ble_eq_true rfl) rfl rfl ?_
  refine V_iconst (pc := 2) dX3_fittingCells_2 ic_0 rfl ?_
  refine V_istore_n (ls' := [some _, some _, none, some _]) (pc := 3) dX3_fittingCells_3 rfl (Nat.le_of_ble_eq_true rfl) rfl rfl ?_
  obtain ⟨q3, hq3, hf⟩ := bnd hf
  refine V_wk (lX3_fittingCells_4 hG hn FUEL _ _ _ _ _ hq3 ?_) ⟨rfl, ⟨rfl, ⟨rfl, trivial⟩⟩⟩
  cases hf
  exact PoL_mk
/-! ShadowDoors$Looks.fittingHeights -/
noncomputable def fX3_fittingHeights_4 : Nat → Int32 → Int32 → HL → Option (Int32)
  | 0, _, _, _ => none
  | fu + 1, y1, y2, L =>
    if (4 : Int32) ≤ y2 then
      some y1
    else
      if inb y2 4 = true then
        if (L 71 y2.toNatClampNeg) = (0 : Int64) then
          fX3_fittingHeights_4 fu y1 (y2 + (1 : Int32)) L
        else
          let x2 : Int32 := (y1 ||| ((1 : Int32) <<< (y2 &&& 31)))
          fX3_fittingHeights_4 fu x2 (y2 + (1 : Int32)) L
      else none
set_option maxRecDepth 100000 in
set_option maxHeartbeats 4000000 in
theorem lX3_fittingHeights_4 {g : GG} {n d : Nat} {tw dr sk tl ff : Nat} (hG : RG tw dr sk tl ff) (hn : 116 ≤ n) {P : PP} : ∀ (fu : Nat) (y1 : Int32) (y2 : Int32) (I : HI) (L : HL) (res : Int32), fX3_fittingHeights_4 fu y1 y2 L = some res → P (some (.int res)) n (RT tw dr sk tl ff) I L → V g mX3_fittingHeights (d + 1) 0 0 n (RT tw dr sk tl ff) I L 4 [some (.ref 66), some (.int y1), some (.int y2)] [] P := by
  intro fu
  induction fu with
  | zero => intro y1 y2 I L res hf; cases (show none = some res from hf)
  | succ fu ih =>
    intro y1 y2 I L res hf K
    refine V_iload_n (pc := 4) dX3_fittingHeights_4 rfl rfl rfl ?_
    refine V_iconst (pc := 5) dX3_fittingHeights_5 ic_4 rfl ?_
    refine V_icmp_ge (pc := 6) (tgt := 32) dX3_fittingHeights_6 (by decide) rfl (fun hc => ?_) (fun hc => ?_)
    · replace hf := (if_pos hc).symm.trans hf
      refine V_iload_n (pc := 32) dX3_fittingHeights_32 rfl rfl rfl ?_
      cases hf
      exact V_iret (pc := 33) dX3_fittingHeights_33 rfl K
    · replace hf := (if_neg hc).symm.trans hf
      refine V_aload_n (pc := 9) dX3_fittingHeights_9 rfl rfl rfl ?_
      refine V_getR (pc := 10) dX3_fittingHeights_10 flX3_24 rfl (by omega) (congrArg Prod.fst sh_66) rt_66_10 rfl ?_
      refine V_iload_n (pc := 13) dX3_fittingHeights_13 rfl rfl rfl ?_
      obtain ⟨hc1, hf⟩ := pif hf
      refine V_lald (pc := 14) dX3_fittingHeights_14 (by omega) sh_71 hc1 rfl ?_
      refine V_lconst (pc := 15) dX3_fittingHeights_15 lc_0 rfl ?_
      refine V_lc_eq (pc := 16) (tgt := 26) dX3_fittingHeights_16 rfl dX3_fittingHeights_17 (by decide) rfl (fun hc => ?_) (fun hc => ?_)
      · replace hf := (if_pos hc).symm.trans hf
        refine V_iinc (ls' := [some _, some _, some _]) (pc := 26) dX3_fittingHeights_26 rfl (Nat.le_of_ble_eq_true rfl) (congrArg _ ic_1) rfl rfl ?_
        refine V_goto (pc := 29) (tgt := 4) dX3_fittingHeights_29 (by decide) ?_
        exact V_wk (ih _ _ _ _ _ hf K) ⟨rfl, ⟨rfl, ⟨rfl, trivial⟩⟩⟩
      · replace hf := (if_neg hc).symm.trans hf
        refine V_iload_n (pc := 20) dX3_fittingHeights_20 rfl rfl rfl ?_
        refine V_iconst (pc := 21) dX3_fittingHeights_21 ic_1 rfl ?_
        refine V_iload_n (pc := 22) dX3_fittingHeights_22 rfl rfl rfl ?_
        refine V_ishl (pc := 23) dX3_fittingHeights_23 rfl ?_
        refine V_ior (pc := 24) dX3_fittingHeights_24 rfl ?_
        let x2 : Int32 := (y1 ||| ((1 : Int32) <<< (y2 &&& 31)))
        refine V_istore_n (ls' := [some _, some _, some _]) (pc := 25) dX3_fittingHeights_25 rfl (Nat.le_of_ble_eq_true rfl) rfl rfl ?_
        refine V_iinc (ls' := [some _, some _, some _]) (pc := 26) dX3_fittingHeights_26 rfl (Nat.le_of_ble_eq_true rfl) (congrArg _ ic_1) rfl rfl ?_
        refine V_goto (pc := 29) (tgt := 4) dX3_fittingHeights_29 (by decide) ?_
        exact V_wk (ih _ _ _ _ _ hf K) ⟨rfl, ⟨rfl, ⟨rfl, trivial⟩⟩⟩
noncomputable def fX3_fittingHeights (L : HL) : Option (Int32) :=
  Option.bind (fX3_fittingHeights_4 FUEL (0 : Int32) (0 : Int32) L) fun q3 =>
  some q3
set_option maxRecDepth 100000 in
set_option maxHeartbeats 4000000 in
theorem tX3_fittingHeights {g : GG} {n d : Nat} {tw dr sk tl ff : Nat} (hG : RG tw dr sk tl ff) (hn : 116 ≤ n) {I : HI} {L : HL} {res : Int32} (hf : fX3_fittingHeights L = some res) : CT g mX3_fittingHeights (d + 1) 0 0 n (RT tw dr sk tl ff) I L [.ref 66] (PoI n (RT tw dr sk tl ff) res I L) := by
  refine CT.of rfl (Nat.le_of_ble_eq_true rfl) ?_
  show V g mX3_fittingHeights (d + 1) 0 0 n (RT tw dr sk tl ff) I L 0 [some (.ref 66)] [] (PoI n (RT tw dr sk tl ff) res I L)
  refine V_iconst (pc := 0) dX3_fittingHeights_0 ic_0 rfl ?_
  refine V_istore_n (ls' := [some _, some _]) (pc := 1) dX3_fittingHeights_1 rfl (Nat.le_of_ble_eq_true rfl) rfl rfl ?_
  refine V_iconst (pc := 2) dX3_fittingHeights_2 ic_0 rfl ?_
  refine V_istore_n (ls' := [some _, some _, some _]) (pc := 3) dX3_fittingHeights_3 rfl (Nat.le_of_ble_eq_true rfl) rfl rfl ?_
  obtain ⟨q3, hq3, hf⟩ := bnd hf
  refine V_wk (lX3_fittingHeights_4 hG hn FUEL _ _ _ _ _ hq3 ?_) ⟨rfl, ⟨rfl, ⟨rfl, trivial⟩⟩⟩
  cases hf
  exact PoI_mk
/-! ShadowDoors$Quarter.canStand -/
noncomputable def fX5_canStand (qq : Nat) (v1 : Int32) (I : HI) (L : HL) : Bool :=
  tbn (
    if v1 < 0 then
      true
    else
      if (I qq 2) ≤ v1 then
        true
      else
        if (((L qq 4).toUInt64 >>> (v1.toInt64.toUInt64 &&& Int64.toUInt64 63)).toInt64 &&& (1 : Int64)) = (0 : Int64) then
          true
        else
          false
  ) fun b1 =>
  if b1 = true then
    false
  else
    true
set_option maxRecDepth 100000 in
set_option maxHeartbeats 4000000 in
theorem tX5_canStand {g : GG} {n d : Nat} {r : HR} {qq : Nat} (hqq : isQ qq) (hr : rQ r qq) (hn : qq + 23 ≤ n) {v1 : Int32} {I : HI} {L : HL} {res : Bool} (hf : fX5_canStand qq v1 I L = res) : CT g mX5_canStand (d + 1) 0 0 n r I L [.ref qq, .int v1] (PoB n r res I L) := by
  refine CT.of rfl (Nat.le_of_ble_eq_true rfl) ?_
  show V g mX5_canStand (d + 1) 0 0 n r I L 0 [some (.ref qq), some (.int v1)] [] (PoB n r res I L)
  refine V_iload_n (pc := 0) dX5_canStand_0 rfl rfl rfl ?_
  obtain ⟨b1, hb1, hf⟩ := tbd hf
  have KTb1 : b1 = true → V g mX5_canStand (d + 1) 0 0 n r I L 29 [some (.ref qq), some (.int v1)] [] (PoB n r res I L) := fun hc => by
    replace hf := (if_pos hc).symm.trans hf
    refine V_iconst (pc := 29) dX5_canStand_29 ic_0 rfl ?_
    cases hf
    exact V_zretE (pc := 30) dX5_canStand_30 rfl (show (0 : Int32) = b2i false from rfl) PoB_mk
  have KFb1 : ¬ b1 = true → V g mX5_canStand (d + 1) 0 0 n r I L 25 [some (.ref qq), some (.int v1)] [] (PoB n r res I L) := fun hc => by
    replace hf := (if_neg hc).symm.trans hf
    refine V_iconst (pc := 25) dX5_canStand_25 ic_1 rfl ?_
    refine V_goto (pc := 26) (tgt := 30) dX5_canStand_26 (by decide) ?_
    cases hf
    exact V_zretE (pc := 30) dX5_canStand_30 rfl (show (1 : Int32) = b2i true from rfl) PoB_mk
  refine V_if_lt (pc := 1) (tgt := 29) dX5_canStand_1 (by decide) rfl (fun hc => ?_) (fun hc => ?_)
  · replace hb1 := (if_pos hc).symm.trans hb1
    cases hb1
    exact KTb1 rfl
  · replace hb1 := (if_neg hc).symm.trans hb1
    refine V_iload_n (pc := 4) dX5_canStand_4 rfl rfl rfl ?_
    refine V_aload_n (pc := 5) dX5_canStand_5 rfl rfl rfl ?_
    refine V_getI (pc := 6) dX5_canStand_6 flX5_65 rfl (by omega) (congrArg Prod.fst (shQ hqq)) rfl ?_
    refine V_icmp_ge (pc := 9) (tgt := 29) dX5_canStand_9 (by decide) rfl (fun hc => ?_) (fun hc => ?_)
    · replace hb1 := (if_pos hc).symm.trans hb1
      cases hb1
      exact KTb1 rfl
    · replace hb1 := (if_neg hc).symm.trans hb1
      refine V_aload_n (pc := 12) dX5_canStand_12 rfl rfl rfl ?_
      refine V_getL (pc := 13) dX5_canStand_13 flX5_70 rfl (by omega) (congrArg Prod.fst (shQ hqq)) rfl ?_
      refine V_iload_n (pc := 16) dX5_canStand_16 rfl rfl rfl ?_
      refine V_lushr (pc := 17) dX5_canStand_17 rfl ?_
      refine V_lconst (pc := 18) dX5_canStand_18 lc_1 rfl ?_
      refine V_land (pc := 19) dX5_canStand_19 rfl ?_
      refine V_lconst (pc := 20) dX5_canStand_20 lc_0 rfl ?_
      refine V_lc_eq (pc := 21) (tgt := 29) dX5_canStand_21 rfl dX5_canStand_22 (by decide) rfl (fun hc => ?_) (fun hc => ?_)
      · replace hb1 := (if_pos hc).symm.trans hb1
        cases hb1
        exact KTb1 rfl
      · replace hb1 := (if_neg hc).symm.trans hb1
        cases hb1
        exact KFb1 (nbt rfl)
/-! ShadowDoors$Looks.countShading -/
noncomputable def fX3_countShading_5 (qq1 : Nat) : Nat → Int32 → Int32 → Int32 → HI → HL → Option (Int32)
  | 0, _, _, _, _, _ => none
  | fu + 1, y2, y3, y4, I, L =>
    if (4 : Int32) ≤ y4 then
      some y3
    else
      if inb y4 4 = true then
        Option.bind (fX3_doorsShading qq1 y2 y4 I) fun q2 =>
        let x3 : Int32 := (y3 + (fJ13_bitCount_95d88 ((L 71 y4.toNatClampNeg) &&& q2)))
        fX3_countShading_5 qq1 fu y2 x3 (y4 + (1 : Int32)) I L
      else none
set_option maxRecDepth 100000 in
set_option maxHeartbeats 4000000 in
theorem lX3_countShading_5 {g : GG} {n d : Nat} {tw dr sk tl ff : Nat} {qq1 : Nat} (hG : RG tw dr sk tl ff) (hn : 116 ≤ n) (hqq1 : isQ qq1) {P : PP} : ∀ (fu : Nat) (y2 : Int32) (y3 : Int32) (y4 : Int32) (I : HI) (L : HL) (res : Int32), fX3_countShading_5 qq1 fu y2 y3 y4 I L = some res → P (some (.int res)) n (RT tw dr sk tl ff) I L → V g mX3_countShading (d + 4) 0 0 n (RT tw dr sk tl ff) I L 5 [some (.ref 66), some (.ref qq1), some (.int y2), some (.int y3), some (.int y4)] [] P := by
  intro fu
  induction fu with
  | zero => intro y2 y3 y4 I L res hf; cases (show none = some res from hf)
  | succ fu ih =>
    intro y2 y3 y4 I L res hf K
    refine V_iload (pc := 5) dX3_countShading_5 rfl rfl ?_
    refine V_iconst (pc := 7) dX3_countShading_7 ic_4 rfl ?_
    refine V_icmp_ge (pc := 8) (tgt := 39) dX3_countShading_8 (by decide) rfl (fun hc => ?_) (fun hc => ?_)
    · replace hf := (if_pos hc).symm.trans hf
      refine V_iload_n (pc := 39) dX3_countShading_39 rfl rfl rfl ?_
      cases hf
      exact V_iret (pc := 40) dX3_countShading_40 rfl K
    · replace hf := (if_neg hc).symm.trans hf
      refine V_iload_n (pc := 11) dX3_countShading_11 rfl rfl rfl ?_
      refine V_aload_n (pc := 12) dX3_countShading_12 rfl rfl rfl ?_
      refine V_getR (pc := 13) dX3_countShading_13 flX3_24 rfl (by omega) (congrArg Prod.fst sh_66) rt_66_10 rfl ?_
      refine V_iload (pc := 16) dX3_countShading_16 rfl rfl ?_
      obtain ⟨hc1, hf⟩ := pif hf
      refine V_lald (pc := 18) dX3_countShading_18 (by omega) sh_71 hc1 rfl ?_
      refine V_aload_n (pc := 19) dX3_countShading_19 rfl rfl rfl ?_
      refine V_aload_n (pc := 20) dX3_countShading_20 rfl rfl rfl ?_
      refine V_iload_n (pc := 21) dX3_countShading_21 rfl rfl rfl ?_
      refine V_iload (pc := 22) dX3_countShading_22 rfl rfl ?_
      obtain ⟨q2, hq2, hf⟩ := bnd hf
      refine V_cVl (md' := mX3_doorsShading) (pc := 24) dX3_countShading_24 mlX3_74 mVX3_doorsShading (tX3_doorsShading hG hn hqq1 hq2) rfl (by omega) (congrArg Prod.fst sh_66) rfl (Nat.le_of_ble_eq_true rfl) rfl ?_
      refine V_land (pc := 27) dX3_countShading_27 rfl ?_
      refine V_cSi (md' := mJ13_bitCount_95d88) (pc := 28) dX3_countShading_28 mlX3_80 mSJ13_bitCount_95d88 (tJ13_bitCount_95d88 rfl) rfl rfl (Nat.le_of_ble_eq_true rfl) rfl ?_
      refine V_iadd (pc := 31) dX3_countShading_31 rfl ?_
      let x3 : Int32 := (y3 + (fJ13_bitCount_95d88 ((L 71 y4.toNatClampNeg) &&& q2)))
      refine V_istore_n (ls' := [some _, some _, some _, some _, some _]) (pc := 32) dX3_countShading_32 rfl (Nat.le_of_ble_eq_true rfl) rfl rfl ?_
      refine V_iinc (ls' := [some _, some _, some _, some _, some _]) (pc := 33) dX3_countShading_33 rfl (Nat.le_of_ble_eq_true rfl) (congrArg _ ic_1) rfl rfl ?_
      refine V_goto (pc := 36) (tgt := 5) dX3_countShading_36 (by decide) ?_
      exact V_wk (ih _ _ _ _ _ _ hf K) ⟨rfl, ⟨rfl, ⟨rfl, ⟨rfl, ⟨rfl, trivial⟩⟩⟩⟩⟩
noncomputable def fX3_countShading (qq1 : Nat) (v2 : Int32) (I : HI) (L : HL) : Option (Int32) :=
  Option.bind (fX3_countShading_5 qq1 FUEL v2 (0 : Int32) (0 : Int32) I L) fun q4 =>
  some q4
set_option maxRecDepth 100000 in
set_option maxHeartbeats 4000000 in
theorem tX3_countShading {g : GG} {n d : Nat} {tw dr sk tl ff : Nat} {qq1 : Nat} (hG : RG tw dr sk tl ff) (hn : 116 ≤ n) (hqq1 : isQ qq1) {v2 : Int32} {I : HI} {L : HL} {res : Int32} (hf : fX3_countShading qq1 v2 I L = some res) : CT g mX3_countShading (d + 4) 0 0 n (RT tw dr sk tl ff) I L [.ref 66, .ref qq1, .int v2] (PoI n (RT tw dr sk tl ff) res I L) := by
  refine CT.of rfl (Nat.le_of_ble_eq_true rfl) ?_
  show V g mX3_countShading (d + 4) 0 0 n (RT tw dr sk tl ff) I L 0 [some (.ref 66), some (.ref qq1), some (.int v2)] [] (PoI n (RT tw dr sk tl ff) res I L)
  refine V_iconst (pc := 0) dX3_countShading_0 ic_0 rfl ?_
  refine V_istore_n (ls' := [some _, some _, some _, some _]) (pc := 1) dX3_countShading_1 rfl (Nat.le_of_ble_eq_true rfl) rfl rfl ?_
  refine V_iconst (pc := 2) dX3_countShading_2 ic_0 rfl ?_
  refine V_istore (ls' := [some _, some _, some _, some _, some _]) (pc := 3) dX3_countShading_3 (Nat.le_of_ble_eq_true rfl) rfl rfl ?_
  obtain ⟨q4, hq4, hf⟩ := bnd hf
  refine V_wk (lX3_countShading_5 hG hn hqq1 FUEL _ _ _ _ _ _ hq4 ?_) ⟨rfl, ⟨rfl, ⟨rfl, ⟨rfl, ⟨rfl, trivial⟩⟩⟩⟩⟩
  cases hf
  exact PoI_mk
/-! ShadowDoors$Looks.findQuestion -/
noncomputable def fX3_findQuestion_29 (qq1 : Nat) : Nat → Int32 → Int32 → Int32 → HI → HL → Option (HI)
  | 0, _, _, _, _, _ => none
  | fu + 1, y2, y3, y4, I, L =>
    if (I qq1 2) ≤ y4 then
      some I
    else
      if (b2i (fX5_canStand qq1 y4 I L)) = 0 then
        fX3_findQuestion_29 qq1 fu y2 y3 (y4 + (1 : Int32)) I L
      else
        Option.bind (fX3_countShading qq1 y4 I L) fun q4 =>
        let x5 : Int32 := (if q4 < (y2 - q4) then (y2 - q4) else q4)
        if (I 66 3) ≤ x5 then
          fX3_findQuestion_29 qq1 fu y2 y3 (y4 + (1 : Int32)) I L
        else
          let I6 : HI := up2 I 66 3 x5
          let I7 : HI := up2 I6 66 2 (((100 : Int32) * y3) + y4)
          fX3_findQuestion_29 qq1 fu y2 y3 (y4 + (1 : Int32)) I7 L
set_option maxRecDepth 100000 in
set_option maxHeartbeats 4000000 in
theorem lX3_findQuestion_29 {g : GG} {n d : Nat} {tw dr sk tl ff : Nat} {qq1 : Nat} (hG : RG tw dr sk tl ff) (hn : 116 ≤ n) (hqq1 : isQ qq1) {P : PP} : ∀ (fu : Nat) (y2 : Int32) (y3 : Int32) (y4 : Int32) (I : HI) (L : HL) (res : HI), fX3_findQuestion_29 qq1 fu y2 y3 y4 I L = some res → V g mX3_findQuestion (d + 5) 0 0 n (RT tw dr sk tl ff) res L 99 [some (.ref 66), some (.ref qq1), some (.int y2), some (.int y3)] [] P → V g mX3_findQuestion (d + 5) 0 0 n (RT tw dr sk tl ff) I L 29 [some (.ref 66), some (.ref qq1), some (.int y2), some (.int y3), some (.int y4)] [] P := by
  intro fu
  induction fu with
  | zero => intro y2 y3 y4 I L res hf; cases (show none = some res from hf)
  | succ fu ih =>
    intro y2 y3 y4 I L res hf K
    refine V_iload (pc := 29) dX3_findQuestion_29 rfl rfl ?_
    refine V_aload_n (pc := 31) dX3_findQuestion_31 rfl rfl rfl ?_
    refine V_getI (pc := 32) dX3_findQuestion_32 flX3_109 rfl (by omega) (congrArg Prod.fst (shQ hqq1)) rfl ?_
    refine V_icmp_ge (pc := 35) (tgt := 99) dX3_findQuestion_35 (by decide) rfl (fun hc => ?_) (fun hc => ?_)
    · replace hf := (if_pos hc).symm.trans hf
      cases hf
      exact V_wk K ⟨rfl, ⟨rfl, ⟨rfl, ⟨rfl, trivial⟩⟩⟩⟩
    · replace hf := (if_neg hc).symm.trans hf
      refine V_aload_n (pc := 38) dX3_findQuestion_38 rfl rfl rfl ?_
      refine V_iload (pc := 39) dX3_findQuestion_39 rfl rfl ?_
      refine V_cVz (md' := mX5_canStand) (pc := 41) dX3_findQuestion_41 mlX3_111 mVX5_canStand (tX5_canStand hqq1 (rQ_RT hqq1) (by omega) rfl) rfl (by omega) (congrArg Prod.fst (shQ hqq1)) rfl (Nat.le_of_ble_eq_true rfl) rfl ?_
      refine V_if_eq (pc := 44) (tgt := 93) dX3_findQuestion_44 (by decide) rfl (fun hc => ?_) (fun hc => ?_)
      · replace hf := (if_pos hc).symm.trans hf
        refine V_iinc (ls' := [some _, some _, some _, some _, some _]) (pc := 93) dX3_findQuestion_93 rfl (Nat.le_of_ble_eq_true rfl) (congrArg _ ic_1) rfl rfl ?_
        refine V_goto (pc := 96) (tgt := 29) dX3_findQuestion_96 (by decide) ?_
        exact V_wk (ih _ _ _ _ _ _ hf K) ⟨rfl, ⟨rfl, ⟨rfl, ⟨rfl, ⟨rfl, trivial⟩⟩⟩⟩⟩
      · replace hf := (if_neg hc).symm.trans hf
        refine V_aload_n (pc := 47) dX3_findQuestion_47 rfl rfl rfl ?_
        refine V_aload_n (pc := 48) dX3_findQuestion_48 rfl rfl rfl ?_
        refine V_iload (pc := 49) dX3_findQuestion_49 rfl rfl ?_
        obtain ⟨q4, hq4, hf⟩ := bnd hf
        refine V_cVi (md' := mX3_countShading) (pc := 51) dX3_findQuestion_51 mlX3_115 mVX3_countShading (tX3_countShading hG hn hqq1 hq4) rfl (by omega) (congrArg Prod.fst sh_66) rfl (Nat.le_of_ble_eq_true rfl) rfl ?_
        refine V_istore (ls' := [some _, some _, some _, some _, some _, some _]) (pc := 54) dX3_findQuestion_54 (Nat.le_of_ble_eq_true rfl) rfl rfl ?_
        refine V_iload (pc := 56) dX3_findQuestion_56 rfl rfl ?_
        refine V_iload_n (pc := 58) dX3_findQuestion_58 rfl rfl rfl ?_
        refine V_iload (pc := 59) dX3_findQuestion_59 rfl rfl ?_
        refine V_isub (pc := 61) dX3_findQuestion_61 rfl ?_
        refine V_mmax (pc := 62) dX3_findQuestion_62 mlX3_119 (Nat.le_of_ble_eq_true rfl) rfl ?_
        let x5 : Int32 := (if q4 < (y2 - q4) then (y2 - q4) else q4)
        refine V_istore (ls' := [some _, some _, some _, some _, some _, some _, some _]) (pc := 65) dX3_findQuestion_65 (Nat.le_of_ble_eq_true rfl) rfl rfl ?_
        refine V_iload (pc := 67) dX3_findQuestion_67 rfl rfl ?_
        refine V_aload_n (pc := 69) dX3_findQuestion_69 rfl rfl rfl ?_
        refine V_getI (pc := 70) dX3_findQuestion_70 flX3_106 rfl (by omega) (congrArg Prod.fst sh_66) rfl ?_
        refine V_icmp_ge (pc := 73) (tgt := 93) dX3_findQuestion_73 (by decide) rfl (fun hc => ?_) (fun hc => ?_)
        · replace hf := (if_pos hc).symm.trans hf
          refine V_iinc (ls' := [some _, some _, some _, some _, some _, some _, some _]) (pc := 93) dX3_findQuestion_93 rfl (Nat.le_of_ble_eq_true rfl) (congrArg _ ic_1) rfl rfl ?_
          refine V_goto (pc := 96) (tgt := 29) dX3_findQuestion_96 (by decide) ?_
          exact V_wk (ih _ _ _ _ _ _ hf K) ⟨rfl, ⟨rfl, ⟨rfl, ⟨rfl, ⟨rfl, trivial⟩⟩⟩⟩⟩
        · replace hf := (if_neg hc).symm.trans hf
          refine V_aload_n (pc := 76) dX3_findQuestion_76 rfl rfl rfl ?_
          refine V_iload (pc := 77) dX3_findQuestion_77 rfl rfl ?_
          let I6 : HI := up2 I 66 3 x5
          refine V_putI (pc := 79) dX3_findQuestion_79 flX3_106 rfl rfl (by omega) (congrArg Prod.fst sh_66) rfl ?_
          refine V_aload_n (pc := 82) dX3_findQuestion_82 rfl rfl rfl ?_
          refine V_bipush (pc := 83) dX3_findQuestion_83 bp_100 rfl ?_
          refine V_iload_n (pc := 85) dX3_findQuestion_85 rfl rfl rfl ?_
          refine V_imul (pc := 86) dX3_findQuestion_86 rfl ?_
          refine V_iload (pc := 87) dX3_findQuestion_87 rfl rfl ?_
          refine V_iadd (pc := 89) dX3_findQuestion_89 rfl ?_
          let I7 : HI := up2 I6 66 2 (((100 : Int32) * y3) + y4)
          refine V_putI (pc := 90) dX3_findQuestion_90 flX3_125 rfl rfl (by omega) (congrArg Prod.fst sh_66) rfl ?_
          refine V_iinc (ls' := [some _, some _, some _, some _, some _, some _, some _]) (pc := 93) dX3_findQuestion_93 rfl (Nat.le_of_ble_eq_true rfl) (congrArg _ ic_1) rfl rfl ?_
          refine V_goto (pc := 96) (tgt := 29) dX3_findQuestion_96 (by decide) ?_
          exact V_wk (ih _ _ _ _ _ _ hf K) ⟨rfl, ⟨rfl, ⟨rfl, ⟨rfl, ⟨rfl, trivial⟩⟩⟩⟩⟩
noncomputable def fX3_findQuestion_14 (qq1 : Nat) : Nat → Int32 → Int32 → HI → HL → Option (HI)
  | 0, _, _, _, _ => none
  | fu + 1, y2, y3, I, L =>
    if (24 : Int32) ≤ y3 then
      some I
    else
      Option.bind (fX3_findLengths qq1 y3 I) fun q3 =>
      Option.bind (fX3_findQuestion_29 qq1 FUEL y2 y3 (0 : Int32) q3 L) fun q8 =>
      fX3_findQuestion_14 qq1 fu y2 (y3 + (1 : Int32)) q8 L
set_option maxRecDepth 100000 in
set_option maxHeartbeats 4000000 in
theorem lX3_findQuestion_14 {g : GG} {n d : Nat} {tw dr sk tl ff : Nat} {qq1 : Nat} (hG : RG tw dr sk tl ff) (hn : 116 ≤ n) (hqq1 : isQ qq1) {P : PP} : ∀ (fu : Nat) (y2 : Int32) (y3 : Int32) (I : HI) (L : HL) (res : HI), fX3_findQuestion_14 qq1 fu y2 y3 I L = some res → P none n (RT tw dr sk tl ff) res L → V g mX3_findQuestion (d + 5) 0 0 n (RT tw dr sk tl ff) I L 14 [some (.ref 66), some (.ref qq1), some (.int y2), some (.int y3)] [] P := by
  intro fu
  induction fu with
  | zero => intro y2 y3 I L res hf; cases (show none = some res from hf)
  | succ fu ih =>
    intro y2 y3 I L res hf K
    refine V_iload_n (pc := 14) dX3_findQuestion_14 rfl rfl rfl ?_
    refine V_bipush (pc := 15) dX3_findQuestion_15 bp_24 rfl ?_
    refine V_icmp_ge (pc := 17) (tgt := 105) dX3_findQuestion_17 (by decide) rfl (fun hc => ?_) (fun hc => ?_)
    · replace hf := (if_pos hc).symm.trans hf
      cases hf
      exact V_vret (pc := 105) dX3_findQuestion_105 rfl K
    · replace hf := (if_neg hc).symm.trans hf
      refine V_aload_n (pc := 20) dX3_findQuestion_20 rfl rfl rfl ?_
      refine V_aload_n (pc := 21) dX3_findQuestion_21 rfl rfl rfl ?_
      refine V_iload_n (pc := 22) dX3_findQuestion_22 rfl rfl rfl ?_
      obtain ⟨q3, hq3, hf⟩ := bnd hf
      refine V_cVv (md' := mX3_findLengths) (pc := 23) dX3_findQuestion_23 mlX3_63 mVX3_findLengths (tX3_findLengths hG hn hqq1 hq3) rfl (by omega) (congrArg Prod.fst sh_66) rfl (Nat.le_of_ble_eq_true rfl) rfl ?_
      refine V_iconst (pc := 26) dX3_findQuestion_26 ic_0 rfl ?_
      refine V_istore (ls' := [some _, some _, some _, some _, some _]) (pc := 27) dX3_findQuestion_27 (Nat.le_of_ble_eq_true rfl) rfl rfl ?_
      obtain ⟨q8, hq8, hf⟩ := bnd hf
      refine V_wk (lX3_findQuestion_29 hG hn hqq1 FUEL _ _ _ _ _ _ hq8 ?_) ⟨rfl, ⟨rfl, ⟨rfl, ⟨rfl, ⟨rfl, trivial⟩⟩⟩⟩⟩
      refine V_iinc (ls' := [some _, some _, some _, some _]) (pc := 99) dX3_findQuestion_99 rfl (Nat.le_of_ble_eq_true rfl) (congrArg _ ic_1) rfl rfl ?_
      refine V_goto (pc := 102) (tgt := 14) dX3_findQuestion_102 (by decide) ?_
      exact V_wk (ih _ _ _ _ _ hf K) ⟨rfl, ⟨rfl, ⟨rfl, ⟨rfl, trivial⟩⟩⟩⟩
noncomputable def fX3_findQuestion (qq1 : Nat) (I : HI) (L : HL) : Option (HI) :=
  Option.bind (fX3_countFitting  L) fun q1 =>
  let I2 : HI := up2 I 66 3 (q1 + (1 : Int32))
  Option.bind (fX3_findQuestion_14 qq1 FUEL q1 (0 : Int32) I2 L) fun q9 =>
  some q9
set_option maxRecDepth 100000 in
set_option maxHeartbeats 4000000 in
theorem tX3_findQuestion {g : GG} {n d : Nat} {tw dr sk tl ff : Nat} {qq1 : Nat} (hG : RG tw dr sk tl ff) (hn : 116 ≤ n) (hqq1 : isQ qq1) {I : HI} {L : HL} {res : HI} (hf : fX3_findQuestion qq1 I L = some res) : CT g mX3_findQuestion (d + 5) 0 0 n (RT tw dr sk tl ff) I L [.ref 66, .ref qq1] (PoV n (RT tw dr sk tl ff) res L) := by
  refine CT.of rfl (Nat.le_of_ble_eq_true rfl) ?_
  show V g mX3_findQuestion (d + 5) 0 0 n (RT tw dr sk tl ff) I L 0 [some (.ref 66), some (.ref qq1)] [] (PoV n (RT tw dr sk tl ff) res L)
  refine V_aload_n (pc := 0) dX3_findQuestion_0 rfl rfl rfl ?_
  obtain ⟨q1, hq1, hf⟩ := bnd hf
  refine V_cVi (md' := mX3_countFitting) (pc := 1) dX3_findQuestion_1 mlX3_70 mVX3_countFitting (tX3_countFitting hG hn hq1) rfl (by omega) (congrArg Prod.fst sh_66) rfl (Nat.le_of_ble_eq_true rfl) rfl ?_
  refine V_istore_n (ls' := [some _, some _, some _]) (pc := 4) dX3_findQuestion_4 rfl (Nat.le_of_ble_eq_true rfl) rfl rfl ?_
  refine V_aload_n (pc := 5) dX3_findQuestion_5 rfl rfl rfl ?_
  refine V_iload_n (pc := 6) dX3_findQuestion_6 rfl rfl rfl ?_
  refine V_iconst (pc := 7) dX3_findQuestion_7 ic_1 rfl ?_
  refine V_iadd (pc := 8) dX3_findQuestion_8 rfl ?_
  let I2 : HI := up2 I 66 3 (q1 + (1 : Int32))
  refine V_putI (pc := 9) dX3_findQuestion_9 flX3_106 rfl rfl (by omega) (congrArg Prod.fst sh_66) rfl ?_
  refine V_iconst (pc := 12) dX3_findQuestion_12 ic_0 rfl ?_
  refine V_istore_n (ls' := [some _, some _, some _, some _]) (pc := 13) dX3_findQuestion_13 rfl (Nat.le_of_ble_eq_true rfl) rfl rfl ?_
  obtain ⟨q9, hq9, hf⟩ := bnd hf
  refine V_wk (lX3_findQuestion_14 hG hn hqq1 FUEL _ _ _ _ _ hq9 ?_) ⟨rfl, ⟨rfl, ⟨rfl, ⟨rfl, trivial⟩⟩⟩⟩
  cases hf
  exact PoV_mk
/-! ShadowDoors$Now.begin -/
noncomputable def fX4_begin_2 (qq1 : Nat) : Nat → Int32 → HI → Option (HI)
  | 0, _, _ => none
  | fu + 1, y2, I =>
    if (Int32.ofNat 4) ≤ y2 then
      some I
    else
      if (I (qq1 + 13) 0) ≤ y2 then
        if inb y2 4 = true then
          let I2 : HI := up2 I 53 y2.toNatClampNeg (0 : Int32)
          fX4_begin_2 qq1 fu (y2 + (1 : Int32)) I2
        else none
      else
        if inb y2 (capT (qq1 + 13)) = true then
          if inb y2 4 = true then
            let I5 : HI := up2 I 53 y2.toNatClampNeg (I (qq1 + 13 + 2) y2.toNatClampNeg)
            fX4_begin_2 qq1 fu (y2 + (1 : Int32)) I5
          else none
        else none
set_option maxRecDepth 100000 in
set_option maxHeartbeats 4000000 in
theorem lX4_begin_2 {g : GG} {n d : Nat} {r : HR} {qq1 : Nat} (hr : rN r) (hn : 54 ≤ n) (hqq1 : isQ qq1) (hrqq1 : rQ r qq1) (hnqq1 : qq1 + 23 ≤ n) {P : PP} : ∀ (fu : Nat) (y2 : Int32) (I : HI) (L : HL) (res : HI), fX4_begin_2 qq1 fu y2 I = some res → V g mX4_begin (d + 1) 0 0 n r res L 47 [some (.ref 52)] [] P → V g mX4_begin (d + 1) 0 0 n r I L 2 [some (.ref 52), some (.ref qq1), some (.int y2)] [] P := by
  intro fu
  induction fu with
  | zero => intro y2 I L res hf; cases (show none = some res from hf)
  | succ fu ih =>
    intro y2 I L res hf K
    refine V_iload_n (pc := 2) dX4_begin_2 rfl rfl rfl ?_
    refine V_aload_n (pc := 3) dX4_begin_3 rfl rfl rfl ?_
    refine V_getR (pc := 4) dX4_begin_4 flX4_9 rfl (by omega) (congrArg Prod.fst sh_52) hr rfl ?_
    refine V_alen (pc := 7) dX4_begin_7 (by omega) sh_53 (by decide) rfl ?_
    refine V_icmp_ge (pc := 8) (tgt := 47) dX4_begin_8 (by decide) rfl (fun hc => ?_) (fun hc => ?_)
    · replace hf := (if_pos hc).symm.trans hf
      cases hf
      exact V_wk K ⟨rfl, trivial⟩
    · replace hf := (if_neg hc).symm.trans hf
      refine V_aload_n (pc := 11) dX4_begin_11 rfl rfl rfl ?_
      refine V_getR (pc := 12) dX4_begin_12 flX4_9 rfl (by omega) (congrArg Prod.fst sh_52) hr rfl ?_
      refine V_iload_n (pc := 15) dX4_begin_15 rfl rfl rfl ?_
      refine V_iload_n (pc := 16) dX4_begin_16 rfl rfl rfl ?_
      refine V_aload_n (pc := 17) dX4_begin_17 rfl rfl rfl ?_
      refine V_getR (pc := 18) dX4_begin_18 flX4_15 rfl (by omega) (congrArg Prod.fst (shQ hqq1)) (rQ_8 hrqq1) rfl ?_
      refine V_getI (pc := 21) dX4_begin_21 flX4_21 rfl (by omega) (congrArg Prod.fst (shT (qT_8 hqq1))) rfl ?_
      refine V_icmp_ge (pc := 24) (tgt := 39) dX4_begin_24 (by decide) rfl (fun hc => ?_) (fun hc => ?_)
      · replace hf := (if_pos hc).symm.trans hf
        refine V_iconst (pc := 39) dX4_begin_39 ic_0 rfl ?_
        obtain ⟨hc1, hf⟩ := pif hf
        let I2 : HI := up2 I 53 y2.toNatClampNeg (0 : Int32)
        refine V_iast (pc := 40) dX4_begin_40 (by omega) sh_53 hc1 rfl ?_
        refine V_iinc (ls' := [some _, some _, some _]) (pc := 41) dX4_begin_41 rfl (Nat.le_of_ble_eq_true rfl) (congrArg _ ic_1) rfl rfl ?_
        refine V_goto (pc := 44) (tgt := 2) dX4_begin_44 (by decide) ?_
        exact V_wk (ih _ _ _ _ hf K) ⟨rfl, ⟨rfl, ⟨rfl, trivial⟩⟩⟩
      · replace hf := (if_neg hc).symm.trans hf
        refine V_aload_n (pc := 27) dX4_begin_27 rfl rfl rfl ?_
        refine V_getR (pc := 28) dX4_begin_28 flX4_15 rfl (by omega) (congrArg Prod.fst (shQ hqq1)) (rQ_8 hrqq1) rfl ?_
        refine V_getR (pc := 31) dX4_begin_31 flX4_27 rfl (by omega) (congrArg Prod.fst (shT (qT_8 hqq1))) (rT_2 (rQ_s8 hrqq1)) rfl ?_
        refine V_iload_n (pc := 34) dX4_begin_34 rfl rfl rfl ?_
        obtain ⟨hc3, hf⟩ := pif hf
        refine V_iald (pc := 35) dX4_begin_35 (by omega) (shT2 (qT_8 hqq1)) hc3 rfl ?_
        refine V_goto (pc := 36) (tgt := 40) dX4_begin_36 (by decide) ?_
        obtain ⟨hc4, hf⟩ := pif hf
        let I5 : HI := up2 I 53 y2.toNatClampNeg (I (qq1 + 13 + 2) y2.toNatClampNeg)
        refine V_iast (pc := 40) dX4_begin_40 (by omega) sh_53 hc4 rfl ?_
        refine V_iinc (ls' := [some _, some _, some _]) (pc := 41) dX4_begin_41 rfl (Nat.le_of_ble_eq_true rfl) (congrArg _ ic_1) rfl rfl ?_
        refine V_goto (pc := 44) (tgt := 2) dX4_begin_44 (by decide) ?_
        exact V_wk (ih _ _ _ _ hf K) ⟨rfl, ⟨rfl, ⟨rfl, trivial⟩⟩⟩
noncomputable def fX4_begin (qq1 : Nat) (I : HI) : Option (HI) :=
  Option.bind (fX4_begin_2 qq1 FUEL (0 : Int32) I) fun q6 =>
  let I7 : HI := up2 q6 52 1 (0 : Int32)
  let I8 : HI := up2 I7 52 2 (0 : Int32)
  let I9 : HI := up2 I8 52 3 (0 : Int32)
  let I10 : HI := up2 I9 52 4 (b2i false)
  let I11 : HI := up2 I10 52 5 (0 : Int32)
  some I11
set_option maxRecDepth 100000 in
set_option maxHeartbeats 4000000 in
theorem tX4_begin {g : GG} {n d : Nat} {r : HR} {qq1 : Nat} (hr : rN r) (hn : 54 ≤ n) (hqq1 : isQ qq1) (hrqq1 : rQ r qq1) (hnqq1 : qq1 + 23 ≤ n) {I : HI} {L : HL} {res : HI} (hf : fX4_begin qq1 I = some res) : CT g mX4_begin (d + 1) 0 0 n r I L [.ref 52, .ref qq1] (PoV n r res L) := by
  refine CT.of rfl (Nat.le_of_ble_eq_true rfl) ?_
  show V g mX4_begin (d + 1) 0 0 n r I L 0 [some (.ref 52), some (.ref qq1)] [] (PoV n r res L)
  refine V_iconst (pc := 0) dX4_begin_0 ic_0 rfl ?_
  refine V_istore_n (ls' := [some _, some _, some _]) (pc := 1) dX4_begin_1 rfl (Nat.le_of_ble_eq_true rfl) rfl rfl ?_
  obtain ⟨q6, hq6, hf⟩ := bnd hf
  refine V_wk (lX4_begin_2 hr hn hqq1 hrqq1 hnqq1 FUEL _ _ _ _ hq6 ?_) ⟨rfl, ⟨rfl, ⟨rfl, trivial⟩⟩⟩
  refine V_aload_n (pc := 47) dX4_begin_47 rfl rfl rfl ?_
  refine V_iconst (pc := 48) dX4_begin_48 ic_0 rfl ?_
  let I7 : HI := up2 q6 52 1 (0 : Int32)
  refine V_putI (pc := 49) dX4_begin_49 flX4_30 rfl rfl (by omega) (congrArg Prod.fst sh_52) rfl ?_
  refine V_aload_n (pc := 52) dX4_begin_52 rfl rfl rfl ?_
  refine V_iconst (pc := 53) dX4_begin_53 ic_0 rfl ?_
  let I8 : HI := up2 I7 52 2 (0 : Int32)
  refine V_putI (pc := 54) dX4_begin_54 flX4_33 rfl rfl (by omega) (congrArg Prod.fst sh_52) rfl ?_
  refine V_aload_n (pc := 57) dX4_begin_57 rfl rfl rfl ?_
  refine V_iconst (pc := 58) dX4_begin_58 ic_0 rfl ?_
  let I9 : HI := up2 I8 52 3 (0 : Int32)
  refine V_putI (pc := 59) dX4_begin_59 flX4_36 rfl rfl (by omega) (congrArg Prod.fst sh_52) rfl ?_
  refine V_aload_n (pc := 62) dX4_begin_62 rfl rfl rfl ?_
  refine V_iconst (pc := 63) dX4_begin_63 ic_0 rfl ?_
  let I10 : HI := up2 I9 52 4 (b2i false)
  refine V_putZE (pc := 64) dX4_begin_64 flX4_39 rfl rfl (by omega) (congrArg Prod.fst sh_52) (show (0 : Int32) = b2i false from rfl) rfl ?_
  refine V_aload_n (pc := 67) dX4_begin_67 rfl rfl rfl ?_
  refine V_iconst (pc := 68) dX4_begin_68 ic_0 rfl ?_
  let I11 : HI := up2 I10 52 5 (0 : Int32)
  refine V_putI (pc := 69) dX4_begin_69 flX4_43 rfl rfl (by omega) (congrArg Prod.fst sh_52) rfl ?_
  cases hf
  exact V_vret (pc := 72) dX4_begin_72 rfl PoV_mk
/-! ShadowDoors$Now.hourOfDay -/
noncomputable def fX4_hourOfDay (I : HI) : Int32 :=
  ((I 52 5) - (I 52 5) / (24 : Int32) * (24 : Int32))
set_option maxRecDepth 100000 in
set_option maxHeartbeats 4000000 in
theorem tX4_hourOfDay {g : GG} {n d : Nat} {r : HR} (hr : rN r) (hn : 54 ≤ n) {I : HI} {L : HL} {res : Int32} (hf : fX4_hourOfDay I = res) : CT g mX4_hourOfDay (d + 1) 0 0 n r I L [.ref 52] (PoI n r res I L) := by
  refine CT.of rfl (Nat.le_of_ble_eq_true rfl) ?_
  show V g mX4_hourOfDay (d + 1) 0 0 n r I L 0 [some (.ref 52)] [] (PoI n r res I L)
  refine V_aload_n (pc := 0) dX4_hourOfDay_0 rfl rfl rfl ?_
  refine V_getI (pc := 1) dX4_hourOfDay_1 flX4_43 rfl (by omega) (congrArg Prod.fst sh_52) rfl ?_
  refine V_bipush (pc := 4) dX4_hourOfDay_4 bp_24 rfl ?_
  refine V_irem (pc := 6) dX4_hourOfDay_6 (by decide) rfl ?_
  cases hf
  exact V_iret (pc := 7) dX4_hourOfDay_7 rfl PoI_mk
/-! ShadowDoors$Now.packed -/
noncomputable def fX4_packed_57 : Nat → Int64 → Int32 → HI → Option (Int64)
  | 0, _, _, _ => none
  | fu + 1, y1, y3, I =>
    if (Int32.ofNat 4) ≤ y3 then
      some y1
    else
      if inb y3 4 = true then
        let x7 : Int64 := ((y1 <<< ((6 : Int32).toInt64 &&& 63)) ||| (I 53 y3.toNatClampNeg).toInt64)
        fX4_packed_57 fu x7 (y3 + (1 : Int32)) I
      else none
set_option maxRecDepth 100000 in
set_option maxHeartbeats 4000000 in
theorem lX4_packed_57 {g : GG} {n d : Nat} {r : HR} (hr : rN r) (hn : 54 ≤ n) {P : PP} : ∀ (fu : Nat) (y1 : Int64) (y3 : Int32) (I : HI) (L : HL) (res : Int64), fX4_packed_57 fu y1 y3 I = some res → P (some (.long res)) n r I L → V g mX4_packed (d + 1) 0 0 n r I L 57 [some (.ref 52), some (.long y1), none, some (.int y3)] [] P := by
  intro fu
  induction fu with
  | zero => intro y1 y3 I L res hf; cases (show none = some res from hf)
  | succ fu ih =>
    intro y1 y3 I L res hf K
    refine V_iload_n (pc := 57) dX4_packed_57 rfl rfl rfl ?_
    refine V_aload_n (pc := 58) dX4_packed_58 rfl rfl rfl ?_
    refine V_getR (pc := 59) dX4_packed_59 flX4_9 rfl (by omega) (congrArg Prod.fst sh_52) hr rfl ?_
    refine V_alen (pc := 62) dX4_packed_62 (by omega) sh_53 (by decide) rfl ?_
    refine V_icmp_ge (pc := 63) (tgt := 85) dX4_packed_63 (by decide) rfl (fun hc => ?_) (fun hc => ?_)
    · replace hf := (if_pos hc).symm.trans hf
      refine V_lload_n (pc := 85) dX4_packed_85 rfl rfl rfl ?_
      cases hf
      exact V_lret (pc := 86) dX4_packed_86 rfl K
    · replace hf := (if_neg hc).symm.trans hf
      refine V_lload_n (pc := 66) dX4_packed_66 rfl rfl rfl ?_
      refine V_bipush (pc := 67) dX4_packed_67 bp_6 rfl ?_
      refine V_lshl (pc := 69) dX4_packed_69 rfl ?_
      refine V_aload_n (pc := 70) dX4_packed_70 rfl rfl rfl ?_
      refine V_getR (pc := 71) dX4_packed_71 flX4_9 rfl (by omega) (congrArg Prod.fst sh_52) hr rfl ?_
      refine V_iload_n (pc := 74) dX4_packed_74 rfl rfl rfl ?_
      obtain ⟨hc6, hf⟩ := pif hf
      refine V_iald (pc := 75) dX4_packed_75 (by omega) sh_53 hc6 rfl ?_
      refine V_i2l (pc := 76) dX4_packed_76 rfl ?_
      refine V_lor (pc := 77) dX4_packed_77 rfl ?_
      let x7 : Int64 := ((y1 <<< ((6 : Int32).toInt64 &&& 63)) ||| (I 53 y3.toNatClampNeg).toInt64)
      refine V_lstore_n (ls' := [some _, some _, none, some _]) (pc := 78) dX4_packed_78 rfl (Nat.le_of_ble_eq_true rfl) rfl rfl ?_
      refine V_iinc (ls' := [some _, some _, none, some _]) (pc := 79) dX4_packed_79 rfl (Nat.le_of_ble_eq_true rfl) (congrArg _ ic_1) rfl rfl ?_
      refine V_goto (pc := 82) (tgt := 57) dX4_packed_82 (by decide) ?_
      exact V_wk (ih _ _ _ _ _ hf K) ⟨rfl, ⟨rfl, ⟨rfl, trivial⟩⟩⟩
noncomputable def fX4_packed (I : HI) : Option (Int64) :=
  Option.bind (
    if (I 52 4) = 0 then
      some false
    else
      some true
  ) fun q1 =>
  let x2 : Int64 := (((I 52 5).toInt64 <<< ((1 : Int32).toInt64 &&& 63)) ||| (b2i q1).toInt64)
  let x3 : Int64 := ((x2 <<< ((4 : Int32).toInt64 &&& 63)) ||| (I 52 3).toInt64)
  let x4 : Int64 := ((x3 <<< ((8 : Int32).toInt64 &&& 63)) ||| (I 52 2).toInt64)
  let x5 : Int64 := ((x4 <<< ((4 : Int32).toInt64 &&& 63)) ||| (I 52 1).toInt64)
  Option.bind (fX4_packed_57 FUEL x5 (0 : Int32) I) fun q8 =>
  some q8
set_option maxRecDepth 100000 in
set_option maxHeartbeats 4000000 in
theorem tX4_packed {g : GG} {n d : Nat} {r : HR} (hr : rN r) (hn : 54 ≤ n) {I : HI} {L : HL} {res : Int64} (hf : fX4_packed I = some res) : CT g mX4_packed (d + 1) 0 0 n r I L [.ref 52] (PoL n r res I L) := by
  refine CT.of rfl (Nat.le_of_ble_eq_true rfl) ?_
  show V g mX4_packed (d + 1) 0 0 n r I L 0 [some (.ref 52)] [] (PoL n r res I L)
  refine V_aload_n (pc := 0) dX4_packed_0 rfl rfl rfl ?_
  refine V_getI (pc := 1) dX4_packed_1 flX4_43 rfl (by omega) (congrArg Prod.fst sh_52) rfl ?_
  refine V_i2l (pc := 4) dX4_packed_4 rfl ?_
  refine V_lstore_n (ls' := [some _, some _, none]) (pc := 5) dX4_packed_5 rfl (Nat.le_of_ble_eq_true rfl) rfl rfl ?_
  refine V_lload_n (pc := 6) dX4_packed_6 rfl rfl rfl ?_
  refine V_iconst (pc := 7) dX4_packed_7 ic_1 rfl ?_
  refine V_lshl (pc := 8) dX4_packed_8 rfl ?_
  refine V_aload_n (pc := 9) dX4_packed_9 rfl rfl rfl ?_
  refine V_getI (pc := 10) dX4_packed_10 flX4_39 rfl (by omega) (congrArg Prod.fst sh_52) rfl ?_
  obtain ⟨q1, hq1, hf⟩ := bnd hf
  have Kq1 : V g mX4_packed (d + 1) 0 0 n r I L 21 [some (.ref 52)] [.int (b2i q1), .long ((I 52 5).toInt64 <<< ((1 : Int32).toInt64 &&& 63))] (PoL n r res I L) := by
    refine V_i2l (pc := 21) dX4_packed_21 rfl ?_
    refine V_lor (pc := 22) dX4_packed_22 rfl ?_
    let x2 : Int64 := (((I 52 5).toInt64 <<< ((1 : Int32).toInt64 &&& 63)) ||| (b2i q1).toInt64)
    refine V_lstore_n (ls' := [some _, some _, none]) (pc := 23) dX4_packed_23 rfl (Nat.le_of_ble_eq_true rfl) rfl rfl ?_
    refine V_lload_n (pc := 24) dX4_packed_24 rfl rfl rfl ?_
    refine V_iconst (pc := 25) dX4_packed_25 ic_4 rfl ?_
    refine V_lshl (pc := 26) dX4_packed_26 rfl ?_
    refine V_aload_n (pc := 27) dX4_packed_27 rfl rfl rfl ?_
    refine V_getI (pc := 28) dX4_packed_28 flX4_36 rfl (by omega) (congrArg Prod.fst sh_52) rfl ?_
    refine V_i2l (pc := 31) dX4_packed_31 rfl ?_
    refine V_lor (pc := 32) dX4_packed_32 rfl ?_
    let x3 : Int64 := ((x2 <<< ((4 : Int32).toInt64 &&& 63)) ||| (I 52 3).toInt64)
    refine V_lstore_n (ls' := [some _, some _, none]) (pc := 33) dX4_packed_33 rfl (Nat.le_of_ble_eq_true rfl) rfl rfl ?_
    refine V_lload_n (pc := 34) dX4_packed_34 rfl rfl rfl ?_
    refine V_bipush (pc := 35) dX4_packed_35 bp_8 rfl ?_
    refine V_lshl (pc := 37) dX4_packed_37 rfl ?_
    refine V_aload_n (pc := 38) dX4_packed_38 rfl rfl rfl ?_
    refine V_getI (pc := 39) dX4_packed_39 flX4_33 rfl (by omega) (congrArg Prod.fst sh_52) rfl ?_
    refine V_i2l (pc := 42) dX4_packed_42 rfl ?_
    refine V_lor (pc := 43) dX4_packed_43 rfl ?_
    let x4 : Int64 := ((x3 <<< ((8 : Int32).toInt64 &&& 63)) ||| (I 52 2).toInt64)
    refine V_lstore_n (ls' := [some _, some _, none]) (pc := 44) dX4_packed_44 rfl (Nat.le_of_ble_eq_true rfl) rfl rfl ?_
    refine V_lload_n (pc := 45) dX4_packed_45 rfl rfl rfl ?_
    refine V_iconst (pc := 46) dX4_packed_46 ic_4 rfl ?_
    refine V_lshl (pc := 47) dX4_packed_47 rfl ?_
    refine V_aload_n (pc := 48) dX4_packed_48 rfl rfl rfl ?_
    refine V_getI (pc := 49) dX4_packed_49 flX4_30 rfl (by omega) (congrArg Prod.fst sh_52) rfl ?_
    refine V_i2l (pc := 52) dX4_packed_52 rfl ?_
    refine V_lor (pc := 53) dX4_packed_53 rfl ?_
    let x5 : Int64 := ((x4 <<< ((4 : Int32).toInt64 &&& 63)) ||| (I 52 1).toInt64)
    refine V_lstore_n (ls' := [some _, some _, none]) (pc := 54) dX4_packed_54 rfl (Nat.le_of_ble_eq_true rfl) rfl rfl ?_
    refine V_iconst (pc := 55) dX4_packed_55 ic_0 rfl ?_
    refine V_istore_n (ls' := [some _, some _, none, some _]) (pc := 56) dX4_packed_56 rfl (Nat.le_of_ble_eq_true rfl) rfl rfl ?_
    obtain ⟨q8, hq8, hf⟩ := bnd hf
    refine V_wk (lX4_packed_57 hr hn FUEL _ _ _ _ _ hq8 ?_) ⟨rfl, ⟨rfl, ⟨rfl, trivial⟩⟩⟩
    cases hf
    exact PoL_mk
  refine V_if_eq (pc := 13) (tgt := 20) dX4_packed_13 (by decide) rfl (fun hc => ?_) (fun hc => ?_)
  · replace hq1 := (if_pos hc).symm.trans hq1
    refine V_iconst (pc := 20) dX4_packed_20 ic_0 rfl ?_
    cases hq1
    exact V_wk Kq1 ⟨rfl, trivial⟩
  · replace hq1 := (if_neg hc).symm.trans hq1
    refine V_iconst (pc := 16) dX4_packed_16 ic_1 rfl ?_
    refine V_goto (pc := 17) (tgt := 21) dX4_packed_17 (by decide) ?_
    cases hq1
    exact V_wk Kq1 ⟨rfl, trivial⟩
/-! ShadowDoors$Now.unpack -/
noncomputable def fX4_unpack_11 : Nat → Int64 → Int32 → HI → Option (Int64 × HI)
  | 0, _, _, _ => none
  | fu + 1, y3, y5, I =>
    if y5 < 0 then
      some (y3, I)
    else
      if inb y5 4 = true then
        let I3 : HI := up2 I 53 y5.toNatClampNeg ((y3 &&& (63 : Int64)).toInt32)
        let x4 : Int64 := (y3.toUInt64 >>> ((6 : Int32).toInt64.toUInt64 &&& Int64.toUInt64 63)).toInt64
        fX4_unpack_11 fu x4 (y5 + (-1 : Int32)) I3
      else none
set_option maxRecDepth 100000 in
set_option maxHeartbeats 4000000 in
theorem lX4_unpack_11 {g : GG} {n d : Nat} {r : HR} (hr : rN r) (hn : 54 ≤ n) {P : PP} : ∀ (fu : Nat) (y3 : Int64) (y5 : Int32) (I : HI) (L : HL) (res : Int64 × HI), fX4_unpack_11 fu y3 y5 I = some res → V g mX4_unpack (d + 1) 0 0 n r res.2 L 40 [some (.ref 52), none, none, some (.long res.1)] [] P → V g mX4_unpack (d + 1) 0 0 n r I L 11 [some (.ref 52), none, none, some (.long y3), none, some (.int y5)] [] P := by
  intro fu
  induction fu with
  | zero => intro y3 y5 I L res hf; cases (show none = some res from hf)
  | succ fu ih =>
    intro y3 y5 I L res hf K
    refine V_iload (pc := 11) dX4_unpack_11 rfl rfl ?_
    refine V_if_lt (pc := 13) (tgt := 40) dX4_unpack_13 (by decide) rfl (fun hc => ?_) (fun hc => ?_)
    · replace hf := (if_pos hc).symm.trans hf
      cases hf
      exact V_wk K ⟨rfl, ⟨rfl, trivial⟩⟩
    · replace hf := (if_neg hc).symm.trans hf
      refine V_aload_n (pc := 16) dX4_unpack_16 rfl rfl rfl ?_
      refine V_getR (pc := 17) dX4_unpack_17 flX4_9 rfl (by omega) (congrArg Prod.fst sh_52) hr rfl ?_
      refine V_iload (pc := 20) dX4_unpack_20 rfl rfl ?_
      refine V_lload_n (pc := 22) dX4_unpack_22 rfl rfl rfl ?_
      refine V_ldc2 (pc := 23) dX4_unpack_23 klX4_46 rfl ?_
      refine V_land (pc := 26) dX4_unpack_26 rfl ?_
      refine V_l2i (pc := 27) dX4_unpack_27 rfl ?_
      obtain ⟨hc2, hf⟩ := pif hf
      let I3 : HI := up2 I 53 y5.toNatClampNeg ((y3 &&& (63 : Int64)).toInt32)
      refine V_iast (pc := 28) dX4_unpack_28 (by omega) sh_53 hc2 rfl ?_
      refine V_lload_n (pc := 29) dX4_unpack_29 rfl rfl rfl ?_
      refine V_bipush (pc := 30) dX4_unpack_30 bp_6 rfl ?_
      refine V_lushr (pc := 32) dX4_unpack_32 rfl ?_
      let x4 : Int64 := (y3.toUInt64 >>> ((6 : Int32).toInt64.toUInt64 &&& Int64.toUInt64 63)).toInt64
      refine V_lstore_n (ls' := [some _, none, none, some _, none, some _]) (pc := 33) dX4_unpack_33 rfl (Nat.le_of_ble_eq_true rfl) rfl rfl ?_
      refine V_iinc (ls' := [some _, none, none, some _, none, some _]) (pc := 34) dX4_unpack_34 rfl (Nat.le_of_ble_eq_true rfl) (congrArg _ ic_m1) rfl rfl ?_
      refine V_goto (pc := 37) (tgt := 11) dX4_unpack_37 (by decide) ?_
      exact V_wk (ih _ _ _ _ _ hf K) ⟨rfl, ⟨rfl, ⟨rfl, trivial⟩⟩⟩
noncomputable def fX4_unpack (v1 : Int64) (I : HI) : Option (HI) :=
  let x1 : Int32 := ((Int32.ofNat 4) - (1 : Int32))
  Option.bind (fX4_unpack_11 FUEL v1 x1 I) fun q5 =>
  let I6 : HI := up2 q5.2 52 1 ((q5.1 &&& (15 : Int64)).toInt32)
  let x7 : Int64 := (q5.1.toUInt64 >>> ((4 : Int32).toInt64.toUInt64 &&& Int64.toUInt64 63)).toInt64
  let I8 : HI := up2 I6 52 2 ((x7 &&& (255 : Int64)).toInt32)
  let x9 : Int64 := (x7.toUInt64 >>> ((8 : Int32).toInt64.toUInt64 &&& Int64.toUInt64 63)).toInt64
  let I10 : HI := up2 I8 52 3 ((x9 &&& (15 : Int64)).toInt32)
  let x11 : Int64 := (x9.toUInt64 >>> ((4 : Int32).toInt64.toUInt64 &&& Int64.toUInt64 63)).toInt64
  Option.bind (
    if (x11 &&& (1 : Int64)) = (0 : Int64) then
      some false
    else
      some true
  ) fun q12 =>
  let I13 : HI := up2 I10 52 4 (b2i q12)
  let I14 : HI := up2 I13 52 5 ((x11.toUInt64 >>> ((1 : Int32).toInt64.toUInt64 &&& Int64.toUInt64 63)).toInt64.toInt32)
  some I14
set_option maxRecDepth 100000 in
set_option maxHeartbeats 4000000 in
theorem tX4_unpack {g : GG} {n d : Nat} {r : HR} (hr : rN r) (hn : 54 ≤ n) {v1 : Int64} {I : HI} {L : HL} {res : HI} (hf : fX4_unpack v1 I = some res) : CT g mX4_unpack (d + 1) 0 0 n r I L [.ref 52, .long v1] (PoV n r res L) := by
  refine CT.of rfl (Nat.le_of_ble_eq_true rfl) ?_
  show V g mX4_unpack (d + 1) 0 0 n r I L 0 [some (.ref 52), some (.long v1), none] [] (PoV n r res L)
  refine V_lload_n (pc := 0) dX4_unpack_0 rfl rfl rfl ?_
  refine V_lstore_n (ls' := [some _, some _, none, some _, none]) (pc := 1) dX4_unpack_1 rfl (Nat.le_of_ble_eq_true rfl) rfl rfl ?_
  refine V_aload_n (pc := 2) dX4_unpack_2 rfl rfl rfl ?_
  refine V_getR (pc := 3) dX4_unpack_3 flX4_9 rfl (by omega) (congrArg Prod.fst sh_52) hr rfl ?_
  refine V_alen (pc := 6) dX4_unpack_6 (by omega) sh_53 (by decide) rfl ?_
  refine V_iconst (pc := 7) dX4_unpack_7 ic_1 rfl ?_
  refine V_isub (pc := 8) dX4_unpack_8 rfl ?_
  let x1 : Int32 := ((Int32.ofNat 4) - (1 : Int32))
  refine V_istore (ls' := [some _, some _, none, some _, none, some _]) (pc := 9) dX4_unpack_9 (Nat.le_of_ble_eq_true rfl) rfl rfl ?_
  obtain ⟨q5, hq5, hf⟩ := bnd hf
  refine V_wk (lX4_unpack_11 hr hn FUEL _ _ _ _ _ hq5 ?_) ⟨rfl, ⟨rfl, ⟨rfl, trivial⟩⟩⟩
  refine V_aload_n (pc := 40) dX4_unpack_40 rfl rfl rfl ?_
  refine V_lload_n (pc := 41) dX4_unpack_41 rfl rfl rfl ?_
  refine V_ldc2 (pc := 42) dX4_unpack_42 klX4_48 rfl ?_
  refine V_land (pc := 45) dX4_unpack_45 rfl ?_
  refine V_l2i (pc := 46) dX4_unpack_46 rfl ?_
  let I6 : HI := up2 q5.2 52 1 ((q5.1 &&& (15 : Int64)).toInt32)
  refine V_putI (pc := 47) dX4_unpack_47 flX4_30 rfl rfl (by omega) (congrArg Prod.fst sh_52) rfl ?_
  refine V_lload_n (pc := 50) dX4_unpack_50 rfl rfl rfl ?_
  refine V_iconst (pc := 51) dX4_unpack_51 ic_4 rfl ?_
  refine V_lushr (pc := 52) dX4_unpack_52 rfl ?_
  let x7 : Int64 := (q5.1.toUInt64 >>> ((4 : Int32).toInt64.toUInt64 &&& Int64.toUInt64 63)).toInt64
  refine V_lstore_n (ls' := [some _, none, none, some _, none]) (pc := 53) dX4_unpack_53 rfl (Nat.le_of_ble_eq_true rfl) rfl rfl ?_
  refine V_aload_n (pc := 54) dX4_unpack_54 rfl rfl rfl ?_
  refine V_lload_n (pc := 55) dX4_unpack_55 rfl rfl rfl ?_
  refine V_ldc2 (pc := 56) dX4_unpack_56 klX4_50 rfl ?_
  refine V_land (pc := 59) dX4_unpack_59 rfl ?_
  refine V_l2i (pc := 60) dX4_unpack_60 rfl ?_
  let I8 : HI := up2 I6 52 2 ((x7 &&& (255 : Int64)).toInt32)
  refine V_putI (pc := 61) dX4_unpack_61 flX4_33 rfl rfl (by omega) (congrArg Prod.fst sh_52) rfl ?_
  refine V_lload_n (pc := 64) dX4_unpack_64 rfl rfl rfl ?_
  refine V_bipush (pc := 65) dX4_unpack_65 bp_8 rfl ?_
  refine V_lushr (pc := 67) dX4_unpack_67 rfl ?_
  let x9 : Int64 := (x7.toUInt64 >>> ((8 : Int32).toInt64.toUInt64 &&& Int64.toUInt64 63)).toInt64
  refine V_lstore_n (ls' := [some _, none, none, some _, none]) (pc := 68) dX4_unpack_68 rfl (Nat.le_of_ble_eq_true rfl) rfl rfl ?_
  refine V_aload_n (pc := 69) dX4_unpack_69 rfl rfl rfl ?_
  refine V_lload_n (pc := 70) dX4_unpack_70 rfl rfl rfl ?_
  refine V_ldc2 (pc := 71) dX4_unpack_71 klX4_48 rfl ?_
  refine V_land (pc := 74) dX4_unpack_74 rfl ?_
  refine V_l2i (pc := 75) dX4_unpack_75 rfl ?_
  let I10 : HI := up2 I8 52 3 ((x9 &&& (15 : Int64)).toInt32)
  refine V_putI (pc := 76) dX4_unpack_76 flX4_36 rfl rfl (by omega) (congrArg Prod.fst sh_52) rfl ?_
  refine V_lload_n (pc := 79) dX4_unpack_79 rfl rfl rfl ?_
  refine V_iconst (pc := 80) dX4_unpack_80 ic_4 rfl ?_
  refine V_lushr (pc := 81) dX4_unpack_81 rfl ?_
  let x11 : Int64 := (x9.toUInt64 >>> ((4 : Int32).toInt64.toUInt64 &&& Int64.toUInt64 63)).toInt64
  refine V_lstore_n (ls' := [some _, none, none, some _, none]) (pc := 82) dX4_unpack_82 rfl (Nat.le_of_ble_eq_true rfl) rfl rfl ?_
  refine V_aload_n (pc := 83) dX4_unpack_83 rfl rfl rfl ?_
  refine V_lload_n (pc := 84) dX4_unpack_84 rfl rfl rfl ?_
  refine V_lconst (pc := 85) dX4_unpack_85 lc_1 rfl ?_
  refine V_land (pc := 86) dX4_unpack_86 rfl ?_
  refine V_lconst (pc := 87) dX4_unpack_87 lc_0 rfl ?_
  obtain ⟨q12, hq12, hf⟩ := bnd hf
  have Kq12 : V g mX4_unpack (d + 1) 0 0 n r I10 L 97 [some (.ref 52), none, none, some (.long x11)] [.int (b2i q12), .ref 52] (PoV n r res L) := by
    let I13 : HI := up2 I10 52 4 (b2i q12)
    refine V_putZE (pc := 97) dX4_unpack_97 flX4_39 rfl rfl (by omega) (congrArg Prod.fst sh_52) rfl rfl ?_
    refine V_aload_n (pc := 100) dX4_unpack_100 rfl rfl rfl ?_
    refine V_lload_n (pc := 101) dX4_unpack_101 rfl rfl rfl ?_
    refine V_iconst (pc := 102) dX4_unpack_102 ic_1 rfl ?_
    refine V_lushr (pc := 103) dX4_unpack_103 rfl ?_
    refine V_l2i (pc := 104) dX4_unpack_104 rfl ?_
    let I14 : HI := up2 I13 52 5 ((x11.toUInt64 >>> ((1 : Int32).toInt64.toUInt64 &&& Int64.toUInt64 63)).toInt64.toInt32)
    refine V_putI (pc := 105) dX4_unpack_105 flX4_43 rfl rfl (by omega) (congrArg Prod.fst sh_52) rfl ?_
    cases hf
    exact V_vret (pc := 108) dX4_unpack_108 rfl PoV_mk
  refine V_lc_eq (pc := 88) (tgt := 96) dX4_unpack_88 rfl dX4_unpack_89 (by decide) rfl (fun hc => ?_) (fun hc => ?_)
  · replace hq12 := (if_pos hc).symm.trans hq12
    refine V_iconst (pc := 96) dX4_unpack_96 ic_0 rfl ?_
    cases hq12
    exact V_wk Kq12 ⟨rfl, ⟨rfl, trivial⟩⟩
  · replace hq12 := (if_neg hc).symm.trans hq12
    refine V_iconst (pc := 92) dX4_unpack_92 ic_1 rfl ?_
    refine V_goto (pc := 93) (tgt := 97) dX4_unpack_93 (by decide) ?_
    cases hq12
    exact V_wk Kq12 ⟨rfl, ⟨rfl, trivial⟩⟩
/-! ShadowDoors$Quarter.setSize -/
noncomputable def fX5_setSize (qq : Nat) (v1 : Int32) (v2 : Int32) (I : HI) : HI :=
  let I1 : HI := up2 I qq 0 v1
  let I2 : HI := up2 I1 qq 1 v2
  let I3 : HI := up2 I2 qq 2 (v1 * v2)
  I3
set_option maxRecDepth 100000 in
set_option maxHeartbeats 4000000 in
theorem tX5_setSize {g : GG} {n d : Nat} {r : HR} {qq : Nat} (hqq : isQ qq) (hr : rQ r qq) (hn : qq + 23 ≤ n) {v1 : Int32} {v2 : Int32} {I : HI} {L : HL} {res : HI} (hf : fX5_setSize qq v1 v2 I = res) : CT g mX5_setSize (d + 1) 0 0 n r I L [.ref qq, .int v1, .int v2] (PoV n r res L) := by
  refine CT.of rfl (Nat.le_of_ble_eq_true rfl) ?_
  show V g mX5_setSize (d + 1) 0 0 n r I L 0 [some (.ref qq), some (.int v1), some (.int v2)] [] (PoV n r res L)
  refine V_aload_n (pc := 0) dX5_setSize_0 rfl rfl rfl ?_
  refine V_iload_n (pc := 1) dX5_setSize_1 rfl rfl rfl ?_
  let I1 : HI := up2 I qq 0 v1
  refine V_putI (pc := 2) dX5_setSize_2 flX5_59 rfl rfl (by omega) (congrArg Prod.fst (shQ hqq)) rfl ?_
  refine V_aload_n (pc := 5) dX5_setSize_5 rfl rfl rfl ?_
  refine V_iload_n (pc := 6) dX5_setSize_6 rfl rfl rfl ?_
  let I2 : HI := up2 I1 qq 1 v2
  refine V_putI (pc := 7) dX5_setSize_7 flX5_62 rfl rfl (by omega) (congrArg Prod.fst (shQ hqq)) rfl ?_
  refine V_aload_n (pc := 10) dX5_setSize_10 rfl rfl rfl ?_
  refine V_iload_n (pc := 11) dX5_setSize_11 rfl rfl rfl ?_
  refine V_iload_n (pc := 12) dX5_setSize_12 rfl rfl rfl ?_
  refine V_imul (pc := 13) dX5_setSize_13 rfl ?_
  let I3 : HI := up2 I2 qq 2 (v1 * v2)
  refine V_putI (pc := 14) dX5_setSize_14 flX5_65 rfl rfl (by omega) (congrArg Prod.fst (shQ hqq)) rfl ?_
  cases hf
  exact V_vret (pc := 17) dX5_setSize_17 rfl PoV_mk
