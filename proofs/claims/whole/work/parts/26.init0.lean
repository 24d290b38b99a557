theorem bp_49 : (Int8.ofInt 49).toInt32 = (49 : Int32) := by decide
theorem sp_160 : (Int16.ofInt 160).toInt32 = (160 : Int32) := by decide
theorem sp_270 : (Int16.ofInt 270).toInt32 = (270 : Int32) := by decide
theorem sp_320 : (Int16.ofInt 320).toInt32 = (320 : Int32) := by decide
theorem sp_392 : (Int16.ofInt 392).toInt32 = (392 : Int32) := by decide
theorem sp_400 : (Int16.ofInt 400).toInt32 = (400 : Int32) := by decide
theorem sp_3136 : (Int16.ofInt 3136).toInt32 = (3136 : Int32) := by decide
theorem capT_le (t : Nat) : capT t ≤ 8 := by unfold capT; split <;> omega
/-! ShadowDoors$Things (made) -/
def rX8_init (tt : Nat) (r : HR) : HR :=
  let r1 : HR := zr0 none r (tt + 1)
  let r4 : HR := up2 r1 tt 1 (some (tt + 1))
  let r5 : HR := zr0 none r4 (tt + 2)
  let r8 : HR := up2 r5 tt 2 (some (tt + 2))
  let r9 : HR := zr0 none r8 (tt + 3)
  let r12 : HR := up2 r9 tt 3 (some (tt + 3))
  let r13 : HR := zr0 none r12 (tt + 4)
  let r16 : HR := up2 r13 tt 4 (some (tt + 4))
  let r17 : HR := zr0 none r16 (tt + 5)
  let r20 : HR := up2 r17 tt 5 (some (tt + 5))
  r20
noncomputable def fX8_init (tt : Nat) (v1 : Int32) (I : HI) (L : HL) : HI × HL :=
  let I2 : HI := zr0 0 I (tt + 1)
  let L3 : HL := zr0 0 L (tt + 1)
  let I6 : HI := zr0 0 I2 (tt + 2)
  let L7 : HL := zr0 0 L3 (tt + 2)
  let I10 : HI := zr0 0 I6 (tt + 3)
  let L11 : HL := zr0 0 L7 (tt + 3)
  let I14 : HI := zr0 0 I10 (tt + 4)
  let L15 : HL := zr0 0 L11 (tt + 4)
  let I18 : HI := zr0 0 I14 (tt + 5)
  let L19 : HL := zr0 0 L15 (tt + 5)
  (I18, L19)
set_option maxRecDepth 100000 in
set_option maxHeartbeats 4000000 in
theorem tX8_init {g : GG} {d : Nat} {r : HR} {tt : Nat} {v1 : Int32} (htt : isT tt) (hv : ¬ v1 < 0 ∧ v1.toNatClampNeg = capT tt) {I : HI} {L : HL} {res : HI × HL} (hf : fX8_init tt v1 I L = res) : CT g mX8_init (d + 1) 5 (0 + capT tt + capT tt + capT tt + capT tt + capT tt) (tt + 1) r I L [.ref tt, .int v1] (PoV (tt + 6) (rX8_init tt r) res.1 res.2) := by
  refine CT.of rfl (Nat.le_of_ble_eq_true rfl) ?_
  show V g mX8_init (d + 1) 5 (0 + capT tt + capT tt + capT tt + capT tt + capT tt) (tt + 1) r I L 0 [some (.ref tt), some (.int v1)] [] (PoV (tt + 6) (rX8_init tt r) res.1 res.2)
  refine V_aload_n (pc := 0) dX8_init_0 rfl rfl rfl ?_
  refine V_objInit (pc := 1) dX8_init_1 ⟨mlX8_1, wobj.1, wobj.2⟩ (Nat.le_of_ble_eq_true rfl) rfl ?_
  refine V_aload_n (pc := 4) dX8_init_4 rfl rfl rfl ?_
  refine V_iload_n (pc := 5) dX8_init_5 rfl rfl rfl ?_
  let r1 : HR := zr0 none r (tt + 1)
  let I2 : HI := zr0 0 I (tt + 1)
  let L3 : HL := zr0 0 L (tt + 1)
  refine V_newa (k := 1) (N := capT tt) (kc := 4) (ks := 0 + capT tt + capT tt + capT tt + capT tt) (pc := 6) dX8_init_6 rfl rfl (fun _ _ h => h) (by decide) wa_long (shT1 htt) hv.1 hv.2 (by have := capT_le tt; show capT tt * 8 ≤ 536870912; omega) rfl rfl ?_
  let r4 : HR := up2 r1 tt 1 (some (tt + 1))
  refine V_putR (pc := 8) dX8_init_8 flX8_7 (by first | exact Or.inl ⟨_, rfl⟩ | exact Or.inr ⟨_, rfl⟩) (Or.inr ⟨rfl, rfl, rfl⟩) (by omega) (congrArg Prod.fst (shT htt)) rfl ?_
  refine V_aload_n (pc := 11) dX8_init_11 rfl rfl rfl ?_
  refine V_iload_n (pc := 12) dX8_init_12 rfl rfl rfl ?_
  let r5 : HR := zr0 none r4 (tt + 2)
  let I6 : HI := zr0 0 I2 (tt + 2)
  let L7 : HL := zr0 0 L3 (tt + 2)
  refine V_newa (k := 0) (N := capT tt) (kc := 3) (ks := 0 + capT tt + capT tt + capT tt) (pc := 13) dX8_init_13 rfl rfl (fun _ _ h => h) (by decide) wa_int (shT2 htt) hv.1 hv.2 (by have := capT_le tt; show capT tt * 4 ≤ 536870912; omega) rfl rfl ?_
  let r8 : HR := up2 r5 tt 2 (some (tt + 2))
  refine V_putR (pc := 15) dX8_init_15 flX8_13 (by first | exact Or.inl ⟨_, rfl⟩ | exact Or.inr ⟨_, rfl⟩) (Or.inr ⟨rfl, rfl, rfl⟩) (by omega) (congrArg Prod.fst (shT htt)) rfl ?_
  refine V_aload_n (pc := 18) dX8_init_18 rfl rfl rfl ?_
  refine V_iload_n (pc := 19) dX8_init_19 rfl rfl rfl ?_
  let r9 : HR := zr0 none r8 (tt + 3)
  let I10 : HI := zr0 0 I6 (tt + 3)
  let L11 : HL := zr0 0 L7 (tt + 3)
  refine V_newa (k := 0) (N := capT tt) (kc := 2) (ks := 0 + capT tt + capT tt) (pc := 20) dX8_init_20 rfl rfl (fun _ _ h => h) (by decide) wa_int (shT3 htt) hv.1 hv.2 (by have := capT_le tt; show capT tt * 4 ≤ 536870912; omega) rfl rfl ?_
  let r12 : HR := up2 r9 tt 3 (some (tt + 3))
  refine V_putR (pc := 22) dX8_init_22 flX8_17 (by first | exact Or.inl ⟨_, rfl⟩ | exact Or.inr ⟨_, rfl⟩) (Or.inr ⟨rfl, rfl, rfl⟩) (by omega) (congrArg Prod.fst (shT htt)) rfl ?_
  refine V_aload_n (pc := 25) dX8_init_25 rfl rfl rfl ?_
  refine V_iload_n (pc := 26) dX8_init_26 rfl rfl rfl ?_
  let r13 : HR := zr0 none r12 (tt + 4)
  let I14 : HI := zr0 0 I10 (tt + 4)
  let L15 : HL := zr0 0 L11 (tt + 4)
  refine V_newa (k := 0) (N := capT tt) (kc := 1) (ks := 0 + capT tt) (pc := 27) dX8_init_27 rfl rfl (fun _ _ h => h) (by decide) wa_int (shT4 htt) hv.1 hv.2 (by have := capT_le tt; show capT tt * 4 ≤ 536870912; omega) rfl rfl ?_
  let r16 : HR := up2 r13 tt 4 (some (tt + 4))
  refine V_putR (pc := 29) dX8_init_29 flX8_20 (by first | exact Or.inl ⟨_, rfl⟩ | exact Or.inr ⟨_, rfl⟩) (Or.inr ⟨rfl, rfl, rfl⟩) (by omega) (congrArg Prod.fst (shT htt)) rfl ?_
  refine V_aload_n (pc := 32) dX8_init_32 rfl rfl rfl ?_
  refine V_iload_n (pc := 33) dX8_init_33 rfl rfl rfl ?_
  let r17 : HR := zr0 none r16 (tt + 5)
  let I18 : HI := zr0 0 I14 (tt + 5)
  let L19 : HL := zr0 0 L15 (tt + 5)
  refine V_newa (k := 0) (N := capT tt) (kc := 0) (ks := 0) (pc := 34) dX8_init_34 rfl rfl (fun _ _ h => h) (by decide) wa_int (shT5 htt) hv.1 hv.2 (by have := capT_le tt; show capT tt * 4 ≤ 536870912; omega) rfl rfl ?_
  let r20 : HR := up2 r17 tt 5 (some (tt + 5))
  refine V_putR (pc := 36) dX8_init_36 flX8_23 (by first | exact Or.inl ⟨_, rfl⟩ | exact Or.inr ⟨_, rfl⟩) (Or.inr ⟨rfl, rfl, rfl⟩) (by omega) (congrArg Prod.fst (shT htt)) rfl ?_
  cases hf
  exact V_vret (pc := 39) dX8_init_39 rfl PoV_mk
/-! ShadowDoors$Formula (made) -/
def rX1_init (uu : Nat) (r : HR) : HR :=
  let r1 : HR := zr0 none r (uu + 1)
  let r4 : HR := up2 r1 uu 0 (some (uu + 1))
  let r5 : HR := zr0 none r4 (uu + 2)
  let r8 : HR := up2 r5 uu 1 (some (uu + 2))
  r8
noncomputable def fX1_init (uu : Nat) (I : HI) (L : HL) : HI × HL :=
  let I2 : HI := zr0 0 I (uu + 1)
  let L3 : HL := zr0 0 L (uu + 1)
  let I6 : HI := zr0 0 I2 (uu + 2)
  let L7 : HL := zr0 0 L3 (uu + 2)
  (I6, L7)
set_option maxRecDepth 100000 in
set_option maxHeartbeats 4000000 in
theorem tX1_init {g : GG} {d : Nat} {r : HR} {uu : Nat} (huu : isF uu) {I : HI} {L : HL} {res : HI × HL} (hf : fX1_init uu I L = res) : CT g mX1_init (d + 1) 2 (300) (uu + 1) r I L [.ref uu] (PoV (uu + 3) (rX1_init uu r) res.1 res.2) := by
  refine CT.of rfl (Nat.le_of_ble_eq_true rfl) ?_
  show V g mX1_init (d + 1) 2 (300) (uu + 1) r I L 0 [some (.ref uu)] [] (PoV (uu + 3) (rX1_init uu r) res.1 res.2)
  refine V_aload_n (pc := 0) dX1_init_0 rfl rfl rfl ?_
  refine V_objInit (pc := 1) dX1_init_1 ⟨mlX1_3, wobj.1, wobj.2⟩ (Nat.le_of_ble_eq_true rfl) rfl ?_
  refine V_aload_n (pc := 4) dX1_init_4 rfl rfl rfl ?_
  refine V_sipush (pc := 5) dX1_init_5 sp_270 rfl ?_
  let r1 : HR := zr0 none r (uu + 1)
  let I2 : HI := zr0 0 I (uu + 1)
  let L3 : HL := zr0 0 L (uu + 1)
  refine V_newa (k := 0) (N := 270) (kc := 1) (ks := 30) (pc := 8) dX1_init_8 rfl rfl (fun _ _ h => h) (by decide) wa_int (shF1 huu) (by decide) (by decide) (by decide) rfl rfl ?_
  let r4 : HR := up2 r1 uu 0 (some (uu + 1))
  refine V_putR (pc := 10) dX1_init_10 flX1_9 (by first | exact Or.inl ⟨_, rfl⟩ | exact Or.inr ⟨_, rfl⟩) (Or.inr ⟨rfl, rfl, rfl⟩) (by omega) (congrArg Prod.fst (shF huu)) rfl ?_
  refine V_aload_n (pc := 13) dX1_init_13 rfl rfl rfl ?_
  refine V_bipush (pc := 14) dX1_init_14 bp_30 rfl ?_
  let r5 : HR := zr0 none r4 (uu + 2)
  let I6 : HI := zr0 0 I2 (uu + 2)
  let L7 : HL := zr0 0 L3 (uu + 2)
  refine V_newa (k := 0) (N := 30) (kc := 0) (ks := 0) (pc := 16) dX1_init_16 rfl rfl (fun _ _ h => h) (by decide) wa_int (shF2 huu) (by decide) (by decide) (by decide) rfl rfl ?_
  let r8 : HR := up2 r5 uu 1 (some (uu + 2))
  refine V_putR (pc := 18) dX1_init_18 flX1_15 (by first | exact Or.inl ⟨_, rfl⟩ | exact Or.inr ⟨_, rfl⟩) (Or.inr ⟨rfl, rfl, rfl⟩) (by omega) (congrArg Prod.fst (shF huu)) rfl ?_
  cases hf
  exact V_vret (pc := 21) dX1_init_21 rfl PoV_mk
/-! ShadowDoors$Quarter (made) -/
def rX5_init (qq : Nat) (r : HR) : HR :=
  let r1 : HR := zr0 none r (qq + 1)
  let r5 : HR := rX8_init (qq + 1) r1
  let r6 : HR := up2 r5 qq 6 (some (qq + 1))
  let r7 : HR := zr0 none r6 (qq + 7)
  let r11 : HR := rX8_init (qq + 7) r7
  let r12 : HR := up2 r11 qq 7 (some (qq + 7))
  let r13 : HR := zr0 none r12 (qq + 13)
  let r17 : HR := rX8_init (qq + 13) r13
  let r18 : HR := up2 r17 qq 8 (some (qq + 13))
  let r19 : HR := zr0 none r18 (qq + 19)
  let r23 : HR := rX1_init (qq + 19) r19
  let r24 : HR := up2 r23 qq 9 (some (qq + 19))
  let r25 : HR := zr0 none r24 (qq + 22)
  let r28 : HR := up2 r25 qq 11 (some (qq + 22))
  r28
noncomputable def fX5_init (qq : Nat) (I : HI) (L : HL) : Option (HI × HL) :=
  let I2 : HI := zr0 0 I (qq + 1)
  let L3 : HL := zr0 0 L (qq + 1)
  obn (fX8_init (qq + 1) (8 : Int32) I2 L3) fun q4 =>
  let I8 : HI := zr0 0 q4.1 (qq + 7)
  let L9 : HL := zr0 0 q4.2 (qq + 7)
  obn (fX8_init (qq + 7) (4 : Int32) I8 L9) fun q10 =>
  let I14 : HI := zr0 0 q10.1 (qq + 13)
  let L15 : HL := zr0 0 q10.2 (qq + 13)
  obn (fX8_init (qq + 13) (4 : Int32) I14 L15) fun q16 =>
  let I20 : HI := zr0 0 q16.1 (qq + 19)
  let L21 : HL := zr0 0 q16.2 (qq + 19)
  obn (fX1_init (qq + 19) I20 L21) fun q22 =>
  let I26 : HI := zr0 0 q22.1 (qq + 22)
  let L27 : HL := zr0 0 q22.2 (qq + 22)
  obn (fX5_clear qq I26 L27) fun q29 =>
  Option.bind (fX5_settle qq q29.1 q29.2) fun q30 =>
  some (q29.1, q30)
set_option maxRecDepth 100000 in
set_option maxHeartbeats 4000000 in
theorem tX5_init {g : GG} {d : Nat} {r : HR} {qq : Nat} (hqq : isQ qq) {I : HI} {L : HL} {res : HI × HL} (hf : fX5_init qq I L = some res) : CT g mX5_init (d + 5) 22 (475) (qq + 1) r I L [.ref qq] (PoV (qq + 23) (rX5_init qq r) res.1 res.2) := by
  simp only [fX5_init] at hf
  refine CT.of rfl (Nat.le_of_ble_eq_true rfl) ?_
  show V g mX5_init (d + 5) 22 (475) (qq + 1) r I L 0 [some (.ref qq)] [] (PoV (qq + 23) (rX5_init qq r) res.1 res.2)
  refine V_aload_n (pc := 0) dX5_init_0 rfl rfl rfl ?_
  refine V_objInit (pc := 1) dX5_init_1 ⟨mlX5_3, wobj.1, wobj.2⟩ (Nat.le_of_ble_eq_true rfl) rfl ?_
  refine V_aload_n (pc := 4) dX5_init_4 rfl rfl rfl ?_
  let r1 : HR := zr0 none r (qq + 1)
  let I2 : HI := zr0 0 I (qq + 1)
  let L3 : HL := zr0 0 L (qq + 1)
  refine V_new (kc := 21) (ks := 469) (pc := 5) dX5_init_5 nlX5_9 (congrArg Prod.fst (shT (qT_6 hqq))) rfl ?_
  refine V_dup (pc := 8) dX5_init_8 rfl rfl ?_
  refine V_bipush (pc := 9) dX5_init_9 bp_8 rfl ?_
  obtain ⟨q4, hq4, hf⟩ := obd hf
  refine V_callI (md' := mX8_init) (kc' := 16) (ks' := 429) (pc := 11) dX5_init_11 mlX5_11 mIX8_init (tX8_init (qT_6 hqq) ⟨by decide, by rcases hqq with rfl | rfl <;> rfl⟩ hq4) rfl rfl (Nat.le_of_ble_eq_true rfl) rfl (by have := capT_le (qq + 1); omega) rfl (fun v n2 r2 I2 L2 hq => ?_)
  obtain ⟨rfl, rfl, rfl, rfl, rfl⟩ := hq
  let r5 : HR := rX8_init (qq + 1) r1
  let r6 : HR := up2 r5 qq 6 (some (qq + 1))
  refine V_putR (pc := 14) dX5_init_14 flX5_14 (by first | exact Or.inl ⟨_, rfl⟩ | exact Or.inr ⟨_, rfl⟩) (Or.inr ⟨rfl, rfl, rfl⟩) (by omega) (congrArg Prod.fst (shQ hqq)) rfl ?_
  refine V_aload_n (pc := 17) dX5_init_17 rfl rfl rfl ?_
  let r7 : HR := zr0 none r6 (qq + 7)
  let I8 : HI := zr0 0 q4.1 (qq + 7)
  let L9 : HL := zr0 0 q4.2 (qq + 7)
  refine V_new (kc := 15) (ks := 423) (pc := 18) dX5_init_18 nlX5_9 (congrArg Prod.fst (shT (qT_7 hqq))) rfl ?_
  refine V_dup (pc := 21) dX5_init_21 rfl rfl ?_
  refine V_iconst (pc := 22) dX5_init_22 ic_4 rfl ?_
  obtain ⟨q10, hq10, hf⟩ := obd hf
  refine V_callI (md' := mX8_init) (kc' := 10) (ks' := 383) (pc := 23) dX5_init_23 mlX5_11 mIX8_init (tX8_init (qT_7 hqq) ⟨by decide, by rcases hqq with rfl | rfl <;> rfl⟩ hq10) rfl rfl (Nat.le_of_ble_eq_true rfl) rfl (by have := capT_le (qq + 7); omega) rfl (fun v n2 r2 I2 L2 hq => ?_)
  obtain ⟨rfl, rfl, rfl, rfl, rfl⟩ := hq
  let r11 : HR := rX8_init (qq + 7) r7
  let r12 : HR := up2 r11 qq 7 (some (qq + 7))
  refine V_putR (pc := 26) dX5_init_26 flX5_20 (by first | exact Or.inl ⟨_, rfl⟩ | exact Or.inr ⟨_, rfl⟩) (Or.inr ⟨rfl, rfl, rfl⟩) (by omega) (congrArg Prod.fst (shQ hqq)) rfl ?_
  refine V_aload_n (pc := 29) dX5_init_29 rfl rfl rfl ?_
  let r13 : HR := zr0 none r12 (qq + 13)
  let I14 : HI := zr0 0 q10.1 (qq + 13)
  let L15 : HL := zr0 0 q10.2 (qq + 13)
  refine V_new (kc := 9) (ks := 377) (pc := 30) dX5_init_30 nlX5_9 (congrArg Prod.fst (shT (qT_8 hqq))) rfl ?_
  refine V_dup (pc := 33) dX5_init_33 rfl rfl ?_
  refine V_iconst (pc := 34) dX5_init_34 ic_4 rfl ?_
  obtain ⟨q16, hq16, hf⟩ := obd hf
  refine V_callI (md' := mX8_init) (kc' := 4) (ks' := 337) (pc := 35) dX5_init_35 mlX5_11 mIX8_init (tX8_init (qT_8 hqq) ⟨by decide, by rcases hqq with rfl | rfl <;> rfl⟩ hq16) rfl rfl (Nat.le_of_ble_eq_true rfl) rfl (by have := capT_le (qq + 13); omega) rfl (fun v n2 r2 I2 L2 hq => ?_)
  obtain ⟨rfl, rfl, rfl, rfl, rfl⟩ := hq
  let r17 : HR := rX8_init (qq + 13) r13
  let r18 : HR := up2 r17 qq 8 (some (qq + 13))
  refine V_putR (pc := 38) dX5_init_38 flX5_23 (by first | exact Or.inl ⟨_, rfl⟩ | exact Or.inr ⟨_, rfl⟩) (Or.inr ⟨rfl, rfl, rfl⟩) (by omega) (congrArg Prod.fst (shQ hqq)) rfl ?_
  refine V_aload_n (pc := 41) dX5_init_41 rfl rfl rfl ?_
  let r19 : HR := zr0 none r18 (qq + 19)
  let I20 : HI := zr0 0 q16.1 (qq + 19)
  let L21 : HL := zr0 0 q16.2 (qq + 19)
  refine V_new (kc := 3) (ks := 332) (pc := 42) dX5_init_42 nlX5_26 (congrArg Prod.fst (shF (qF_9 hqq))) rfl ?_
  refine V_dup (pc := 45) dX5_init_45 rfl rfl ?_
  obtain ⟨q22, hq22, hf⟩ := obd hf
  refine V_callIN (md' := mX1_init) (k := 0) (kc' := 1) (ks' := 32) (pc := 46) dX5_init_46 rfl mIX1_init (tX1_init (qF_9 hqq) hq22) rfl rfl (Nat.le_of_ble_eq_true rfl) rfl (by decide) rfl (fun v n2 r2 I2 L2 hq => ?_)
  obtain ⟨rfl, rfl, rfl, rfl, rfl⟩ := hq
  let r23 : HR := rX1_init (qq + 19) r19
  let r24 : HR := up2 r23 qq 9 (some (qq + 19))
  refine V_putR (pc := 49) dX5_init_49 flX5_29 (by first | exact Or.inl ⟨_, rfl⟩ | exact Or.inr ⟨_, rfl⟩) (Or.inr ⟨rfl, rfl, rfl⟩) (by omega) (congrArg Prod.fst (shQ hqq)) rfl ?_
  refine V_aload_n (pc := 52) dX5_init_52 rfl rfl rfl ?_
  refine V_bipush (pc := 53) dX5_init_53 bp_32 rfl ?_
  let r25 : HR := zr0 none r24 (qq + 22)
  let I26 : HI := zr0 0 q22.1 (qq + 22)
  let L27 : HL := zr0 0 q22.2 (qq + 22)
  refine V_newa (k := 1) (N := 32) (kc := 0) (ks := 0) (pc := 55) dX5_init_55 rfl rfl (fun _ _ h => h) (by decide) wa_long (shQ22 hqq) (by decide) (by decide) (by decide) rfl rfl ?_
  let r28 : HR := up2 r25 qq 11 (some (qq + 22))
  refine V_putR (pc := 57) dX5_init_57 flX5_33 (by first | exact Or.inl ⟨_, rfl⟩ | exact Or.inr ⟨_, rfl⟩) (Or.inr ⟨rfl, rfl, rfl⟩) (by omega) (congrArg Prod.fst (shQ hqq)) rfl ?_
  refine V_aload_n (pc := 60) dX5_init_60 rfl rfl rfl ?_
  obtain ⟨q29, hq29, hf⟩ := obd hf
  refine V_cVv (md' := mX5_clear) (pc := 61) dX5_init_61 mlX5_37 mVX5_clear (tX5_clear hqq (by rcases hqq with rfl | rfl <;> exact ⟨rfl, rfl, rfl, rfl, rfl, ⟨rfl, rfl, rfl, rfl, rfl⟩, ⟨rfl, rfl, rfl, rfl, rfl⟩, ⟨rfl, rfl, rfl, rfl, rfl⟩, ⟨rfl, rfl⟩⟩) (by omega) hq29) rfl (by omega) (congrArg Prod.fst (shQ hqq)) rfl (Nat.le_of_ble_eq_true rfl) rfl ?_
  refine V_aload_n (pc := 64) dX5_init_64 rfl rfl rfl ?_
  obtain ⟨q30, hq30, hf⟩ := bnd hf
  refine V_cVv (md' := mX5_settle) (pc := 65) dX5_init_65 mlX5_40 mVX5_settle (tX5_settle hqq (by rcases hqq with rfl | rfl <;> exact ⟨rfl, rfl, rfl, rfl, rfl, ⟨rfl, rfl, rfl, rfl, rfl⟩, ⟨rfl, rfl, rfl, rfl, rfl⟩, ⟨rfl, rfl, rfl, rfl, rfl⟩, ⟨rfl, rfl⟩⟩) (by omega) hq30) rfl (by omega) (congrArg Prod.fst (shQ hqq)) rfl (Nat.le_of_ble_eq_true rfl) rfl ?_
  cases hf
  exact V_vret (pc := 68) dX5_init_68 rfl PoV_mk
/-! ShadowDoors$FormulaReader (made) -/
def rX2_init (r : HR) : HR :=
  let r1 : HR := up2 r 51 0 (some 49)
  let r2 : HR := up2 r1 51 1 (some 44)
  r2
noncomputable def fX2_init (I : HI) (L : HL) : HI × HL :=
  (I, L)
set_option maxRecDepth 100000 in
set_option maxHeartbeats 4000000 in
theorem tX2_init {g : GG} {d : Nat} {r : HR}  {I : HI} {L : HL} {res : HI × HL} (hf : fX2_init I L = res) : CT g mX2_init (d + 1) 0 (0) (52) r I L [.ref 51, .ref 49, .ref 44] (PoV (52) (rX2_init r) res.1 res.2) := by
  refine CT.of rfl (Nat.le_of_ble_eq_true rfl) ?_
  show V g mX2_init (d + 1) 0 (0) (52) r I L 0 [some (.ref 51), some (.ref 49), some (.ref 44)] [] (PoV (52) (rX2_init r) res.1 res.2)
  refine V_aload_n (pc := 0) dX2_init_0 rfl rfl rfl ?_
  refine V_objInit (pc := 1) dX2_init_1 ⟨mlX2_3, wobj.1, wobj.2⟩ (Nat.le_of_ble_eq_true rfl) rfl ?_
  refine V_aload_n (pc := 4) dX2_init_4 rfl rfl rfl ?_
  refine V_aload_n (pc := 5) dX2_init_5 rfl rfl rfl ?_
  let r1 : HR := up2 r 51 0 (some 49)
  refine V_putR (pc := 6) dX2_init_6 flX2_9 (by first | exact Or.inl ⟨_, rfl⟩ | exact Or.inr ⟨_, rfl⟩) (Or.inr ⟨rfl, rfl, rfl⟩) (by omega) (congrArg Prod.fst sh_51) rfl ?_
  refine V_aload_n (pc := 9) dX2_init_9 rfl rfl rfl ?_
  refine V_aload_n (pc := 10) dX2_init_10 rfl rfl rfl ?_
  let r2 : HR := up2 r1 51 1 (some 44)
  refine V_putR (pc := 11) dX2_init_11 flX2_15 (by first | exact Or.inl ⟨_, rfl⟩ | exact Or.inr ⟨_, rfl⟩) (Or.inl rfl) (by omega) (congrArg Prod.fst sh_51) rfl ?_
  cases hf
  exact V_vret (pc := 14) dX2_init_14 rfl PoV_mk
/-! ShadowDoors$Now (made) -/
def rX4_init (r : HR) : HR :=
  let r1 : HR := zr0 none r (53)
  let r4 : HR := up2 r1 52 0 (some 53)
  r4
noncomputable def fX4_init (I : HI) (L : HL) : HI × HL :=
  let I2 : HI := zr0 0 I (53)
  let L3 : HL := zr0 0 L (53)
  (I2, L3)
set_option maxRecDepth 100000 in
set_option maxHeartbeats 4000000 in
theorem tX4_init {g : GG} {d : Nat} {r : HR}  {I : HI} {L : HL} {res : HI × HL} (hf : fX4_init I L = res) : CT g mX4_init (d + 1) 1 (4) (53) r I L [.ref 52] (PoV (54) (rX4_init r) res.1 res.2) := by
  refine CT.of rfl (Nat.le_of_ble_eq_true rfl) ?_
  show V g mX4_init (d + 1) 1 (4) (53) r I L 0 [some (.ref 52)] [] (PoV (54) (rX4_init r) res.1 res.2)
  refine V_aload_n (pc := 0) dX4_init_0 rfl rfl rfl ?_
  refine V_objInit (pc := 1) dX4_init_1 ⟨mlX4_3, wobj.1, wobj.2⟩ (Nat.le_of_ble_eq_true rfl) rfl ?_
  refine V_aload_n (pc := 4) dX4_init_4 rfl rfl rfl ?_
  refine V_iconst (pc := 5) dX4_init_5 ic_4 rfl ?_
  let r1 : HR := zr0 none r (53)
  let I2 : HI := zr0 0 I (53)
  let L3 : HL := zr0 0 L (53)
  refine V_newa (k := 0) (N := 4) (kc := 0) (ks := 0) (pc := 6) dX4_init_6 rfl rfl (fun _ _ h => h) (by decide) wa_int sh_53 (by decide) (by decide) (by decide) rfl rfl ?_
  let r4 : HR := up2 r1 52 0 (some 53)
  refine V_putR (pc := 8) dX4_init_8 flX4_9 (by first | exact Or.inl ⟨_, rfl⟩ | exact Or.inr ⟨_, rfl⟩) (Or.inr ⟨rfl, rfl, rfl⟩) (by omega) (congrArg Prod.fst sh_52) rfl ?_
  cases hf
  exact V_vret (pc := 11) dX4_init_11 rfl PoV_mk
/-! ShadowDoors$Acts (made) -/
def rX0_init (r : HR) : HR :=
  let r1 : HR := zr0 none r (55)
  let r4 : HR := up2 r1 54 0 (some 55)
  r4
noncomputable def fX0_init (I : HI) (L : HL) : HI × HL :=
  let I2 : HI := zr0 0 I (55)
  let L3 : HL := zr0 0 L (55)
  (I2, L3)
set_option maxRecDepth 100000 in
set_option maxHeartbeats 4000000 in
theorem tX0_init {g : GG} {d : Nat} {r : HR}  {I : HI} {L : HL} {res : HI × HL} (hf : fX0_init I L = res) : CT g mX0_init (d + 1) 1 (41) (55) r I L [.ref 54] (PoV (56) (rX0_init r) res.1 res.2) := by
  refine CT.of rfl (Nat.le_of_ble_eq_true rfl) ?_
  show V g mX0_init (d + 1) 1 (41) (55) r I L 0 [some (.ref 54)] [] (PoV (56) (rX0_init r) res.1 res.2)
  refine V_aload_n (pc := 0) dX0_init_0 rfl rfl rfl ?_
  refine V_objInit (pc := 1) dX0_init_1 ⟨mlX0_3, wobj.1, wobj.2⟩ (Nat.le_of_ble_eq_true rfl) rfl ?_
  refine V_aload_n (pc := 4) dX0_init_4 rfl rfl rfl ?_
  refine V_bipush (pc := 5) dX0_init_5 bp_41 rfl ?_
  let r1 : HR := zr0 none r (55)
  let I2 : HI := zr0 0 I (55)
  let L3 : HL := zr0 0 L (55)
  refine V_newa (k := 1) (N := 41) (kc := 0) (ks := 0) (pc := 7) dX0_init_7 rfl rfl (fun _ _ h => h) (by decide) wa_long sh_55 (by decide) (by decide) (by decide) rfl rfl ?_
  let r4 : HR := up2 r1 54 0 (some 55)
  refine V_putR (pc := 9) dX0_init_9 flX0_9 (by first | exact Or.inl ⟨_, rfl⟩ | exact Or.inr ⟨_, rfl⟩) (Or.inr ⟨rfl, rfl, rfl⟩) (by omega) (congrArg Prod.fst sh_54) rfl ?_
  cases hf
  exact V_vret (pc := 12) dX0_init_12 rfl PoV_mk
/-! ShadowDoors$Sky (made) -/
def rX7_init (r : HR) : HR :=
  let r1 : HR := zr0 none r (58)
  let r4 : HR := up2 r1 57 7 (some 58)
  let r5 : HR := zr0 none r4 (59)
  let r8 : HR := up2 r5 57 8 (some 59)
  let r9 : HR := zr0 none r8 (60)
  let r12 : HR := up2 r9 57 9 (some 60)
  let r13 : HR := up2 r12 57 0 (some 2)
  r13
noncomputable def fX7_init (I : HI) (L : HL) : HI × HL :=
  let I2 : HI := zr0 0 I (58)
  let L3 : HL := zr0 0 L (58)
  let I6 : HI := zr0 0 I2 (59)
  let L7 : HL := zr0 0 L3 (59)
  let I10 : HI := zr0 0 I6 (60)
  let L11 : HL := zr0 0 L7 (60)
  (I10, L11)
set_option maxRecDepth 100000 in
set_option maxHeartbeats 4000000 in
theorem tX7_init {g : GG} {d : Nat} {r : HR}  {I : HI} {L : HL} {res : HI × HL} (hf : fX7_init I L = res) : CT g mX7_init (d + 1) 3 (451) (58) r I L [.ref 57, .ref 2] (PoV (61) (rX7_init r) res.1 res.2) := by
  refine CT.of rfl (Nat.le_of_ble_eq_true rfl) ?_
  show V g mX7_init (d + 1) 3 (451) (58) r I L 0 [some (.ref 57), some (.ref 2)] [] (PoV (61) (rX7_init r) res.1 res.2)
  refine V_aload_n (pc := 0) dX7_init_0 rfl rfl rfl ?_
  refine V_objInit (pc := 1) dX7_init_1 ⟨mlX7_3, wobj.1, wobj.2⟩ (Nat.le_of_ble_eq_true rfl) rfl ?_
  refine V_aload_n (pc := 4) dX7_init_4 rfl rfl rfl ?_
  refine V_sipush (pc := 5) dX7_init_5 sp_392 rfl ?_
  let r1 : HR := zr0 none r (58)
  let I2 : HI := zr0 0 I (58)
  let L3 : HL := zr0 0 L (58)
  refine V_newa (k := 1) (N := 392) (kc := 2) (ks := 59) (pc := 8) dX7_init_8 rfl rfl (fun _ _ h => h) (by decide) wa_long sh_58 (by decide) (by decide) (by decide) rfl rfl ?_
  let r4 : HR := up2 r1 57 7 (some 58)
  refine V_putR (pc := 10) dX7_init_10 flX7_9 (by first | exact Or.inl ⟨_, rfl⟩ | exact Or.inr ⟨_, rfl⟩) (Or.inr ⟨rfl, rfl, rfl⟩) (by omega) (congrArg Prod.fst sh_57) rfl ?_
  refine V_aload_n (pc := 13) dX7_init_13 rfl rfl rfl ?_
  refine V_bipush (pc := 14) dX7_init_14 bp_49 rfl ?_
  let r5 : HR := zr0 none r4 (59)
  let I6 : HI := zr0 0 I2 (59)
  let L7 : HL := zr0 0 L3 (59)
  refine V_newa (k := 0) (N := 49) (kc := 1) (ks := 10) (pc := 16) dX7_init_16 rfl rfl (fun _ _ h => h) (by decide) wa_int sh_59 (by decide) (by decide) (by decide) rfl rfl ?_
  let r8 : HR := up2 r5 57 8 (some 59)
  refine V_putR (pc := 18) dX7_init_18 flX7_15 (by first | exact Or.inl ⟨_, rfl⟩ | exact Or.inr ⟨_, rfl⟩) (Or.inr ⟨rfl, rfl, rfl⟩) (by omega) (congrArg Prod.fst sh_57) rfl ?_
  refine V_aload_n (pc := 21) dX7_init_21 rfl rfl rfl ?_
  refine V_bipush (pc := 22) dX7_init_22 bp_10 rfl ?_
  let r9 : HR := zr0 none r8 (60)
  let I10 : HI := zr0 0 I6 (60)
  let L11 : HL := zr0 0 L7 (60)
  refine V_newa (k := 0) (N := 10) (kc := 0) (ks := 0) (pc := 24) dX7_init_24 rfl rfl (fun _ _ h => h) (by decide) wa_int sh_60 (by decide) (by decide) (by decide) rfl rfl ?_
  let r12 : HR := up2 r9 57 9 (some 60)
  refine V_putR (pc := 26) dX7_init_26 flX7_19 (by first | exact Or.inl ⟨_, rfl⟩ | exact Or.inr ⟨_, rfl⟩) (Or.inr ⟨rfl, rfl, rfl⟩) (by omega) (congrArg Prod.fst sh_57) rfl ?_
  refine V_aload_n (pc := 29) dX7_init_29 rfl rfl rfl ?_
  refine V_aload_n (pc := 30) dX7_init_30 rfl rfl rfl ?_
  let r13 : HR := up2 r12 57 0 (some 2)
  refine V_putR (pc := 31) dX7_init_31 flX7_22 (by first | exact Or.inl ⟨_, rfl⟩ | exact Or.inr ⟨_, rfl⟩) (Or.inl rfl) (by omega) (congrArg Prod.fst sh_57) rfl ?_
  cases hf
  exact V_vret (pc := 34) dX7_init_34 rfl PoV_mk
/-! ShadowDoors$Ways (made) -/
def rX10_init (r : HR) : HR :=
  let r1 : HR := zr0 none r (62)
  let r4 : HR := up2 r1 61 1 (some 62)
  let r5 : HR := zr0 none r4 (63)
  let r8 : HR := up2 r5 61 7 (some 63)
  let r9 : HR := zr0 none r8 (64)
  let r12 : HR := up2 r9 61 8 (some 64)
  let r13 : HR := zr0 none r12 (65)
  let r16 : HR := up2 r13 61 9 (some 65)
  let r17 : HR := up2 r16 61 0 (some 57)
  r17
noncomputable def fX10_init (I : HI) (L : HL) : HI × HL :=
  let I2 : HI := zr0 0 I (62)
  let L3 : HL := zr0 0 L (62)
  let I6 : HI := zr0 0 I2 (63)
  let L7 : HL := zr0 0 L3 (63)
  let I10 : HI := zr0 0 I6 (64)
  let L11 : HL := zr0 0 L7 (64)
  let I14 : HI := zr0 0 I10 (65)
  let L15 : HL := zr0 0 L11 (65)
  (I14, L15)
set_option maxRecDepth 100000 in
set_option maxHeartbeats 4000000 in
theorem tX10_init {g : GG} {d : Nat} {r : HR}  {I : HI} {L : HL} {res : HI × HL} (hf : fX10_init I L = res) : CT g mX10_init (d + 1) 4 (225) (62) r I L [.ref 61, .ref 57] (PoV (66) (rX10_init r) res.1 res.2) := by
  refine CT.of rfl (Nat.le_of_ble_eq_true rfl) ?_
  show V g mX10_init (d + 1) 4 (225) (62) r I L 0 [some (.ref 61), some (.ref 57)] [] (PoV (66) (rX10_init r) res.1 res.2)
  refine V_aload_n (pc := 0) dX10_init_0 rfl rfl rfl ?_
  refine V_objInit (pc := 1) dX10_init_1 ⟨mlX10_3, wobj.1, wobj.2⟩ (Nat.le_of_ble_eq_true rfl) rfl ?_
  refine V_aload_n (pc := 4) dX10_init_4 rfl rfl rfl ?_
  refine V_bipush (pc := 5) dX10_init_5 bp_48 rfl ?_
  let r1 : HR := zr0 none r (62)
  let I2 : HI := zr0 0 I (62)
  let L3 : HL := zr0 0 L (62)
  refine V_newa (k := 0) (N := 48) (kc := 3) (ks := 177) (pc := 7) dX10_init_7 rfl rfl (fun _ _ h => h) (by decide) wa_int sh_62 (by decide) (by decide) (by decide) rfl rfl ?_
  let r4 : HR := up2 r1 61 1 (some 62)
  refine V_putR (pc := 9) dX10_init_9 flX10_9 (by first | exact Or.inl ⟨_, rfl⟩ | exact Or.inr ⟨_, rfl⟩) (Or.inr ⟨rfl, rfl, rfl⟩) (by omega) (congrArg Prod.fst sh_61) rfl ?_
  refine V_aload_n (pc := 12) dX10_init_12 rfl rfl rfl ?_
  refine V_bipush (pc := 13) dX10_init_13 bp_49 rfl ?_
  let r5 : HR := zr0 none r4 (63)
  let I6 : HI := zr0 0 I2 (63)
  let L7 : HL := zr0 0 L3 (63)
  refine V_newa (k := 1) (N := 49) (kc := 2) (ks := 128) (pc := 15) dX10_init_15 rfl rfl (fun _ _ h => h) (by decide) wa_long sh_63 (by decide) (by decide) (by decide) rfl rfl ?_
  let r8 : HR := up2 r5 61 7 (some 63)
  refine V_putR (pc := 17) dX10_init_17 flX10_15 (by first | exact Or.inl ⟨_, rfl⟩ | exact Or.inr ⟨_, rfl⟩) (Or.inr ⟨rfl, rfl, rfl⟩) (by omega) (congrArg Prod.fst sh_61) rfl ?_
  refine V_aload_n (pc := 20) dX10_init_20 rfl rfl rfl ?_
  refine V_bipush (pc := 21) dX10_init_21 bp_64 rfl ?_
  let r9 : HR := zr0 none r8 (64)
  let I10 : HI := zr0 0 I6 (64)
  let L11 : HL := zr0 0 L7 (64)
  refine V_newa (k := 1) (N := 64) (kc := 1) (ks := 64) (pc := 23) dX10_init_23 rfl rfl (fun _ _ h => h) (by decide) wa_long sh_64 (by decide) (by decide) (by decide) rfl rfl ?_
  let r12 : HR := up2 r9 61 8 (some 64)
  refine V_putR (pc := 25) dX10_init_25 flX10_19 (by first | exact Or.inl ⟨_, rfl⟩ | exact Or.inr ⟨_, rfl⟩) (Or.inr ⟨rfl, rfl, rfl⟩) (by omega) (congrArg Prod.fst sh_61) rfl ?_
  refine V_aload_n (pc := 28) dX10_init_28 rfl rfl rfl ?_
  refine V_bipush (pc := 29) dX10_init_29 bp_64 rfl ?_
  let r13 : HR := zr0 none r12 (65)
  let I14 : HI := zr0 0 I10 (65)
  let L15 : HL := zr0 0 L11 (65)
  refine V_newa (k := 1) (N := 64) (kc := 0) (ks := 0) (pc := 31) dX10_init_31 rfl rfl (fun _ _ h => h) (by decide) wa_long sh_65 (by decide) (by decide) (by decide) rfl rfl ?_
  let r16 : HR := up2 r13 61 9 (some 65)
  refine V_putR (pc := 33) dX10_init_33 flX10_22 (by first | exact Or.inl ⟨_, rfl⟩ | exact Or.inr ⟨_, rfl⟩) (Or.inr ⟨rfl, rfl, rfl⟩) (by omega) (congrArg Prod.fst sh_61) rfl ?_
  refine V_aload_n (pc := 36) dX10_init_36 rfl rfl rfl ?_
  refine V_aload_n (pc := 37) dX10_init_37 rfl rfl rfl ?_
  let r17 : HR := up2 r16 61 0 (some 57)
  refine V_putR (pc := 38) dX10_init_38 flX10_25 (by first | exact Or.inl ⟨_, rfl⟩ | exact Or.inr ⟨_, rfl⟩) (Or.inr ⟨rfl, rfl, rfl⟩) (by omega) (congrArg Prod.fst sh_61) rfl ?_
  cases hf
  exact V_vret (pc := 41) dX10_init_41 rfl PoV_mk
/-! ShadowDoors$Looks (made) -/
def rX3_init (r : HR) : HR :=
  let r1 : HR := zr0 none r (67)
  let r4 : HR := up2 r1 66 4 (some 67)
  let r5 : HR := zr0 none r4 (68)
  let r8 : HR := up2 r5 66 5 (some 68)
  let r9 : HR := zr0 none r8 (69)
  let r12 : HR := up2 r9 66 6 (some 69)
  let r13 : HR := zr0 none r12 (70)
  let r16 : HR := up2 r13 66 7 (some 70)
  let r17 : HR := zr0 none r16 (71)
  let r20 : HR := up2 r17 66 10 (some 71)
  let r21 : HR := zr0 none r20 (72)
  let r24 : HR := up2 r21 66 11 (some 72)
  r24
noncomputable def fX3_init (I : HI) (L : HL) : HI × HL :=
  let I2 : HI := zr0 0 I (67)
  let L3 : HL := zr0 0 L (67)
  let I6 : HI := zr0 0 I2 (68)
  let L7 : HL := zr0 0 L3 (68)
  let I10 : HI := zr0 0 I6 (69)
  let L11 : HL := zr0 0 L7 (69)
  let I14 : HI := zr0 0 I10 (70)
  let L15 : HL := zr0 0 L11 (70)
  let I18 : HI := zr0 0 I14 (71)
  let L19 : HL := zr0 0 L15 (71)
  let I22 : HI := zr0 0 I18 (72)
  let L23 : HL := zr0 0 L19 (72)
  (I22, L23)
set_option maxRecDepth 100000 in
set_option maxHeartbeats 4000000 in
theorem tX3_init {g : GG} {d : Nat} {r : HR}  {I : HI} {L : HL} {res : HI × HL} (hf : fX3_init I L = res) : CT g mX3_init (d + 1) 6 (128) (67) r I L [.ref 66] (PoV (73) (rX3_init r) res.1 res.2) := by
  refine CT.of rfl (Nat.le_of_ble_eq_true rfl) ?_
  show V g mX3_init (d + 1) 6 (128) (67) r I L 0 [some (.ref 66)] [] (PoV (73) (rX3_init r) res.1 res.2)
  refine V_aload_n (pc := 0) dX3_init_0 rfl rfl rfl ?_
  refine V_objInit (pc := 1) dX3_init_1 ⟨mlX3_3, wobj.1, wobj.2⟩ (Nat.le_of_ble_eq_true rfl) rfl ?_
  refine V_aload_n (pc := 4) dX3_init_4 rfl rfl rfl ?_
  refine V_bipush (pc := 5) dX3_init_5 bp_30 rfl ?_
  let r1 : HR := zr0 none r (67)
  let I2 : HI := zr0 0 I (67)
  let L3 : HL := zr0 0 L (67)
  refine V_newa (k := 0) (N := 30) (kc := 5) (ks := 98) (pc := 7) dX3_init_7 rfl rfl (fun _ _ h => h) (by decide) wa_int sh_67 (by decide) (by decide) (by decide) rfl rfl ?_
  let r4 : HR := up2 r1 66 4 (some 67)
  refine V_putR (pc := 9) dX3_init_9 flX3_9 (by first | exact Or.inl ⟨_, rfl⟩ | exact Or.inr ⟨_, rfl⟩) (Or.inr ⟨rfl, rfl, rfl⟩) (by omega) (congrArg Prod.fst sh_66) rfl ?_
  refine V_aload_n (pc := 12) dX3_init_12 rfl rfl rfl ?_
  refine V_bipush (pc := 13) dX3_init_13 bp_30 rfl ?_
  let r5 : HR := zr0 none r4 (68)
  let I6 : HI := zr0 0 I2 (68)
  let L7 : HL := zr0 0 L3 (68)
  refine V_newa (k := 0) (N := 30) (kc := 4) (ks := 68) (pc := 15) dX3_init_15 rfl rfl (fun _ _ h => h) (by decide) wa_int sh_68 (by decide) (by decide) (by decide) rfl rfl ?_
  let r8 : HR := up2 r5 66 5 (some 68)
  refine V_putR (pc := 17) dX3_init_17 flX3_15 (by first | exact Or.inl ⟨_, rfl⟩ | exact Or.inr ⟨_, rfl⟩) (Or.inr ⟨rfl, rfl, rfl⟩) (by omega) (congrArg Prod.fst sh_66) rfl ?_
  refine V_aload_n (pc := 20) dX3_init_20 rfl rfl rfl ?_
  refine V_bipush (pc := 21) dX3_init_21 bp_30 rfl ?_
  let r9 : HR := zr0 none r8 (69)
  let I10 : HI := zr0 0 I6 (69)
  let L11 : HL := zr0 0 L7 (69)
  refine V_newa (k := 0) (N := 30) (kc := 3) (ks := 38) (pc := 23) dX3_init_23 rfl rfl (fun _ _ h => h) (by decide) wa_int sh_69 (by decide) (by decide) (by decide) rfl rfl ?_
  let r12 : HR := up2 r9 66 6 (some 69)
  refine V_putR (pc := 25) dX3_init_25 flX3_18 (by first | exact Or.inl ⟨_, rfl⟩ | exact Or.inr ⟨_, rfl⟩) (Or.inr ⟨rfl, rfl, rfl⟩) (by omega) (congrArg Prod.fst sh_66) rfl ?_
  refine V_aload_n (pc := 28) dX3_init_28 rfl rfl rfl ?_
  refine V_bipush (pc := 29) dX3_init_29 bp_30 rfl ?_
  let r13 : HR := zr0 none r12 (70)
  let I14 : HI := zr0 0 I10 (70)
  let L15 : HL := zr0 0 L11 (70)
  refine V_newa (k := 0) (N := 30) (kc := 2) (ks := 8) (pc := 31) dX3_init_31 rfl rfl (fun _ _ h => h) (by decide) wa_int sh_70 (by decide) (by decide) (by decide) rfl rfl ?_
  let r16 : HR := up2 r13 66 7 (some 70)
  refine V_putR (pc := 33) dX3_init_33 flX3_21 (by first | exact Or.inl ⟨_, rfl⟩ | exact Or.inr ⟨_, rfl⟩) (Or.inr ⟨rfl, rfl, rfl⟩) (by omega) (congrArg Prod.fst sh_66) rfl ?_
  refine V_aload_n (pc := 36) dX3_init_36 rfl rfl rfl ?_
  refine V_iconst (pc := 37) dX3_init_37 ic_4 rfl ?_
  let r17 : HR := zr0 none r16 (71)
  let I18 : HI := zr0 0 I14 (71)
  let L19 : HL := zr0 0 L15 (71)
  refine V_newa (k := 1) (N := 4) (kc := 1) (ks := 4) (pc := 38) dX3_init_38 rfl rfl (fun _ _ h => h) (by decide) wa_long sh_71 (by decide) (by decide) (by decide) rfl rfl ?_
  let r20 : HR := up2 r17 66 10 (some 71)
  refine V_putR (pc := 40) dX3_init_40 flX3_24 (by first | exact Or.inl ⟨_, rfl⟩ | exact Or.inr ⟨_, rfl⟩) (Or.inr ⟨rfl, rfl, rfl⟩) (by omega) (congrArg Prod.fst sh_66) rfl ?_
  refine V_aload_n (pc := 43) dX3_init_43 rfl rfl rfl ?_
  refine V_iconst (pc := 44) dX3_init_44 ic_4 rfl ?_
  let r21 : HR := zr0 none r20 (72)
  let I22 : HI := zr0 0 I18 (72)
  let L23 : HL := zr0 0 L19 (72)
  refine V_newa (k := 0) (N := 4) (kc := 0) (ks := 0) (pc := 45) dX3_init_45 rfl rfl (fun _ _ h => h) (by decide) wa_int sh_72 (by decide) (by decide) (by decide) rfl rfl ?_
  let r24 : HR := up2 r21 66 11 (some 72)
  refine V_putR (pc := 47) dX3_init_47 flX3_28 (by first | exact Or.inl ⟨_, rfl⟩ | exact Or.inr ⟨_, rfl⟩) (Or.inr ⟨rfl, rfl, rfl⟩) (by omega) (congrArg Prod.fst sh_66) rfl ?_
  cases hf
  exact V_vret (pc := 50) dX3_init_50 rfl PoV_mk
/-! ShadowDoorsModel (made) -/
def rX12_init (r : HR) : HR :=
  let r1 : HR := zr0 none r (74)
  let r4 : HR := up2 r1 73 0 (some 74)
  let r6 : HR := zr0 none r4 (75)
  let r9 : HR := up2 r6 73 10 (some 75)
  let r10 : HR := zr0 none r9 (76)
  let r13 : HR := up2 r10 73 11 (some 76)
  let r14 : HR := zr0 none r13 (77)
  let r17 : HR := up2 r14 73 12 (some 77)
  let r18 : HR := zr0 none r17 (78)
  let r21 : HR := up2 r18 73 13 (some 78)
  let r22 : HR := zr0 none r21 (79)
  let r25 : HR := up2 r22 73 14 (some 79)
  let r26 : HR := zr0 none r25 (80)
  let r29 : HR := up2 r26 73 15 (some 80)
  let r30 : HR := zr0 none r29 (81)
  let r33 : HR := up2 r30 73 16 (some 81)
  let r34 : HR := zr0 none r33 (82)
  let r37 : HR := up2 r34 73 24 (some 82)
  let r38 : HR := zr0 none r37 (83)
  let r41 : HR := up2 r38 73 25 (some 83)
  let r42 : HR := zr0 none r41 (84)
  let r45 : HR := up2 r42 73 26 (some 84)
  let r46 : HR := zr0 none r45 (85)
  let r49 : HR := up2 r46 73 27 (some 85)
  let r50 : HR := zr0 none r49 (86)
  let r53 : HR := up2 r50 73 28 (some 86)
  let r54 : HR := zr0 none r53 (87)
  let r57 : HR := up2 r54 73 29 (some 87)
  let r58 : HR := zr0 none r57 (88)
  let r61 : HR := up2 r58 73 30 (some 88)
  let r62 : HR := zr0 none r61 (89)
  let r65 : HR := up2 r62 73 31 (some 89)
  let r66 : HR := zr0 none r65 (90)
  let r69 : HR := up2 r66 73 32 (some 90)
  let r70 : HR := zr0 none r69 (91)
  let r73 : HR := up2 r70 73 33 (some 91)
  let r74 : HR := zr0 none r73 (92)
  let r77 : HR := up2 r74 73 34 (some 92)
  let r78 : HR := zr0 none r77 (93)
  let r81 : HR := up2 r78 73 35 (some 93)
  let r82 : HR := zr0 none r81 (94)
  let r85 : HR := up2 r82 73 36 (some 94)
  let r86 : HR := zr0 none r85 (95)
  let r89 : HR := up2 r86 73 37 (some 95)
  let r90 : HR := zr0 none r89 (96)
  let r93 : HR := up2 r90 73 38 (some 96)
  let r94 : HR := zr0 none r93 (97)
  let r97 : HR := up2 r94 73 39 (some 97)
  let r98 : HR := zr0 none r97 (98)
  let r101 : HR := up2 r98 73 40 (some 98)
  let r104 : HR := zr0 none r101 (99)
  let r107 : HR := up2 r104 73 63 (some 99)
  let r108 : HR := zr0 none r107 (100)
  let r111 : HR := up2 r108 73 70 (some 100)
  let r112 : HR := zr0 none r111 (101)
  let r115 : HR := up2 r112 73 71 (some 101)
  let r116 : HR := zr0 none r115 (102)
  let r119 : HR := up2 r116 73 72 (some 102)
  let r120 : HR := zr0 none r119 (103)
  let r123 : HR := up2 r120 73 75 (some 103)
  let r124 : HR := zr0 none r123 (104)
  let r127 : HR := up2 r124 73 77 (some 104)
  let r128 : HR := zr0 none r127 (105)
  let r131 : HR := up2 r128 73 78 (some 105)
  let r132 : HR := zr0 none r131 (106)
  let r135 : HR := up2 r132 73 79 (some 106)
  let r136 : HR := zr0 none r135 (107)
  let r139 : HR := up2 r136 73 80 (some 107)
  let r140 : HR := zr0 none r139 (108)
  let r143 : HR := up2 r140 73 81 (some 108)
  let r144 : HR := zr0 none r143 (109)
  let r147 : HR := up2 r144 73 82 (some 109)
  let r148 : HR := zr0 none r147 (110)
  let r151 : HR := up2 r148 73 83 (some 110)
  let r152 : HR := zr0 none r151 (111)
  let r155 : HR := up2 r152 73 84 (some 111)
  let r156 : HR := zr0 none r155 (112)
  let r159 : HR := up2 r156 73 85 (some 112)
  let r160 : HR := zr0 none r159 (113)
  let r163 : HR := up2 r160 73 88 (some 113)
  let r164 : HR := zr0 none r163 (114)
  let r167 : HR := up2 r164 73 90 (some 114)
  let r168 : HR := zr0 none r167 (115)
  let r171 : HR := up2 r168 73 91 (some 115)
  r171
noncomputable def fX12_init (I : HI) (L : HL) : HI × HL :=
  let I2 : HI := zr0 0 I (74)
  let L3 : HL := zr0 0 L (74)
  let I5 : HI := up2 I2 73 3 (-1 : Int32)
  let I7 : HI := zr0 0 I5 (75)
  let L8 : HL := zr0 0 L3 (75)
  let I11 : HI := zr0 0 I7 (76)
  let L12 : HL := zr0 0 L8 (76)
  let I15 : HI := zr0 0 I11 (77)
  let L16 : HL := zr0 0 L12 (77)
  let I19 : HI := zr0 0 I15 (78)
  let L20 : HL := zr0 0 L16 (78)
  let I23 : HI := zr0 0 I19 (79)
  let L24 : HL := zr0 0 L20 (79)
  let I27 : HI := zr0 0 I23 (80)
  let L28 : HL := zr0 0 L24 (80)
  let I31 : HI := zr0 0 I27 (81)
  let L32 : HL := zr0 0 L28 (81)
  let I35 : HI := zr0 0 I31 (82)
  let L36 : HL := zr0 0 L32 (82)
  let I39 : HI := zr0 0 I35 (83)
  let L40 : HL := zr0 0 L36 (83)
  let I43 : HI := zr0 0 I39 (84)
  let L44 : HL := zr0 0 L40 (84)
  let I47 : HI := zr0 0 I43 (85)
  let L48 : HL := zr0 0 L44 (85)
  let I51 : HI := zr0 0 I47 (86)
  let L52 : HL := zr0 0 L48 (86)
  let I55 : HI := zr0 0 I51 (87)
  let L56 : HL := zr0 0 L52 (87)
  let I59 : HI := zr0 0 I55 (88)
  let L60 : HL := zr0 0 L56 (88)
  let I63 : HI := zr0 0 I59 (89)
  let L64 : HL := zr0 0 L60 (89)
  let I67 : HI := zr0 0 I63 (90)
  let L68 : HL := zr0 0 L64 (90)
  let I71 : HI := zr0 0 I67 (91)
  let L72 : HL := zr0 0 L68 (91)
  let I75 : HI := zr0 0 I71 (92)
  let L76 : HL := zr0 0 L72 (92)
  let I79 : HI := zr0 0 I75 (93)
  let L80 : HL := zr0 0 L76 (93)
  let I83 : HI := zr0 0 I79 (94)
  let L84 : HL := zr0 0 L80 (94)
  let I87 : HI := zr0 0 I83 (95)
  let L88 : HL := zr0 0 L84 (95)
  let I91 : HI := zr0 0 I87 (96)
  let L92 : HL := zr0 0 L88 (96)
  let I95 : HI := zr0 0 I91 (97)
  let L96 : HL := zr0 0 L92 (97)
  let I99 : HI := zr0 0 I95 (98)
  let L100 : HL := zr0 0 L96 (98)
  let I102 : HI := up2 I99 73 52 (6 : Int32)
  let I103 : HI := up2 I102 73 53 (6 : Int32)
  let I105 : HI := zr0 0 I103 (99)
  let L106 : HL := zr0 0 L100 (99)
  let I109 : HI := zr0 0 I105 (100)
  let L110 : HL := zr0 0 L106 (100)
  let I113 : HI := zr0 0 I109 (101)
  let L114 : HL := zr0 0 L110 (101)
  let I117 : HI := zr0 0 I113 (102)
  let L118 : HL := zr0 0 L114 (102)
  let I121 : HI := zr0 0 I117 (103)
  let L122 : HL := zr0 0 L118 (103)
  let I125 : HI := zr0 0 I121 (104)
  let L126 : HL := zr0 0 L122 (104)
  let I129 : HI := zr0 0 I125 (105)
  let L130 : HL := zr0 0 L126 (105)
  let I133 : HI := zr0 0 I129 (106)
  let L134 : HL := zr0 0 L130 (106)
  let I137 : HI := zr0 0 I133 (107)
  let L138 : HL := zr0 0 L134 (107)
  let I141 : HI := zr0 0 I137 (108)
  let L142 : HL := zr0 0 L138 (108)
  let I145 : HI := zr0 0 I141 (109)
  let L146 : HL := zr0 0 L142 (109)
  let I149 : HI := zr0 0 I145 (110)
  let L150 : HL := zr0 0 L146 (110)
  let I153 : HI := zr0 0 I149 (111)
  let L154 : HL := zr0 0 L150 (111)
  let I157 : HI := zr0 0 I153 (112)
  let L158 : HL := zr0 0 L154 (112)
  let I161 : HI := zr0 0 I157 (113)
  let L162 : HL := zr0 0 L158 (113)
  let I165 : HI := zr0 0 I161 (114)
  let L166 : HL := zr0 0 L162 (114)
  let I169 : HI := zr0 0 I165 (115)
  let L170 : HL := zr0 0 L166 (115)
  (I169, L170)
set_option maxRecDepth 100000 in
set_option maxHeartbeats 4000000 in
theorem tX12_init {g : GG} {d : Nat} {r : HR}  {I : HI} {L : HL} {res : HI × HL} (hf : fX12_init I L = res) : CT g mX12_init (d + 1) 42 (7250) (74) r I L [.ref 73] (PoV (116) (rX12_init r) res.1 res.2) := by
  refine CT.of rfl (Nat.le_of_ble_eq_true rfl) ?_
  show V g mX12_init (d + 1) 42 (7250) (74) r I L 0 [some (.ref 73)] [] (PoV (116) (rX12_init r) res.1 res.2)
  refine V_aload_n (pc := 0) dX12_init_0 rfl rfl rfl ?_
  refine V_objInit (pc := 1) dX12_init_1 ⟨mlX12_1, wobj.1, wobj.2⟩ (Nat.le_of_ble_eq_true rfl) rfl ?_
  refine V_aload_n (pc := 4) dX12_init_4 rfl rfl rfl ?_
  refine V_sipush (pc := 5) dX12_init_5 sp_1600 rfl ?_
  let r1 : HR := zr0 none r (74)
  let I2 : HI := zr0 0 I (74)
  let L3 : HL := zr0 0 L (74)
  refine V_newa (k := 0) (N := 1600) (kc := 41) (ks := 5650) (pc := 8) dX12_init_8 rfl rfl (fun _ _ h => h) (by decide) wa_int sh_74 (by decide) (by decide) (by decide) rfl rfl ?_
  let r4 : HR := up2 r1 73 0 (some 74)
  refine V_putR (pc := 10) dX12_init_10 flX12_7 (by first | exact Or.inl ⟨_, rfl⟩ | exact Or.inr ⟨_, rfl⟩) (Or.inr ⟨rfl, rfl, rfl⟩) (by omega) (congrArg Prod.fst sh_73) rfl ?_
  refine V_aload_n (pc := 13) dX12_init_13 rfl rfl rfl ?_
  refine V_iconst (pc := 14) dX12_init_14 ic_m1 rfl ?_
  let I5 : HI := up2 I2 73 3 (-1 : Int32)
  refine V_putI (pc := 15) dX12_init_15 flX12_13 rfl rfl (by omega) (congrArg Prod.fst sh_73) rfl ?_
  refine V_aload_n (pc := 18) dX12_init_18 rfl rfl rfl ?_
  refine V_bipush (pc := 19) dX12_init_19 bp_16 rfl ?_
  let r6 : HR := zr0 none r4 (75)
  let I7 : HI := zr0 0 I5 (75)
  let L8 : HL := zr0 0 L3 (75)
  refine V_newa (k := 1) (N := 16) (kc := 40) (ks := 5634) (pc := 21) dX12_init_21 rfl rfl (fun _ _ h => h) (by decide) wa_long sh_75 (by decide) (by decide) (by decide) rfl rfl ?_
  let r9 : HR := up2 r6 73 10 (some 75)
  refine V_putR (pc := 23) dX12_init_23 flX12_17 (by first | exact Or.inl ⟨_, rfl⟩ | exact Or.inr ⟨_, rfl⟩) (Or.inr ⟨rfl, rfl, rfl⟩) (by omega) (congrArg Prod.fst sh_73) rfl ?_
  refine V_aload_n (pc := 26) dX12_init_26 rfl rfl rfl ?_
  refine V_sipush (pc := 27) dX12_init_27 sp_320 rfl ?_
  let r10 : HR := zr0 none r9 (76)
  let I11 : HI := zr0 0 I7 (76)
  let L12 : HL := zr0 0 L8 (76)
  refine V_newa (k := 0) (N := 320) (kc := 39) (ks := 5314) (pc := 30) dX12_init_30 rfl rfl (fun _ _ h => h) (by decide) wa_int sh_76 (by decide) (by decide) (by decide) rfl rfl ?_
  let r13 : HR := up2 r10 73 11 (some 76)
  refine V_putR (pc := 32) dX12_init_32 flX12_21 (by first | exact Or.inl ⟨_, rfl⟩ | exact Or.inr ⟨_, rfl⟩) (Or.inr ⟨rfl, rfl, rfl⟩) (by omega) (congrArg Prod.fst sh_73) rfl ?_
  refine V_aload_n (pc := 35) dX12_init_35 rfl rfl rfl ?_
  refine V_sipush (pc := 36) dX12_init_36 sp_320 rfl ?_
  let r14 : HR := zr0 none r13 (77)
  let I15 : HI := zr0 0 I11 (77)
  let L16 : HL := zr0 0 L12 (77)
  refine V_newa (k := 0) (N := 320) (kc := 38) (ks := 4994) (pc := 39) dX12_init_39 rfl rfl (fun _ _ h => h) (by decide) wa_int sh_77 (by decide) (by decide) (by decide) rfl rfl ?_
  let r17 : HR := up2 r14 73 12 (some 77)
  refine V_putR (pc := 41) dX12_init_41 flX12_24 (by first | exact Or.inl ⟨_, rfl⟩ | exact Or.inr ⟨_, rfl⟩) (Or.inr ⟨rfl, rfl, rfl⟩) (by omega) (congrArg Prod.fst sh_73) rfl ?_
  refine V_aload_n (pc := 44) dX12_init_44 rfl rfl rfl ?_
  refine V_sipush (pc := 45) dX12_init_45 sp_320 rfl ?_
  let r18 : HR := zr0 none r17 (78)
  let I19 : HI := zr0 0 I15 (78)
  let L20 : HL := zr0 0 L16 (78)
  refine V_newa (k := 0) (N := 320) (kc := 37) (ks := 4674) (pc := 48) dX12_init_48 rfl rfl (fun _ _ h => h) (by decide) wa_int sh_78 (by decide) (by decide) (by decide) rfl rfl ?_
  let r21 : HR := up2 r18 73 13 (some 78)
  refine V_putR (pc := 50) dX12_init_50 flX12_27 (by first | exact Or.inl ⟨_, rfl⟩ | exact Or.inr ⟨_, rfl⟩) (Or.inr ⟨rfl, rfl, rfl⟩) (by omega) (congrArg Prod.fst sh_73) rfl ?_
  refine V_aload_n (pc := 53) dX12_init_53 rfl rfl rfl ?_
  refine V_sipush (pc := 54) dX12_init_54 sp_320 rfl ?_
  let r22 : HR := zr0 none r21 (79)
  let I23 : HI := zr0 0 I19 (79)
  let L24 : HL := zr0 0 L20 (79)
  refine V_newa (k := 0) (N := 320) (kc := 36) (ks := 4354) (pc := 57) dX12_init_57 rfl rfl (fun _ _ h => h) (by decide) wa_int sh_79 (by decide) (by decide) (by decide) rfl rfl ?_
  let r25 : HR := up2 r22 73 14 (some 79)
  refine V_putR (pc := 59) dX12_init_59 flX12_30 (by first | exact Or.inl ⟨_, rfl⟩ | exact Or.inr ⟨_, rfl⟩) (Or.inr ⟨rfl, rfl, rfl⟩) (by omega) (congrArg Prod.fst sh_73) rfl ?_
  refine V_aload_n (pc := 62) dX12_init_62 rfl rfl rfl ?_
  refine V_sipush (pc := 63) dX12_init_63 sp_160 rfl ?_
  let r26 : HR := zr0 none r25 (80)
  let I27 : HI := zr0 0 I23 (80)
  let L28 : HL := zr0 0 L24 (80)
  refine V_newa (k := 0) (N := 160) (kc := 35) (ks := 4194) (pc := 66) dX12_init_66 rfl rfl (fun _ _ h => h) (by decide) wa_int sh_80 (by decide) (by decide) (by decide) rfl rfl ?_
  let r29 : HR := up2 r26 73 15 (some 80)
  refine V_putR (pc := 68) dX12_init_68 flX12_33 (by first | exact Or.inl ⟨_, rfl⟩ | exact Or.inr ⟨_, rfl⟩) (Or.inr ⟨rfl, rfl, rfl⟩) (by omega) (congrArg Prod.fst sh_73) rfl ?_
  refine V_aload_n (pc := 71) dX12_init_71 rfl rfl rfl ?_
  refine V_bipush (pc := 72) dX12_init_72 bp_64 rfl ?_
  let r30 : HR := zr0 none r29 (81)
  let I31 : HI := zr0 0 I27 (81)
  let L32 : HL := zr0 0 L28 (81)
  refine V_newa (k := 0) (N := 64) (kc := 34) (ks := 4130) (pc := 74) dX12_init_74 rfl rfl (fun _ _ h => h) (by decide) wa_int sh_81 (by decide) (by decide) (by decide) rfl rfl ?_
  let r33 : HR := up2 r30 73 16 (some 81)
  refine V_putR (pc := 76) dX12_init_76 flX12_36 (by first | exact Or.inl ⟨_, rfl⟩ | exact Or.inr ⟨_, rfl⟩) (Or.inr ⟨rfl, rfl, rfl⟩) (by omega) (congrArg Prod.fst sh_73) rfl ?_
  refine V_aload_n (pc := 79) dX12_init_79 rfl rfl rfl ?_
  refine V_iconst (pc := 80) dX12_init_80 ic_3 rfl ?_
  let r34 : HR := zr0 none r33 (82)
  let I35 : HI := zr0 0 I31 (82)
  let L36 : HL := zr0 0 L32 (82)
  refine V_newa (k := 0) (N := 3) (kc := 33) (ks := 4127) (pc := 81) dX12_init_81 rfl rfl (fun _ _ h => h) (by decide) wa_int sh_82 (by decide) (by decide) (by decide) rfl rfl ?_
  let r37 : HR := up2 r34 73 24 (some 82)
  refine V_putR (pc := 83) dX12_init_83 flX12_39 (by first | exact Or.inl ⟨_, rfl⟩ | exact Or.inr ⟨_, rfl⟩) (Or.inr ⟨rfl, rfl, rfl⟩) (by omega) (congrArg Prod.fst sh_73) rfl ?_
  refine V_aload_n (pc := 86) dX12_init_86 rfl rfl rfl ?_
  refine V_bipush (pc := 87) dX12_init_87 bp_8 rfl ?_
  let r38 : HR := zr0 none r37 (83)
  let I39 : HI := zr0 0 I35 (83)
  let L40 : HL := zr0 0 L36 (83)
  refine V_newa (k := 0) (N := 8) (kc := 32) (ks := 4119) (pc := 89) dX12_init_89 rfl rfl (fun _ _ h => h) (by decide) wa_int sh_83 (by decide) (by decide) (by decide) rfl rfl ?_
  let r41 : HR := up2 r38 73 25 (some 83)
  refine V_putR (pc := 91) dX12_init_91 flX12_42 (by first | exact Or.inl ⟨_, rfl⟩ | exact Or.inr ⟨_, rfl⟩) (Or.inr ⟨rfl, rfl, rfl⟩) (by omega) (congrArg Prod.fst sh_73) rfl ?_
  refine V_aload_n (pc := 94) dX12_init_94 rfl rfl rfl ?_
  refine V_bipush (pc := 95) dX12_init_95 bp_8 rfl ?_
  let r42 : HR := zr0 none r41 (84)
  let I43 : HI := zr0 0 I39 (84)
  let L44 : HL := zr0 0 L40 (84)
  refine V_newa (k := 0) (N := 8) (kc := 31) (ks := 4111) (pc := 97) dX12_init_97 rfl rfl (fun _ _ h => h) (by decide) wa_int sh_84 (by decide) (by decide) (by decide) rfl rfl ?_
  let r45 : HR := up2 r42 73 26 (some 84)
  refine V_putR (pc := 99) dX12_init_99 flX12_45 (by first | exact Or.inl ⟨_, rfl⟩ | exact Or.inr ⟨_, rfl⟩) (Or.inr ⟨rfl, rfl, rfl⟩) (by omega) (congrArg Prod.fst sh_73) rfl ?_
  refine V_aload_n (pc := 102) dX12_init_102 rfl rfl rfl ?_
  refine V_bipush (pc := 103) dX12_init_103 bp_8 rfl ?_
  let r46 : HR := zr0 none r45 (85)
  let I47 : HI := zr0 0 I43 (85)
  let L48 : HL := zr0 0 L44 (85)
  refine V_newa (k := 0) (N := 8) (kc := 30) (ks := 4103) (pc := 105) dX12_init_105 rfl rfl (fun _ _ h => h) (by decide) wa_int sh_85 (by decide) (by decide) (by decide) rfl rfl ?_
  let r49 : HR := up2 r46 73 27 (some 85)
  refine V_putR (pc := 107) dX12_init_107 flX12_48 (by first | exact Or.inl ⟨_, rfl⟩ | exact Or.inr ⟨_, rfl⟩) (Or.inr ⟨rfl, rfl, rfl⟩) (by omega) (congrArg Prod.fst sh_73) rfl ?_
  refine V_aload_n (pc := 110) dX12_init_110 rfl rfl rfl ?_
  refine V_bipush (pc := 111) dX12_init_111 bp_8 rfl ?_
  let r50 : HR := zr0 none r49 (86)
  let I51 : HI := zr0 0 I47 (86)
  let L52 : HL := zr0 0 L48 (86)
  refine V_newa (k := 0) (N := 8) (kc := 29) (ks := 4095) (pc := 113) dX12_init_113 rfl rfl (fun _ _ h => h) (by decide) wa_int sh_86 (by decide) (by decide) (by decide) rfl rfl ?_
  let r53 : HR := up2 r50 73 28 (some 86)
  refine V_putR (pc := 115) dX12_init_115 flX12_51 (by first | exact Or.inl ⟨_, rfl⟩ | exact Or.inr ⟨_, rfl⟩) (Or.inr ⟨rfl, rfl, rfl⟩) (by omega) (congrArg Prod.fst sh_73) rfl ?_
  refine V_aload_n (pc := 118) dX12_init_118 rfl rfl rfl ?_
  refine V_iconst (pc := 119) dX12_init_119 ic_4 rfl ?_
  let r54 : HR := zr0 none r53 (87)
  let I55 : HI := zr0 0 I51 (87)
  let L56 : HL := zr0 0 L52 (87)
  refine V_newa (k := 0) (N := 4) (kc := 28) (ks := 4091) (pc := 120) dX12_init_120 rfl rfl (fun _ _ h => h) (by decide) wa_int sh_87 (by decide) (by decide) (by decide) rfl rfl ?_
  let r57 : HR := up2 r54 73 29 (some 87)
  refine V_putR (pc := 122) dX12_init_122 flX12_54 (by first | exact Or.inl ⟨_, rfl⟩ | exact Or.inr ⟨_, rfl⟩) (Or.inr ⟨rfl, rfl, rfl⟩) (by omega) (congrArg Prod.fst sh_73) rfl ?_
  refine V_aload_n (pc := 125) dX12_init_125 rfl rfl rfl ?_
  refine V_iconst (pc := 126) dX12_init_126 ic_4 rfl ?_
  let r58 : HR := zr0 none r57 (88)
  let I59 : HI := zr0 0 I55 (88)
  let L60 : HL := zr0 0 L56 (88)
  refine V_newa (k := 0) (N := 4) (kc := 27) (ks := 4087) (pc := 127) dX12_init_127 rfl rfl (fun _ _ h => h) (by decide) wa_int sh_88 (by decide) (by decide) (by decide) rfl rfl ?_
  let r61 : HR := up2 r58 73 30 (some 88)
  refine V_putR (pc := 129) dX12_init_129 flX12_57 (by first | exact Or.inl ⟨_, rfl⟩ | exact Or.inr ⟨_, rfl⟩) (Or.inr ⟨rfl, rfl, rfl⟩) (by omega) (congrArg Prod.fst sh_73) rfl ?_
  refine V_aload_n (pc := 132) dX12_init_132 rfl rfl rfl ?_
  refine V_iconst (pc := 133) dX12_init_133 ic_4 rfl ?_
  let r62 : HR := zr0 none r61 (89)
  let I63 : HI := zr0 0 I59 (89)
  let L64 : HL := zr0 0 L60 (89)
  refine V_newa (k := 0) (N := 4) (kc := 26) (ks := 4083) (pc := 134) dX12_init_134 rfl rfl (fun _ _ h => h) (by decide) wa_int sh_89 (by decide) (by decide) (by decide) rfl rfl ?_
  let r65 : HR := up2 r62 73 31 (some 89)
  refine V_putR (pc := 136) dX12_init_136 flX12_60 (by first | exact Or.inl ⟨_, rfl⟩ | exact Or.inr ⟨_, rfl⟩) (Or.inr ⟨rfl, rfl, rfl⟩) (by omega) (congrArg Prod.fst sh_73) rfl ?_
  refine V_aload_n (pc := 139) dX12_init_139 rfl rfl rfl ?_
  refine V_iconst (pc := 140) dX12_init_140 ic_4 rfl ?_
  let r66 : HR := zr0 none r65 (90)
  let I67 : HI := zr0 0 I63 (90)
  let L68 : HL := zr0 0 L64 (90)
  refine V_newa (k := 0) (N := 4) (kc := 25) (ks := 4079) (pc := 141) dX12_init_141 rfl rfl (fun _ _ h => h) (by decide) wa_int sh_90 (by decide) (by decide) (by decide) rfl rfl ?_
  let r69 : HR := up2 r66 73 32 (some 90)
  refine V_putR (pc := 143) dX12_init_143 flX12_63 (by first | exact Or.inl ⟨_, rfl⟩ | exact Or.inr ⟨_, rfl⟩) (Or.inr ⟨rfl, rfl, rfl⟩) (by omega) (congrArg Prod.fst sh_73) rfl ?_
  refine V_aload_n (pc := 146) dX12_init_146 rfl rfl rfl ?_
  refine V_bipush (pc := 147) dX12_init_147 bp_8 rfl ?_
  let r70 : HR := zr0 none r69 (91)
  let I71 : HI := zr0 0 I67 (91)
  let L72 : HL := zr0 0 L68 (91)
  refine V_newa (k := 0) (N := 8) (kc := 24) (ks := 4071) (pc := 149) dX12_init_149 rfl rfl (fun _ _ h => h) (by decide) wa_int sh_91 (by decide) (by decide) (by decide) rfl rfl ?_
  let r73 : HR := up2 r70 73 33 (some 91)
  refine V_putR (pc := 151) dX12_init_151 flX12_66 (by first | exact Or.inl ⟨_, rfl⟩ | exact Or.inr ⟨_, rfl⟩) (Or.inr ⟨rfl, rfl, rfl⟩) (by omega) (congrArg Prod.fst sh_73) rfl ?_
  refine V_aload_n (pc := 154) dX12_init_154 rfl rfl rfl ?_
  refine V_bipush (pc := 155) dX12_init_155 bp_8 rfl ?_
  let r74 : HR := zr0 none r73 (92)
  let I75 : HI := zr0 0 I71 (92)
  let L76 : HL := zr0 0 L72 (92)
  refine V_newa (k := 0) (N := 8) (kc := 23) (ks := 4063) (pc := 157) dX12_init_157 rfl rfl (fun _ _ h => h) (by decide) wa_int sh_92 (by decide) (by decide) (by decide) rfl rfl ?_
  let r77 : HR := up2 r74 73 34 (some 92)
  refine V_putR (pc := 159) dX12_init_159 flX12_69 (by first | exact Or.inl ⟨_, rfl⟩ | exact Or.inr ⟨_, rfl⟩) (Or.inr ⟨rfl, rfl, rfl⟩) (by omega) (congrArg Prod.fst sh_73) rfl ?_
  refine V_aload_n (pc := 162) dX12_init_162 rfl rfl rfl ?_
  refine V_bipush (pc := 163) dX12_init_163 bp_8 rfl ?_
  let r78 : HR := zr0 none r77 (93)
  let I79 : HI := zr0 0 I75 (93)
  let L80 : HL := zr0 0 L76 (93)
  refine V_newa (k := 0) (N := 8) (kc := 22) (ks := 4055) (pc := 165) dX12_init_165 rfl rfl (fun _ _ h => h) (by decide) wa_int sh_93 (by decide) (by decide) (by decide) rfl rfl ?_
  let r81 : HR := up2 r78 73 35 (some 93)
  refine V_putR (pc := 167) dX12_init_167 flX12_72 (by first | exact Or.inl ⟨_, rfl⟩ | exact Or.inr ⟨_, rfl⟩) (Or.inr ⟨rfl, rfl, rfl⟩) (by omega) (congrArg Prod.fst sh_73) rfl ?_
  refine V_aload_n (pc := 170) dX12_init_170 rfl rfl rfl ?_
  refine V_bipush (pc := 171) dX12_init_171 bp_8 rfl ?_
  let r82 : HR := zr0 none r81 (94)
  let I83 : HI := zr0 0 I79 (94)
  let L84 : HL := zr0 0 L80 (94)
  refine V_newa (k := 0) (N := 8) (kc := 21) (ks := 4047) (pc := 173) dX12_init_173 rfl rfl (fun _ _ h => h) (by decide) wa_int sh_94 (by decide) (by decide) (by decide) rfl rfl ?_
  let r85 : HR := up2 r82 73 36 (some 94)
  refine V_putR (pc := 175) dX12_init_175 flX12_75 (by first | exact Or.inl ⟨_, rfl⟩ | exact Or.inr ⟨_, rfl⟩) (Or.inr ⟨rfl, rfl, rfl⟩) (by omega) (congrArg Prod.fst sh_73) rfl ?_
  refine V_aload_n (pc := 178) dX12_init_178 rfl rfl rfl ?_
  refine V_iconst (pc := 179) dX12_init_179 ic_4 rfl ?_
  let r86 : HR := zr0 none r85 (95)
  let I87 : HI := zr0 0 I83 (95)
  let L88 : HL := zr0 0 L84 (95)
  refine V_newa (k := 0) (N := 4) (kc := 20) (ks := 4043) (pc := 180) dX12_init_180 rfl rfl (fun _ _ h => h) (by decide) wa_int sh_95 (by decide) (by decide) (by decide) rfl rfl ?_
  let r89 : HR := up2 r86 73 37 (some 95)
  refine V_putR (pc := 182) dX12_init_182 flX12_78 (by first | exact Or.inl ⟨_, rfl⟩ | exact Or.inr ⟨_, rfl⟩) (Or.inr ⟨rfl, rfl, rfl⟩) (by omega) (congrArg Prod.fst sh_73) rfl ?_
  refine V_aload_n (pc := 185) dX12_init_185 rfl rfl rfl ?_
  refine V_iconst (pc := 186) dX12_init_186 ic_4 rfl ?_
  let r90 : HR := zr0 none r89 (96)
  let I91 : HI := zr0 0 I87 (96)
  let L92 : HL := zr0 0 L88 (96)
  refine V_newa (k := 0) (N := 4) (kc := 19) (ks := 4039) (pc := 187) dX12_init_187 rfl rfl (fun _ _ h => h) (by decide) wa_int sh_96 (by decide) (by decide) (by decide) rfl rfl ?_
  let r93 : HR := up2 r90 73 38 (some 96)
  refine V_putR (pc := 189) dX12_init_189 flX12_81 (by first | exact Or.inl ⟨_, rfl⟩ | exact Or.inr ⟨_, rfl⟩) (Or.inr ⟨rfl, rfl, rfl⟩) (by omega) (congrArg Prod.fst sh_73) rfl ?_
  refine V_aload_n (pc := 192) dX12_init_192 rfl rfl rfl ?_
  refine V_iconst (pc := 193) dX12_init_193 ic_4 rfl ?_
  let r94 : HR := zr0 none r93 (97)
  let I95 : HI := zr0 0 I91 (97)
  let L96 : HL := zr0 0 L92 (97)
  refine V_newa (k := 0) (N := 4) (kc := 18) (ks := 4035) (pc := 194) dX12_init_194 rfl rfl (fun _ _ h => h) (by decide) wa_int sh_97 (by decide) (by decide) (by decide) rfl rfl ?_
  let r97 : HR := up2 r94 73 39 (some 97)
  refine V_putR (pc := 196) dX12_init_196 flX12_84 (by first | exact Or.inl ⟨_, rfl⟩ | exact Or.inr ⟨_, rfl⟩) (Or.inr ⟨rfl, rfl, rfl⟩) (by omega) (congrArg Prod.fst sh_73) rfl ?_
  refine V_aload_n (pc := 199) dX12_init_199 rfl rfl rfl ?_
  refine V_iconst (pc := 200) dX12_init_200 ic_4 rfl ?_
  let r98 : HR := zr0 none r97 (98)
  let I99 : HI := zr0 0 I95 (98)
  let L100 : HL := zr0 0 L96 (98)
  refine V_newa (k := 0) (N := 4) (kc := 17) (ks := 4031) (pc := 201) dX12_init_201 rfl rfl (fun _ _ h => h) (by decide) wa_int sh_98 (by decide) (by decide) (by decide) rfl rfl ?_
  let r101 : HR := up2 r98 73 40 (some 98)
  refine V_putR (pc := 203) dX12_init_203 flX12_87 (by first | exact Or.inl ⟨_, rfl⟩ | exact Or.inr ⟨_, rfl⟩) (Or.inr ⟨rfl, rfl, rfl⟩) (by omega) (congrArg Prod.fst sh_73) rfl ?_
  refine V_aload_n (pc := 206) dX12_init_206 rfl rfl rfl ?_
  refine V_bipush (pc := 207) dX12_init_207 bp_6 rfl ?_
  let I102 : HI := up2 I99 73 52 (6 : Int32)
  refine V_putI (pc := 209) dX12_init_209 flX12_90 rfl rfl (by omega) (congrArg Prod.fst sh_73) rfl ?_
  refine V_aload_n (pc := 212) dX12_init_212 rfl rfl rfl ?_
  refine V_bipush (pc := 213) dX12_init_213 bp_6 rfl ?_
  let I103 : HI := up2 I102 73 53 (6 : Int32)
  refine V_putI (pc := 215) dX12_init_215 flX12_93 rfl rfl (by omega) (congrArg Prod.fst sh_73) rfl ?_
  refine V_aload_n (pc := 218) dX12_init_218 rfl rfl rfl ?_
  refine V_bipush (pc := 219) dX12_init_219 bp_10 rfl ?_
  let r104 : HR := zr0 none r101 (99)
  let I105 : HI := zr0 0 I103 (99)
  let L106 : HL := zr0 0 L100 (99)
  refine V_newa (k := 0) (N := 10) (kc := 16) (ks := 4021) (pc := 221) dX12_init_221 rfl rfl (fun _ _ h => h) (by decide) wa_int sh_99 (by decide) (by decide) (by decide) rfl rfl ?_
  let r107 : HR := up2 r104 73 63 (some 99)
  refine V_putR (pc := 223) dX12_init_223 flX12_96 (by first | exact Or.inl ⟨_, rfl⟩ | exact Or.inr ⟨_, rfl⟩) (Or.inr ⟨rfl, rfl, rfl⟩) (by omega) (congrArg Prod.fst sh_73) rfl ?_
  refine V_aload_n (pc := 226) dX12_init_226 rfl rfl rfl ?_
  refine V_bipush (pc := 227) dX12_init_227 bp_8 rfl ?_
  let r108 : HR := zr0 none r107 (100)
  let I109 : HI := zr0 0 I105 (100)
  let L110 : HL := zr0 0 L106 (100)
  refine V_newa (k := 1) (N := 8) (kc := 15) (ks := 4013) (pc := 229) dX12_init_229 rfl rfl (fun _ _ h => h) (by decide) wa_long sh_100 (by decide) (by decide) (by decide) rfl rfl ?_
  let r111 : HR := up2 r108 73 70 (some 100)
  refine V_putR (pc := 231) dX12_init_231 flX12_99 (by first | exact Or.inl ⟨_, rfl⟩ | exact Or.inr ⟨_, rfl⟩) (Or.inr ⟨rfl, rfl, rfl⟩) (by omega) (congrArg Prod.fst sh_73) rfl ?_
  refine V_aload_n (pc := 234) dX12_init_234 rfl rfl rfl ?_
  refine V_sipush (pc := 235) dX12_init_235 sp_3136 rfl ?_
  let r112 : HR := zr0 none r111 (101)
  let I113 : HI := zr0 0 I109 (101)
  let L114 : HL := zr0 0 L110 (101)
  refine V_newa (k := 1) (N := 3136) (kc := 14) (ks := 877) (pc := 238) dX12_init_238 rfl rfl (fun _ _ h => h) (by decide) wa_long sh_101 (by decide) (by decide) (by decide) rfl rfl ?_
  let r115 : HR := up2 r112 73 71 (some 101)
  refine V_putR (pc := 240) dX12_init_240 flX12_102 (by first | exact Or.inl ⟨_, rfl⟩ | exact Or.inr ⟨_, rfl⟩) (Or.inr ⟨rfl, rfl, rfl⟩) (by omega) (congrArg Prod.fst sh_73) rfl ?_
  refine V_aload_n (pc := 243) dX12_init_243 rfl rfl rfl ?_
  refine V_sipush (pc := 244) dX12_init_244 sp_400 rfl ?_
  let r116 : HR := zr0 none r115 (102)
  let I117 : HI := zr0 0 I113 (102)
  let L118 : HL := zr0 0 L114 (102)
  refine V_newa (k := 0) (N := 400) (kc := 13) (ks := 477) (pc := 247) dX12_init_247 rfl rfl (fun _ _ h => h) (by decide) wa_int sh_102 (by decide) (by decide) (by decide) rfl rfl ?_
  let r119 : HR := up2 r116 73 72 (some 102)
  refine V_putR (pc := 249) dX12_init_249 flX12_105 (by first | exact Or.inl ⟨_, rfl⟩ | exact Or.inr ⟨_, rfl⟩) (Or.inr ⟨rfl, rfl, rfl⟩) (by omega) (congrArg Prod.fst sh_73) rfl ?_
  refine V_aload_n (pc := 252) dX12_init_252 rfl rfl rfl ?_
  refine V_bipush (pc := 253) dX12_init_253 bp_48 rfl ?_
  let r120 : HR := zr0 none r119 (103)
  let I121 : HI := zr0 0 I117 (103)
  let L122 : HL := zr0 0 L118 (103)
  refine V_newa (k := 0) (N := 48) (kc := 12) (ks := 429) (pc := 255) dX12_init_255 rfl rfl (fun _ _ h => h) (by decide) wa_int sh_103 (by decide) (by decide) (by decide) rfl rfl ?_
  let r123 : HR := up2 r120 73 75 (some 103)
  refine V_putR (pc := 257) dX12_init_257 flX12_108 (by first | exact Or.inl ⟨_, rfl⟩ | exact Or.inr ⟨_, rfl⟩) (Or.inr ⟨rfl, rfl, rfl⟩) (by omega) (congrArg Prod.fst sh_73) rfl ?_
  refine V_aload_n (pc := 260) dX12_init_260 rfl rfl rfl ?_
  refine V_bipush (pc := 261) dX12_init_261 bp_49 rfl ?_
  let r124 : HR := zr0 none r123 (104)
  let I125 : HI := zr0 0 I121 (104)
  let L126 : HL := zr0 0 L122 (104)
  refine V_newa (k := 1) (N := 49) (kc := 11) (ks := 380) (pc := 263) dX12_init_263 rfl rfl (fun _ _ h => h) (by decide) wa_long sh_104 (by decide) (by decide) (by decide) rfl rfl ?_
  let r127 : HR := up2 r124 73 77 (some 104)
  refine V_putR (pc := 265) dX12_init_265 flX12_111 (by first | exact Or.inl ⟨_, rfl⟩ | exact Or.inr ⟨_, rfl⟩) (Or.inr ⟨rfl, rfl, rfl⟩) (by omega) (congrArg Prod.fst sh_73) rfl ?_
  refine V_aload_n (pc := 268) dX12_init_268 rfl rfl rfl ?_
  refine V_bipush (pc := 269) dX12_init_269 bp_64 rfl ?_
  let r128 : HR := zr0 none r127 (105)
  let I129 : HI := zr0 0 I125 (105)
  let L130 : HL := zr0 0 L126 (105)
  refine V_newa (k := 0) (N := 64) (kc := 10) (ks := 316) (pc := 271) dX12_init_271 rfl rfl (fun _ _ h => h) (by decide) wa_int sh_105 (by decide) (by decide) (by decide) rfl rfl ?_
  let r131 : HR := up2 r128 73 78 (some 105)
  refine V_putR (pc := 273) dX12_init_273 flX12_114 (by first | exact Or.inl ⟨_, rfl⟩ | exact Or.inr ⟨_, rfl⟩) (Or.inr ⟨rfl, rfl, rfl⟩) (by omega) (congrArg Prod.fst sh_73) rfl ?_
  refine V_aload_n (pc := 276) dX12_init_276 rfl rfl rfl ?_
  refine V_bipush (pc := 277) dX12_init_277 bp_64 rfl ?_
  let r132 : HR := zr0 none r131 (106)
  let I133 : HI := zr0 0 I129 (106)
  let L134 : HL := zr0 0 L130 (106)
  refine V_newa (k := 1) (N := 64) (kc := 9) (ks := 252) (pc := 279) dX12_init_279 rfl rfl (fun _ _ h => h) (by decide) wa_long sh_106 (by decide) (by decide) (by decide) rfl rfl ?_
  let r135 : HR := up2 r132 73 79 (some 106)
  refine V_putR (pc := 281) dX12_init_281 flX12_117 (by first | exact Or.inl ⟨_, rfl⟩ | exact Or.inr ⟨_, rfl⟩) (Or.inr ⟨rfl, rfl, rfl⟩) (by omega) (congrArg Prod.fst sh_73) rfl ?_
  refine V_aload_n (pc := 284) dX12_init_284 rfl rfl rfl ?_
  refine V_bipush (pc := 285) dX12_init_285 bp_64 rfl ?_
  let r136 : HR := zr0 none r135 (107)
  let I137 : HI := zr0 0 I133 (107)
  let L138 : HL := zr0 0 L134 (107)
  refine V_newa (k := 1) (N := 64) (kc := 8) (ks := 188) (pc := 287) dX12_init_287 rfl rfl (fun _ _ h => h) (by decide) wa_long sh_107 (by decide) (by decide) (by decide) rfl rfl ?_
  let r139 : HR := up2 r136 73 80 (some 107)
  refine V_putR (pc := 289) dX12_init_289 flX12_120 (by first | exact Or.inl ⟨_, rfl⟩ | exact Or.inr ⟨_, rfl⟩) (Or.inr ⟨rfl, rfl, rfl⟩) (by omega) (congrArg Prod.fst sh_73) rfl ?_
  refine V_aload_n (pc := 292) dX12_init_292 rfl rfl rfl ?_
  refine V_bipush (pc := 293) dX12_init_293 bp_30 rfl ?_
  let r140 : HR := zr0 none r139 (108)
  let I141 : HI := zr0 0 I137 (108)
  let L142 : HL := zr0 0 L138 (108)
  refine V_newa (k := 0) (N := 30) (kc := 7) (ks := 158) (pc := 295) dX12_init_295 rfl rfl (fun _ _ h => h) (by decide) wa_int sh_108 (by decide) (by decide) (by decide) rfl rfl ?_
  let r143 : HR := up2 r140 73 81 (some 108)
  refine V_putR (pc := 297) dX12_init_297 flX12_123 (by first | exact Or.inl ⟨_, rfl⟩ | exact Or.inr ⟨_, rfl⟩) (Or.inr ⟨rfl, rfl, rfl⟩) (by omega) (congrArg Prod.fst sh_73) rfl ?_
  refine V_aload_n (pc := 300) dX12_init_300 rfl rfl rfl ?_
  refine V_bipush (pc := 301) dX12_init_301 bp_30 rfl ?_
  let r144 : HR := zr0 none r143 (109)
  let I145 : HI := zr0 0 I141 (109)
  let L146 : HL := zr0 0 L142 (109)
  refine V_newa (k := 0) (N := 30) (kc := 6) (ks := 128) (pc := 303) dX12_init_303 rfl rfl (fun _ _ h => h) (by decide) wa_int sh_109 (by decide) (by decide) (by decide) rfl rfl ?_
  let r147 : HR := up2 r144 73 82 (some 109)
  refine V_putR (pc := 305) dX12_init_305 flX12_126 (by first | exact Or.inl ⟨_, rfl⟩ | exact Or.inr ⟨_, rfl⟩) (Or.inr ⟨rfl, rfl, rfl⟩) (by omega) (congrArg Prod.fst sh_73) rfl ?_
  refine V_aload_n (pc := 308) dX12_init_308 rfl rfl rfl ?_
  refine V_bipush (pc := 309) dX12_init_309 bp_30 rfl ?_
  let r148 : HR := zr0 none r147 (110)
  let I149 : HI := zr0 0 I145 (110)
  let L150 : HL := zr0 0 L146 (110)
  refine V_newa (k := 0) (N := 30) (kc := 5) (ks := 98) (pc := 311) dX12_init_311 rfl rfl (fun _ _ h => h) (by decide) wa_int sh_110 (by decide) (by decide) (by decide) rfl rfl ?_
  let r151 : HR := up2 r148 73 83 (some 110)
  refine V_putR (pc := 313) dX12_init_313 flX12_129 (by first | exact Or.inl ⟨_, rfl⟩ | exact Or.inr ⟨_, rfl⟩) (Or.inr ⟨rfl, rfl, rfl⟩) (by omega) (congrArg Prod.fst sh_73) rfl ?_
  refine V_aload_n (pc := 316) dX12_init_316 rfl rfl rfl ?_
  refine V_bipush (pc := 317) dX12_init_317 bp_30 rfl ?_
  let r152 : HR := zr0 none r151 (111)
  let I153 : HI := zr0 0 I149 (111)
  let L154 : HL := zr0 0 L150 (111)
  refine V_newa (k := 0) (N := 30) (kc := 4) (ks := 68) (pc := 319) dX12_init_319 rfl rfl (fun _ _ h => h) (by decide) wa_int sh_111 (by decide) (by decide) (by decide) rfl rfl ?_
  let r155 : HR := up2 r152 73 84 (some 111)
  refine V_putR (pc := 321) dX12_init_321 flX12_132 (by first | exact Or.inl ⟨_, rfl⟩ | exact Or.inr ⟨_, rfl⟩) (Or.inr ⟨rfl, rfl, rfl⟩) (by omega) (congrArg Prod.fst sh_73) rfl ?_
  refine V_aload_n (pc := 324) dX12_init_324 rfl rfl rfl ?_
  refine V_bipush (pc := 325) dX12_init_325 bp_30 rfl ?_
  let r156 : HR := zr0 none r155 (112)
  let I157 : HI := zr0 0 I153 (112)
  let L158 : HL := zr0 0 L154 (112)
  refine V_newa (k := 3) (N := 30) (kc := 3) (ks := 38) (pc := 327) dX12_init_327 rfl rfl (fun _ _ h => h) (by decide) wa_boolean sh_112 (by decide) (by decide) (by decide) rfl rfl ?_
  let r159 : HR := up2 r156 73 85 (some 112)
  refine V_putR (pc := 329) dX12_init_329 flX12_135 (by first | exact Or.inl ⟨_, rfl⟩ | exact Or.inr ⟨_, rfl⟩) (Or.inr ⟨rfl, rfl, rfl⟩) (by omega) (congrArg Prod.fst sh_73) rfl ?_
  refine V_aload_n (pc := 332) dX12_init_332 rfl rfl rfl ?_
  refine V_iconst (pc := 333) dX12_init_333 ic_5 rfl ?_
  let r160 : HR := zr0 none r159 (113)
  let I161 : HI := zr0 0 I157 (113)
  let L162 : HL := zr0 0 L158 (113)
  refine V_newa (k := 1) (N := 5) (kc := 2) (ks := 33) (pc := 334) dX12_init_334 rfl rfl (fun _ _ h => h) (by decide) wa_long sh_113 (by decide) (by decide) (by decide) rfl rfl ?_
  let r163 : HR := up2 r160 73 88 (some 113)
  refine V_putR (pc := 336) dX12_init_336 flX12_139 (by first | exact Or.inl ⟨_, rfl⟩ | exact Or.inr ⟨_, rfl⟩) (Or.inr ⟨rfl, rfl, rfl⟩) (by omega) (congrArg Prod.fst sh_73) rfl ?_
  refine V_aload_n (pc := 339) dX12_init_339 rfl rfl rfl ?_
  refine V_iconst (pc := 340) dX12_init_340 ic_3 rfl ?_
  let r164 : HR := zr0 none r163 (114)
  let I165 : HI := zr0 0 I161 (114)
  let L166 : HL := zr0 0 L162 (114)
  refine V_newa (k := 3) (N := 3) (kc := 1) (ks := 30) (pc := 341) dX12_init_341 rfl rfl (fun _ _ h => h) (by decide) wa_boolean sh_114 (by decide) (by decide) (by decide) rfl rfl ?_
  let r167 : HR := up2 r164 73 90 (some 114)
  refine V_putR (pc := 343) dX12_init_343 flX12_142 (by first | exact Or.inl ⟨_, rfl⟩ | exact Or.inr ⟨_, rfl⟩) (Or.inr ⟨rfl, rfl, rfl⟩) (by omega) (congrArg Prod.fst sh_73) rfl ?_
  refine V_aload_n (pc := 346) dX12_init_346 rfl rfl rfl ?_
  refine V_bipush (pc := 347) dX12_init_347 bp_30 rfl ?_
  let r168 : HR := zr0 none r167 (115)
  let I169 : HI := zr0 0 I165 (115)
  let L170 : HL := zr0 0 L166 (115)
  refine V_newa (k := 0) (N := 30) (kc := 0) (ks := 0) (pc := 349) dX12_init_349 rfl rfl (fun _ _ h => h) (by decide) wa_int sh_115 (by decide) (by decide) (by decide) rfl rfl ?_
  let r171 : HR := up2 r168 73 91 (some 115)
  refine V_putR (pc := 351) dX12_init_351 flX12_145 (by first | exact Or.inl ⟨_, rfl⟩ | exact Or.inr ⟨_, rfl⟩) (Or.inr ⟨rfl, rfl, rfl⟩) (by omega) (congrArg Prod.fst sh_73) rfl ?_
  cases hf
  exact V_vret (pc := 354) dX12_init_354 rfl PoV_mk
