/-! java/util/Arrays.fill -/
noncomputable def fJ7_fill_d0a16_6 (a1 : Nat) (N1 : Nat) : Nat → Int64 → Int32 → Int32 → HL → Option (HL)
  | 0, _, _, _, _ => none
  | fu + 1, y1, y3, y4, L =>
    if y4 ≤ y3 then
      some L
    else
      if inb y3 N1 = true then
        let L2 : HL := up2 L a1 y3.toNatClampNeg y1
        fJ7_fill_d0a16_6 a1 N1 fu y1 (y3 + (1 : Int32)) y4 L2
      else none
set_option maxRecDepth 100000 in
set_option maxHeartbeats 4000000 in
theorem lJ7_fill_d0a16_6 {g : GG} {n d : Nat} {r : HR} {a1 : Nat} {N1 : Nat} (hsa1 : SH a1 = (1, N1)) (hna1 : a1 < n) {P : PP} : ∀ (fu : Nat) (y1 : Int64) (y3 : Int32) (y4 : Int32) (I : HI) (L : HL) (res : HL), fJ7_fill_d0a16_6 a1 N1 fu y1 y3 y4 L = some res → P none n r I res → V g mJ7_fill_d0a16 (d + 1) 0 0 n r I L 6 [some (.ref a1), some (.long y1), none, some (.int y3), some (.int y4)] [] P := by
  intro fu
  induction fu with
  | zero => intro y1 y3 y4 I L res hf; cases (show none = some res from hf)
  | succ fu ih =>
    intro y1 y3 y4 I L res hf K
    refine V_iload_n (pc := 6) dJ7_fill_d0a16_6 rfl rfl rfl ?_
    refine V_iload (pc := 7) dJ7_fill_d0a16_7 rfl rfl ?_
    refine V_icmp_ge (pc := 9) (tgt := 22) dJ7_fill_d0a16_9 (by decide) rfl (fun hc => ?_) (fun hc => ?_)
    · replace hf := (if_pos hc).symm.trans hf
      cases hf
      exact V_vret (pc := 22) dJ7_fill_d0a16_22 rfl K
    · replace hf := (if_neg hc).symm.trans hf
      refine V_aload_n (pc := 12) dJ7_fill_d0a16_12 rfl rfl rfl ?_
      refine V_iload_n (pc := 13) dJ7_fill_d0a16_13 rfl rfl rfl ?_
      refine V_lload_n (pc := 14) dJ7_fill_d0a16_14 rfl rfl rfl ?_
      obtain ⟨hc1, hf⟩ := pif hf
      let L2 : HL := up2 L a1 y3.toNatClampNeg y1
      refine V_last (pc := 15) dJ7_fill_d0a16_15 (by omega) hsa1 hc1 rfl ?_
      refine V_iinc (ls' := [some _, some _, none, some _, some _]) (pc := 16) dJ7_fill_d0a16_16 rfl (Nat.le_of_ble_eq_true rfl) (congrArg _ ic_1) rfl rfl ?_
      refine V_goto (pc := 19) (tgt := 6) dJ7_fill_d0a16_19 (by decide) ?_
      exact V_wk (ih _ _ _ _ _ _ hf K) ⟨rfl, ⟨rfl, ⟨rfl, ⟨rfl, trivial⟩⟩⟩⟩
noncomputable def fJ7_fill_d0a16 (a1 : Nat) (N1 : Nat) (v2 : Int64) (L : HL) : Option (HL) :=
  Option.bind (fJ7_fill_d0a16_6 a1 N1 FUEL v2 (0 : Int32) (Int32.ofNat N1) L) fun q3 =>
  some q3
set_option maxRecDepth 100000 in
set_option maxHeartbeats 4000000 in
theorem tJ7_fill_d0a16 {g : GG} {n d : Nat} {r : HR} {a1 : Nat} {N1 : Nat} (hsa1 : SH a1 = (1, N1)) (hna1 : a1 < n) {v2 : Int64} {I : HI} {L : HL} {res : HL} (hf : fJ7_fill_d0a16 a1 N1 v2 L = some res) : CT g mJ7_fill_d0a16 (d + 1) 0 0 n r I L [.ref a1, .long v2] (PoV n r I res) := by
  refine CT.of rfl (Nat.le_of_ble_eq_true rfl) ?_
  show V g mJ7_fill_d0a16 (d + 1) 0 0 n r I L 0 [some (.ref a1), some (.long v2), none] [] (PoV n r I res)
  refine V_iconst (pc := 0) dJ7_fill_d0a16_0 ic_0 rfl ?_
  refine V_istore_n (ls' := [some _, some _, none, some _]) (pc := 1) dJ7_fill_d0a16_1 rfl (Nat.le_of_ble_eq_true rfl) rfl rfl ?_
  refine V_aload_n (pc := 2) dJ7_fill_d0a16_2 rfl rfl rfl ?_
  refine V_alen (pc := 3) dJ7_fill_d0a16_3 (by omega) hsa1 (by decide) rfl ?_
  refine V_istore (ls' := [some _, some _, none, some _, some _]) (pc := 4) dJ7_fill_d0a16_4 (Nat.le_of_ble_eq_true rfl) rfl rfl ?_
  obtain ⟨q3, hq3, hf⟩ := bnd hf
  refine V_wk (lJ7_fill_d0a16_6 hsa1 hna1 FUEL _ _ _ _ _ _ hq3 ?_) ⟨rfl, ⟨rfl, ⟨rfl, ⟨rfl, trivial⟩⟩⟩⟩
  cases hf
  exact PoV_mk
/-! java/lang/Long.bitCount -/
noncomputable def fJ13_bitCount_95d88 (v1 : Int64) : Int32 :=
  let x1 : Int64 := (v1 - ((v1.toUInt64 >>> ((1 : Int32).toInt64.toUInt64 &&& Int64.toUInt64 63)).toInt64 &&& (6148914691236517205 : Int64)))
  let x2 : Int64 := ((x1 &&& (3689348814741910323 : Int64)) + ((x1.toUInt64 >>> ((2 : Int32).toInt64.toUInt64 &&& Int64.toUInt64 63)).toInt64 &&& (3689348814741910323 : Int64)))
  let x3 : Int64 := ((x2 + (x2.toUInt64 >>> ((4 : Int32).toInt64.toUInt64 &&& Int64.toUInt64 63)).toInt64) &&& (1085102592571150095 : Int64))
  let x4 : Int64 := (x3 + (x3.toUInt64 >>> ((8 : Int32).toInt64.toUInt64 &&& Int64.toUInt64 63)).toInt64)
  let x5 : Int64 := (x4 + (x4.toUInt64 >>> ((16 : Int32).toInt64.toUInt64 &&& Int64.toUInt64 63)).toInt64)
  let x6 : Int64 := (x5 + (x5.toUInt64 >>> ((32 : Int32).toInt64.toUInt64 &&& Int64.toUInt64 63)).toInt64)
  (x6.toInt32 &&& (127 : Int32))
set_option maxRecDepth 100000 in
set_option maxHeartbeats 4000000 in
theorem tJ13_bitCount_95d88 {g : GG} {n d : Nat} {r : HR}  {v1 : Int64} {I : HI} {L : HL} {res : Int32} (hf : fJ13_bitCount_95d88 v1 = res) : CT g mJ13_bitCount_95d88 (d + 1) 0 0 n r I L [.long v1] (PoI n r res I L) := by
  refine CT.of rfl (Nat.le_of_ble_eq_true rfl) ?_
  show V g mJ13_bitCount_95d88 (d + 1) 0 0 n r I L 0 [some (.long v1), none] [] (PoI n r res I L)
  refine V_lload_n (pc := 0) dJ13_bitCount_95d88_0 rfl rfl rfl ?_
  refine V_lload_n (pc := 1) dJ13_bitCount_95d88_1 rfl rfl rfl ?_
  refine V_iconst (pc := 2) dJ13_bitCount_95d88_2 ic_1 rfl ?_
  refine V_lushr (pc := 3) dJ13_bitCount_95d88_3 rfl ?_
  refine V_ldc2 (pc := 4) dJ13_bitCount_95d88_4 klJ13_314 rfl ?_
  refine V_land (pc := 7) dJ13_bitCount_95d88_7 rfl ?_
  refine V_lsub (pc := 8) dJ13_bitCount_95d88_8 rfl ?_
  let x1 : Int64 := (v1 - ((v1.toUInt64 >>> ((1 : Int32).toInt64.toUInt64 &&& Int64.toUInt64 63)).toInt64 &&& (6148914691236517205 : Int64)))
  refine V_lstore_n (ls' := [some _, none]) (pc := 9) dJ13_bitCount_95d88_9 rfl (Nat.le_of_ble_eq_true rfl) rfl rfl ?_
  refine V_lload_n (pc := 10) dJ13_bitCount_95d88_10 rfl rfl rfl ?_
  refine V_ldc2 (pc := 11) dJ13_bitCount_95d88_11 klJ13_316 rfl ?_
  refine V_land (pc := 14) dJ13_bitCount_95d88_14 rfl ?_
  refine V_lload_n (pc := 15) dJ13_bitCount_95d88_15 rfl rfl rfl ?_
  refine V_iconst (pc := 16) dJ13_bitCount_95d88_16 ic_2 rfl ?_
  refine V_lushr (pc := 17) dJ13_bitCount_95d88_17 rfl ?_
  refine V_ldc2 (pc := 18) dJ13_bitCount_95d88_18 klJ13_316 rfl ?_
  refine V_land (pc := 21) dJ13_bitCount_95d88_21 rfl ?_
  refine V_ladd (pc := 22) dJ13_bitCount_95d88_22 rfl ?_
  let x2 : Int64 := ((x1 &&& (3689348814741910323 : Int64)) + ((x1.toUInt64 >>> ((2 : Int32).toInt64.toUInt64 &&& Int64.toUInt64 63)).toInt64 &&& (3689348814741910323 : Int64)))
  refine V_lstore_n (ls' := [some _, none]) (pc := 23) dJ13_bitCount_95d88_23 rfl (Nat.le_of_ble_eq_true rfl) rfl rfl ?_
  refine V_lload_n (pc := 24) dJ13_bitCount_95d88_24 rfl rfl rfl ?_
  refine V_lload_n (pc := 25) dJ13_bitCount_95d88_25 rfl rfl rfl ?_
  refine V_iconst (pc := 26) dJ13_bitCount_95d88_26 ic_4 rfl ?_
  refine V_lushr (pc := 27) dJ13_bitCount_95d88_27 rfl ?_
  refine V_ladd (pc := 28) dJ13_bitCount_95d88_28 rfl ?_
  refine V_ldc2 (pc := 29) dJ13_bitCount_95d88_29 klJ13_318 rfl ?_
  refine V_land (pc := 32) dJ13_bitCount_95d88_32 rfl ?_
  let x3 : Int64 := ((x2 + (x2.toUInt64 >>> ((4 : Int32).toInt64.toUInt64 &&& Int64.toUInt64 63)).toInt64) &&& (1085102592571150095 : Int64))
  refine V_lstore_n (ls' := [some _, none]) (pc := 33) dJ13_bitCount_95d88_33 rfl (Nat.le_of_ble_eq_true rfl) rfl rfl ?_
  refine V_lload_n (pc := 34) dJ13_bitCount_95d88_34 rfl rfl rfl ?_
  refine V_lload_n (pc := 35) dJ13_bitCount_95d88_35 rfl rfl rfl ?_
  refine V_bipush (pc := 36) dJ13_bitCount_95d88_36 bp_8 rfl ?_
  refine V_lushr (pc := 38) dJ13_bitCount_95d88_38 rfl ?_
  refine V_ladd (pc := 39) dJ13_bitCount_95d88_39 rfl ?_
  let x4 : Int64 := (x3 + (x3.toUInt64 >>> ((8 : Int32).toInt64.toUInt64 &&& Int64.toUInt64 63)).toInt64)
  refine V_lstore_n (ls' := [some _, none]) (pc := 40) dJ13_bitCount_95d88_40 rfl (Nat.le_of_ble_eq_true rfl) rfl rfl ?_
  refine V_lload_n (pc := 41) dJ13_bitCount_95d88_41 rfl rfl rfl ?_
  refine V_lload_n (pc := 42) dJ13_bitCount_95d88_42 rfl rfl rfl ?_
  refine V_bipush (pc := 43) dJ13_bitCount_95d88_43 bp_16 rfl ?_
  refine V_lushr (pc := 45) dJ13_bitCount_95d88_45 rfl ?_
  refine V_ladd (pc := 46) dJ13_bitCount_95d88_46 rfl ?_
  let x5 : Int64 := (x4 + (x4.toUInt64 >>> ((16 : Int32).toInt64.toUInt64 &&& Int64.toUInt64 63)).toInt64)
  refine V_lstore_n (ls' := [some _, none]) (pc := 47) dJ13_bitCount_95d88_47 rfl (Nat.le_of_ble_eq_true rfl) rfl rfl ?_
  refine V_lload_n (pc := 48) dJ13_bitCount_95d88_48 rfl rfl rfl ?_
  refine V_lload_n (pc := 49) dJ13_bitCount_95d88_49 rfl rfl rfl ?_
  refine V_bipush (pc := 50) dJ13_bitCount_95d88_50 bp_32 rfl ?_
  refine V_lushr (pc := 52) dJ13_bitCount_95d88_52 rfl ?_
  refine V_ladd (pc := 53) dJ13_bitCount_95d88_53 rfl ?_
  let x6 : Int64 := (x5 + (x5.toUInt64 >>> ((32 : Int32).toInt64.toUInt64 &&& Int64.toUInt64 63)).toInt64)
  refine V_lstore_n (ls' := [some _, none]) (pc := 54) dJ13_bitCount_95d88_54 rfl (Nat.le_of_ble_eq_true rfl) rfl rfl ?_
  refine V_lload_n (pc := 55) dJ13_bitCount_95d88_55 rfl rfl rfl ?_
  refine V_l2i (pc := 56) dJ13_bitCount_95d88_56 rfl ?_
  refine V_bipush (pc := 57) dJ13_bitCount_95d88_57 bp_127 rfl ?_
  refine V_iand (pc := 59) dJ13_bitCount_95d88_59 rfl ?_
  cases hf
  exact V_iret (pc := 60) dJ13_bitCount_95d88_60 rfl PoI_mk
/-! java/util/Arrays.fill -/
noncomputable def fJ7_fill_53178_5 (a1 : Nat) (N1 : Nat) : Nat → Int32 → Int32 → Int32 → HI → Option (HI)
  | 0, _, _, _, _ => none
  | fu + 1, y1, y2, y3, I =>
    if y3 ≤ y2 then
      some I
    else
      if inb y2 N1 = true then
        let I2 : HI := up2 I a1 y2.toNatClampNeg y1
        fJ7_fill_53178_5 a1 N1 fu y1 (y2 + (1 : Int32)) y3 I2
      else none
set_option maxRecDepth 100000 in
set_option maxHeartbeats 4000000 in
theorem lJ7_fill_53178_5 {g : GG} {n d : Nat} {r : HR} {a1 : Nat} {N1 : Nat} (hsa1 : SH a1 = (0, N1)) (hna1 : a1 < n) {P : PP} : ∀ (fu : Nat) (y1 : Int32) (y2 : Int32) (y3 : Int32) (I : HI) (L : HL) (res : HI), fJ7_fill_53178_5 a1 N1 fu y1 y2 y3 I = some res → P none n r res L → V g mJ7_fill_53178 (d + 1) 0 0 n r I L 5 [some (.ref a1), some (.int y1), some (.int y2), some (.int y3)] [] P := by
  intro fu
  induction fu with
  | zero => intro y1 y2 y3 I L res hf; cases (show none = some res from hf)
  | succ fu ih =>
    intro y1 y2 y3 I L res hf K
    refine V_iload_n (pc := 5) dJ7_fill_53178_5 rfl rfl rfl ?_
    refine V_iload_n (pc := 6) dJ7_fill_53178_6 rfl rfl rfl ?_
    refine V_icmp_ge (pc := 7) (tgt := 20) dJ7_fill_53178_7 (by decide) rfl (fun hc => ?_) (fun hc => ?_)
    · replace hf := (if_pos hc).symm.trans hf
      cases hf
      exact V_vret (pc := 20) dJ7_fill_53178_20 rfl K
    · replace hf := (if_neg hc).symm.trans hf
      refine V_aload_n (pc := 10) dJ7_fill_53178_10 rfl rfl rfl ?_
      refine V_iload_n (pc := 11) dJ7_fill_53178_11 rfl rfl rfl ?_
      refine V_iload_n (pc := 12) dJ7_fill_53178_12 rfl rfl rfl ?_
      obtain ⟨hc1, hf⟩ := pif hf
      let I2 : HI := up2 I a1 y2.toNatClampNeg y1
      refine V_iast (pc := 13) dJ7_fill_53178_13 (by omega) hsa1 hc1 rfl ?_
      refine V_iinc (ls' := [some _, some _, some _, some _]) (pc := 14) dJ7_fill_53178_14 rfl (Nat.le_of_ble_eq_true rfl) (congrArg _ ic_1) rfl rfl ?_
      refine V_goto (pc := 17) (tgt := 5) dJ7_fill_53178_17 (by decide) ?_
      exact V_wk (ih _ _ _ _ _ _ hf K) ⟨rfl, ⟨rfl, ⟨rfl, ⟨rfl, trivial⟩⟩⟩⟩
noncomputable def fJ7_fill_53178 (a1 : Nat) (N1 : Nat) (v2 : Int32) (I : HI) : Option (HI) :=
  Option.bind (fJ7_fill_53178_5 a1 N1 FUEL v2 (0 : Int32) (Int32.ofNat N1) I) fun q3 =>
  some q3
set_option maxRecDepth 100000 in
set_option maxHeartbeats 4000000 in
theorem tJ7_fill_53178 {g : GG} {n d : Nat} {r : HR} {a1 : Nat} {N1 : Nat} (hsa1 : SH a1 = (0, N1)) (hna1 : a1 < n) {v2 : Int32} {I : HI} {L : HL} {res : HI} (hf : fJ7_fill_53178 a1 N1 v2 I = some res) : CT g mJ7_fill_53178 (d + 1) 0 0 n r I L [.ref a1, .int v2] (PoV n r res L) := by
  refine CT.of rfl (Nat.le_of_ble_eq_true rfl) ?_
  show V g mJ7_fill_53178 (d + 1) 0 0 n r I L 0 [some (.ref a1), some (.int v2)] [] (PoV n r res L)
  refine V_iconst (pc := 0) dJ7_fill_53178_0 ic_0 rfl ?_
  refine V_istore_n (ls' := [some _, some _, some _]) (pc := 1) dJ7_fill_53178_1 rfl (Nat.le_of_ble_eq_true rfl) rfl rfl ?_
  refine V_aload_n (pc := 2) dJ7_fill_53178_2 rfl rfl rfl ?_
  refine V_alen (pc := 3) dJ7_fill_53178_3 (by omega) hsa1 (by decide) rfl ?_
  refine V_istore_n (ls' := [some _, some _, some _, some _]) (pc := 4) dJ7_fill_53178_4 rfl (Nat.le_of_ble_eq_true rfl) rfl rfl ?_
  obtain ⟨q3, hq3, hf⟩ := bnd hf
  refine V_wk (lJ7_fill_53178_5 hsa1 hna1 FUEL _ _ _ _ _ _ hq3 ?_) ⟨rfl, ⟨rfl, ⟨rfl, ⟨rfl, trivial⟩⟩⟩⟩
  cases hf
  exact PoV_mk
/-! java/lang/Integer.numberOfTrailingZeros -/
noncomputable def fJ6_numberOfTrailingZeros_0f7a4 (v1 : Int32) : Int32 :=
  let x1 : Int32 := ((v1 ^^^ (-1 : Int32)) &&& (v1 - (1 : Int32)))
  if 0 < x1 then
    tbn (
      if x1 ≤ (65536 : Int32) then
        (x1, (1 : Int32))
      else
        let x5 : Int32 := ((1 : Int32) + (16 : Int32))
        let x6 : Int32 := (x1.toUInt32 >>> ((16 : Int32).toUInt32 &&& Int32.toUInt32 31)).toInt32
        (x6, x5)
    ) fun q4 =>
    tbn (
      if q4.1 ≤ (256 : Int32) then
        (q4.1, q4.2)
      else
        let x9 : Int32 := (q4.1.toUInt32 >>> ((8 : Int32).toUInt32 &&& Int32.toUInt32 31)).toInt32
        (x9, (q4.2 + (8 : Int32)))
    ) fun q8 =>
    tbn (
      if q8.1 ≤ (16 : Int32) then
        (q8.1, q8.2)
      else
        let x12 : Int32 := (q8.1.toUInt32 >>> ((4 : Int32).toUInt32 &&& Int32.toUInt32 31)).toInt32
        (x12, (q8.2 + (4 : Int32)))
    ) fun q11 =>
    tbn (
      if q11.1 ≤ (4 : Int32) then
        (q11.1, q11.2)
      else
        let x15 : Int32 := (q11.1.toUInt32 >>> ((2 : Int32).toUInt32 &&& Int32.toUInt32 31)).toInt32
        (x15, (q11.2 + (2 : Int32)))
    ) fun q14 =>
    (q14.2 + (q14.1.toUInt32 >>> ((1 : Int32).toUInt32 &&& Int32.toUInt32 31)).toInt32)
  else
    (x1 &&& (32 : Int32))
set_option maxRecDepth 100000 in
set_option maxHeartbeats 4000000 in
theorem tJ6_numberOfTrailingZeros_0f7a4 {g : GG} {n d : Nat} {r : HR}  {v1 : Int32} {I : HI} {L : HL} {res : Int32} (hf : fJ6_numberOfTrailingZeros_0f7a4 v1 = res) : CT g mJ6_numberOfTrailingZeros_0f7a4 (d + 1) 0 0 n r I L [.int v1] (PoI n r res I L) := by
  refine CT.of rfl (Nat.le_of_ble_eq_true rfl) ?_
  show V g mJ6_numberOfTrailingZeros_0f7a4 (d + 1) 0 0 n r I L 0 [some (.int v1)] [] (PoI n r res I L)
  refine V_iload_n (pc := 0) dJ6_numberOfTrailingZeros_0f7a4_0 rfl rfl rfl ?_
  refine V_iconst (pc := 1) dJ6_numberOfTrailingZeros_0f7a4_1 ic_m1 rfl ?_
  refine V_ixor (pc := 2) dJ6_numberOfTrailingZeros_0f7a4_2 rfl ?_
  refine V_iload_n (pc := 3) dJ6_numberOfTrailingZeros_0f7a4_3 rfl rfl rfl ?_
  refine V_iconst (pc := 4) dJ6_numberOfTrailingZeros_0f7a4_4 ic_1 rfl ?_
  refine V_isub (pc := 5) dJ6_numberOfTrailingZeros_0f7a4_5 rfl ?_
  refine V_iand (pc := 6) dJ6_numberOfTrailingZeros_0f7a4_6 rfl ?_
  let x1 : Int32 := ((v1 ^^^ (-1 : Int32)) &&& (v1 - (1 : Int32)))
  refine V_istore_n (ls' := [some _]) (pc := 7) dJ6_numberOfTrailingZeros_0f7a4_7 rfl (Nat.le_of_ble_eq_true rfl) rfl rfl ?_
  refine V_iload_n (pc := 8) dJ6_numberOfTrailingZeros_0f7a4_8 rfl rfl rfl ?_
  refine V_if_gt (pc := 9) (tgt := 17) dJ6_numberOfTrailingZeros_0f7a4_9 (by decide) rfl (fun hc => ?_) (fun hc => ?_)
  · replace hf := (if_pos hc).symm.trans hf
    refine V_iconst (pc := 17) dJ6_numberOfTrailingZeros_0f7a4_17 ic_1 rfl ?_
    refine V_istore_n (ls' := [some _, some _]) (pc := 18) dJ6_numberOfTrailingZeros_0f7a4_18 rfl (Nat.le_of_ble_eq_true rfl) rfl rfl ?_
    refine V_iload_n (pc := 19) dJ6_numberOfTrailingZeros_0f7a4_19 rfl rfl rfl ?_
    refine V_ldcw (pc := 20) dJ6_numberOfTrailingZeros_0f7a4_20 kcJ6_264 rfl ?_
    obtain ⟨q4, hq4, hf⟩ := tbd hf
    have Kq4 : V g mJ6_numberOfTrailingZeros_0f7a4 (d + 1) 0 0 n r I L 34 [some (.int q4.1), some (.int q4.2)] [] (PoI n r res I L) := by
      refine V_iload_n (pc := 34) dJ6_numberOfTrailingZeros_0f7a4_34 rfl rfl rfl ?_
      refine V_sipush (pc := 35) dJ6_numberOfTrailingZeros_0f7a4_35 sp_256 rfl ?_
      obtain ⟨q8, hq8, hf⟩ := tbd hf
      have Kq8 : V g mJ6_numberOfTrailingZeros_0f7a4 (d + 1) 0 0 n r I L 49 [some (.int q8.1), some (.int q8.2)] [] (PoI n r res I L) := by
        refine V_iload_n (pc := 49) dJ6_numberOfTrailingZeros_0f7a4_49 rfl rfl rfl ?_
        refine V_bipush (pc := 50) dJ6_numberOfTrailingZeros_0f7a4_50 bp_16 rfl ?_
        obtain ⟨q11, hq11, hf⟩ := tbd hf
        have Kq11 : V g mJ6_numberOfTrailingZeros_0f7a4 (d + 1) 0 0 n r I L 62 [some (.int q11.1), some (.int q11.2)] [] (PoI n r res I L) := by
          refine V_iload_n (pc := 62) dJ6_numberOfTrailingZeros_0f7a4_62 rfl rfl rfl ?_
          refine V_iconst (pc := 63) dJ6_numberOfTrailingZeros_0f7a4_63 ic_4 rfl ?_
          obtain ⟨q14, hq14, hf⟩ := tbd hf
          have Kq14 : V g mJ6_numberOfTrailingZeros_0f7a4 (d + 1) 0 0 n r I L 74 [some (.int q14.1), some (.int q14.2)] [] (PoI n r res I L) := by
            refine V_iload_n (pc := 74) dJ6_numberOfTrailingZeros_0f7a4_74 rfl rfl rfl ?_
            refine V_iload_n (pc := 75) dJ6_numberOfTrailingZeros_0f7a4_75 rfl rfl rfl ?_
            refine V_iconst (pc := 76) dJ6_numberOfTrailingZeros_0f7a4_76 ic_1 rfl ?_
            refine V_iushr (pc := 77) dJ6_numberOfTrailingZeros_0f7a4_77 rfl ?_
            refine V_iadd (pc := 78) dJ6_numberOfTrailingZeros_0f7a4_78 rfl ?_
            cases hf
            exact V_iret (pc := 79) dJ6_numberOfTrailingZeros_0f7a4_79 rfl PoI_mk
          refine V_icmp_le (pc := 64) (tgt := 74) dJ6_numberOfTrailingZeros_0f7a4_64 (by decide) rfl (fun hc => ?_) (fun hc => ?_)
          · replace hq14 := (if_pos hc).symm.trans hq14
            cases hq14
            exact V_wk Kq14 ⟨rfl, ⟨rfl, trivial⟩⟩
          · replace hq14 := (if_neg hc).symm.trans hq14
            refine V_iinc (ls' := [some _, some _]) (pc := 67) dJ6_numberOfTrailingZeros_0f7a4_67 rfl (Nat.le_of_ble_eq_true rfl) (congrArg _ ic_2) rfl rfl ?_
            refine V_iload_n (pc := 70) dJ6_numberOfTrailingZeros_0f7a4_70 rfl rfl rfl ?_
            refine V_iconst (pc := 71) dJ6_numberOfTrailingZeros_0f7a4_71 ic_2 rfl ?_
            refine V_iushr (pc := 72) dJ6_numberOfTrailingZeros_0f7a4_72 rfl ?_
            let x15 : Int32 := (q11.1.toUInt32 >>> ((2 : Int32).toUInt32 &&& Int32.toUInt32 31)).toInt32
            refine V_istore_n (ls' := [some _, some _]) (pc := 73) dJ6_numberOfTrailingZeros_0f7a4_73 rfl (Nat.le_of_ble_eq_true rfl) rfl rfl ?_
            cases hq14
            exact V_wk Kq14 ⟨rfl, ⟨rfl, trivial⟩⟩
        refine V_icmp_le (pc := 52) (tgt := 62) dJ6_numberOfTrailingZeros_0f7a4_52 (by decide) rfl (fun hc => ?_) (fun hc => ?_)
        · replace hq11 := (if_pos hc).symm.trans hq11
          cases hq11
          exact V_wk Kq11 ⟨rfl, ⟨rfl, trivial⟩⟩
        · replace hq11 := (if_neg hc).symm.trans hq11
          refine V_iinc (ls' := [some _, some _]) (pc := 55) dJ6_numberOfTrailingZeros_0f7a4_55 rfl (Nat.le_of_ble_eq_true rfl) (congrArg _ ic_4) rfl rfl ?_
          refine V_iload_n (pc := 58) dJ6_numberOfTrailingZeros_0f7a4_58 rfl rfl rfl ?_
          refine V_iconst (pc := 59) dJ6_numberOfTrailingZeros_0f7a4_59 ic_4 rfl ?_
          refine V_iushr (pc := 60) dJ6_numberOfTrailingZeros_0f7a4_60 rfl ?_
          let x12 : Int32 := (q8.1.toUInt32 >>> ((4 : Int32).toUInt32 &&& Int32.toUInt32 31)).toInt32
          refine V_istore_n (ls' := [some _, some _]) (pc := 61) dJ6_numberOfTrailingZeros_0f7a4_61 rfl (Nat.le_of_ble_eq_true rfl) rfl rfl ?_
          cases hq11
          exact V_wk Kq11 ⟨rfl, ⟨rfl, trivial⟩⟩
      refine V_icmp_le (pc := 38) (tgt := 49) dJ6_numberOfTrailingZeros_0f7a4_38 (by decide) rfl (fun hc => ?_) (fun hc => ?_)
      · replace hq8 := (if_pos hc).symm.trans hq8
        cases hq8
        exact V_wk Kq8 ⟨rfl, ⟨rfl, trivial⟩⟩
      · replace hq8 := (if_neg hc).symm.trans hq8
        refine V_iinc (ls' := [some _, some _]) (pc := 41) dJ6_numberOfTrailingZeros_0f7a4_41 rfl (Nat.le_of_ble_eq_true rfl) (congrArg _ ic_8) rfl rfl ?_
        refine V_iload_n (pc := 44) dJ6_numberOfTrailingZeros_0f7a4_44 rfl rfl rfl ?_
        refine V_bipush (pc := 45) dJ6_numberOfTrailingZeros_0f7a4_45 bp_8 rfl ?_
        refine V_iushr (pc := 47) dJ6_numberOfTrailingZeros_0f7a4_47 rfl ?_
        let x9 : Int32 := (q4.1.toUInt32 >>> ((8 : Int32).toUInt32 &&& Int32.toUInt32 31)).toInt32
        refine V_istore_n (ls' := [some _, some _]) (pc := 48) dJ6_numberOfTrailingZeros_0f7a4_48 rfl (Nat.le_of_ble_eq_true rfl) rfl rfl ?_
        cases hq8
        exact V_wk Kq8 ⟨rfl, ⟨rfl, trivial⟩⟩
    refine V_icmp_le (pc := 23) (tgt := 34) dJ6_numberOfTrailingZeros_0f7a4_23 (by decide) rfl (fun hc => ?_) (fun hc => ?_)
    · replace hq4 := (if_pos hc).symm.trans hq4
      cases hq4
      exact V_wk Kq4 ⟨rfl, ⟨rfl, trivial⟩⟩
    · replace hq4 := (if_neg hc).symm.trans hq4
      let x5 : Int32 := ((1 : Int32) + (16 : Int32))
      refine V_iinc (ls' := [some _, some _]) (pc := 26) dJ6_numberOfTrailingZeros_0f7a4_26 rfl (Nat.le_of_ble_eq_true rfl) (congrArg _ ic_16) rfl rfl ?_
      refine V_iload_n (pc := 29) dJ6_numberOfTrailingZeros_0f7a4_29 rfl rfl rfl ?_
      refine V_bipush (pc := 30) dJ6_numberOfTrailingZeros_0f7a4_30 bp_16 rfl ?_
      refine V_iushr (pc := 32) dJ6_numberOfTrailingZeros_0f7a4_32 rfl ?_
      let x6 : Int32 := (x1.toUInt32 >>> ((16 : Int32).toUInt32 &&& Int32.toUInt32 31)).toInt32
      refine V_istore_n (ls' := [some _, some _]) (pc := 33) dJ6_numberOfTrailingZeros_0f7a4_33 rfl (Nat.le_of_ble_eq_true rfl) rfl rfl ?_
      cases hq4
      exact V_wk Kq4 ⟨rfl, ⟨rfl, trivial⟩⟩
  · replace hf := (if_neg hc).symm.trans hf
    refine V_iload_n (pc := 12) dJ6_numberOfTrailingZeros_0f7a4_12 rfl rfl rfl ?_
    refine V_bipush (pc := 13) dJ6_numberOfTrailingZeros_0f7a4_13 bp_32 rfl ?_
    refine V_iand (pc := 15) dJ6_numberOfTrailingZeros_0f7a4_15 rfl ?_
    cases hf
    exact V_iret (pc := 16) dJ6_numberOfTrailingZeros_0f7a4_16 rfl PoI_mk
/-! java/lang/Long.numberOfTrailingZeros -/
noncomputable def fJ13_numberOfTrailingZeros_95d88 (v1 : Int64) : Int32 :=
  if v1.toInt32 = 0 then
    tbn (fJ6_numberOfTrailingZeros_0f7a4 ((v1.toUInt64 >>> ((32 : Int32).toInt64.toUInt64 &&& Int64.toUInt64 63)).toInt64.toInt32)) fun q1 =>
    ((32 : Int32) + q1)
  else
    (fJ6_numberOfTrailingZeros_0f7a4 v1.toInt32)
set_option maxRecDepth 100000 in
set_option maxHeartbeats 4000000 in
theorem tJ13_numberOfTrailingZeros_95d88 {g : GG} {n d : Nat} {r : HR}  {v1 : Int64} {I : HI} {L : HL} {res : Int32} (hf : fJ13_numberOfTrailingZeros_95d88 v1 = res) : CT g mJ13_numberOfTrailingZeros_95d88 (d + 2) 0 0 n r I L [.long v1] (PoI n r res I L) := by
  refine CT.of rfl (Nat.le_of_ble_eq_true rfl) ?_
  show V g mJ13_numberOfTrailingZeros_95d88 (d + 2) 0 0 n r I L 0 [some (.long v1), none] [] (PoI n r res I L)
  refine V_lload_n (pc := 0) dJ13_numberOfTrailingZeros_95d88_0 rfl rfl rfl ?_
  refine V_l2i (pc := 1) dJ13_numberOfTrailingZeros_95d88_1 rfl ?_
  refine V_istore_n (ls' := [some _, none, some _]) (pc := 2) dJ13_numberOfTrailingZeros_95d88_2 rfl (Nat.le_of_ble_eq_true rfl) rfl rfl ?_
  refine V_iload_n (pc := 3) dJ13_numberOfTrailingZeros_95d88_3 rfl rfl rfl ?_
  refine V_if_ne (pc := 4) (tgt := 21) dJ13_numberOfTrailingZeros_95d88_4 (by decide) rfl (fun hc => ?_) (fun hc => ?_)
  · replace hf := (if_neg hc).symm.trans hf
    refine V_iload_n (pc := 21) dJ13_numberOfTrailingZeros_95d88_21 rfl rfl rfl ?_
    refine V_cSi (md' := mJ6_numberOfTrailingZeros_0f7a4) (pc := 22) dJ13_numberOfTrailingZeros_95d88_22 mlJ13_311 mSJ6_numberOfTrailingZeros_0f7a4 (tJ6_numberOfTrailingZeros_0f7a4 rfl) rfl rfl (Nat.le_of_ble_eq_true rfl) rfl ?_
    cases hf
    exact V_iret (pc := 25) dJ13_numberOfTrailingZeros_95d88_25 rfl PoI_mk
  · replace hf := (if_pos hc).symm.trans hf
    refine V_bipush (pc := 7) dJ13_numberOfTrailingZeros_95d88_7 bp_32 rfl ?_
    refine V_lload_n (pc := 9) dJ13_numberOfTrailingZeros_95d88_9 rfl rfl rfl ?_
    refine V_bipush (pc := 10) dJ13_numberOfTrailingZeros_95d88_10 bp_32 rfl ?_
    refine V_lushr (pc := 12) dJ13_numberOfTrailingZeros_95d88_12 rfl ?_
    refine V_l2i (pc := 13) dJ13_numberOfTrailingZeros_95d88_13 rfl ?_
    obtain ⟨q1, hq1, hf⟩ := tbd hf
    refine V_cSi (md' := mJ6_numberOfTrailingZeros_0f7a4) (pc := 14) dJ13_numberOfTrailingZeros_95d88_14 mlJ13_311 mSJ6_numberOfTrailingZeros_0f7a4 (tJ6_numberOfTrailingZeros_0f7a4 hq1) rfl rfl (Nat.le_of_ble_eq_true rfl) rfl ?_
    refine V_iadd (pc := 17) dJ13_numberOfTrailingZeros_95d88_17 rfl ?_
    refine V_goto (pc := 18) (tgt := 25) dJ13_numberOfTrailingZeros_95d88_18 (by decide) ?_
    cases hf
    exact V_iret (pc := 25) dJ13_numberOfTrailingZeros_95d88_25 rfl PoI_mk
/-! java/lang/Long.lowestOneBit -/
noncomputable def fJ13_lowestOneBit_067f4 (v1 : Int64) : Int64 :=
  (v1 &&& (-v1))
set_option maxRecDepth 100000 in
set_option maxHeartbeats 4000000 in
theorem tJ13_lowestOneBit_067f4 {g : GG} {n d : Nat} {r : HR}  {v1 : Int64} {I : HI} {L : HL} {res : Int64} (hf : fJ13_lowestOneBit_067f4 v1 = res) : CT g mJ13_lowestOneBit_067f4 (d + 1) 0 0 n r I L [.long v1] (PoL n r res I L) := by
  refine CT.of rfl (Nat.le_of_ble_eq_true rfl) ?_
  show V g mJ13_lowestOneBit_067f4 (d + 1) 0 0 n r I L 0 [some (.long v1), none] [] (PoL n r res I L)
  refine V_lload_n (pc := 0) dJ13_lowestOneBit_067f4_0 rfl rfl rfl ?_
  refine V_lload_n (pc := 1) dJ13_lowestOneBit_067f4_1 rfl rfl rfl ?_
  refine V_lneg (pc := 2) dJ13_lowestOneBit_067f4_2 rfl ?_
  refine V_land (pc := 3) dJ13_lowestOneBit_067f4_3 rfl ?_
  cases hf
  exact V_lret (pc := 4) dJ13_lowestOneBit_067f4_4 rfl PoL_mk
/-! java/lang/Integer.bitCount -/
noncomputable def fJ6_bitCount_0f7a4 (v1 : Int32) : Int32 :=
  let x1 : Int32 := (v1 - ((v1.toUInt32 >>> ((1 : Int32).toUInt32 &&& Int32.toUInt32 31)).toInt32 &&& (1431655765 : Int32)))
  let x2 : Int32 := ((x1 &&& (858993459 : Int32)) + ((x1.toUInt32 >>> ((2 : Int32).toUInt32 &&& Int32.toUInt32 31)).toInt32 &&& (858993459 : Int32)))
  let x3 : Int32 := ((x2 + (x2.toUInt32 >>> ((4 : Int32).toUInt32 &&& Int32.toUInt32 31)).toInt32) &&& (252645135 : Int32))
  let x4 : Int32 := (x3 + (x3.toUInt32 >>> ((8 : Int32).toUInt32 &&& Int32.toUInt32 31)).toInt32)
  let x5 : Int32 := (x4 + (x4.toUInt32 >>> ((16 : Int32).toUInt32 &&& Int32.toUInt32 31)).toInt32)
  (x5 &&& (63 : Int32))
set_option maxRecDepth 100000 in
set_option maxHeartbeats 4000000 in
theorem tJ6_bitCount_0f7a4 {g : GG} {n d : Nat} {r : HR}  {v1 : Int32} {I : HI} {L : HL} {res : Int32} (hf : fJ6_bitCount_0f7a4 v1 = res) : CT g mJ6_bitCount_0f7a4 (d + 1) 0 0 n r I L [.int v1] (PoI n r res I L) := by
  refine CT.of rfl (Nat.le_of_ble_eq_true rfl) ?_
  show V g mJ6_bitCount_0f7a4 (d + 1) 0 0 n r I L 0 [some (.int v1)] [] (PoI n r res I L)
  refine V_iload_n (pc := 0) dJ6_bitCount_0f7a4_0 rfl rfl rfl ?_
  refine V_iload_n (pc := 1) dJ6_bitCount_0f7a4_1 rfl rfl rfl ?_
  refine V_iconst (pc := 2) dJ6_bitCount_0f7a4_2 ic_1 rfl ?_
  refine V_iushr (pc := 3) dJ6_bitCount_0f7a4_3 rfl ?_
  refine V_ldcw (pc := 4) dJ6_bitCount_0f7a4_4 kcJ6_265 rfl ?_
  refine V_iand (pc := 7) dJ6_bitCount_0f7a4_7 rfl ?_
  refine V_isub (pc := 8) dJ6_bitCount_0f7a4_8 rfl ?_
  let x1 : Int32 := (v1 - ((v1.toUInt32 >>> ((1 : Int32).toUInt32 &&& Int32.toUInt32 31)).toInt32 &&& (1431655765 : Int32)))
  refine V_istore_n (ls' := [some _]) (pc := 9) dJ6_bitCount_0f7a4_9 rfl (Nat.le_of_ble_eq_true rfl) rfl rfl ?_
  refine V_iload_n (pc := 10) dJ6_bitCount_0f7a4_10 rfl rfl rfl ?_
  refine V_ldcw (pc := 11) dJ6_bitCount_0f7a4_11 kcJ6_266 rfl ?_
  refine V_iand (pc := 14) dJ6_bitCount_0f7a4_14 rfl ?_
  refine V_iload_n (pc := 15) dJ6_bitCount_0f7a4_15 rfl rfl rfl ?_
  refine V_iconst (pc := 16) dJ6_bitCount_0f7a4_16 ic_2 rfl ?_
  refine V_iushr (pc := 17) dJ6_bitCount_0f7a4_17 rfl ?_
  refine V_ldcw (pc := 18) dJ6_bitCount_0f7a4_18 kcJ6_266 rfl ?_
  refine V_iand (pc := 21) dJ6_bitCount_0f7a4_21 rfl ?_
  refine V_iadd (pc := 22) dJ6_bitCount_0f7a4_22 rfl ?_
  let x2 : Int32 := ((x1 &&& (858993459 : Int32)) + ((x1.toUInt32 >>> ((2 : Int32).toUInt32 &&& Int32.toUInt32 31)).toInt32 &&& (858993459 : Int32)))
  refine V_istore_n (ls' := [some _]) (pc := 23) dJ6_bitCount_0f7a4_23 rfl (Nat.le_of_ble_eq_true rfl) rfl rfl ?_
  refine V_iload_n (pc := 24) dJ6_bitCount_0f7a4_24 rfl rfl rfl ?_
  refine V_iload_n (pc := 25) dJ6_bitCount_0f7a4_25 rfl rfl rfl ?_
  refine V_iconst (pc := 26) dJ6_bitCount_0f7a4_26 ic_4 rfl ?_
  refine V_iushr (pc := 27) dJ6_bitCount_0f7a4_27 rfl ?_
  refine V_iadd (pc := 28) dJ6_bitCount_0f7a4_28 rfl ?_
  refine V_ldcw (pc := 29) dJ6_bitCount_0f7a4_29 kcJ6_267 rfl ?_
  refine V_iand (pc := 32) dJ6_bitCount_0f7a4_32 rfl ?_
  let x3 : Int32 := ((x2 + (x2.toUInt32 >>> ((4 : Int32).toUInt32 &&& Int32.toUInt32 31)).toInt32) &&& (252645135 : Int32))
  refine V_istore_n (ls' := [some _]) (pc := 33) dJ6_bitCount_0f7a4_33 rfl (Nat.le_of_ble_eq_true rfl) rfl rfl ?_
  refine V_iload_n (pc := 34) dJ6_bitCount_0f7a4_34 rfl rfl rfl ?_
  refine V_iload_n (pc := 35) dJ6_bitCount_0f7a4_35 rfl rfl rfl ?_
  refine V_bipush (pc := 36) dJ6_bitCount_0f7a4_36 bp_8 rfl ?_
  refine V_iushr (pc := 38) dJ6_bitCount_0f7a4_38 rfl ?_
  refine V_iadd (pc := 39) dJ6_bitCount_0f7a4_39 rfl ?_
  let x4 : Int32 := (x3 + (x3.toUInt32 >>> ((8 : Int32).toUInt32 &&& Int32.toUInt32 31)).toInt32)
  refine V_istore_n (ls' := [some _]) (pc := 40) dJ6_bitCount_0f7a4_40 rfl (Nat.le_of_ble_eq_true rfl) rfl rfl ?_
  refine V_iload_n (pc := 41) dJ6_bitCount_0f7a4_41 rfl rfl rfl ?_
  refine V_iload_n (pc := 42) dJ6_bitCount_0f7a4_42 rfl rfl rfl ?_
  refine V_bipush (pc := 43) dJ6_bitCount_0f7a4_43 bp_16 rfl ?_
  refine V_iushr (pc := 45) dJ6_bitCount_0f7a4_45 rfl ?_
  refine V_iadd (pc := 46) dJ6_bitCount_0f7a4_46 rfl ?_
  let x5 : Int32 := (x4 + (x4.toUInt32 >>> ((16 : Int32).toUInt32 &&& Int32.toUInt32 31)).toInt32)
  refine V_istore_n (ls' := [some _]) (pc := 47) dJ6_bitCount_0f7a4_47 rfl (Nat.le_of_ble_eq_true rfl) rfl rfl ?_
  refine V_iload_n (pc := 48) dJ6_bitCount_0f7a4_48 rfl rfl rfl ?_
  refine V_bipush (pc := 49) dJ6_bitCount_0f7a4_49 bp_63 rfl ?_
  refine V_iand (pc := 51) dJ6_bitCount_0f7a4_51 rfl ?_
  cases hf
  exact V_iret (pc := 52) dJ6_bitCount_0f7a4_52 rfl PoI_mk
