/-! charAt on a text constant, and what it asks of the JDK -/
theorem tJ3_checkIndex {g : GG} {n d : Nat} {r : HR} {I : HI} {L : HL} {v1 v2 : Int32} (fm : Value) (hfm : fm = .null ∨ fm = .retAddr 5) (h0 : ¬ v1 < 0) (h1 : v1 < v2) : CT g mJ3_checkIndex_8e157 (d + 1) 0 0 n r I L [.int v1, .int v2, fm] (PoI n r v1 I L) := by
  rcases hfm with rfl | rfl
  · refine CT.of rfl (Nat.le_of_ble_eq_true rfl) ?_
    refine V_iload_n (pc := 0) dJ3_checkIndex_8e157_0 rfl rfl rfl ?_
    refine V_if_lt (pc := 1) (tgt := 9) dJ3_checkIndex_8e157_1 (by decide) rfl (fun hc => absurd hc h0) (fun _ => ?_)
    refine V_iload_n (pc := 4) dJ3_checkIndex_8e157_4 rfl rfl rfl ?_
    refine V_iload_n (pc := 5) dJ3_checkIndex_8e157_5 rfl rfl rfl ?_
    refine V_icmp_lt (pc := 6) (tgt := 16) dJ3_checkIndex_8e157_6 (by decide) rfl (fun _ => ?_) (fun hc => absurd h1 hc)
    refine V_iload_n (pc := 16) dJ3_checkIndex_8e157_16 rfl rfl rfl ?_
    exact V_iret (pc := 17) dJ3_checkIndex_8e157_17 rfl PoI_mk
  · refine CT.of rfl (Nat.le_of_ble_eq_true rfl) ?_
    refine V_iload_n (pc := 0) dJ3_checkIndex_8e157_0 rfl rfl rfl ?_
    refine V_if_lt (pc := 1) (tgt := 9) dJ3_checkIndex_8e157_1 (by decide) rfl (fun hc => absurd hc h0) (fun _ => ?_)
    refine V_iload_n (pc := 4) dJ3_checkIndex_8e157_4 rfl rfl rfl ?_
    refine V_iload_n (pc := 5) dJ3_checkIndex_8e157_5 rfl rfl rfl ?_
    refine V_icmp_lt (pc := 6) (tgt := 16) dJ3_checkIndex_8e157_6 (by decide) rfl (fun _ => ?_) (fun hc => absurd h1 hc)
    refine V_iload_n (pc := 16) dJ3_checkIndex_8e157_16 rfl rfl rfl ?_
    exact V_iret (pc := 17) dJ3_checkIndex_8e157_17 rfl PoI_mk
theorem tJ0_checkIndex {g : GG} {n d : Nat} {r : HR} {I : HI} {L : HL} {v1 v2 : Int32} (h0 : ¬ v1 < 0) (h1 : v1 < v2) : CT g mJ0_checkIndex_df160 (d + 2) 0 0 n r I L [.int v1, .int v2] (PoV n r I L) := by
  refine CT.of rfl (Nat.le_of_ble_eq_true rfl) ?_
  refine V_iload_n (pc := 0) dJ0_checkIndex_df160_0 rfl rfl rfl ?_
  refine V_iload_n (pc := 1) dJ0_checkIndex_df160_1 rfl rfl rfl ?_
  refine V_getFM (pc := 2) dJ0_checkIndex_df160_2 fjJ0_1053 rfl ?_ ?_
  · refine V_cSi (md' := mJ3_checkIndex_8e157) (pc := 5) dJ0_checkIndex_df160_5 mlJ0_1059 mSJ3_checkIndex_8e157 (tJ3_checkIndex .null (Or.inl rfl) h0 h1) rfl rfl (Nat.le_of_ble_eq_true rfl) rfl ?_
    refine V_pop (pc := 8) dJ0_checkIndex_df160_8 rfl rfl ?_
    exact V_vret (pc := 9) dJ0_checkIndex_df160_9 rfl PoV_mk
  · refine V_cSi (md' := mJ3_checkIndex_8e157) (pc := 5) dJ0_checkIndex_df160_5 mlJ0_1059 mSJ3_checkIndex_8e157 (tJ3_checkIndex (.retAddr 5) (Or.inr rfl) h0 h1) rfl rfl (Nat.le_of_ble_eq_true rfl) rfl ?_
    refine V_pop (pc := 8) dJ0_checkIndex_df160_8 rfl rfl ?_
    exact V_vret (pc := 9) dJ0_checkIndex_df160_9 rfl PoV_mk
def fJ1_charAt_3b067 (k : Nat) (v1 : Int32) : Option Int32 :=
  if v1 < 0 then none else
  if v1 < Int32.ofNat (txLen.getD k 0) then
    if inb v1 (txLen.getD k 0) = true then
      some (((txB k v1.toNatClampNeg) &&& (255 : Int32)).toUInt32 % 65536).toInt32
    else none
  else none
theorem tJ1_charAt_3b067 {g : GG} {n d : Nat} {r : HR} {k : Nat} (hk : k < 2) {v1 : Int32} {I : HI} {L : HL} {res : Int32} (hf : fJ1_charAt_3b067 k v1 = some res) : CT g mJ1_charAt_3b067 (d + 3) 0 0 n r I L [.retAddr (k + 2), .int v1] (PoI n r res I L) := by
  obtain ⟨h0, hf⟩ := nif hf
  obtain ⟨h1, hf⟩ := pif hf
  obtain ⟨h2, hf⟩ := pif hf
  refine CT.of rfl (Nat.le_of_ble_eq_true rfl) ?_
  refine V_iload_n (pc := 0) dJ1_charAt_3b067_0 rfl rfl rfl ?_
  refine V_aload_nX (pc := 1) dJ1_charAt_3b067_1 rfl rfl rfl ?_
  refine V_strLen (pc := 2) dJ1_charAt_3b067_2 hk rfl ?_
  refine V_cSv (md' := mJ0_checkIndex_df160) (pc := 3) dJ1_charAt_3b067_3 mlJ1_9 mSJ0_checkIndex_df160 (tJ0_checkIndex h0 h1) rfl rfl (Nat.le_of_ble_eq_true rfl) rfl ?_
  refine V_aload_nX (pc := 6) dJ1_charAt_3b067_6 rfl rfl rfl ?_
  refine V_iload_n (pc := 7) dJ1_charAt_3b067_7 rfl rfl rfl ?_
  refine V_strLd (pc := 8) dJ1_charAt_3b067_8 hk h2 rfl ?_
  refine V_sipush (pc := 9) dJ1_charAt_3b067_9 sp_255 rfl ?_
  refine V_iand (pc := 12) dJ1_charAt_3b067_12 rfl ?_
  refine V_i2c (pc := 13) dJ1_charAt_3b067_13 rfl ?_
  cases hf
  exact V_cret (pc := 14) (pk_nc _) dJ1_charAt_3b067_14 rfl PoI_mk
noncomputable def fJ0_charAt_5068e (k : Nat) (v1 : Int32) : Option Int32 := if b2i (fJ0_isLatin1_aae02 k) = 0 then none else fJ1_charAt_3b067 k v1
theorem narC {x : Int32} (h : ∃ y : Int32, x = (y.toUInt32 % 65536).toInt32) : narrow .char (.int x) = .int x := by
  obtain ⟨y, rfl⟩ := h
  exact pk_nc y
theorem tJ0_charAt_5068e {g : GG} {n d : Nat} {r : HR} {k : Nat} (hk : k < 2) {v1 : Int32} {I : HI} {L : HL} {res : Int32} (hf : fJ0_charAt_5068e k v1 = some res) : CT g mJ0_charAt_5068e (d + 4) 0 0 n r I L [.retAddr k, .int v1] (PoI n r res I L) := by
  obtain ⟨h0, hf⟩ := nif hf
  refine CT.of rfl (Nat.le_of_ble_eq_true rfl) ?_
  refine V_aload_nX (pc := 0) dJ0_charAt_5068e_0 rfl rfl rfl ?_
  refine V_cXz (md' := mJ0_isLatin1_aae02) (pc := 1) dJ0_charAt_5068e_1 mlJ0_492 mXJ0_isLatin1_aae02 (tJ0_isLatin1_aae02 hk rfl) rfl hk rfl (Nat.le_of_ble_eq_true rfl) rfl ?_
  refine V_if_eq (pc := 4) (tgt := 16) dJ0_charAt_5068e_4 (by decide) rfl (fun hc => absurd hc h0) (fun _ => ?_)
  refine V_aload_nX (pc := 7) dJ0_charAt_5068e_7 rfl rfl rfl ?_
  refine V_strValue (pc := 8) dJ0_charAt_5068e_8 fjJ0_9 hk rfl ?_
  refine V_iload_n (pc := 11) dJ0_charAt_5068e_11 rfl rfl rfl ?_
  refine V_cSi (md' := mJ1_charAt_3b067) (pc := 12) dJ0_charAt_5068e_12 mlJ0_495 mSJ1_charAt_3b067 (tJ1_charAt_3b067 hk hf) rfl rfl (Nat.le_of_ble_eq_true rfl) rfl ?_
  refine V_cret (pc := 15) (narC ?_) dJ0_charAt_5068e_15 rfl PoI_mk
  obtain ⟨-, hf⟩ := nif hf
  obtain ⟨-, hf⟩ := pif hf
  obtain ⟨-, hf⟩ := pif hf
  cases hf
  exact ⟨_, rfl⟩
