/-! the text constants: rows for what the JDK's own methods do on them -/
section VT
variable {g : GG} {md : MD} {d kc ks n : Nat} {r : HR} {I : HI} {L : HL} {pc : Nat} {ls : List (Option Value)} {st : List Value} {P : PP}
theorem V_strCoder {idx k pc' : Nat} (hd : decode md.2.1 pc = .ok (.getfield idx, 3)) (hl0 : Cond.fieldLink md.1.cls idx "java/lang/String" "coder" "B" ∈ TB) (hk : k < 2) (hp : pc + 3 = pc') (h : V g md d kc ks n r I L pc' ls (.int 0 :: st) P) : V g md d kc ks n r I L pc ls (.retAddr k :: st) P := by
  subst hp
  intro p e s m args below meth c' H lc locs cells slots mc ms hF hR hS hl hc hs' hz
  have hE := hF.2.2.2.2.2.2.2.2.2.1
  exact vk_getf hF.1 hF.2.1 ((hE.2.1.1 k hk).2.1) hS hF.2.2.2.1 (hF.2.2.2.2.1 _ hl0) (fun _ h => h) hd (h p e s m args below meth c' H lc locs cells slots mc ms hF hR hS hl hc hs' hz)
theorem V_strValue {idx k pc' : Nat} (hd : decode md.2.1 pc = .ok (.getfield idx, 3)) (hl0 : Cond.fieldLink md.1.cls idx "java/lang/String" "value" "[B" ∈ TB) (hk : k < 2) (hp : pc + 3 = pc') (h : V g md d kc ks n r I L pc' ls (.retAddr (k + 2) :: st) P) : V g md d kc ks n r I L pc ls (.retAddr k :: st) P := by
  subst hp
  intro p e s m args below meth c' H lc locs cells slots mc ms hF hR hS hl hc hs' hz
  have hE := hF.2.2.2.2.2.2.2.2.2.1
  exact vk_getf hF.1 hF.2.1 ((hE.2.1.1 k hk).2.2.1) hS hF.2.2.2.1 (hF.2.2.2.2.1 _ hl0) (fun _ h => h) hd (h p e s m args below meth c' H lc locs cells slots mc ms hF hR hS hl hc hs' hz)
theorem V_getCS {idx pc' : Nat} (hd : decode md.2.1 pc = .ok (.getstatic idx, 3)) (hl0 : Cond.fieldLink md.1.cls idx "java/lang/String" "COMPACT_STRINGS" "Z" ∈ TB) (hp : pc + 3 = pc') (h : V g md d kc ks n r I L pc' ls (.int 1 :: st) P) : V g md d kc ks n r I L pc ls st P := by
  subst hp
  intro p e s m args below meth c' H lc locs cells slots mc ms hF hR hS hl hc hs' hz
  have hE := hF.2.2.2.2.2.2.2.2.2.1
  exact va_gets hF.1 hF.2.1 hE.2.2.2.2.1 hS hF.2.2.2.1 (hF.2.2.2.2.1 _ hl0) (fun _ h => h) hd (h p e s m args below meth c' H lc locs cells slots mc ms hF hR hS hl hc hs' hz)
theorem V_getFM {idx pc' : Nat} (hd : decode md.2.1 pc = .ok (.getstatic idx, 3)) (hl0 : Cond.fieldLink md.1.cls idx "jdk/internal/util/Preconditions" "SIOOBE_FORMATTER" "Ljava/util/function/BiFunction;" ∈ TB) (hp : pc + 3 = pc') (h1 : V g md d kc ks n r I L pc' ls (.null :: st) P) (h2 : V g md d kc ks n r I L pc' ls (.retAddr 5 :: st) P) : V g md d kc ks n r I L pc ls st P := by
  subst hp
  intro p e s m args below meth c' H lc locs cells slots mc ms hF hR hS hl hc hs' hz
  have hE := hF.2.2.2.2.2.2.2.2.2.1
  rcases hE.2.2.2.2.2.2.2 with hZ | hZ
  · exact va_gets hF.1 hF.2.1 hZ hS hF.2.2.2.1 (hF.2.2.2.2.1 _ hl0) (fun _ h => h) hd (h1 p e s m args below meth c' H lc locs cells slots mc ms hF hR hS hl hc hs' hz)
  · exact va_gets hF.1 hF.2.1 hZ hS hF.2.2.2.1 (hF.2.2.2.2.1 _ hl0) (fun _ h => h) hd (h2 p e s m args below meth c' H lc locs cells slots mc ms hF hR hS hl hc hs' hz)
def txB (k : Nat) (j : Nat) : Int32 := (txByt.getD k []).getD j 0
theorem V_strLd {k pc' : Nat} {i : Int32} (hd : decode md.2.1 pc = .ok (.baload, 1)) (hk : k < 2) (hi : inb i (txLen.getD k 0) = true) (hp : pc + 1 = pc') (h : V g md d kc ks n r I L pc' ls (.int (txB k i.toNatClampNeg) :: st) P) : V g md d kc ks n r I L pc ls (.int i :: .retAddr (k + 2) :: st) P := by
  subst hp
  intro p e s m args below meth c' H lc locs cells slots mc ms hF hR hS hl hc hs' hz
  have hE := hF.2.2.2.2.2.2.2.2.2.1
  exact va_tb hF.1 hF.2.1 ((hE.2.1.1 k hk).2.2.2) hS (inb_iff.mp hi) rfl hd (h p e s m args below meth c' H lc locs cells slots mc ms hF hR hS hl hc hs' hz)
theorem V_strLen {k pc' : Nat} (hd : decode md.2.1 pc = .ok (.arraylength, 1)) (hk : k < 2) (hp : pc + 1 = pc') (h : V g md d kc ks n r I L pc' ls (.int (Int32.ofNat (txLen.getD k 0)) :: st) P) : V g md d kc ks n r I L pc ls (.retAddr (k + 2) :: st) P := by
  subst hp
  intro p e s m args below meth c' H lc locs cells slots mc ms hF hR hS hl hc hs' hz
  have hE := hF.2.2.2.2.2.2.2.2.2.1
  obtain ⟨cell, h1, h2, h3, h4, h5, h6, h7⟩ := ((hE.2.1.1 k hk).2.2.2).kept hS.2.1
  exact W.alen hF.1 hF.2.1 h1 h2 h5 rfl rfl hd (h p e s m args below meth c' H lc locs cells slots mc ms hF hR hS hl hc hs' hz)
/-- a call of a method of String's, on a text constant -/
def MFX (md : MD) (na : Nat) : Prop := MF md na ∧ Cond.instanceMethod md.1 ∈ TB ∧ Cond.selects md.1.cls md.1 md.1 ∈ TB ∧ md.1.cls = "java/lang/String"
theorem V_callX {idx na k pc' kc' ks' mc' ms' : Nat} {md' : MD} {as rest : List Value} {P' : PP} (hd : decode md.2.1 pc = .ok (.invokevirtual idx, 3)) (hl0 : Cond.methodLink md.1.cls idx md'.1 ∈ TB) (hM : MFX md' na) (hC : CT g md' d mc' ms' n r I L (.retAddr k :: as) P') (hn : as.length = na) (hk2 : k < 2) (hst : as.reverse ++ .retAddr k :: rest = st) (hm : csum rest ≤ 8) (hk : kc' + mc' = kc) (hks : ks' + ms' ≤ ks) (hp : pc + 3 = pc') (h : ∀ v n' r' I' L', P' v n' r' I' L' → V g md (d + 1) kc' ks' n' r' I' L' pc' ls (v.toList ++ rest) P) : V g md (d + 1) kc ks n r I L pc ls st P := by
  subst hp; subst hst
  intro p e s m args below meth c' H lc locs cells slots mc ms hF hR hS hl hc hs' hz T hT X
  have hsz : H.size ≤ gb g + n := by
    have h1 : T.heap.size ≤ s.heap.size + cells := X.heapSize
    rw [hT] at h1
    omega
  obtain ⟨⟨hnm, hini, hcode, h21⟩, hinst, hsel, hcS⟩ := hM
  have hts := hF.2.2.2.2.1
  have hG : GoodIn TB (wsV md.1.cls idx md'.1.cls md'.1 (Cond.code md'.1 md'.2.1 md'.2.2.1 md'.2.2.2 :: TB)) := fun w hw => by
    rcases List.mem_append.mp hw with hw | hw
    · simp only [List.mem_cons, List.not_mem_nil, or_false] at hw
      rcases hw with rfl | rfl | rfl | rfl
      · exact good1 hl0
      · exact good1 hinst
      · exact good1 hsel
      · exact good1 hini
    · exact good_code hcode w hw
  have hpre := pre_of (as := .retAddr k :: as) hF hR hS hsz
  refine V_run (va_runV (As := as.map (cv g)) (b := gX g k) ⟨hF.1, hF.2.1, hF.2.2.1, hF.2.2.2.1, hts⟩ hC (cwV na hts hG rfl rfl rfl ⟨rfl, hnm⟩ ⟨by show d + 1 ≤ d + 1; omega, by show 8 + (md'.2.2.1 + 11) + 40 * d ≤ 40 * (d + 1); omega⟩) ⟨hpre.1, ?_, hpre.2⟩ rfl (by rw [List.length_map]; exact hn) hl.1 (by show ((as.reverse ++ .retAddr k :: rest).map (cv g)) = _; rw [List.map_append, List.map_reverse]; rfl) (lv_room (by rw [csum_cv]; exact hm)) hd ⟨by show cells + mc' ≤ mc; omega, by show slots + ms' ≤ ms; omega⟩) hk hks h hF hR hS hl hc hs' hz T hT X
  rw [hcS]
  exact vk_recv (i := k) hF.2.2.2.2.2.2.2.2.2.1.2.1 hk2 hS
theorem V_cXi {idx na k pc' n' : Nat} {r' : HR} {I' : HI} {L' : HL} {x : Int32} {md' : MD} {as rest : List Value} (hd : decode md.2.1 pc = .ok (.invokevirtual idx, 3)) (hl0 : Cond.methodLink md.1.cls idx md'.1 ∈ TB) (hM : MFX md' na) (hC : CT g md' d 0 0 n r I L (.retAddr k :: as) (PoI n' r' x I' L')) (hn : as.length = na) (hk2 : k < 2) (hst : as.reverse ++ .retAddr k :: rest = st) (hm : csum rest ≤ 8) (hp : pc + 3 = pc') (h : V g md (d + 1) kc ks n' r' I' L' pc' ls (.int x :: rest) P) : V g md (d + 1) kc ks n r I L pc ls st P :=
  V_callX hd hl0 hM hC hn hk2 hst hm (Nat.add_zero kc) (Nat.le_refl (ks + 0)) hp (fun v n2 r2 I2 L2 hq => by obtain ⟨rfl, rfl, rfl, rfl, rfl⟩ := hq; exact h)
theorem V_cXz {idx na k pc' n' : Nat} {r' : HR} {I' : HI} {L' : HL} {x : Bool} {md' : MD} {as rest : List Value} (hd : decode md.2.1 pc = .ok (.invokevirtual idx, 3)) (hl0 : Cond.methodLink md.1.cls idx md'.1 ∈ TB) (hM : MFX md' na) (hC : CT g md' d 0 0 n r I L (.retAddr k :: as) (PoB n' r' x I' L')) (hn : as.length = na) (hk2 : k < 2) (hst : as.reverse ++ .retAddr k :: rest = st) (hm : csum rest ≤ 8) (hp : pc + 3 = pc') (h : V g md (d + 1) kc ks n' r' I' L' pc' ls (.int (b2i x) :: rest) P) : V g md (d + 1) kc ks n r I L pc ls st P :=
  V_callX hd hl0 hM hC hn hk2 hst hm (Nat.add_zero kc) (Nat.le_refl (ks + 0)) hp (fun v n2 r2 I2 L2 hq => by obtain ⟨rfl, rfl, rfl, rfl, rfl⟩ := hq; exact h)
theorem V_bret {x : Int32} (hd : decode md.2.1 pc = .ok (.ireturn, 1)) (hr : md.2.2.2 = some .byte) (hx : narrow .byte (.int x) = .int x) (hq : P (some (.int x)) n r I L) : V g md d 0 ks n r I L pc ls [.int x] P := by
  intro p e s m args below meth c' H lc locs cells slots mc ms hF hR hS hl hc hs' hz
  refine W.widen (k := mc) (n := ms) (by omega) (by omega) ?_
  exact W.zret hF.1 hF.2.1 (hF.2.2.2.2.2.1.trans hr) hx (fun t ht _ => ⟨_, n, r, I, L, rfl, hq, by rw [ht]; exact hR, hS.F ht, by omega⟩) (fun q hq => hS.2.2 q hq) hd hF.2.2.2.2.2.2.1
end VT
set_option maxRecDepth 100000 in
theorem mXJ0_indexOf_0f7a4 : MFX mJ0_indexOf_0f7a4 1 := ⟨mfJ0_indexOf_0f7a4, tb3 142 rfl rfl, tb3 143 rfl rfl, rfl⟩
set_option maxRecDepth 100000 in
theorem mXJ0_indexOf_7cf53 : MFX mJ0_indexOf_7cf53 2 := ⟨mfJ0_indexOf_7cf53, tb3 146 rfl rfl, tb3 147 rfl rfl, rfl⟩
set_option maxRecDepth 100000 in
theorem mXJ0_isLatin1_aae02 : MFX mJ0_isLatin1_aae02 0 := ⟨mfJ0_isLatin1_aae02, tb1 232 rfl rfl, tb1 233 rfl rfl, rfl⟩
set_option maxRecDepth 100000 in
theorem mXJ0_length_8abf5 : MFX mJ0_length_8abf5 0 := ⟨mfJ0_length_8abf5, tb1 218 rfl rfl, tb1 219 rfl rfl, rfl⟩
set_option maxRecDepth 100000 in
theorem mXJ0_charAt_5068e : MFX mJ0_charAt_5068e 1 := ⟨mfJ0_charAt_5068e, tb1 228 rfl rfl, tb1 229 rfl rfl, rfl⟩
set_option maxRecDepth 100000 in
theorem mXJ0_coder_7d493 : MFX mJ0_coder_7d493 0 := ⟨mfJ0_coder_7d493, tb1 222 rfl rfl, tb1 223 rfl rfl, rfl⟩
set_option maxRecDepth 100000 in
theorem fjJ0_38 : Cond.fieldLink RJ0 38 "java/lang/String" "COMPACT_STRINGS" "Z" ∈ TB := tb1 225 rfl rfl
set_option maxRecDepth 100000 in
theorem fjJ0_1053 : Cond.fieldLink RJ0 1053 "jdk/internal/util/Preconditions" "SIOOBE_FORMATTER" "Ljava/util/function/BiFunction;" ∈ TB := tb2 1 rfl rfl
set_option maxRecDepth 100000 in
theorem fjJ0_9 : Cond.fieldLink RJ0 9 "java/lang/String" "value" "[B" ∈ TB := tb9 104 rfl rfl
set_option maxRecDepth 100000 in
theorem fjJ0_15 : Cond.fieldLink RJ0 15 "java/lang/String" "coder" "B" ∈ TB := tb9 105 rfl rfl
