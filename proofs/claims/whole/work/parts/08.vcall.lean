def zr0 {α : Type} (z : α) (F : Nat → Nat → α) (k : Nat) : Nat → Nat → α := fun a => if a = k then fun _ => z else F a
theorem zr0_row {α : Type} (z : α) (F : Nat → Nat → α) (k : Nat) : zr0 z F k k = fun _ => z := if_pos rfl
theorem zr0_off {α : Type} (z : α) (F : Nat → Nat → α) {k a : Nat} (h : a ≠ k) : zr0 z F k a = F a := if_neg h
def dfv (k : Nat) : Value := match k with
  | 0 => .int 0
  | 1 => .long 0
  | _ => .null
theorem dfv_ok : ∀ c, c < 13 → ∀ j, j < cn c → defaultValue (ctys c j) = dfv (fkind (ctys c j)) := lt13 (by decide +kernel) (by decide +kernel) (by decide +kernel) (by decide +kernel) (by decide +kernel) (by decide +kernel) (by decide +kernel) (by decide +kernel) (by decide +kernel) (by decide +kernel) (by decide +kernel) (by decide +kernel) (by decide +kernel)
def NL (own : String) (idx c : Nat) : Prop := c < 13 ∧ Cond.classLink own idx (cR c) ∈ TB ∧ Cond.instantiable (cR c) (cn c) ∈ TB ∧ Cond.initialized (cR c) ∈ TB
abbrev nMH (y : MethodName) (na : Nat) : Prop := y.cls ≠ "java/lang/invoke/MethodHandle" ∧ y.cls ≠ "java/lang/invoke/VarHandle" ∧ (parseMethodDescriptor y.desc).map (fun d => d.parameters.length) = some na
/-- what holds of a callee, wherever it is called -/
def MF (md : MD) (na : Nat) : Prop := nMH md.1 na ∧ Cond.initialized md.1.cls ∈ TB ∧ Cond.code md.1 md.2.1 md.2.2.1 md.2.2.2 ∈ TB ∧ md.2.2.1 ≤ 21
def MFV (md : MD) (na c : Nat) : Prop := MF md na ∧ Cond.instanceMethod md.1 ∈ TB ∧ Cond.selects md.1.cls md.1 md.1 ∈ TB ∧ c < 13 ∧ cR c = md.1.cls
def MFS (md : MD) (na : Nat) : Prop := MF md na ∧ Cond.static md.1 ∈ TB
def MFI (md : MD) (na : Nat) : Prop := MF md na ∧ Cond.instanceMethod md.1 ∈ TB ∧ md.1.name = "<init>" ∧ md.2.2.2 = none
theorem good1 {w : Cond} (h : w ∈ TB) : w ∈ TB ∧ ((w.onTables && w.keeps) = true ∨ ∃ ty, w = .arrayClass ty) := ⟨h, good_of_word (tb_good h)⟩
theorem good_code {md : MD} (h : Cond.code md.1 md.2.1 md.2.2.1 md.2.2.2 ∈ TB) : GoodIn TB (Cond.code md.1 md.2.1 md.2.2.1 md.2.2.2 :: TB) := fun w hw => by
  rcases List.mem_cons.mp hw with rfl | hw
  · exact good1 h
  · exact good1 hw
section VC
variable {g : GG} {md : MD} {d kc ks n : Nat} {r : HR} {I : HI} {L : HL} {pc : Nat} {ls : List (Option Value)} {st : List Value} {P : PP}
theorem V_objInit {idx a pc' : Nat} (hd : decode md.2.1 pc = .ok (.invokespecial idx, 3)) (hw : Cond.methodLink md.1.cls idx Lib.objectInit ∈ TB ∧ Cond.instanceMethod Lib.objectInit ∈ TB ∧ Cond.code Lib.objectInit ⟨#[0xb1]⟩ 1 none ∈ TB) (hm : csum st ≤ 20) (hp : pc + 3 = pc') (h : V g md (d + 1) kc ks n r I L pc' ls st P) : V g md (d + 1) kc ks n r I L pc ls (.ref a :: st) P := by
  subst hp
  intro p e s m args below meth c' H lc locs cells slots mc ms hF hR hS hl hc hs' hz
  refine W.objInit hF.1 hF.2.1 hF.2.2.2.1 (hF.2.2.2.2.1 _ hw.1) (hF.2.2.2.2.1 _ hw.2.1) (hF.2.2.2.2.1 _ hw.2.2) rfl (by rw [hF.2.2.1]; exact hl.1) rfl hd (by show 1 ≤ d + 1; omega) ?_ (h p e s m args below meth c' H lc locs cells slots mc ms hF hR hS hl hc hs' hz)
  have h2 : ((st.map (cv g)).map fun v => v.category).sum = csum st := by
    unfold csum
    rw [List.map_map]
    congr 1
    exact List.map_congr_left (fun v _ => cv_cat g v)
  show 2 * (F0 m pc lc _).monitorRoom + ((st.map (cv g)).map fun v => v.category).sum + 12 ≤ 40 * (d + 1)
  rw [h2]
  show 2 * 0 + csum st + 12 ≤ 40 * (d + 1)
  omega
/-- behind a call -/
theorem V_run {p : Program} {e : Env} {s : State} {m : MethodId} {args : Array Value} {below : List Frame} {meth : Method} {c' : Code} {H : Heap} {lc : Array Slot} {locs : List Loc} {cells slots mc ms : Nat} {P' : PP} {kc' ks' mc' ms' : Nat} {st0 : List Value} {a : Array Value} (hr : va_Run p (gl g) e (rmD d mc ms) s m args below meth c' H locs cells slots mc' ms' (F0 m pc lc st0) (st.map (cv g)) (Po g mc' P' a) (AA g)) (hk : kc' + mc' = kc) (hks : ks' + ms' ≤ ks) (h : ∀ v n' r' I' L', P' v n' r' I' L' → V g md d kc' ks' n' r' I' L' (pc + 3) ls (v.toList ++ st) P)
    (hF : Fx g md p s m args meth c') (hR : Rep g n r I L H) (hS : va_S (AA g) s.heap H locs) (hl : LR g md.2.2.1 ls lc) (hc : cells + kc = mc) (hs : slots + ks ≤ ms) (hz : s.heap.size + cells ≤ gb g + n) :
    W p (gl g) e (rmD d mc ms) s m args below meth c' H locs cells slots (MQ below (Po g mc P) args s mc ms (AA g)) (F0 m pc lc st0) := by
  intro T hT X
  have hsz : H.size = gb g + n := by
    have h1 : T.heap.size ≤ s.heap.size + cells := X.heapSize
    rw [hT] at h1
    have := hR.1
    omega
  obtain ⟨v, st₀, t, T', Lc, h0, X', hL, e1, e2, ⟨v', n', r', I', L', q1, q2, q3, ⟨f1, f2⟩, q5⟩, stp⟩ := hr T hT X
  cases q1
  rw [h0] at f1 f2 q5
  obtain ⟨t2, a1, b1⟩ := h v' n' r' I' L' q2 p e s m args below meth c' T'.heap lc (locs ++ Lc) (cells + mc') (slots + ms') mc ms hF (by rw [e1]; exact q3) ⟨Nat.le_trans hS.1 (by rw [e1]; exact f1), fun q h1 h2 => by rw [e1, f2 q (Nat.lt_of_lt_of_le h1 hS.1) h2]; exact hS.2.1 q h1 h2, fun q hq => by
      rcases List.mem_append.mp hq with h | h
      · exact hS.2.2 q h
      · exact hL q h⟩ hl (by omega) (by omega) (by omega) T' rfl X'
  refine ⟨t2, stp t2 ?_, b1⟩
  have hst : (v'.map (cv g)).toList ++ st.map (cv g) = (v'.toList ++ st).map (cv g) := by cases v' <;> simp
  rw [hst]
  exact a1
theorem csum_cv (l : List Value) : ((l.map (cv g)).map fun v => v.category).sum = csum l := by
  unfold csum
  rw [List.map_map]
  congr 1
  exact List.map_congr_left (fun v _ => cv_cat g v)
theorem pre_of {p : Program} {s : State} {m : MethodId} {args : Array Value} {meth : Method} {c' : Code} {H : Heap} {locs : List Loc} {as : List Value} (hF : Fx g md p s m args meth c') (hR : Rep g n r I L H) (hS : va_S (AA g) s.heap H locs) (hsz : H.size ≤ gb g + n) : PreS s H (va_Pc (as.map (cv g)) (fun U => Rep g n r I L U.heap ∧ U.heap.size ≤ gb g + n ∧ KK g U ∧ EX g U)) (as.map (cv g)) := by
  refine ⟨fun a U f mk q => ⟨q.1, q.2.1, q.2.2.1, va_K.moved (u := U) (U := U.calling f mk a) (Vm.Alike.refl U.vm) q.2.2.2.1, q.2.2.2.2.calling⟩, fun U hU hW => ⟨rfl, by rw [hU]; exact hR, by rw [hU]; exact hsz, va_K.moved hW.alike hF.2.2.2.2.2.2.2.2.1, EX.move hW (fun q h1 h2 => by rw [hU]; exact hS.2.1 q h1 h2) hF.2.2.2.2.2.2.2.2.2.1⟩⟩
theorem V_callV {idx na c a pc' kc' ks' mc' ms' : Nat} {md' : MD} {as rest : List Value} {P' : PP} (hd : decode md.2.1 pc = .ok (.invokevirtual idx, 3)) (hl0 : Cond.methodLink md.1.cls idx md'.1 ∈ TB) (hM : MFV md' na c) (hC : CT g md' d mc' ms' n r I L (.ref a :: as) P') (hn : as.length = na) (ha : a < n) (hs : (SH a).1 = c + 4) (hst : as.reverse ++ .ref a :: rest = st) (hm : csum rest ≤ 8) (hk : kc' + mc' = kc) (hks : ks' + ms' ≤ ks) (hp : pc + 3 = pc') (h : ∀ v n' r' I' L', P' v n' r' I' L' → V g md (d + 1) kc' ks' n' r' I' L' pc' ls (v.toList ++ rest) P) : V g md (d + 1) kc ks n r I L pc ls st P := by
  subst hp; subst hst
  intro p e s m args below meth c' H lc locs cells slots mc ms hF hR hS hl hc hs' hz T hT X
  have hsz : H.size ≤ gb g + n := by
    have h1 : T.heap.size ≤ s.heap.size + cells := X.heapSize
    rw [hT] at h1
    omega
  obtain ⟨⟨hnm, hini, hcode, h21⟩, hinst, hsel, hc13, hcR⟩ := hM
  have hts := hF.2.2.2.2.1
  have he := wsF_at (g := g) (f := ce g r I L) ha
  rw [ce_obj hs] at he
  have hG : GoodIn TB (wsV md.1.cls idx md'.1.cls md'.1 (Cond.code md'.1 md'.2.1 md'.2.2.1 md'.2.2.2 :: TB)) := fun w hw => by
    rcases List.mem_append.mp hw with hw | hw
    · simp only [List.mem_cons, List.not_mem_nil, or_false] at hw
      rcases hw with rfl | rfl | rfl | rfl
      · exact good1 hl0
      · exact good1 hinst
      · exact good1 hsel
      · exact good1 hini
    · exact good_code hcode w hw
  have hpre := pre_of (as := .ref a :: as) hF hR hS hsz
  refine V_run (va_runV (As := as.map (cv g)) (b := gb g + a) ⟨hF.1, hF.2.1, hF.2.2.1, hF.2.2.2.1, hts⟩ hC (cwV na hts hG rfl rfl rfl ⟨rfl, hnm⟩ ⟨by show d + 1 ≤ d + 1; omega, by show 8 + (md'.2.2.1 + 11) + 40 * d ≤ 40 * (d + 1); omega⟩) ⟨hpre.1, ?_, hpre.2⟩ rfl (by rw [List.length_map]; exact hn) hl.1 (by show ((as.reverse ++ .ref a :: rest).map (cv g)) = _; rw [List.map_append, List.map_reverse]; rfl) (lv_room (by rw [csum_cv]; exact hm)) hd ⟨by show cells + mc' ≤ mc; omega, by show slots + ms' ≤ ms; omega⟩) hk hks h hF hR hS hl hc hs' hz T hT X
  have := va_recv hF.2.2.2.2.2.2.2.2.1 hR.2 (vwCl_at c hc13) he
  rw [← hcR]
  exact this
theorem V_callS {idx na pc' kc' ks' mc' ms' : Nat} {md' : MD} {as rest : List Value} {P' : PP} (hd : decode md.2.1 pc = .ok (.invokestatic idx, 3)) (hl0 : Cond.methodLink md.1.cls idx md'.1 ∈ TB) (hM : MFS md' na) (hC : CT g md' d mc' ms' n r I L as P') (hn : as.length = na) (hst : as.reverse ++ rest = st) (hm : csum rest ≤ 8) (hk : kc' + mc' = kc) (hks : ks' + ms' ≤ ks) (hp : pc + 3 = pc') (h : ∀ v n' r' I' L', P' v n' r' I' L' → V g md (d + 1) kc' ks' n' r' I' L' pc' ls (v.toList ++ rest) P) : V g md (d + 1) kc ks n r I L pc ls st P := by
  subst hp; subst hst
  intro p e s m args below meth c' H lc locs cells slots mc ms hF hR hS hl hc hs' hz T hT X
  have hsz : H.size ≤ gb g + n := by
    have h1 : T.heap.size ≤ s.heap.size + cells := X.heapSize
    rw [hT] at h1
    omega
  obtain ⟨⟨hnm, hini, hcode, h21⟩, hstat⟩ := hM
  have hts := hF.2.2.2.2.1
  have hG : GoodIn TB (va_wsS md.1.cls idx md'.1 (Cond.code md'.1 md'.2.1 md'.2.2.1 md'.2.2.2 :: TB)) := fun w hw => by
    rcases List.mem_append.mp hw with hw | hw
    · simp only [List.mem_cons, List.not_mem_nil, or_false] at hw
      rcases hw with rfl | rfl | rfl
      · exact good1 hl0
      · exact good1 hstat
      · exact good1 hini
    · exact good_code hcode w hw
  have hpre := pre_of (as := as) hF hR hS hsz
  exact V_run (va_runS (As := as.map (cv g)) ⟨hF.1, hF.2.1, hF.2.2.1, hF.2.2.2.1, hts⟩ hC (va_cwS na hts hG rfl rfl rfl hnm ⟨by show d + 1 ≤ d + 1; omega, by show 8 + (md'.2.2.1 + 11) + 40 * d ≤ 40 * (d + 1); omega⟩) hpre rfl (by rw [List.length_map]; exact hn) hl.1 (by show ((as.reverse ++ rest).map (cv g)) = _; rw [List.map_append, List.map_reverse]) (lv_room (by rw [csum_cv]; exact hm)) hd ⟨by show cells + mc' ≤ mc; omega, by show slots + ms' ≤ ms; omega⟩) hk hks h hF hR hS hl hc hs' hz T hT X
theorem V_callI {idx na a pc' kc' ks' mc' ms' : Nat} {md' : MD} {as rest : List Value} {P' : PP} (hd : decode md.2.1 pc = .ok (.invokespecial idx, 3)) (hl0 : Cond.methodLink md.1.cls idx md'.1 ∈ TB) (hM : MFI md' na) (hC : CT g md' d mc' ms' n r I L (.ref a :: as) P') (hn : as.length = na) (hst : as.reverse ++ .ref a :: rest = st) (hm : csum rest ≤ 8) (hk : kc' + mc' = kc) (hks : ks' + ms' ≤ ks) (hp : pc + 3 = pc') (h : ∀ v n' r' I' L', P' v n' r' I' L' → V g md (d + 1) kc' ks' n' r' I' L' pc' ls (v.toList ++ rest) P) : V g md (d + 1) kc ks n r I L pc ls st P := by
  subst hp; subst hst
  intro p e s m args below meth c' H lc locs cells slots mc ms hF hR hS hl hc hs' hz T hT X
  have hsz : H.size ≤ gb g + n := by
    have h1 : T.heap.size ≤ s.heap.size + cells := X.heapSize
    rw [hT] at h1
    omega
  obtain ⟨⟨hnm, hini, hcode, h21⟩, hinst, hnm1, hret⟩ := hM
  have hts := hF.2.2.2.2.1
  have hpre := pre_of (as := .ref a :: as) hF hR hS hsz
  have hcode' := hcode
  rw [hret] at hcode'
  have hC' := hC
  unfold CT at hC'
  have hG := good_code hcode
  rw [hret] at hC' hG
  exact V_run (va_runI (As := as.map (cv g)) (b := gb g + a) ⟨hF.1, hF.2.1, hF.2.2.1, hF.2.2.2.1, hts⟩ hC' (cwI na hts hG rfl rfl rfl (hts _ hini) (hts _ hl0) (hts _ hinst) hnm1 hnm ⟨by show d + 1 ≤ d + 1; omega, by show 8 + (md'.2.2.1 + 11) + 40 * d ≤ 40 * (d + 1); omega⟩) hpre rfl (by rw [List.length_map]; exact hn) hl.1 (by show ((as.reverse ++ .ref a :: rest).map (cv g)) = _; rw [List.map_append, List.map_reverse]; rfl) (lv_room (by rw [csum_cv]; exact hm)) hd ⟨by show cells + mc' ≤ mc; omega, by show slots + ms' ≤ ms; omega⟩) hk hks h hF hR hS hl hc hs' hz T hT X
/-- nest mates: a private constructor, a private static method -/
theorem V_callIN {k idx na a pc' kc' ks' mc' ms' : Nat} {md' : MD} {as rest : List Value} {P' : PP} (hd : decode md.2.1 pc = .ok (.invokespecial idx, 3)) (hl0 : nestL[k]? = some (md.1.cls, idx, md'.1, RX11)) (hM : MFI md' na) (hC : CT g md' d mc' ms' n r I L (.ref a :: as) P') (hn : as.length = na) (hst : as.reverse ++ .ref a :: rest = st) (hm : csum rest ≤ 8) (hk : kc' + mc' = kc) (hks : ks' + ms' ≤ ks) (hp : pc + 3 = pc') (h : ∀ v n' r' I' L', P' v n' r' I' L' → V g md (d + 1) kc' ks' n' r' I' L' pc' ls (v.toList ++ rest) P) : V g md (d + 1) kc ks n r I L pc ls st P := by
  subst hp; subst hst
  intro p e s m args below meth c' H lc locs cells slots mc ms hF hR hS hl hc hs' hz T hT X
  have hsz : H.size ≤ gb g + n := by
    have h1 : T.heap.size ≤ s.heap.size + cells := X.heapSize
    rw [hT] at h1
    omega
  obtain ⟨⟨hnm, hini, hcode, h21⟩, hinst, hnm1, hret⟩ := hM
  have hts := hF.2.2.2.2.1
  have hpre := pre_of (as := .ref a :: as) hF hR hS hsz
  have hC' := hC
  unfold CT at hC'
  have hG := good_code hcode
  rw [hret] at hC' hG
  have hN := hF.2.2.2.2.2.2.2.2.2.1.1 _ (List.mem_of_getElem? hl0)
  exact V_run (va_runIN (As := as.map (cv g)) (b := gb g + a) (host := RX11) ⟨hF.1, hF.2.1, hF.2.2.1, hF.2.2.2.1, hts⟩ hC' ⟨va_cnB na hts hG rfl rfl rfl hN (hts _ hini) hnm ⟨by show d + 1 ≤ d + 1; omega, by show 8 + (md'.2.2.1 + 11) + 40 * d ≤ 40 * (d + 1); omega⟩, hnm1, hts _ hinst⟩ hpre rfl (by rw [List.length_map]; exact hn) hl.1 (by show ((as.reverse ++ .ref a :: rest).map (cv g)) = _; rw [List.map_append, List.map_reverse]; rfl) (lv_room (by rw [csum_cv]; exact hm)) hd ⟨by show cells + mc' ≤ mc; omega, by show slots + ms' ≤ ms; omega⟩) hk hks h hF hR hS hl hc hs' hz T hT X
theorem V_callSN {k idx na pc' kc' ks' mc' ms' : Nat} {md' : MD} {as rest : List Value} {P' : PP} (hd : decode md.2.1 pc = .ok (.invokestatic idx, 3)) (hl0 : nestL[k]? = some (md.1.cls, idx, md'.1, RX11)) (hM : MFS md' na) (hC : CT g md' d mc' ms' n r I L as P') (hn : as.length = na) (hst : as.reverse ++ rest = st) (hm : csum rest ≤ 8) (hk : kc' + mc' = kc) (hks : ks' + ms' ≤ ks) (hp : pc + 3 = pc') (h : ∀ v n' r' I' L', P' v n' r' I' L' → V g md (d + 1) kc' ks' n' r' I' L' pc' ls (v.toList ++ rest) P) : V g md (d + 1) kc ks n r I L pc ls st P := by
  subst hp; subst hst
  intro p e s m args below meth c' H lc locs cells slots mc ms hF hR hS hl hc hs' hz T hT X
  have hsz : H.size ≤ gb g + n := by
    have h1 : T.heap.size ≤ s.heap.size + cells := X.heapSize
    rw [hT] at h1
    omega
  obtain ⟨⟨hnm, hini, hcode, h21⟩, hstat⟩ := hM
  have hts := hF.2.2.2.2.1
  have hpre := pre_of (as := as) hF hR hS hsz
  have hN := hF.2.2.2.2.2.2.2.2.2.1.1 _ (List.mem_of_getElem? hl0)
  exact V_run (va_runSN (As := as.map (cv g)) (host := RX11) ⟨hF.1, hF.2.1, hF.2.2.1, hF.2.2.2.1, hts⟩ hC ⟨va_cnB na hts (good_code hcode) rfl rfl rfl hN (hts _ hini) hnm ⟨by show d + 1 ≤ d + 1; omega, by show 8 + (md'.2.2.1 + 11) + 40 * d ≤ 40 * (d + 1); omega⟩, hts _ hstat, trivial⟩ hpre rfl (by rw [List.length_map]; exact hn) hl.1 (by show ((as.reverse ++ rest).map (cv g)) = _; rw [List.map_append, List.map_reverse]) (lv_room (by rw [csum_cv]; exact hm)) hd ⟨by show cells + mc' ≤ mc; omega, by show slots + ms' ≤ ms; omega⟩) hk hks h hF hR hS hl hc hs' hz T hT X
end VC
