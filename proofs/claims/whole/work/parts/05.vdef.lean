def Fx (g : GG) (md : MD) (p : Program) (s : State) (m : MethodId) (args : Array Value) (meth : Method) (c : Code) : Prop :=
  p.tables.exec = Jvm.exec ∧ c.code = md.2.1 ∧ c.maxLocals = md.2.2.1 ∧ s.vm.findClass md.1.cls = some m.cls ∧ (∀ w ∈ TB, w.before args s = true) ∧ meth.sig.returnType = md.2.2.2 ∧ meth.locks = false ∧ meth.name = md.1.name ∧ KK g s ∧ EX g s ∧ gb g ≤ s.heap.size
abbrev PP : Type := Option Value → Nat → HR → HI → HL → Prop
def Po (g : GG) (mc : Nat) (P : PP) : Array Value → State → Outcome → State → Prop := fun _ st o t => ∃ (v : Option Value) (n : Nat) (r : HR) (I : HI) (L : HL), o = .returned (v.map (cv g)) ∧ P v n r I L ∧ Rep g n r I L t.heap ∧ va_F (AA g) st t ∧ st.heap.size + mc ≤ gb g + n
def V (g : GG) (md : MD) (d kc ks n : Nat) (r : HR) (I : HI) (L : HL) (pc : Nat) (ls : List (Option Value)) (st : List Value) (P : PP) : Prop :=
  ∀ (p : Program) (e : Env) (s : State) (m : MethodId) (args : Array Value) (below : List Frame) (meth : Method) (c : Code) (H : Heap) (lc : Array Slot) (locs : List Loc) (cells slots mc ms : Nat),
    Fx g md p s m args meth c → Rep g n r I L H → va_S (AA g) s.heap H locs → LR g md.2.2.1 ls lc → cells + kc = mc → slots + ks ≤ ms → s.heap.size + cells ≤ gb g + n →
    W p (gl g) e (rmD d mc ms) s m args below meth c H locs cells slots (MQ below (Po g mc P) args s mc ms (AA g)) (F0 m pc lc (st.map (cv g)))
def CT (g : GG) (md : MD) (d mc ms n : Nat) (r : HR) (I : HI) (L : HL) (as : List Value) (P : PP) : Prop :=
  Met (gl g) md.1 (Cond.code md.1 md.2.1 md.2.2.1 md.2.2.2 :: TB) (rmD d mc ms) (va_Pc (as.map (cv g)) (fun U => Rep g n r I L U.heap ∧ U.heap.size ≤ gb g + n ∧ KK g U ∧ EX g U)) (Po g mc P) mc ms (AA g)
theorem CT.of {g : GG} {md : MD} {d mc ms n : Nat} {r : HR} {I : HI} {L : HL} {as : List Value} {P : PP} (hy : plainName md.1.cls = true) (hn : csum as ≤ md.2.2.1) (h : V g md d mc ms n r I L 0 (entL as) [] P) : CT g md d mc ms n r I L as P := by
  refine Met.ofW (cc := md.2.1) (maxL := md.2.2.1) (ret := md.2.2.2) hy rfl ?_
  intro p e s m args below meth c s₁ B hml hv
  obtain ⟨rfl, hR, hz, hK, hE⟩ := hv
  have hts := atoms_spec (ws := Cond.code md.1 md.2.1 md.2.2.1 md.2.2.2 :: TB) B.pre
  rw [lg_entry_eq]
  exact h p e s m _ below meth c s.heap _ [] 0 0 mc ms ⟨B.exec, B.bytes, hml, findClass_of_methodNamed B.named, fun w hw => hts w (List.mem_cons_of_mem _ hw), B.returns, B.notSynchronized, (name_of_methodNamed B.named B.method).1, hK, hE, Nat.le_trans (Nat.le_add_right _ _) hR.1⟩ hR va_S.rf (LR.ent as hn) (by omega) (by omega) (by omega)
/-- a contract says less -/
theorem CT.mono {g : GG} {md : MD} {d mc ms n : Nat} {r : HR} {I : HI} {L : HL} {as : List Value} {P Q : PP} (h : CT g md d mc ms n r I L as P) (hPQ : ∀ v n r I L, P v n r I L → Q v n r I L) : CT g md d mc ms n r I L as Q := by
  intro p e ha hc hk s m args below hf hp hv hK
  obtain ⟨k, o, h1, h2, h3, ⟨v, n', r', I', L', q1, q2, q3⟩, q4⟩ := h p e ha hc hk s m args below hf hp hv hK
  exact ⟨k, o, h1, h2, h3, ⟨v, n', r', I', L', q1, hPQ _ _ _ _ _ q2, q3⟩, q4⟩
theorem V.mono {g : GG} {md : MD} {d kc ks n : Nat} {r : HR} {I : HI} {L : HL} {pc : Nat} {ls : List (Option Value)} {st : List Value} {P Q : PP} (h : V g md d kc ks n r I L pc ls st P) (hPQ : ∀ v n r I L, P v n r I L → Q v n r I L) : V g md d kc ks n r I L pc ls st Q := by
  intro p e s m args below meth c H lc locs cells slots mc ms hF hR hS hl hc hs hz T hT X
  obtain ⟨t, h1, o, h2, h3, ⟨v, n', r', I', L', q1, q2, q3⟩, q4⟩ := h p e s m args below meth c H lc locs cells slots mc ms hF hR hS hl hc hs hz T hT X
  exact ⟨t, h1, o, h2, h3, ⟨v, n', r', I', L', q1, hPQ _ _ _ _ _ q2, q3⟩, q4⟩
section VR
variable {g : GG} {md : MD} {d kc ks n : Nat} {r : HR} {I : HI} {L : HL} {pc : Nat} {ls : List (Option Value)} {st : List Value} {P : PP}
theorem V.weak {ls' : List (Option Value)} (hw : ∀ i v, lat ls' i = some v → lat ls i = some v) (k : V g md d kc ks n r I L pc ls' st P) : V g md d kc ks n r I L pc ls st P := by
  intro p e s m args below meth c H lc locs cells slots mc ms hF hR hS hl hc hs hz
  exact k p e s m args below meth c H lc locs cells slots mc ms hF hR hS (hl.weak hw) hc hs hz
theorem V_iconst {k : Int} {x : Int32} {pc' : Nat} (hd : decode md.2.1 pc = .ok (.iconst k, 1)) (hx : Int32.ofInt k = x) (hp : pc + 1 = pc') (h : V g md d kc ks n r I L pc' ls (.int x :: st) P) : V g md d kc ks n r I L pc ls st P := by
  subst hp
  intro p e s m args below meth c H lc locs cells slots mc ms hF hR hS hl hc hs hz
  exact lv_iconst hF.1 hF.2.1 hd hx (h p e s m args below meth c H lc locs cells slots mc ms hF hR hS hl hc hs hz)
end VR
