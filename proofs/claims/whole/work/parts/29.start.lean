/-! from the law's entry to the abstract machine -/
def R_law : String := "ShadowDoorsLaw"
def lw_P (b : Addr) (xs : List Int32) (args : Array Value) (s : State) : Prop := args = #[.ref b] ∧ s.IntsAt b xs ∧ xs.length ≤ 3072 ∧ (Jvm.Cond.and given_1 narrow_1).before args s = true
def lw_Q (_ : Array Value) (s : State) (o : Outcome) (t : State) : Prop := o = .returned (some (.int 1)) ∧ Framed s o t [] 600000 7302250
def lw_Z (below : List Frame) (a : Array Value) (s : State) : State → Prop := fun t => ∃ o, t.status = .running ∧ Ended t below o ∧ lw_Q a s o t
def lw_At (p : Program) (s : State) (m : MethodId) (meth : Method) (c : Code) (b L : Nat) (xs : Nat → Int32) : Prop :=
  p.tables.exec = Jvm.exec ∧ c.code = code ∧ meth.sig.returnType = ret ∧ c.maxLocals = 4 ∧ s.vm.findClass R_law = some m.cls ∧ (∀ w ∈ lw_tbl, w.before #[Value.ref b] s = true) ∧ va_X b L xs s s.heap ∧ b < s.heap.size ∧ meth.locks = false ∧ (Jvm.Cond.and given_1 narrow_1).before #[Value.ref b] s = true ∧ meth.name = "law"
section ST
variable {p : Program} {l : Launch} {e : Env} {s : State} {m : MethodId} {args : Array Value} {below : List Frame} {meth : Method} {c : Code} {H : Heap} {locs : List Loc} {cells slots : Nat}
theorem W_room {R R' : Room} {Q : State → Prop} {f : JFrame} (h1 : R'.frames ≤ R.frames) (h2 : R'.cells ≤ R.cells) (h3 : R'.slots ≤ R.slots) (h4 : R'.locals ≤ R.locals) (k : W p l e R' s m args below meth c H locs cells slots Q f) : W p l e R s m args below meth c H locs cells slots Q f := by
  intro T hT X
  refine k T hT { X with room := ?_ }
  have hr := X.room
  simp only [State.hasRoom, Bool.and_eq_true, decide_eq_true_eq] at hr ⊢
  obtain ⟨⟨⟨⟨a1, a2, a3, a4, a5, a6⟩, a7⟩, a8⟩, a9⟩ := hr
  exact ⟨⟨⟨⟨by omega, by omega, by omega, by omega, by omega, a6⟩, by omega⟩, by omega⟩, a9⟩
theorem W_mono {R : Room} {Q Q' : State → Prop} {f : JFrame} (h : ∀ t, Q t → Q' t) (k : W p l e R s m args below meth c H locs cells slots Q f) : W p l e R s m args below meth c H locs cells slots Q' f := by
  intro T hT X
  obtain ⟨t, h1, h2⟩ := k T hT X
  exact ⟨t, h1, h t h2⟩
end ST
theorem st_arr {s : State} {args : Array Value} {ty : FieldType} (hp : ∀ C, ty ≠ .object C) (h : (Cond.arrayClass ty).before args s = true) : ∃ cA : ClassId, ArrOfT s cA ty ∧ va_RA s cA ty := by
  obtain ⟨cA, kA, comp, h1, h2, h3⟩ := Cond.arrayClass_spec h
  refine ⟨cA, fun n z => ⟨fun k h => (by cases h), kA, h2, comp, h3⟩, ?_⟩
  cases ty <;> first | exact h1 | (exact absurd rfl (hp _))
def nrw : List Cond := flatC (Jvm.Cond.and given_1 narrow_1)
def stT : Nat → Term := fun i => if i = 0 then .string RX9 19 else .string RX9 73
set_option maxRecDepth 1000000 in
theorem st_all : ∀ i, i < 2 → (Cond.exactly (stT i) "java/lang/String" ∈ nrw ∧ Cond.eq (.field (stT i) "java/lang/String" "coder" "B") (.int 0) ∈ nrw ∧ Cond.arrayOf (.field (stT i) "java/lang/String" "value" "[B") .byte ∈ nrw ∧ Cond.eq (.length (.field (stT i) "java/lang/String" "value" "[B")) (.int (Int32.ofNat (txLen.getD i 0))) ∈ nrw) := by decide +kernel
set_option maxRecDepth 1000000 in
theorem st_byt : ∀ i, i < 2 → ∀ j, j < txLen.getD i 0 → Cond.eq (.elem (.field (stT i) "java/lang/String" "value" "[B") (.int (Int32.ofNat j))) (.int ((txByt.getD i []).getD j 0)) ∈ nrw := by decide +kernel
set_option maxRecDepth 1000000 in
theorem st_ne : Cond.not (Cond.eq (stT 0) (stT 1)) ∈ nrw := by decide +kernel
set_option maxRecDepth 1000000 in
theorem st_cs : Cond.eq (.static "java/lang/String" "COMPACT_STRINGS" "Z") (.int 1) ∈ nrw ∧ Cond.isRef (.static "jdk/internal/util/Preconditions" "SIOOBE_FORMATTER" "Ljava/util/function/BiFunction;") ∈ nrw := by decide +kernel
set_option maxRecDepth 1000000 in
theorem st_lay : Cond.laysStatic "java/lang/String" "COMPACT_STRINGS" "Z" ∈ lw_tbl ∧ Cond.laysStatic "jdk/internal/util/Preconditions" "SIOOBE_FORMATTER" "Ljava/util/function/BiFunction;" ∈ lw_tbl ∧ Cond.initialized "java/lang/String" ∈ lw_tbl ∧ Cond.initialized "jdk/internal/util/Preconditions" ∈ lw_tbl ∧ Cond.stringRef RX9 19 txt0 ∈ lw_tbl ∧ Cond.stringRef RX9 73 txt1 ∈ lw_tbl := by decide +kernel
set_option maxRecDepth 1000000 in
theorem st_nest : ∀ w ∈ nestL, Cond.methodLinkNest w.1 w.2.1 w.2.2.1 w.2.2.2 ∈ lw_tbl := by decide +kernel
set_option maxRecDepth 1000000 in
theorem st_arrs : Cond.arrayClass .int ∈ lw_tbl ∧ Cond.arrayClass .long ∈ lw_tbl ∧ Cond.arrayClass .byte ∈ lw_tbl ∧ Cond.arrayClass .boolean ∈ lw_tbl := by decide +kernel
theorem st_inst : ∀ c, c < 13 → ∃ n, Cond.instantiable (cR c) n ∈ TB := lt13 ⟨_, nlX11_48.2.2.1⟩ ⟨_, nlX5_26.2.2.1⟩ ⟨_, nlX6_15.2.2.1⟩ ⟨_, nlX11_83.2.2.1⟩ ⟨_, nlX11_37.2.2.1⟩ ⟨_, nlX11_13.2.2.1⟩ ⟨_, nlX11_23.2.2.1⟩ ⟨_, nlX11_66.2.2.1⟩ ⟨_, nlX5_9.2.2.1⟩ ⟨_, nlX11_25.2.2.1⟩ ⟨_, nlX11_74.2.2.1⟩ ⟨_, nlL_7.2.2.1⟩ ⟨_, nlL_10.2.2.1⟩
theorem st_K {s : State} {args : Array Value} (hts : ∀ w ∈ TB, w.before args s = true) : ∃ (dC : Nat → ClassId) (dI : Nat → Nat → Nat), ∀ (k : Nat) (q : vw_C), vwCl[k]? = some q → u_Kn s q.1 q.2.1 q.2.2 (dC k) (dI k) := by
  have h0 : ∀ c, ∃ x : ClassId × (Nat → Nat), c < 13 → u_Kn s (cR c) (cT c) (cn c) x.1 x.2 := by
    intro c
    by_cases hc : c < 13
    · obtain ⟨n, hn⟩ := st_inst c hc
      obtain ⟨a, b, h⟩ := u_known hts (uws_in hc) (hts _ hn)
      exact ⟨(a, b), fun _ => h⟩
    · exact ⟨(0, fun _ => 0), fun h => absurd h hc⟩
  obtain ⟨f, hf⟩ := Classical.axiomOfChoice h0
  refine ⟨fun k => (f k).1, fun k => (f k).2, fun k q hq => ?_⟩
  have hk := vwCl_lt hq
  have e := (vwCl_at k hk).symm.trans hq
  cases e
  exact hf k hk
def gxOf (adK adV : Nat → Nat) (b t : Nat) : Nat → Nat := fun i => match i with
  | 0 => adK 0
  | 1 => adK 1
  | 2 => adV 0
  | 3 => adV 1
  | 4 => b
  | _ => t
set_option maxHeartbeats 4000000 in
/-- the law's walk, open in what is pure alone -/
theorem whole_start_open {p : Program} {e : Env} {s : State} {m : MethodId} {below : List Frame} {meth : Method} {c : Code} (l : Launch) {b L : Nat} {xs : Nat → Int32} (hpure : PureLaw L xs) (C0 : lw_At p s m meth c b L xs) : W p l e room_1 s m #[Value.ref b] below meth c s.heap [] 0 0 (lw_Z below #[Value.ref b] s) (entryFrame m ([Value.ref b] : List Value).toArray 4) := by
  obtain ⟨hx, hb, hr, hml, hown, hts, hX, hbl, hlocks, hgv, hnm⟩ := C0
  have hq : ∀ w ∈ nrw, w.before #[Value.ref b] s = true := flat_of_before _ hgv
  have htb : ∀ w ∈ TB, w.before #[Value.ref b] s = true := fun w hw => hts w (List.mem_filter.mp hw).1
  have hA : ∀ a : Nat, a < s.heap.size → ¬ (fun q : Nat => s.heap.size ≤ q) a := fun a h => Nat.not_le.mpr h
  obtain ⟨adK, adV, hS2, hev⟩ := vk_Sof (args := #[Value.ref b]) (s := s) (N := 2) (tm := stT) (len := txLen) (byt := txByt) (A := fun q : Nat => s.heap.size ≤ q) (by decide) (fun i hi => hq _ (st_all i hi).1) (fun i hi => hq _ (st_all i hi).2.1) (fun i hi => hq _ (st_all i hi).2.2.1) (fun i hi => hq _ (st_all i hi).2.2.2) (fun i hi j hj => hq _ (st_byt i hi j hj)) (fun i j hi hj hij => by
    rcases (show (i = 0 ∧ j = 1) ∨ (i = 1 ∧ j = 0) by omega) with ⟨rfl, rfl⟩ | ⟨rfl, rfl⟩
    · exact Or.inl (hq _ st_ne)
    · exact Or.inr (hq _ st_ne)) hA
  have hCS : va_Z "java/lang/String" "COMPACT_STRINGS" "Z" (.int 1) (fun q : Nat => s.heap.size ≤ q) s s.heap := va_Zof (hts _ st_lay.1) (hts _ st_lay.2.2.1) (va_eqt (hq _ st_cs.1)) hA
  obtain ⟨t, hFM⟩ : ∃ t : Nat, va_Z "jdk/internal/util/Preconditions" "SIOOBE_FORMATTER" "Ljava/util/function/BiFunction;" .null (fun q : Nat => s.heap.size ≤ q) s s.heap ∨ va_Z "jdk/internal/util/Preconditions" "SIOOBE_FORMATTER" "Ljava/util/function/BiFunction;" (.ref t) (fun q : Nat => s.heap.size ≤ q) s s.heap := by
    rcases va_Zqof (hts _ st_lay.2.1) (hts _ st_lay.2.2.2.1) (hq _ st_cs.2) hA with h | ⟨t, h⟩
    · exact ⟨0, Or.inl h⟩
    · exact ⟨t, Or.inr h⟩
  obtain ⟨dC, dI, hKc⟩ := st_K htb
  obtain ⟨c0, a0⟩ := st_arr (ty := .int) (fun _ h => by cases h) (hts _ st_arrs.1)
  obtain ⟨c1, a1⟩ := st_arr (ty := .long) (fun _ h => by cases h) (hts _ st_arrs.2.1)
  obtain ⟨c2, a2⟩ := st_arr (ty := .byte) (fun _ h => by cases h) (hts _ st_arrs.2.2.1)
  obtain ⟨c3, a3⟩ := st_arr (ty := .boolean) (fun _ h => by cases h) (hts _ st_arrs.2.2.2)
  obtain ⟨g, hg⟩ : ∃ g : GG, g = (l, s.heap.size, dC, dI, (fun k => match k with | 0 => c0 | 1 => c1 | 2 => c2 | _ => c3), gxOf adK adV b t, L, xs) := ⟨_, rfl⟩
  have hKK : KK g s := by
    subst hg
    refine ⟨hKc, fun k q hk => ?_⟩
    match k, hk with
    | 0, hk => cases hk; exact a0
    | 1, hk => cases hk; exact a1
    | 2, hk => cases hk; exact a2
    | 3, hk => cases hk; exact a3
  have hEX : EX g s := by
    subst hg
    refine ⟨fun w hw => va_Nw.of rfl (hts _ (st_nest w hw)), ⟨fun i hi => ?_, fun i j hi hj he => ?_⟩, vk_R.of (hts _ st_lay.2.2.2.2.1) (hev 0 (by decide)), vk_R.of (hts _ st_lay.2.2.2.2.2) (hev 1 (by decide)), hCS, hX, hA b hbl, hFM⟩
    · match i, hi with
      | 0, _ => exact hS2.1 0 (by decide)
      | 1, _ => exact hS2.1 1 (by decide)
    · match i, j, hi, hj with
      | 0, 0, _, _ => rfl
      | 1, 1, _, _ => rfl
      | 0, 1, _, _ => exact hS2.2 0 1 (by decide) (by decide) he
      | 1, 0, _, _ => exact hS2.2 1 0 (by decide) (by decide) he
  have hgb : gb g = s.heap.size := by rw [hg]
  have hg4 : gX g 4 = b := by rw [hg]; rfl
  have hpg : PureLaw (gN g) (gS g) := by rw [hg]; exact hpure
  have hV := law_V (g := g) (d := 0) hpg
  have hLR : LR g 4 [some (.retAddr 4)] ((lg_sl ([Value.ref b] : List Value) ++ List.replicate (4 - (lg_sl ([Value.ref b] : List Value)).length) Slot.unset).toArray) := by
    have h := LR.ent (g := g) (nL := 4) [.retAddr 4] (by decide)
    rw [show ([Value.retAddr 4] : List Value).map (cv g) = [Value.ref b] from by show [Value.ref (gX g 4)] = _; rw [hg4]] at h
    exact h
  have key := hV p e s m #[Value.ref b] below meth c s.heap _ [] 0 0 116 10860 ⟨hx, hb, hml, hown, htb, hr, hlocks, hnm, hKK, hEX, by rw [hgb]; exact Nat.le_refl _⟩ ⟨by rw [hgb]; exact Nat.le_refl _, fun k q hk => by simp [wsF] at hk⟩ va_S.rf hLR rfl (by omega) (by rw [hgb]; exact Nat.le_refl _)
  rw [lg_entry_eq]
  have hl : gl g = l := by rw [hg]
  rw [hl] at key
  refine W_room (R' := rmD (0 + 180) 116 10860) (by decide) (by decide) (by decide) (by decide) (W_mono (fun t ht => ?_) key)
  obtain ⟨o, h1, h2, ⟨v, n', r', I', L', e1, e2, e3, e4⟩, Lc, hF, hLc⟩ := ht
  refine ⟨o, h1, h2, by rw [e1, e2]; rfl, hF.1, hF.2.1, ?_⟩
  refine hF.2.2.weaken (fun y hy hlt => ?_) (by decide) (by decide)
  have h3 : gb g ≤ y.base := hLc y hy
  rw [hgb] at h3
  exact absurd hlt (Nat.not_lt.mpr h3)
