/-! The abstract layer: heaps as functions of a cell's number and a place in it; V, the walk over them; CT, a method's contract over them. -/
abbrev HI : Type := Nat → Nat → Int32
abbrev HL : Type := Nat → Nat → Int64
abbrev HR : Type := Nat → Nat → Option Nat
def up2 {α : Type} (F : Nat → Nat → α) (k i : Nat) (v : α) : Nat → Nat → α := fun a => if a = k then (fun j => if j = i then v else F k j) else F a
theorem up2_row {α : Type} (F : Nat → Nat → α) (k i : Nat) (v : α) : up2 F k i v k = fun j => if j = i then v else F k j := if_pos rfl
theorem up2_off {α : Type} (F : Nat → Nat → α) {k a : Nat} (i : Nat) (v : α) (h : a ≠ k) : up2 F k i v a = F a := if_neg h
def b2i (b : Bool) : Int32 := if b then 1 else 0
/-- launch, the first address, the classes' numbers and slots, the arrays' classes, the addresses of what is only read (0, 1: the text constants; 2, 3: their bytes; 4: the script; 5: a formatter of the JDK's), the script's length and its ints -/
abbrev GG : Type := Launch × Nat × (Nat → ClassId) × (Nat → Nat → Nat) × (Nat → ClassId) × (Nat → Nat) × Nat × (Nat → Int32)
abbrev gl (g : GG) : Launch := g.1
abbrev gb (g : GG) : Nat := g.2.1
abbrev gD (g : GG) : va_G := (g.2.2.1, g.2.2.2.1)
abbrev gc (g : GG) : Nat → ClassId := g.2.2.2.2.1
abbrev gX (g : GG) : Nat → Nat := g.2.2.2.2.2.1
abbrev gN (g : GG) : Nat := g.2.2.2.2.2.2.1
abbrev gS (g : GG) : Nat → Int32 := g.2.2.2.2.2.2.2
/-- a method: its name, its bytes, its locals, what it returns -/
abbrev MD : Type := MethodName × ByteArray × Nat × Option FieldType
def TB : List Cond := lw_tbl.filter goodWord
theorem tb_in {w : Cond} (i : Nat) (h : lw_tbl[i]? = some w) (hg : goodWord w = true) : w ∈ TB := List.mem_filter.mpr ⟨List.mem_of_getElem? h, hg⟩
theorem tb_good {w : Cond} (h : w ∈ TB) : goodWord w = true := (List.mem_filter.mp h).2
theorem tb_goodIn : GoodIn TB TB := fun _ hw => ⟨hw, good_of_word (tb_good hw)⟩
abbrev rmD (d mc ms : Nat) : Room := { frames := d, cells := mc, slots := ms, locals := 40 * d }
def fkind : FieldType → Nat
  | .long => 1
  | .object _ => 2
  | .array _ => 2
  | _ => 0
def ctys : Nat → Nat → FieldType
  | 0 => tyX0 | 1 => tyX1 | 2 => tyX2 | 3 => tyX3 | 4 => tyX4 | 5 => tyX5 | 6 => tyX6 | 7 => tyX7 | 8 => tyX8 | 9 => tyX9 | 10 => tyX10 | 11 => tyX11 | _ => tyX12
def cn : Nat → Nat
  | 0 => 3 | 1 => 5 | 2 => 2 | 3 => 12 | 4 => 6 | 5 => 12 | 6 => 10 | 7 => 10 | 8 => 6 | 9 => 8 | 10 => 10 | 11 => 12 | _ => 92
def cT : Nat → u_T
  | 0 => TX0 | 1 => TX1 | 2 => TX2 | 3 => TX3 | 4 => TX4 | 5 => TX5 | 6 => TX6 | 7 => TX7 | 8 => TX8 | 9 => TX9 | 10 => TX10 | 11 => TX11 | _ => TX12
def cR : Nat → String
  | 0 => RX0 | 1 => RX1 | 2 => RX2 | 3 => RX3 | 4 => RX4 | 5 => RX5 | 6 => RX6 | 7 => RX7 | 8 => RX8 | 9 => RX9 | 10 => RX10 | 11 => RX11 | _ => RX12
theorem lt13 {P : Nat → Prop} (h0 : P 0) (h1 : P 1) (h2 : P 2) (h3 : P 3) (h4 : P 4) (h5 : P 5) (h6 : P 6) (h7 : P 7) (h8 : P 8) (h9 : P 9) (h10 : P 10) (h11 : P 11) (h12 : P 12) : ∀ c, c < 13 → P c
  | 0, _ => h0 | 1, _ => h1 | 2, _ => h2 | 3, _ => h3 | 4, _ => h4 | 5, _ => h5 | 6, _ => h6 | 7, _ => h7 | 8, _ => h8 | 9, _ => h9 | 10, _ => h10 | 11, _ => h11 | 12, _ => h12
  | n + 13, h => absurd h (by omega)
theorem vwCl_at : ∀ c, c < 13 → vwCl[c]? = some (cR c, cT c, cn c) := lt13 rfl rfl rfl rfl rfl rfl rfl rfl rfl rfl rfl rfl rfl
theorem vwCl_lt {c : Nat} {q : vw_C} (h : vwCl[c]? = some q) : c < 13 := (List.getElem?_eq_some_iff.mp h).1
theorem cty_ok : ∀ c, c < 13 → ∀ k, k < cn c → parseFieldDescriptor (cT c k).2.2.1 = some (ctys c k) := lt13 tyX0_ok tyX1_ok tyX2_ok tyX3_ok tyX4_ok tyX5_ok tyX6_ok tyX7_ok tyX8_ok tyX9_ok tyX10_ok tyX11_ok tyX12_ok
theorem cnm_ok : ∀ c, c < 13 → ∀ a, a < cn c → ∀ b, b < cn c → a ≠ b → (cT c a).2.1 ≠ (cT c b).2.1 := lt13 nmX0 nmX1 nmX2 nmX3 nmX4 nmX5 nmX6 nmX7 nmX8 nmX9 nmX10 nmX11 nmX12
def cv (g : GG) : Value → Value
  | .ref a => .ref (gb g + a)
  | .retAddr k => .ref (gX g k)
  | v => v
theorem cv_cat (g : GG) (v : Value) : (cv g v).category = v.category := by cases v <;> rfl
def fv (g : GG) (r : HR) (I : HI) (L : HL) (c k j : Nat) : Value := match fkind (ctys c j) with
  | 0 => .int (I k j)
  | 1 => .long (L k j)
  | _ => va_rf ((r k j).map (gb g + ·))
def fsOf (g : GG) (r : HR) (I : HI) (L : HL) (c k : Nat) : List Value := (List.range (cn c)).map (fv g r I L c k)
def ceOf (g : GG) (sh : Nat × Nat) (r : HR) (I : HI) (L : HL) (k : Nat) : va_E := match sh.1 with
  | 0 => .inl (gc g 0, (sh.2, .inl (I k)))
  | 1 => .inl (gc g 1, (sh.2, .inr (.inl (L k))))
  | 2 => .inl (gc g 2, (sh.2, .inl (I k)))
  | 3 => .inl (gc g 3, (sh.2, .inl (I k)))
  | c + 4 => .inr (c, fsOf g r I L c k)
def ce (g : GG) (r : HR) (I : HI) (L : HL) (k : Nat) : va_E := ceOf g (SH k) r I L k
def wsF (g : GG) (f : Nat → va_E) (n : Nat) : va_W := (List.range n).map (fun k => (gb g + k, f k))
theorem wsF_at {g : GG} {f : Nat → va_E} {n k : Nat} (h : k < n) : (wsF g f n)[k]? = some (gb g + k, f k) := by
  simp [wsF, h]
theorem wsF_of {g : GG} {f : Nat → va_E} {n k : Nat} {q : Nat × va_E} (h : (wsF g f n)[k]? = some q) : k < n ∧ q = (gb g + k, f k) := by
  have hk : k < n := by
    have := (List.getElem?_eq_some_iff.mp h).1
    simpa [wsF] using this
  rw [wsF_at hk] at h
  exact ⟨hk, (Option.some.inj h).symm⟩
theorem wsF_set {g : GG} {f f' : Nat → va_E} {n k : Nat} {e : va_E} (he : f' k = e) (ho : ∀ j, j ≠ k → f' j = f j) : (wsF g f n).set k (gb g + k, e) = wsF g f' n := by
  apply List.ext_getElem?
  intro j
  by_cases hj : j < n
  · rw [wsF_at hj]
    by_cases hjk : k = j
    · subst hjk
      rw [List.getElem?_set_self (by simpa [wsF] using hj), he]
    · rw [List.getElem?_set_ne hjk, wsF_at hj, ho j (Ne.symm hjk)]
  · have h1 : (wsF g f' n)[j]? = none := List.getElem?_eq_none (by simp [wsF]; omega)
    rw [h1]
    exact List.getElem?_eq_none (by simp [wsF]; omega)
theorem wsF_push {g : GG} {f f' : Nat → va_E} {n : Nat} {e : va_E} (he : f' n = e) (ho : ∀ j, j < n → f' j = f j) : wsF g f n ++ [(gb g + n, e)] = wsF g f' (n + 1) := by
  have h1 : wsF g f n = wsF g f' n := List.map_congr_left (fun j hj => by rw [ho j (List.mem_range.mp hj)])
  rw [h1, ← he]
  simp [wsF, List.range_succ]
abbrev AA (g : GG) : Nat → Prop := fun q => gb g ≤ q
theorem wsF_D (g : GG) (f : Nat → va_E) (n : Nat) : va_D (AA g) (wsF g f n) := by
  refine ⟨fun i j p q hi hj hpq => ?_, fun k q hk => ?_⟩
  · obtain ⟨-, rfl⟩ := wsF_of hi
    obtain ⟨-, rfl⟩ := wsF_of hj
    exact Nat.add_left_cancel hpq
  · obtain ⟨-, rfl⟩ := wsF_of hk
    exact Nat.le_add_right _ _
def tysOf (g : GG) : List (ClassId × FieldType) := [(gc g 0, .int), (gc g 1, .long), (gc g 2, .byte), (gc g 3, .boolean)]
abbrev KK (g : GG) (U : State) : Prop := va_K (gD g) vwCl (tysOf g) U
def Rep (g : GG) (n : Nat) (r : HR) (I : HI) (L : HL) (H : Heap) : Prop := gb g + n ≤ H.size ∧ va_P (gD g) vwCl (wsF g (ce g r I L) n) H
theorem Rep_ge {g : GG} {f : Nat → va_E} {n a : Nat} {H : Heap} (h : va_P (gD g) vwCl (wsF g f n) H) (ha : a < n) : gb g + n ≤ H.size := by
  have := (h (n - 1) _ (wsF_at (g := g) (f := f) (n := n) (by omega))).lt
  simp only at this
  omega
/-- what else the methods rest on: nest mates' links; the text constants; the script -/
def nestL : List (String × Nat × MethodName × String) := [(RX5, 28, yX1_init, RX11), (RX11, 39, yX4_init, RX11), (RX11, 50, yX0_init, RX11), (RX11, 85, yX3_init, RX11), (RX5, 106, yX11_isBit, RX11), (RX7, 123, yX11_isBit, RX11), (RX3, 44, yX11_isBit, RX11)]
def txt0 : String := "size by wall door at high open to lamp lit person shade cloud or and not height hour date "
def txt1 : String := ";()<>=+-*/%"
def txLen : List Nat := [90, 11]
def txByt : List (List Int32) := [[115, 105, 122, 101, 32, 98, 121, 32, 119, 97, 108, 108, 32, 100, 111, 111, 114, 32, 97, 116, 32, 104, 105, 103, 104, 32, 111, 112, 101, 110, 32, 116, 111, 32, 108, 97, 109, 112, 32, 108, 105, 116, 32, 112, 101, 114, 115, 111, 110, 32, 115, 104, 97, 100, 101, 32, 99, 108, 111, 117, 100, 32, 111, 114, 32, 97, 110, 100, 32, 110, 111, 116, 32, 104, 101, 105, 103, 104, 116, 32, 104, 111, 117, 114, 32, 100, 97, 116, 101, 32], [59, 40, 41, 60, 62, 61, 43, 45, 42, 47, 37]]
def EX (g : GG) (U : State) : Prop := (∀ w ∈ nestL, va_Nw (.methodLinkNest w.1 w.2.1 w.2.2.1 w.2.2.2) U) ∧ vk_S 2 txLen txByt (fun i => gX g i) (fun i => gX g (i + 2)) (AA g) U U.heap ∧ vk_R RX9 19 txt0 (gX g 0) U ∧ vk_R RX9 73 txt1 (gX g 1) U ∧ va_Z "java/lang/String" "COMPACT_STRINGS" "Z" (.int 1) (AA g) U U.heap ∧ va_X (gX g 4) (gN g) (gS g) U U.heap ∧ ¬ AA g (gX g 4) ∧ (va_Z "jdk/internal/util/Preconditions" "SIOOBE_FORMATTER" "Ljava/util/function/BiFunction;" .null (AA g) U U.heap ∨ va_Z "jdk/internal/util/Preconditions" "SIOOBE_FORMATTER" "Ljava/util/function/BiFunction;" (.ref (gX g 5)) (AA g) U U.heap)
theorem EX.move {g : GG} {s U : State} (hW : s.WarmedH U.vm) (hq : ∀ a : Nat, a < s.heap.size → ¬ AA g a → U.heap[a]? = s.heap[a]?) (h : EX g s) : EX g U := by
  obtain ⟨h1, h2, h3, h4, h5, h6, h7, h8⟩ := h
  refine ⟨fun w hw => va_Nw.warmM hW (h1 w hw), (h2.moved hW.alike).kept hq, h3.warm hW, h4.warm hW, (h5.moved hW.alike).kept hq, (h6.moved hW.alike).kept ?_, h7, h8.imp (fun z => (z.moved hW.alike).kept hq) (fun z => (z.moved hW.alike).kept hq)⟩
  obtain ⟨scr, hs, -⟩ := h6
  exact hq _ (Array.getElem?_eq_some_iff.mp hs).1 h7
theorem EX.calling {g : GG} {U : State} {f : JFrame} {mk : MethodId} {a : Array Value} (h : EX g U) : EX g (U.calling f mk a) := EX.move (U := U.calling f mk a) (State.WarmedH.refl U) (fun _ _ _ => rfl) h
def lat : List (Option Value) → Nat → Option Value
  | [], _ => none
  | a :: _, 0 => a
  | _ :: t, i + 1 => lat t i
def clr : Option Value → Option Value
  | some (.long _) => none
  | some (.double _) => none
  | x => x
def lset : List (Option Value) → Nat → Value → List (Option Value)
  | [], 0, v => [some v]
  | [], i + 1, v => none :: lset [] i v
  | _ :: t, 0, v => some v :: t
  | a :: t, 1, v => clr a :: lset t 0 v
  | a :: t, i + 2, v => a :: lset t (i + 1) v
def lse2 : List (Option Value) → Nat → Value → List (Option Value)
  | [], 0, v => [some v, none]
  | [], i + 1, v => none :: lse2 [] i v
  | [_], 0, v => [some v, none]
  | _ :: _ :: t, 0, v => some v :: none :: t
  | a :: t, 1, v => clr a :: lse2 t 0 v
  | a :: t, i + 2, v => a :: lse2 t (i + 1) v
theorem lat_lset : ∀ (l : List (Option Value)) (i : Nat) (v : Value) (j : Nat) (w : Value), lat (lset l i v) j = some w → (j = i ∧ w = v) ∨ (j ≠ i ∧ lat l j = some w ∧ ¬ (j + 1 = i ∧ w.category = 2))
  | [], 0, v, j, w, h => by
    cases j with
    | zero => simp [lset, lat] at h; exact Or.inl ⟨rfl, h.symm⟩
    | succ j => simp [lset, lat] at h
  | [], i + 1, v, j, w, h => by
    cases j with
    | zero => simp [lset, lat] at h
    | succ j =>
      have h' : lat (lset [] i v) j = some w := h
      rcases lat_lset [] i v j w h' with ⟨e, f⟩ | ⟨e, f, k⟩
      · exact Or.inl ⟨by rw [e], f⟩
      · simp [lat] at f
  | a :: t, 0, v, j, w, h => by
    cases j with
    | zero => simp [lset, lat] at h; exact Or.inl ⟨rfl, h.symm⟩
    | succ j => exact Or.inr ⟨by omega, h, by omega⟩
  | a :: t, 1, v, j, w, h => by
    cases j with
    | zero =>
      have h' : clr a = some w := h
      refine Or.inr ⟨by omega, ?_, ?_⟩
      · show a = some w
        cases a with
        | none => exact h'
        | some x => cases x <;> first | exact h' | (simp [clr] at h')
      · rintro ⟨-, hc⟩
        cases a with
        | none => simp [clr] at h'
        | some x => cases x <;> first | (simp [clr] at h'; done) | (simp [clr] at h'; subst h'; simp [Value.category] at hc)
    | succ j =>
      have h' : lat (lset t 0 v) j = some w := h
      rcases lat_lset t 0 v j w h' with ⟨e, f⟩ | ⟨e, f, k⟩
      · exact Or.inl ⟨by rw [e], f⟩
      · exact Or.inr ⟨by omega, f, by omega⟩
  | a :: t, i + 2, v, j, w, h => by
    cases j with
    | zero => exact Or.inr ⟨by omega, h, by omega⟩
    | succ j =>
      have h' : lat (lset t (i + 1) v) j = some w := h
      rcases lat_lset t (i + 1) v j w h' with ⟨e, f⟩ | ⟨e, f, k⟩
      · exact Or.inl ⟨by rw [e], f⟩
      · exact Or.inr ⟨by omega, f, fun q => k ⟨by omega, q.2⟩⟩
theorem lat_lse2 : ∀ (l : List (Option Value)) (i : Nat) (v : Value) (j : Nat) (w : Value), lat (lse2 l i v) j = some w → (j = i ∧ w = v) ∨ (j ≠ i ∧ j ≠ i + 1 ∧ lat l j = some w ∧ ¬ (j + 1 = i ∧ w.category = 2))
  | [], 0, v, j, w, h => by
    match j, h with
    | 0, h => simp [lse2, lat] at h; exact Or.inl ⟨rfl, h.symm⟩
    | 1, h => simp [lse2, lat] at h
    | j + 2, h => simp [lse2, lat] at h
  | [], i + 1, v, j, w, h => by
    cases j with
    | zero => simp [lse2, lat] at h
    | succ j =>
      have h' : lat (lse2 [] i v) j = some w := h
      rcases lat_lse2 [] i v j w h' with ⟨e, f⟩ | ⟨e, e2, f, k⟩
      · exact Or.inl ⟨by rw [e], f⟩
      · simp [lat] at f
  | [a], 0, v, j, w, h => by
    match j, h with
    | 0, h => simp [lse2, lat] at h; exact Or.inl ⟨rfl, h.symm⟩
    | 1, h => simp [lse2, lat] at h
    | j + 2, h => simp [lse2, lat] at h
  | a :: b :: t, 0, v, j, w, h => by
    match j, h with
    | 0, h => simp [lse2, lat] at h; exact Or.inl ⟨rfl, h.symm⟩
    | 1, h => simp [lse2, lat] at h
    | j + 2, h => exact Or.inr ⟨by omega, by omega, h, by omega⟩
  | a :: t, 1, v, j, w, h => by
    cases j with
    | zero =>
      have h' : clr a = some w := by
        cases t <;> exact h
      refine Or.inr ⟨by omega, by omega, ?_, ?_⟩
      · show a = some w
        cases a with
        | none => exact h'
        | some x => cases x <;> first | exact h' | (simp [clr] at h')
      · rintro ⟨-, hc⟩
        cases a with
        | none => simp [clr] at h'
        | some x => cases x <;> first | (simp [clr] at h'; done) | (simp [clr] at h'; subst h'; simp [Value.category] at hc)
    | succ j =>
      have h' : lat (lse2 t 0 v) j = some w := by
        cases t <;> exact h
      rcases lat_lse2 t 0 v j w h' with ⟨e, f⟩ | ⟨e, e2, f, k⟩
      · exact Or.inl ⟨by rw [e], f⟩
      · exact Or.inr ⟨by omega, by omega, f, by omega⟩
  | a :: t, i + 2, v, j, w, h => by
    cases j with
    | zero =>
      refine Or.inr ⟨by omega, by omega, ?_, by omega⟩
      cases t <;> exact h
    | succ j =>
      have h' : lat (lse2 t (i + 1) v) j = some w := by
        cases t <;> exact h
      rcases lat_lse2 t (i + 1) v j w h' with ⟨e, f⟩ | ⟨e, e2, f, k⟩
      · exact Or.inl ⟨by rw [e], f⟩
      · exact Or.inr ⟨by omega, by omega, f, fun q => k ⟨by omega, q.2⟩⟩
/-- the abstract locals as the kit's list -/
def prs (g : GG) : Nat → List (Option Value) → List (Nat × Value)
  | _, [] => []
  | i, none :: t => prs g (i + 1) t
  | i, some v :: t => (i, cv g v) :: prs g (i + 1) t
theorem prs_mem {g : GG} : ∀ (l : List (Option Value)) (i : Nat) (q : Nat × Value), q ∈ prs g i l ↔ ∃ (j : Nat) (v : Value), lat l j = some v ∧ q = (i + j, cv g v)
  | [], i, q => by simp [prs, lat]
  | none :: t, i, q => by
    rw [show prs g i (none :: t) = prs g (i + 1) t from rfl, prs_mem t (i + 1) q]
    constructor
    · rintro ⟨j, v, h, rfl⟩
      exact ⟨j + 1, v, h, by rw [show i + 1 + j = i + (j + 1) by omega]⟩
    · rintro ⟨j, v, h, rfl⟩
      cases j with
      | zero => simp [lat] at h
      | succ j => exact ⟨j, v, h, by rw [show i + 1 + j = i + (j + 1) by omega]⟩
  | some x :: t, i, q => by
    rw [show prs g i (some x :: t) = (i, cv g x) :: prs g (i + 1) t from rfl, List.mem_cons, prs_mem t (i + 1) q]
    constructor
    · rintro (rfl | ⟨j, v, h, rfl⟩)
      · exact ⟨0, x, rfl, rfl⟩
      · exact ⟨j + 1, v, h, by rw [show i + 1 + j = i + (j + 1) by omega]⟩
    · rintro ⟨j, v, h, rfl⟩
      cases j with
      | zero =>
        have : x = v := by simpa [lat] using h
        subst this
        exact Or.inl rfl
      | succ j => exact Or.inr ⟨j, v, h, by rw [show i + 1 + j = i + (j + 1) by omega]⟩
abbrev LR (g : GG) (nL : Nat) (ls : List (Option Value)) (lc : Array Slot) : Prop := lv_has lc nL (prs g 0 ls)
theorem LR.at {g : GG} {nL : Nat} {ls : List (Option Value)} {lc : Array Slot} (h : LR g nL ls lc) {i : Nat} {v : Value} (hl : lat ls i = some v) : lc[i]? = some (.val (cv g v)) := by
  have := h.2.2 (i, cv g v) ((prs_mem ls 0 _).mpr ⟨i, v, hl, by rw [Nat.zero_add]⟩)
  exact this
theorem LR.weak {g : GG} {nL : Nat} {ls ls' : List (Option Value)} {lc : Array Slot} (h : LR g nL ls lc) (hw : ∀ i v, lat ls' i = some v → lat ls i = some v) : LR g nL ls' lc := by
  refine ⟨h.1, h.2.1, fun q hq => ?_⟩
  obtain ⟨j, v, h1, rfl⟩ := (prs_mem ls' 0 q).mp hq
  rw [Nat.zero_add]
  exact h.at (hw j v h1)
theorem LR.s1 {g : GG} {nL : Nat} {ls : List (Option Value)} {lc : Array Slot} {i : Nat} {v : Value} (h : lv_has lc nL ((i, cv g v) :: (prs g 0 ls).filter (fun q => !(q.1 == i) && !(q.1 + 1 == i && q.2.category == 2)))) : LR g nL (lset ls i v) lc := by
  refine ⟨h.1, h.2.1, fun q hq => h.2.2 q ?_⟩
  obtain ⟨j, w, h1, rfl⟩ := (prs_mem _ 0 q).mp hq
  rw [Nat.zero_add]
  rcases lat_lset ls i v j w h1 with ⟨e, f⟩ | ⟨e, f, k⟩
  · rw [e, f]; exact List.mem_cons_self
  · refine List.mem_cons_of_mem _ (List.mem_filter.mpr ⟨(prs_mem ls 0 _).mpr ⟨j, w, f, by rw [Nat.zero_add]⟩, ?_⟩)
    rw [cv_cat]
    simp only [Bool.and_eq_true, Bool.not_eq_true', beq_eq_false_iff_ne, ne_eq, Bool.and_eq_false_iff]
    refine ⟨e, ?_⟩
    by_cases hz : j + 1 = i
    · exact Or.inr fun z => k ⟨hz, z⟩
    · exact Or.inl hz
theorem LR.s2 {g : GG} {nL : Nat} {ls : List (Option Value)} {lc : Array Slot} {i : Nat} {v : Value} (h : lv_has lc nL ((i, cv g v) :: (prs g 0 ls).filter (fun q => !(q.1 == i) && (!(q.1 == i + 1) && !(q.1 + 1 == i && q.2.category == 2))))) : LR g nL (lse2 ls i v) lc := by
  refine ⟨h.1, h.2.1, fun q hq => h.2.2 q ?_⟩
  obtain ⟨j, w, h1, rfl⟩ := (prs_mem _ 0 q).mp hq
  rw [Nat.zero_add]
  rcases lat_lse2 ls i v j w h1 with ⟨e, f⟩ | ⟨e, e2, f, k⟩
  · rw [e, f]; exact List.mem_cons_self
  · refine List.mem_cons_of_mem _ (List.mem_filter.mpr ⟨(prs_mem ls 0 _).mpr ⟨j, w, f, by rw [Nat.zero_add]⟩, ?_⟩)
    rw [cv_cat]
    simp only [Bool.and_eq_true, Bool.not_eq_true', beq_eq_false_iff_ne, ne_eq, Bool.and_eq_false_iff]
    refine ⟨e, e2, ?_⟩
    by_cases hz : j + 1 = i
    · exact Or.inr fun z => k ⟨hz, z⟩
    · exact Or.inl hz
def entL : List Value → List (Option Value)
  | [] => []
  | v :: t => if v.category = 2 then some v :: none :: entL t else some v :: entL t
theorem entL_args {g : GG} : ∀ (as : List Value) (i j : Nat) (v : Value), lat (entL as) j = some v → (i + j, cv g v) ∈ lv_args i (as.map (cv g))
  | [], i, j, v, h => by simp [entL, lat] at h
  | a :: t, i, j, v, h => by
    show (i + j, cv g v) ∈ (i, cv g a) :: lv_args (if (cv g a).category = 2 then i + 2 else i + 1) (t.map (cv g))
    rw [cv_cat]
    by_cases ha : a.category = 2
    · rw [show entL (a :: t) = some a :: none :: entL t from if_pos ha] at h
      rw [if_pos ha]
      match j, h with
      | 0, h =>
        have : a = v := by simpa [lat] using h
        subst this
        exact List.mem_cons_self
      | 1, h => simp [lat] at h
      | j + 2, h =>
        have := entL_args (g := g) t (i + 2) j v h
        rw [show i + 2 + j = i + (j + 2) by omega] at this
        exact List.mem_cons_of_mem _ this
    · rw [show entL (a :: t) = some a :: entL t from if_neg ha] at h
      rw [if_neg ha]
      match j, h with
      | 0, h =>
        have : a = v := by simpa [lat] using h
        subst this
        exact List.mem_cons_self
      | j + 1, h =>
        have := entL_args (g := g) t (i + 1) j v h
        rw [show i + 1 + j = i + (j + 1) by omega] at this
        exact List.mem_cons_of_mem _ this
def csum (as : List Value) : Nat := (as.map fun v => v.category).sum
theorem lg_sl_len (g : GG) : ∀ as : List Value, (lg_sl (as.map (cv g))).length = csum as
  | [] => rfl
  | a :: t => by
    have h := lg_sl_len g t
    simp only [lg_sl, List.map_cons, List.flatMap_cons, List.length_append, csum, List.sum_cons] at h ⊢
    rw [h, cv_cat]
    rcases lv_cat a with e | e <;> simp [e]
theorem LR.ent {g : GG} {nL : Nat} (as : List Value) (h : csum as ≤ nL) : LR g nL (entL as) ((lg_sl (as.map (cv g)) ++ List.replicate (nL - (lg_sl (as.map (cv g))).length) Slot.unset).toArray) := by
  have hl := lv_entry (as.map (cv g)) (n := nL) (by rw [lg_sl_len]; exact h)
  refine ⟨hl.1, hl.2.1, fun q hq => hl.2.2 q ?_⟩
  obtain ⟨j, v, h1, rfl⟩ := (prs_mem _ 0 q).mp hq
  exact entL_args as 0 j v h1
