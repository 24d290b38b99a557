def FL (own : String) (idx c j : Nat) : Prop := c < 13 ∧ j < cn c ∧ Cond.fieldLink own idx (cT c j).1 (cT c j).2.1 (cT c j).2.2.1 ∈ TB
theorem uws_in {c : Nat} (hc : c < 13) : ∀ w ∈ u_ws (cR c) (cT c) (cn c), w ∈ TB := by
  intro w hw
  have h := List.all_eq_true.mp (uws_in0 c hc) w hw
  simp only [Bool.and_eq_true, decide_eq_true_eq] at h
  exact List.mem_filter.mpr h
theorem ce_obj {g : GG} {r : HR} {I : HI} {L : HL} {a c : Nat} (hs : (SH a).1 = c + 4) : ce g r I L a = .inr (c, fsOf g r I L c a) := by
  unfold ce ceOf; rw [hs]
theorem ce_i {g : GG} {r : HR} {I : HI} {L : HL} {a N : Nat} (hs : SH a = (0, N)) : ce g r I L a = .inl (gc g 0, (N, .inl (I a))) := by
  unfold ce ceOf; rw [hs]
theorem ce_l {g : GG} {r : HR} {I : HI} {L : HL} {a N : Nat} (hs : SH a = (1, N)) : ce g r I L a = .inl (gc g 1, (N, .inr (.inl (L a)))) := by
  unfold ce ceOf; rw [hs]
theorem ce_b {g : GG} {r : HR} {I : HI} {L : HL} {a N : Nat} (hs : SH a = (2, N)) : ce g r I L a = .inl (gc g 2, (N, .inl (I a))) := by
  unfold ce ceOf; rw [hs]
theorem ce_z {g : GG} {r : HR} {I : HI} {L : HL} {a N : Nat} (hs : SH a = (3, N)) : ce g r I L a = .inl (gc g 3, (N, .inl (I a))) := by
  unfold ce ceOf; rw [hs]
theorem ce_congr {g : GG} {r r' : HR} {I I' : HI} {L L' : HL} {b : Nat} (h1 : r b = r' b) (h2 : I b = I' b) (h3 : L b = L' b) : ce g r I L b = ce g r' I' L' b := by
  have hf : ∀ c, fsOf g r I L c b = fsOf g r' I' L' c b := fun c => by
    unfold fsOf
    congr 1
    funext j
    unfold fv
    rw [h1, h2, h3]
  unfold ce ceOf
  simp only [h2, h3, hf]
theorem fs_at {g : GG} {r : HR} {I : HI} {L : HL} {c a j : Nat} (h : j < cn c) : (fsOf g r I L c a)[j]? = some (fv g r I L c a j) := by
  simp [fsOf, h]
theorem fs_set {g : GG} {r r' : HR} {I I' : HI} {L L' : HL} {c a j : Nat} {v : Value} (h1 : fv g r' I' L' c a j = v) (h2 : ∀ i, i ≠ j → fv g r' I' L' c a i = fv g r I L c a i) : (fsOf g r I L c a).set j v = fsOf g r' I' L' c a := by
  apply List.ext_getElem?
  intro i
  by_cases hi : i < cn c
  · rw [fs_at hi]
    by_cases hij : j = i
    · subst hij
      rw [List.getElem?_set_self (by simpa [fsOf] using hi), h1]
    · rw [List.getElem?_set_ne hij, fs_at hi, h2 i (Ne.symm hij)]
  · rw [List.getElem?_eq_none (by simp [fsOf]; omega), List.getElem?_eq_none (by simp [fsOf]; omega)]
def inb (i : Int32) (n : Nat) : Bool := !decide (i < 0) && decide (i.toNatClampNeg < n)
theorem inb_iff {i : Int32} {n : Nat} : inb i n = true ↔ vp_in i n := by
  unfold inb vp_in
  simp only [Bool.and_eq_true, Bool.not_eq_true', decide_eq_false_iff_not, decide_eq_true_eq, not_or, Nat.not_le]
section VH
variable {g : GG} {md : MD} {d kc ks n : Nat} {r : HR} {I : HI} {L : HL} {pc : Nat} {ls : List (Option Value)} {st : List Value} {P : PP}
theorem V_getX {idx c j a pc' : Nat} {v : Value} (hd : decode md.2.1 pc = .ok (.getfield idx, 3)) (hf : FL md.1.cls idx c j) (ha : a < n) (hs : (SH a).1 = c + 4) (hv : fv g r I L c a j = cv g v) (hp : pc + 3 = pc') (h : V g md d kc ks n r I L pc' ls (v :: st) P) : V g md d kc ks n r I L pc ls (.ref a :: st) P := by
  subst hp
  intro p e s m args below meth c' H lc locs cells slots mc ms hF hR hS hl hc hs' hz
  have he := wsF_at (g := g) (f := ce g r I L) ha
  rw [ce_obj hs] at he
  exact va_get hF.1 hF.2.1 hF.2.2.2.2.1 (uws_in hf.1) hF.2.2.2.1 hF.2.2.2.2.2.2.2.2.1 hR.2 a he (vwCl_at c hf.1) j hf.2.1 (hF.2.2.2.2.1 _ hf.2.2) (fun _ h => h) ((fs_at hf.2.1).trans (by rw [hv])) hd (h p e s m args below meth c' H lc locs cells slots mc ms hF hR hS hl hc hs' hz)
theorem V_getI {idx c j a pc' : Nat} (hd : decode md.2.1 pc = .ok (.getfield idx, 3)) (hf : FL md.1.cls idx c j) (ht : fkind (ctys c j) = 0) (ha : a < n) (hs : (SH a).1 = c + 4) (hp : pc + 3 = pc') (h : V g md d kc ks n r I L pc' ls (.int (I a j) :: st) P) : V g md d kc ks n r I L pc ls (.ref a :: st) P :=
  V_getX hd hf ha hs (by unfold fv; rw [ht]; rfl) hp h
theorem V_getL {idx c j a pc' : Nat} (hd : decode md.2.1 pc = .ok (.getfield idx, 3)) (hf : FL md.1.cls idx c j) (ht : fkind (ctys c j) = 1) (ha : a < n) (hs : (SH a).1 = c + 4) (hp : pc + 3 = pc') (h : V g md d kc ks n r I L pc' ls (.long (L a j) :: st) P) : V g md d kc ks n r I L pc ls (.ref a :: st) P :=
  V_getX hd hf ha hs (by unfold fv; rw [ht]; rfl) hp h
theorem V_getR {idx c j a b pc' : Nat} (hd : decode md.2.1 pc = .ok (.getfield idx, 3)) (hf : FL md.1.cls idx c j) (ht : fkind (ctys c j) = 2) (ha : a < n) (hs : (SH a).1 = c + 4) (hb : r a j = some b) (hp : pc + 3 = pc') (h : V g md d kc ks n r I L pc' ls (.ref b :: st) P) : V g md d kc ks n r I L pc ls (.ref a :: st) P :=
  V_getX hd hf ha hs (by unfold fv; rw [ht, hb]; rfl) hp h
theorem V_putX {idx c j a pc' : Nat} {v : Value} {r' : HR} {I' : HI} {L' : HL} (hd : decode md.2.1 pc = .ok (.putfield idx, 3)) (hf : FL md.1.cls idx c j) (hfin : (cT c j).2.2.2 = false ∨ ((cT c j).2.2.2 = true ∧ md.1.name = "<init>" ∧ (cT c j).1 = md.1.cls)) (ha : a < n) (hs : (SH a).1 = c + 4) (hn : narrow (ctys c j) (cv g v) = cv g v) (hfit : fits (ctys c j) (cv g v) = true) (h1 : fv g r' I' L' c a j = cv g v) (h2 : ∀ i, i ≠ j → fv g r' I' L' c a i = fv g r I L c a i) (h3 : ∀ b, b ≠ a → r' b = r b ∧ I' b = I b ∧ L' b = L b) (hp : pc + 3 = pc') (h : V g md d kc ks n r' I' L' pc' ls st P) : V g md d kc ks n r I L pc ls (v :: .ref a :: st) P := by
  subst hp
  intro p e s m args below meth c' H lc locs cells slots mc ms hF hR hS hl hc hs' hz
  have he := wsF_at (g := g) (f := ce g r I L) ha
  rw [ce_obj hs] at he
  have hw : (wsF g (ce g r I L) n).set a (gb g + a, .inr (c, (fsOf g r I L c a).set j (cv g v))) = wsF g (ce g r' I' L') n := wsF_set (by rw [ce_obj hs, fs_set h1 h2]) (fun b hb => ce_congr (h3 b hb).1 (h3 b hb).2.1 (h3 b hb).2.2)
  have hlen : j < (fsOf g r I L c a).length := by simpa [fsOf] using hf.2.1
  rcases hfin with hfin | ⟨hfin, hnm, hdc⟩
  · refine va_put hF.1 hF.2.1 hF.2.2.2.2.1 (uws_in hf.1) (ctys c) (cty_ok c hf.1) (cnm_ok c hf.1) hF.2.2.2.1 hF.2.2.2.2.2.2.2.2.1 hR.2 (wsF_D g _ n) hS a he (vwCl_at c hf.1) j hf.2.1 (hF.2.2.2.2.1 _ hf.2.2) (fun _ h => h) hfin (cty_ok c hf.1 j hf.2.1) hn hfit hlen hd (fun H1 locs1 q1 q2 q3 => ?_)
    rw [hw] at q1
    exact h p e s m args below meth c' H1 lc locs1 cells slots mc ms hF ⟨Rep_ge q1 ha, q1⟩ q3 hl hc hs' hz
  · refine va_putF hF.1 hF.2.1 hF.2.2.2.2.1 (uws_in hf.1) (ctys c) (cty_ok c hf.1) (cnm_ok c hf.1) hF.2.2.2.1 hF.2.2.2.2.2.2.2.2.1 hR.2 (wsF_D g _ n) hS a he (vwCl_at c hf.1) j hf.2.1 (hF.2.2.2.2.1 _ hf.2.2) (fun _ h => h) hfin (hF.2.2.2.2.2.2.2.1.trans hnm) hdc (cty_ok c hf.1 j hf.2.1) hn hfit hlen hd (fun H1 locs1 q1 q2 q3 => ?_)
    rw [hw] at q1
    exact h p e s m args below meth c' H1 lc locs1 cells slots mc ms hF ⟨Rep_ge q1 ha, q1⟩ q3 hl hc hs' hz
theorem V_putI {idx c j a pc' : Nat} {x : Int32} (hd : decode md.2.1 pc = .ok (.putfield idx, 3)) (hf : FL md.1.cls idx c j) (ht : ctys c j = .int) (hfin : (cT c j).2.2.2 = false) (ha : a < n) (hs : (SH a).1 = c + 4) (hp : pc + 3 = pc') (h : V g md d kc ks n r (up2 I a j x) L pc' ls st P) : V g md d kc ks n r I L pc ls (.int x :: .ref a :: st) P :=
  V_putX (r' := r) (I' := up2 I a j x) (L' := L) hd hf (Or.inl hfin) ha hs (by rw [ht]; rfl) (by rw [ht]; rfl) (by unfold fv; rw [ht, up2_row]; exact congrArg Value.int (if_pos rfl)) (fun i hi => by unfold fv; rw [up2_row]; simp only [if_neg hi]) (fun b hb => ⟨rfl, up2_off I j x hb, rfl⟩) hp h
theorem V_putZ {idx c j a pc' : Nat} {x : Bool} (hd : decode md.2.1 pc = .ok (.putfield idx, 3)) (hf : FL md.1.cls idx c j) (ht : ctys c j = .boolean) (hfin : (cT c j).2.2.2 = false) (ha : a < n) (hs : (SH a).1 = c + 4) (hp : pc + 3 = pc') (h : V g md d kc ks n r (up2 I a j (b2i x)) L pc' ls st P) : V g md d kc ks n r I L pc ls (.int (b2i x) :: .ref a :: st) P :=
  V_putX (r' := r) (I' := up2 I a j (b2i x)) (L' := L) hd hf (Or.inl hfin) ha hs (by rw [ht]; cases x <;> rfl) (by rw [ht]; cases x <;> rfl) (by unfold fv; rw [ht, up2_row]; exact congrArg Value.int (if_pos rfl)) (fun i hi => by unfold fv; rw [up2_row]; simp only [if_neg hi]) (fun b hb => ⟨rfl, up2_off I j (b2i x) hb, rfl⟩) hp h
theorem V_putL {idx c j a pc' : Nat} {x : Int64} (hd : decode md.2.1 pc = .ok (.putfield idx, 3)) (hf : FL md.1.cls idx c j) (ht : ctys c j = .long) (hfin : (cT c j).2.2.2 = false) (ha : a < n) (hs : (SH a).1 = c + 4) (hp : pc + 3 = pc') (h : V g md d kc ks n r I (up2 L a j x) pc' ls st P) : V g md d kc ks n r I L pc ls (.long x :: .ref a :: st) P :=
  V_putX (r' := r) (I' := I) (L' := up2 L a j x) hd hf (Or.inl hfin) ha hs (by rw [ht]; rfl) (by rw [ht]; rfl) (by unfold fv; rw [ht, up2_row]; exact congrArg Value.long (if_pos rfl)) (fun i hi => by unfold fv; rw [up2_row]; simp only [if_neg hi]) (fun b hb => ⟨rfl, rfl, up2_off L j x hb⟩) hp h
theorem V_putR {idx c j a b pc' : Nat} (hd : decode md.2.1 pc = .ok (.putfield idx, 3)) (hf : FL md.1.cls idx c j) (ht : (∃ t, ctys c j = .object t) ∨ ∃ t, ctys c j = .array t) (hfin : (cT c j).2.2.2 = false ∨ ((cT c j).2.2.2 = true ∧ md.1.name = "<init>" ∧ (cT c j).1 = md.1.cls)) (ha : a < n) (hs : (SH a).1 = c + 4) (hp : pc + 3 = pc') (h : V g md d kc ks n (up2 r a j (some b)) I L pc' ls st P) : V g md d kc ks n r I L pc ls (.ref b :: .ref a :: st) P :=
  V_putX (r' := up2 r a j (some b)) (I' := I) (L' := L) hd hf hfin ha hs (by rcases ht with ⟨t, ht⟩ | ⟨t, ht⟩ <;> rw [ht] <;> rfl) (by rcases ht with ⟨t, ht⟩ | ⟨t, ht⟩ <;> rw [ht] <;> rfl) (by unfold fv; rw [up2_row]; rcases ht with ⟨t, ht⟩ | ⟨t, ht⟩ <;> rw [ht] <;> simp only [fkind, if_true] <;> rfl) (fun i hi => by unfold fv; rw [up2_row]; simp only [if_neg hi]) (fun q hq => ⟨up2_off r j (some b) hq, rfl, rfl⟩) hp h
theorem V_iald {a N pc' : Nat} {i : Int32} (hd : decode md.2.1 pc = .ok (.iaload, 1)) (ha : a < n) (hs : SH a = (0, N)) (hi : inb i N = true) (hp : pc + 1 = pc') (h : V g md d kc ks n r I L pc' ls (.int (I a i.toNatClampNeg) :: st) P) : V g md d kc ks n r I L pc ls (.int i :: .ref a :: st) P := by
  subst hp
  intro p e s m args below meth c' H lc locs cells slots mc ms hF hR hS hl hc hs' hz
  have he := wsF_at (g := g) (f := ce g r I L) ha
  rw [ce_i hs] at he
  exact va_iald hF.1 hF.2.1 hF.2.2.2.2.2.2.2.2.1 hR.2 a 0 he rfl (inb_iff.mp hi) hd (h p e s m args below meth c' H lc locs cells slots mc ms hF hR hS hl hc hs' hz)
theorem V_bald {a N pc' : Nat} {i : Int32} (hd : decode md.2.1 pc = .ok (.baload, 1)) (ha : a < n) (hs : SH a = (2, N)) (hi : inb i N = true) (hp : pc + 1 = pc') (h : V g md d kc ks n r I L pc' ls (.int (I a i.toNatClampNeg) :: st) P) : V g md d kc ks n r I L pc ls (.int i :: .ref a :: st) P := by
  subst hp
  intro p e s m args below meth c' H lc locs cells slots mc ms hF hR hS hl hc hs' hz
  have he := wsF_at (g := g) (f := ce g r I L) ha
  rw [ce_b hs] at he
  exact va_bald hF.1 hF.2.1 hF.2.2.2.2.2.2.2.2.1 hR.2 a 2 he rfl (inb_iff.mp hi) hd (h p e s m args below meth c' H lc locs cells slots mc ms hF hR hS hl hc hs' hz)
theorem V_zald {a N pc' : Nat} {i : Int32} (hd : decode md.2.1 pc = .ok (.baload, 1)) (ha : a < n) (hs : SH a = (3, N)) (hi : inb i N = true) (hp : pc + 1 = pc') (h : V g md d kc ks n r I L pc' ls (.int (I a i.toNatClampNeg) :: st) P) : V g md d kc ks n r I L pc ls (.int i :: .ref a :: st) P := by
  subst hp
  intro p e s m args below meth c' H lc locs cells slots mc ms hF hR hS hl hc hs' hz
  have he := wsF_at (g := g) (f := ce g r I L) ha
  rw [ce_z hs] at he
  exact va_zald hF.1 hF.2.1 hF.2.2.2.2.2.2.2.2.1 hR.2 a 3 he rfl (inb_iff.mp hi) hd (h p e s m args below meth c' H lc locs cells slots mc ms hF hR hS hl hc hs' hz)
theorem V_lald {a N pc' : Nat} {i : Int32} (hd : decode md.2.1 pc = .ok (.laload, 1)) (ha : a < n) (hs : SH a = (1, N)) (hi : inb i N = true) (hp : pc + 1 = pc') (h : V g md d kc ks n r I L pc' ls (.long (L a i.toNatClampNeg) :: st) P) : V g md d kc ks n r I L pc ls (.int i :: .ref a :: st) P := by
  subst hp
  intro p e s m args below meth c' H lc locs cells slots mc ms hF hR hS hl hc hs' hz
  have he := wsF_at (g := g) (f := ce g r I L) ha
  rw [ce_l hs] at he
  exact va_lald hF.1 hF.2.1 hF.2.2.2.2.2.2.2.2.1 hR.2 a 1 he rfl (inb_iff.mp hi) hd (h p e s m args below meth c' H lc locs cells slots mc ms hF hR hS hl hc hs' hz)
theorem V_iast {a N pc' : Nat} {i : Int32} {x : Int32} (hd : decode md.2.1 pc = .ok (.iastore, 1)) (ha : a < n) (hs : SH a = (0, N)) (hi : inb i N = true) (hp : pc + 1 = pc') (h : V g md d kc ks n r (up2 I a i.toNatClampNeg (x)) L pc' ls st P) : V g md d kc ks n r I L pc ls (.int x :: .int i :: .ref a :: st) P := by
  subst hp
  intro p e s m args below meth c' H lc locs cells slots mc ms hF hR hS hl hc hs' hz
  have he := wsF_at (g := g) (f := ce g r I L) ha
  rw [ce_i hs] at he
  refine va_iast hF.1 hF.2.1 hF.2.2.2.2.2.2.2.2.1 hR.2 (wsF_D g _ n) hS a 0 he rfl (inb_iff.mp hi) hd (fun H1 locs1 q1 q2 q3 => ?_)
  rw [wsF_set (f' := ce g r (up2 I a i.toNatClampNeg (x)) L) (by rw [ce_i hs, up2_row]; rfl) (fun b hb => (ce_congr (g := g) (r := r) (r' := r) (by rfl) (by first | rfl | exact up2_off _ _ _ hb) (by first | rfl | exact up2_off _ _ _ hb)))] at q1
  exact h p e s m args below meth c' H1 lc locs1 cells slots mc ms hF ⟨Rep_ge q1 ha, q1⟩ q3 hl hc hs' hz
theorem V_bast {a N pc' : Nat} {i : Int32} {x : Int32} (hd : decode md.2.1 pc = .ok (.bastore, 1)) (ha : a < n) (hs : SH a = (2, N)) (hi : inb i N = true) (hp : pc + 1 = pc') (h : V g md d kc ks n r (up2 I a i.toNatClampNeg (x.toInt8.toInt32)) L pc' ls st P) : V g md d kc ks n r I L pc ls (.int x :: .int i :: .ref a :: st) P := by
  subst hp
  intro p e s m args below meth c' H lc locs cells slots mc ms hF hR hS hl hc hs' hz
  have he := wsF_at (g := g) (f := ce g r I L) ha
  rw [ce_b hs] at he
  refine va_bast hF.1 hF.2.1 hF.2.2.2.2.2.2.2.2.1 hR.2 (wsF_D g _ n) hS a 2 he rfl (inb_iff.mp hi) hd (fun H1 locs1 q1 q2 q3 => ?_)
  rw [wsF_set (f' := ce g r (up2 I a i.toNatClampNeg (x.toInt8.toInt32)) L) (by rw [ce_b hs, up2_row]; rfl) (fun b hb => (ce_congr (g := g) (r := r) (r' := r) (by rfl) (by first | rfl | exact up2_off _ _ _ hb) (by first | rfl | exact up2_off _ _ _ hb)))] at q1
  exact h p e s m args below meth c' H1 lc locs1 cells slots mc ms hF ⟨Rep_ge q1 ha, q1⟩ q3 hl hc hs' hz
theorem V_last {a N pc' : Nat} {i : Int32} {x : Int64} (hd : decode md.2.1 pc = .ok (.lastore, 1)) (ha : a < n) (hs : SH a = (1, N)) (hi : inb i N = true) (hp : pc + 1 = pc') (h : V g md d kc ks n r I (up2 L a i.toNatClampNeg x) pc' ls st P) : V g md d kc ks n r I L pc ls (.long x :: .int i :: .ref a :: st) P := by
  subst hp
  intro p e s m args below meth c' H lc locs cells slots mc ms hF hR hS hl hc hs' hz
  have he := wsF_at (g := g) (f := ce g r I L) ha
  rw [ce_l hs] at he
  refine va_last hF.1 hF.2.1 hF.2.2.2.2.2.2.2.2.1 hR.2 (wsF_D g _ n) hS a 1 he rfl (inb_iff.mp hi) hd (fun H1 locs1 q1 q2 q3 => ?_)
  rw [wsF_set (f' := ce g r I (up2 L a i.toNatClampNeg x)) (by rw [ce_l hs, up2_row]; rfl) (fun b hb => (ce_congr (g := g) (r := r) (r' := r) (by rfl) (by first | rfl | exact up2_off _ _ _ hb) (by first | rfl | exact up2_off _ _ _ hb)))] at q1
  exact h p e s m args below meth c' H1 lc locs1 cells slots mc ms hF ⟨Rep_ge q1 ha, q1⟩ q3 hl hc hs' hz
theorem V_alen {a k N pc' : Nat} (hd : decode md.2.1 pc = .ok (.arraylength, 1)) (ha : a < n) (hs : SH a = (k, N)) (hk : k < 4) (hp : pc + 1 = pc') (h : V g md d kc ks n r I L pc' ls (.int (Int32.ofNat N) :: st) P) : V g md d kc ks n r I L pc ls (.ref a :: st) P := by
  subst hp
  intro p e s m args below meth c' H lc locs cells slots mc ms hF hR hS hl hc hs' hz
  have he := wsF_at (g := g) (f := ce g r I L) ha
  match k, hk, hs with
  | 0, _, hs => rw [ce_i hs] at he; exact va_alen hF.1 hF.2.1 hF.2.2.2.2.2.2.2.2.1 hR.2 a 0 he (ty := .int) rfl rfl hd (h p e s m args below meth c' H lc locs cells slots mc ms hF hR hS hl hc hs' hz)
  | 1, _, hs => rw [ce_l hs] at he; exact va_alen hF.1 hF.2.1 hF.2.2.2.2.2.2.2.2.1 hR.2 a 1 he (ty := .long) rfl rfl hd (h p e s m args below meth c' H lc locs cells slots mc ms hF hR hS hl hc hs' hz)
  | 2, _, hs => rw [ce_b hs] at he; exact va_alen hF.1 hF.2.1 hF.2.2.2.2.2.2.2.2.1 hR.2 a 2 he (ty := .byte) rfl rfl hd (h p e s m args below meth c' H lc locs cells slots mc ms hF hR hS hl hc hs' hz)
  | 3, _, hs => rw [ce_z hs] at he; exact va_alen hF.1 hF.2.1 hF.2.2.2.2.2.2.2.2.1 hR.2 a 3 he (ty := .boolean) rfl rfl hd (h p e s m args below meth c' H lc locs cells slots mc ms hF hR hS hl hc hs' hz)
end VH
