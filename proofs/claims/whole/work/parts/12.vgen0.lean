set_option maxRecDepth 100000 in
theorem wacn : Cond.native arraycopyName ∈ TB := tb4 220 rfl rfl
set_option maxRecDepth 100000 in
theorem wacs : Cond.static arraycopyName ∈ TB := tb4 219 rfl rfl
set_option maxRecDepth 100000 in
theorem wacI : Cond.initialized "java/lang/System" ∈ TB := tb1 23 rfl rfl
set_option maxRecDepth 100000 in
theorem mlX0_22 : Cond.methodLink RX0 22 arraycopyName ∈ TB := tb4 218 rfl rfl
set_option maxRecDepth 100000 in
theorem mlX10_134 : Cond.methodLink RX10 134 arraycopyName ∈ TB := tb5 169 rfl rfl
/-- more rounds than any loop takes; its value is of no use -/
noncomputable def FUEL : Nat := Classical.choose (⟨100000, Nat.le_refl _⟩ : ∃ n : Nat, 100000 ≤ n)
theorem FUEL_ge : 100000 ≤ FUEL := Classical.choose_spec (⟨100000, Nat.le_refl _⟩ : ∃ n : Nat, 100000 ≤ n)
def tbn {α β : Type} (x : α) (k : α → β) : β := k x
theorem tbd {α β : Type} {x : α} {k : α → β} {y : β} (h : tbn x k = y) : ∃ q, x = q ∧ k q = y := ⟨x, rfl, h⟩
/-- how deep the formula's reader is followed -/
noncomputable def RF : Nat := Classical.choose (⟨10, rfl⟩ : ∃ n : Nat, n = 10)
theorem RF_eq : RF = 10 := Classical.choose_spec (⟨10, rfl⟩ : ∃ n : Nat, n = 10)
/-- a value given a name, ahead of what may fail; it is not unfolded by itself -/
noncomputable def obn {α β : Type} (x : α) (k : α → Option β) : Option β := (Classical.choose (⟨(k x, x, k), rfl⟩ : ∃ y : Option β × α × (α → Option β), y = (k x, x, k))).1
theorem obn_eq {α β : Type} (x : α) (k : α → Option β) : obn x k = k x := by
  unfold obn
  rw [Classical.choose_spec (⟨(k x, x, k), rfl⟩ : ∃ y : Option β × α × (α → Option β), y = (k x, x, k))]
theorem obd {α β : Type} {x : α} {k : α → Option β} {y : β} (h : obn x k = some y) : ∃ q, x = q ∧ k q = some y := ⟨x, rfl, (obn_eq x k).symm.trans h⟩
theorem PoI_mk {n : Nat} {r : HR} {x : Int32} {I : HI} {L : HL} : PoI n r x I L (some (.int x)) n r I L := ⟨rfl, rfl, rfl, rfl, rfl⟩
theorem PoL_mk {n : Nat} {r : HR} {x : Int64} {I : HI} {L : HL} : PoL n r x I L (some (.long x)) n r I L := ⟨rfl, rfl, rfl, rfl, rfl⟩
theorem PoB_mk {n : Nat} {r : HR} {x : Bool} {I : HI} {L : HL} : PoB n r x I L (some (.int (b2i x))) n r I L := ⟨rfl, rfl, rfl, rfl, rfl⟩
theorem PoV_mk {n : Nat} {r : HR} {I : HI} {L : HL} : PoV n r I L none n r I L := ⟨rfl, rfl, rfl, rfl, rfl⟩
theorem nbt {b : Bool} (h : b = false) : ¬ b = true := by rw [h]; decide
theorem swn {x k : Int32} {z : Int} (h : ¬ x = k) (hk : k.toInt = z) : x.toInt ≠ z := fun e => h (Int32.toInt_inj.mp (e.trans hk.symm))
abbrev rT (r : HR) (t : Nat) : Prop := r t 1 = some (t + 1) ∧ r t 2 = some (t + 2) ∧ r t 3 = some (t + 3) ∧ r t 4 = some (t + 4) ∧ r t 5 = some (t + 5)
abbrev rF (r : HR) (f : Nat) : Prop := r f 0 = some (f + 1) ∧ r f 1 = some (f + 2)
abbrev rQ (r : HR) (q : Nat) : Prop := r q 6 = some (q + 1) ∧ r q 7 = some (q + 7) ∧ r q 8 = some (q + 13) ∧ r q 9 = some (q + 19) ∧ r q 11 = some (q + 22) ∧ rT r (q + 1) ∧ rT r (q + 7) ∧ rT r (q + 13) ∧ rF r (q + 19)
abbrev rN (r : HR) : Prop := r 52 0 = some 53
abbrev rA (r : HR) : Prop := r 54 0 = some 55
section RA
variable {r : HR} {q t f tw dr sk tl ff : Nat}
theorem rQ_6 (h : rQ r q) : r q 6 = some (q + 1) := h.1
theorem rQ_7 (h : rQ r q) : r q 7 = some (q + 7) := h.2.1
theorem rQ_8 (h : rQ r q) : r q 8 = some (q + 13) := h.2.2.1
theorem rQ_9 (h : rQ r q) : r q 9 = some (q + 19) := h.2.2.2.1
theorem rQ_11 (h : rQ r q) : r q 11 = some (q + 22) := h.2.2.2.2.1
theorem rQ_s6 (h : rQ r q) : rT r (q + 1) := h.2.2.2.2.2.1
theorem rQ_s7 (h : rQ r q) : rT r (q + 7) := h.2.2.2.2.2.2.1
theorem rQ_s8 (h : rQ r q) : rT r (q + 13) := h.2.2.2.2.2.2.2.1
theorem rQ_s9 (h : rQ r q) : rF r (q + 19) := h.2.2.2.2.2.2.2.2
theorem rT_1 (h : rT r t) : r t 1 = some (t + 1) := h.1
theorem rT_2 (h : rT r t) : r t 2 = some (t + 2) := h.2.1
theorem rT_3 (h : rT r t) : r t 3 = some (t + 3) := h.2.2.1
theorem rT_4 (h : rT r t) : r t 4 = some (t + 4) := h.2.2.2.1
theorem rT_5 (h : rT r t) : r t 5 = some (t + 5) := h.2.2.2.2
theorem rF_0 (h : rF r f) : r f 0 = some (f + 1) := h.1
theorem rF_1 (h : rF r f) : r f 1 = some (f + 2) := h.2
theorem rT_RT (h : isT t) : rT (RT tw dr sk tl ff) t := ⟨rtT_1 h, rtT_2 h, rtT_3 h, rtT_4 h, rtT_5 h⟩
theorem rF_RT (h : isF f) : rF (RT tw dr sk tl ff) f := ⟨rtF_0 h, rtF_1 h⟩
theorem rQ_RT (h : isQ q) : rQ (RT tw dr sk tl ff) q := ⟨rtQ_6 h, rtQ_7 h, rtQ_8 h, rtQ_9 h, rtQ_11 h, rT_RT (qT_6 h), rT_RT (qT_7 h), rT_RT (qT_8 h), rF_RT (qF_9 h)⟩
theorem rN_RT : rN (RT tw dr sk tl ff) := rfl
theorem rA_RT : rA (RT tw dr sk tl ff) := rfl
end RA
def cp2 (L : HL) (a sp b dp k : Nat) : HL := fun c => if c = b then va_cpy (L a) (L b) sp dp k else L c
def cpok (i j k : Int32) (M N : Nat) : Bool := !decide (i < 0) && !decide (j < 0) && !decide (k < 0) && decide (i.toNatClampNeg + k.toNatClampNeg ≤ M) && decide (j.toNatClampNeg + k.toNatClampNeg ≤ N)
theorem getD_set_ne {α : Type} (l : List α) (k : Nat) (x d : α) {a : Nat} (h : a ≠ k) : (l.set k x).getD a d = l.getD a d := by
  rw [List.getD_eq_getElem?_getD, List.getD_eq_getElem?_getD, List.getElem?_set_ne (Ne.symm h)]
section RS
variable {tw dr sk tl ff : Nat}
theorem rts_tw {x : Nat} : up2 (RT tw dr sk tl ff) 0 3 (some x) = RT x dr sk tl ff := by
  funext a
  by_cases h : a = 0
  · subst h
    rw [up2_row]
    funext j
    match j with
    | 0 => rfl
    | 1 => rfl
    | 2 => rfl
    | 3 => rfl
    | 4 => rfl
    | 5 => rfl
    | 6 => rfl
    | 7 => rfl
    | 8 => rfl
    | 9 => rfl
    | 10 => rfl
    | 11 => rfl
    | j + 12 => rfl
  · rw [up2_off _ _ _ h]
    funext j
    have e : rtab x dr sk tl ff = (rtab tw dr sk tl ff).set 0 [some 1, none, some 48, some x, some dr, some 52, some 54, some 56, none, some 57, some 61, some 66] := rfl
    show ((rtab tw dr sk tl ff).getD a []).getD j none = ((rtab x dr sk tl ff).getD a []).getD j none
    rw [e, getD_set_ne _ _ _ _ h]
theorem rts_dr {x : Nat} : up2 (RT tw dr sk tl ff) 0 4 (some x) = RT tw x sk tl ff := by
  funext a
  by_cases h : a = 0
  · subst h
    rw [up2_row]
    funext j
    match j with
    | 0 => rfl
    | 1 => rfl
    | 2 => rfl
    | 3 => rfl
    | 4 => rfl
    | 5 => rfl
    | 6 => rfl
    | 7 => rfl
    | 8 => rfl
    | 9 => rfl
    | 10 => rfl
    | 11 => rfl
    | j + 12 => rfl
  · rw [up2_off _ _ _ h]
    funext j
    have e : rtab tw x sk tl ff = (rtab tw dr sk tl ff).set 0 [some 1, none, some 48, some tw, some x, some 52, some 54, some 56, none, some 57, some 61, some 66] := rfl
    show ((rtab tw dr sk tl ff).getD a []).getD j none = ((rtab tw x sk tl ff).getD a []).getD j none
    rw [e, getD_set_ne _ _ _ _ h]
theorem rts_sk {x : Nat} : up2 (RT tw dr sk tl ff) 57 0 (some x) = RT tw dr x tl ff := by
  funext a
  by_cases h : a = 57
  · subst h
    rw [up2_row]
    funext j
    match j with
    | 0 => rfl
    | 1 => rfl
    | 2 => rfl
    | 3 => rfl
    | 4 => rfl
    | 5 => rfl
    | 6 => rfl
    | 7 => rfl
    | 8 => rfl
    | 9 => rfl
    | j + 10 => rfl
  · rw [up2_off _ _ _ h]
    funext j
    have e : rtab tw dr x tl ff = (rtab tw dr sk tl ff).set 57 [some x, none, none, none, none, none, none, some 58, some 59, some 60] := rfl
    show ((rtab tw dr sk tl ff).getD a []).getD j none = ((rtab tw dr x tl ff).getD a []).getD j none
    rw [e, getD_set_ne _ _ _ _ h]
theorem rts_tl {x : Nat} : up2 (RT tw dr sk tl ff) 48 2 (some x) = RT tw dr sk x ff := by
  funext a
  by_cases h : a = 48
  · subst h
    rw [up2_row]
    funext j
    match j with
    | 0 => rfl
    | 1 => rfl
    | 2 => rfl
    | j + 3 => rfl
  · rw [up2_off _ _ _ h]
    funext j
    have e : rtab tw dr sk x ff = (rtab tw dr sk tl ff).set 48 [some 49, some 51, some x] := rfl
    show ((rtab tw dr sk tl ff).getD a []).getD j none = ((rtab tw dr sk x ff).getD a []).getD j none
    rw [e, getD_set_ne _ _ _ _ h]
theorem rts_ff {x : Nat} : up2 (RT tw dr sk tl ff) 51 1 (some x) = RT tw dr sk tl x := by
  funext a
  by_cases h : a = 51
  · subst h
    rw [up2_row]
    funext j
    match j with
    | 0 => rfl
    | 1 => rfl
    | j + 2 => rfl
  · rw [up2_off _ _ _ h]
    funext j
    have e : rtab tw dr sk tl x = (rtab tw dr sk tl ff).set 51 [some 49, some x] := rfl
    show ((rtab tw dr sk tl ff).getD a []).getD j none = ((rtab tw dr sk tl x).getD a []).getD j none
    rw [e, getD_set_ne _ _ _ _ h]
end RS
section VZ
variable {g : GG} {md : MD} {d kc ks n : Nat} {r : HR} {I : HI} {L : HL} {pc : Nat} {ls : List (Option Value)} {st : List Value} {P : PP}
theorem V_lneg {x : Int64} {pc' : Nat} (hd : decode md.2.1 pc = .ok (.lneg, 1)) (hp : pc + 1 = pc') (h : V g md d kc ks n r I L pc' ls (.long (-x) :: st) P) : V g md d kc ks n r I L pc ls (.long x :: st) P := by
  subst hp
  intro p e s m args below meth c' H lc locs cells slots mc ms hF hR hS hl hc hs' hz
  exact lv_lneg hF.1 hF.2.1 hd (h p e s m args below meth c' H lc locs cells slots mc ms hF hR hS hl hc hs' hz)
theorem V_ldcS1 {pc' : Nat} (hd : decode md.2.1 pc = .ok (.ldc 73, 2)) (ho : md.1.cls = RX9) (hp : pc + 2 = pc') (h : V g md d kc ks n r I L pc' ls (.retAddr 1 :: st) P) : V g md d kc ks n r I L pc ls st P := by
  subst hp
  intro p e s m args below meth c' H lc locs cells slots mc ms hF hR hS hl hc hs' hz
  have hown := hF.2.2.2.1
  rw [ho] at hown
  exact va_ldcS hF.1 hF.2.1 hown hF.2.2.2.2.2.2.2.2.2.1.2.2.2.1 hd (h p e s m args below meth c' H lc locs cells slots mc ms hF hR hS hl hc hs' hz)
theorem V_putRE {idx c j a b pc' : Nat} {r' : HR} (hd : decode md.2.1 pc = .ok (.putfield idx, 3)) (hf : FL md.1.cls idx c j) (ht : (∃ t, ctys c j = .object t) ∨ ∃ t, ctys c j = .array t) (hfin : (cT c j).2.2.2 = false) (ha : a < n) (hs : (SH a).1 = c + 4) (he : up2 r a j (some b) = r') (hp : pc + 3 = pc') (h : V g md d kc ks n r' I L pc' ls st P) : V g md d kc ks n r I L pc ls (.ref b :: .ref a :: st) P := by
  subst he; exact V_putR hd hf ht (Or.inl hfin) ha hs hp h
theorem V_zretE {x : Int32} {b : Bool} (hd : decode md.2.1 pc = .ok (.ireturn, 1)) (hr : md.2.2.2 = some .boolean) (hx : x = b2i b) (hq : P (some (.int (b2i b))) n r I L) : V g md d 0 ks n r I L pc ls [.int x] P := by
  subst hx; exact V_zret hd hr hq
theorem V_putZE {idx c j a pc' : Nat} {x : Int32} {b : Bool} (hd : decode md.2.1 pc = .ok (.putfield idx, 3)) (hf : FL md.1.cls idx c j) (ht : ctys c j = .boolean) (hfin : (cT c j).2.2.2 = false) (ha : a < n) (hs : (SH a).1 = c + 4) (hx : x = b2i b) (hp : pc + 3 = pc') (h : V g md d kc ks n r (up2 I a j (b2i b)) L pc' ls st P) : V g md d kc ks n r I L pc ls (.int x :: .ref a :: st) P := by
  subst hx; exact V_putZ hd hf ht hfin ha hs hp h
theorem V_zastE {a N pc' : Nat} {i x : Int32} {b : Bool} (hd : decode md.2.1 pc = .ok (.bastore, 1)) (ha : a < n) (hs : SH a = (3, N)) (hi : inb i N = true) (hx : x = b2i b) (hp : pc + 1 = pc') (h : V g md d kc ks n r (up2 I a i.toNatClampNeg (b2i b)) L pc' ls st P) : V g md d kc ks n r I L pc ls (.int x :: .int i :: .ref a :: st) P := by
  subst hx; exact V_zast hd ha hs hi hp h
theorem V_copyL {idx a b M N pc' : Nat} {i j k : Int32} (hd : decode md.2.1 pc = .ok (.invokestatic idx, 3)) (hl0 : Cond.methodLink md.1.cls idx arraycopyName ∈ TB) (ha : a < n) (hb : b < n) (hsa : SH a = (1, M)) (hsb : SH b = (1, N)) (hk : cpok i j k M N = true) (hm : csum st ≤ 8) (hp : pc + 3 = pc') (h : V g md (d + 1) kc ks n r I (cp2 L a i.toNatClampNeg b j.toNatClampNeg k.toNatClampNeg) pc' ls st P) : V g md (d + 1) kc ks n r I L pc ls (.int k :: .int j :: .ref b :: .int i :: .ref a :: st) P := by
  subst hp
  intro p e s m args below meth c' H lc locs cells slots mc ms hF hR hS hl hc hs' hz
  have he := wsF_at (g := g) (f := ce g r I L) ha
  rw [ce_l hsa] at he
  have hf := wsF_at (g := g) (f := ce g r I L) hb
  rw [ce_l hsb] at hf
  simp only [cpok, Bool.and_eq_true, Bool.not_eq_true', decide_eq_false_iff_not, decide_eq_true_eq] at hk
  obtain ⟨⟨⟨⟨h1, h2⟩, h3⟩, h4⟩, h5⟩ := hk
  have hts := hF.2.2.2.2.1
  refine va_copyl hF.1 hF.2.1 (hF.2.2.1.trans hl.1.symm) hF.2.2.2.1 (hts _ hl0) (hts _ wacn) (hts _ wacs) (hts _ wacI) hF.2.2.2.2.2.2.2.2.1 hR.2 (wsF_D g _ n) hS a b 1 1 he hf rfl rfl rfl h1 h2 h3 h4 h5 (fun _ _ => rfl) (by show 1 ≤ d + 1; omega) ?_ hd (fun H1 locs1 q1 q2 q3 => ?_)
  · rw [csum_cv]
    show csum st + (nativeFrameWords "java/lang/System" "arraycopy" 5 + 11) ≤ 40 * (d + 1)
    have : nativeFrameWords "java/lang/System" "arraycopy" 5 + 11 ≤ 32 := by decide
    omega
  · rw [wsF_set (f' := ce g r I (cp2 L a i.toNatClampNeg b j.toNatClampNeg k.toNatClampNeg)) (by rw [ce_l hsb, cp2, if_pos rfl]) (fun z hz => (ce_congr (g := g) (r := r) (r' := r) rfl rfl (if_neg hz)))] at q1
    exact h p e s m args below meth c' H1 lc locs1 cells slots mc ms hF ⟨Rep_ge q1 hb, q1⟩ q3 hl hc hs' hz
end VZ
