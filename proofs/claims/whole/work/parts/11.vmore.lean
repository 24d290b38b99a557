def lle : List (Option Value) → List (Option Value) → Prop
  | [], _ => True
  | none :: t, [] => lle t []
  | none :: t, _ :: u => lle t u
  | some v :: t, a :: u => a = some v ∧ lle t u
  | some _ :: _, [] => False
theorem lle_lat : ∀ (l m : List (Option Value)), lle l m → ∀ i v, lat l i = some v → lat m i = some v
  | [], _, _, i, v, h => by simp [lat] at h
  | none :: t, [], k, i, v, h => by
    cases i with
    | zero => simp [lat] at h
    | succ i => exact absurd (lle_lat t [] k i v h) (by simp [lat])
  | none :: t, a :: u, k, i, v, h => by
    cases i with
    | zero => simp [lat] at h
    | succ i => exact lle_lat t u k i v h
  | some w :: t, a :: u, k, i, v, h => by
    cases i with
    | zero => exact k.1.trans h
    | succ i => exact lle_lat t u k.2 i v h
  | some w :: t, [], k, i, v, h => k.elim
theorem bnd {α β : Type} {x : Option α} {k : α → Option β} {y : β} (h : x.bind k = some y) : ∃ q, x = some q ∧ k q = some y := Option.bind_eq_some_iff.mp h
theorem pif {α : Type} {c : Prop} [Decidable c] {x : Option α} {y : α} (h : (if c then x else none) = some y) : c ∧ x = some y := by
  by_cases hc : c
  · rw [if_pos hc] at h; exact ⟨hc, h⟩
  · rw [if_neg hc] at h; cases h
theorem nif {α : Type} {c : Prop} [Decidable c] {x : Option α} {y : α} (h : (if c then none else x) = some y) : ¬ c ∧ x = some y := by
  by_cases hc : c
  · rw [if_pos hc] at h; cases h
  · rw [if_neg hc] at h; exact ⟨hc, h⟩
/-- a number that is 0 or 1, as truth -/
def i2b (x : Int32) : Option Bool := if x = 0 then some false else if x = 1 then some true else none
theorem i2b_eq {x : Int32} {b : Bool} (h : i2b x = some b) : x = b2i b := by
  unfold i2b at h
  by_cases h0 : x = 0
  · rw [if_pos h0] at h; cases h; exact h0
  · rw [if_neg h0] at h
    by_cases h1 : x = 1
    · rw [if_pos h1] at h; cases h; exact h1
    · rw [if_neg h1] at h; cases h
def PoI (n : Nat) (r : HR) (x : Int32) (I' : HI) (L' : HL) : PP := fun v n2 r2 I2 L2 => v = some (.int x) ∧ n2 = n ∧ r2 = r ∧ I2 = I' ∧ L2 = L'
def PoL (n : Nat) (r : HR) (x : Int64) (I' : HI) (L' : HL) : PP := fun v n2 r2 I2 L2 => v = some (.long x) ∧ n2 = n ∧ r2 = r ∧ I2 = I' ∧ L2 = L'
def PoB (n : Nat) (r : HR) (x : Bool) (I' : HI) (L' : HL) : PP := fun v n2 r2 I2 L2 => v = some (.int (b2i x)) ∧ n2 = n ∧ r2 = r ∧ I2 = I' ∧ L2 = L'
def PoV (n : Nat) (r : HR) (I' : HI) (L' : HL) : PP := fun v n2 r2 I2 L2 => v = none ∧ n2 = n ∧ r2 = r ∧ I2 = I' ∧ L2 = L'
section VM
variable {g : GG} {md : MD} {d kc ks n : Nat} {r : HR} {I : HI} {L : HL} {pc : Nat} {ls : List (Option Value)} {st : List Value} {P : PP}
theorem V_wk {ls' : List (Option Value)} (k : V g md d kc ks n r I L pc ls' st P) (hw : lle ls' ls) : V g md d kc ks n r I L pc ls st P := V.weak (lle_lat _ _ hw) k
theorem V_zast {a N pc' : Nat} {i : Int32} {x : Bool} (hd : decode md.2.1 pc = .ok (.bastore, 1)) (ha : a < n) (hs : SH a = (3, N)) (hi : inb i N = true) (hp : pc + 1 = pc') (h : V g md d kc ks n r (up2 I a i.toNatClampNeg (b2i x)) L pc' ls st P) : V g md d kc ks n r I L pc ls (.int (b2i x) :: .int i :: .ref a :: st) P := by
  subst hp
  intro p e s m args below meth c' H lc locs cells slots mc ms hF hR hS hl hc hs' hz
  have he := wsF_at (g := g) (f := ce g r I L) ha
  rw [ce_z hs] at he
  refine va_zast hF.1 hF.2.1 hF.2.2.2.2.2.2.2.2.1 hR.2 (wsF_D g _ n) hS a 3 he rfl (inb_iff.mp hi) hd (fun H1 locs1 q1 q2 q3 => ?_)
  have hx : vp_nar .boolean (b2i x) = b2i x := by cases x <;> rfl
  rw [hx] at q1
  rw [wsF_set (f' := ce g r (up2 I a i.toNatClampNeg (b2i x)) L) (by rw [ce_z hs, up2_row]; rfl) (fun b hb => (ce_congr (g := g) (r := r) (r' := r) (by rfl) (by first | rfl | exact up2_off _ _ _ hb) (by first | rfl | exact up2_off _ _ _ hb)))] at q1
  exact h p e s m args below meth c' H1 lc locs1 cells slots mc ms hF ⟨Rep_ge q1 ha, q1⟩ q3 hl hc hs' hz
theorem V_cVi {idx na c a pc' n' : Nat} {r' : HR} {I' : HI} {L' : HL} {x : Int32} {md' : MD} {as rest : List Value} (hd : decode md.2.1 pc = .ok (.invokevirtual idx, 3)) (hl0 : Cond.methodLink md.1.cls idx md'.1 ∈ TB) (hM : MFV md' na c) (hC : CT g md' d 0 0 n r I L (.ref a :: as) (PoI n' r' x I' L')) (hn : as.length = na) (ha : a < n) (hs : (SH a).1 = c + 4) (hst : as.reverse ++ .ref a :: rest = st) (hm : csum rest ≤ 8) (hp : pc + 3 = pc') (h : V g md (d + 1) kc ks n' r' I' L' pc' ls (.int x :: rest) P) : V g md (d + 1) kc ks n r I L pc ls st P :=
  V_callV hd hl0 hM hC hn ha hs hst hm (Nat.add_zero kc) (Nat.le_refl (ks + 0)) hp (fun v n2 r2 I2 L2 hq => by obtain ⟨rfl, rfl, rfl, rfl, rfl⟩ := hq; exact h)
theorem V_cSi {idx na pc' n' : Nat} {r' : HR} {I' : HI} {L' : HL} {x : Int32} {md' : MD} {as rest : List Value} (hd : decode md.2.1 pc = .ok (.invokestatic idx, 3)) (hl0 : Cond.methodLink md.1.cls idx md'.1 ∈ TB) (hM : MFS md' na) (hC : CT g md' d 0 0 n r I L as (PoI n' r' x I' L')) (hn : as.length = na) (hst : as.reverse ++ rest = st) (hm : csum rest ≤ 8) (hp : pc + 3 = pc') (h : V g md (d + 1) kc ks n' r' I' L' pc' ls (.int x :: rest) P) : V g md (d + 1) kc ks n r I L pc ls st P :=
  V_callS hd hl0 hM hC hn hst hm (Nat.add_zero kc) (Nat.le_refl (ks + 0)) hp (fun v n2 r2 I2 L2 hq => by obtain ⟨rfl, rfl, rfl, rfl, rfl⟩ := hq; exact h)
theorem V_cNi {k idx na pc' n' : Nat} {r' : HR} {I' : HI} {L' : HL} {x : Int32} {md' : MD} {as rest : List Value} (hd : decode md.2.1 pc = .ok (.invokestatic idx, 3)) (hl0 : nestL[k]? = some (md.1.cls, idx, md'.1, RX11)) (hM : MFS md' na) (hC : CT g md' d 0 0 n r I L as (PoI n' r' x I' L')) (hn : as.length = na) (hst : as.reverse ++ rest = st) (hm : csum rest ≤ 8) (hp : pc + 3 = pc') (h : V g md (d + 1) kc ks n' r' I' L' pc' ls (.int x :: rest) P) : V g md (d + 1) kc ks n r I L pc ls st P :=
  V_callSN hd hl0 hM hC hn hst hm (Nat.add_zero kc) (Nat.le_refl (ks + 0)) hp (fun v n2 r2 I2 L2 hq => by obtain ⟨rfl, rfl, rfl, rfl, rfl⟩ := hq; exact h)
theorem V_cVl {idx na c a pc' n' : Nat} {r' : HR} {I' : HI} {L' : HL} {x : Int64} {md' : MD} {as rest : List Value} (hd : decode md.2.1 pc = .ok (.invokevirtual idx, 3)) (hl0 : Cond.methodLink md.1.cls idx md'.1 ∈ TB) (hM : MFV md' na c) (hC : CT g md' d 0 0 n r I L (.ref a :: as) (PoL n' r' x I' L')) (hn : as.length = na) (ha : a < n) (hs : (SH a).1 = c + 4) (hst : as.reverse ++ .ref a :: rest = st) (hm : csum rest ≤ 8) (hp : pc + 3 = pc') (h : V g md (d + 1) kc ks n' r' I' L' pc' ls (.long x :: rest) P) : V g md (d + 1) kc ks n r I L pc ls st P :=
  V_callV hd hl0 hM hC hn ha hs hst hm (Nat.add_zero kc) (Nat.le_refl (ks + 0)) hp (fun v n2 r2 I2 L2 hq => by obtain ⟨rfl, rfl, rfl, rfl, rfl⟩ := hq; exact h)
theorem V_cSl {idx na pc' n' : Nat} {r' : HR} {I' : HI} {L' : HL} {x : Int64} {md' : MD} {as rest : List Value} (hd : decode md.2.1 pc = .ok (.invokestatic idx, 3)) (hl0 : Cond.methodLink md.1.cls idx md'.1 ∈ TB) (hM : MFS md' na) (hC : CT g md' d 0 0 n r I L as (PoL n' r' x I' L')) (hn : as.length = na) (hst : as.reverse ++ rest = st) (hm : csum rest ≤ 8) (hp : pc + 3 = pc') (h : V g md (d + 1) kc ks n' r' I' L' pc' ls (.long x :: rest) P) : V g md (d + 1) kc ks n r I L pc ls st P :=
  V_callS hd hl0 hM hC hn hst hm (Nat.add_zero kc) (Nat.le_refl (ks + 0)) hp (fun v n2 r2 I2 L2 hq => by obtain ⟨rfl, rfl, rfl, rfl, rfl⟩ := hq; exact h)
theorem V_cNl {k idx na pc' n' : Nat} {r' : HR} {I' : HI} {L' : HL} {x : Int64} {md' : MD} {as rest : List Value} (hd : decode md.2.1 pc = .ok (.invokestatic idx, 3)) (hl0 : nestL[k]? = some (md.1.cls, idx, md'.1, RX11)) (hM : MFS md' na) (hC : CT g md' d 0 0 n r I L as (PoL n' r' x I' L')) (hn : as.length = na) (hst : as.reverse ++ rest = st) (hm : csum rest ≤ 8) (hp : pc + 3 = pc') (h : V g md (d + 1) kc ks n' r' I' L' pc' ls (.long x :: rest) P) : V g md (d + 1) kc ks n r I L pc ls st P :=
  V_callSN hd hl0 hM hC hn hst hm (Nat.add_zero kc) (Nat.le_refl (ks + 0)) hp (fun v n2 r2 I2 L2 hq => by obtain ⟨rfl, rfl, rfl, rfl, rfl⟩ := hq; exact h)
theorem V_cVz {idx na c a pc' n' : Nat} {r' : HR} {I' : HI} {L' : HL} {x : Bool} {md' : MD} {as rest : List Value} (hd : decode md.2.1 pc = .ok (.invokevirtual idx, 3)) (hl0 : Cond.methodLink md.1.cls idx md'.1 ∈ TB) (hM : MFV md' na c) (hC : CT g md' d 0 0 n r I L (.ref a :: as) (PoB n' r' x I' L')) (hn : as.length = na) (ha : a < n) (hs : (SH a).1 = c + 4) (hst : as.reverse ++ .ref a :: rest = st) (hm : csum rest ≤ 8) (hp : pc + 3 = pc') (h : V g md (d + 1) kc ks n' r' I' L' pc' ls (.int (b2i x) :: rest) P) : V g md (d + 1) kc ks n r I L pc ls st P :=
  V_callV hd hl0 hM hC hn ha hs hst hm (Nat.add_zero kc) (Nat.le_refl (ks + 0)) hp (fun v n2 r2 I2 L2 hq => by obtain ⟨rfl, rfl, rfl, rfl, rfl⟩ := hq; exact h)
theorem V_cSz {idx na pc' n' : Nat} {r' : HR} {I' : HI} {L' : HL} {x : Bool} {md' : MD} {as rest : List Value} (hd : decode md.2.1 pc = .ok (.invokestatic idx, 3)) (hl0 : Cond.methodLink md.1.cls idx md'.1 ∈ TB) (hM : MFS md' na) (hC : CT g md' d 0 0 n r I L as (PoB n' r' x I' L')) (hn : as.length = na) (hst : as.reverse ++ rest = st) (hm : csum rest ≤ 8) (hp : pc + 3 = pc') (h : V g md (d + 1) kc ks n' r' I' L' pc' ls (.int (b2i x) :: rest) P) : V g md (d + 1) kc ks n r I L pc ls st P :=
  V_callS hd hl0 hM hC hn hst hm (Nat.add_zero kc) (Nat.le_refl (ks + 0)) hp (fun v n2 r2 I2 L2 hq => by obtain ⟨rfl, rfl, rfl, rfl, rfl⟩ := hq; exact h)
theorem V_cNz {k idx na pc' n' : Nat} {r' : HR} {I' : HI} {L' : HL} {x : Bool} {md' : MD} {as rest : List Value} (hd : decode md.2.1 pc = .ok (.invokestatic idx, 3)) (hl0 : nestL[k]? = some (md.1.cls, idx, md'.1, RX11)) (hM : MFS md' na) (hC : CT g md' d 0 0 n r I L as (PoB n' r' x I' L')) (hn : as.length = na) (hst : as.reverse ++ rest = st) (hm : csum rest ≤ 8) (hp : pc + 3 = pc') (h : V g md (d + 1) kc ks n' r' I' L' pc' ls (.int (b2i x) :: rest) P) : V g md (d + 1) kc ks n r I L pc ls st P :=
  V_callSN hd hl0 hM hC hn hst hm (Nat.add_zero kc) (Nat.le_refl (ks + 0)) hp (fun v n2 r2 I2 L2 hq => by obtain ⟨rfl, rfl, rfl, rfl, rfl⟩ := hq; exact h)
theorem V_cVv {idx na c a pc' n' : Nat} {r' : HR} {I' : HI} {L' : HL}  {md' : MD} {as rest : List Value} (hd : decode md.2.1 pc = .ok (.invokevirtual idx, 3)) (hl0 : Cond.methodLink md.1.cls idx md'.1 ∈ TB) (hM : MFV md' na c) (hC : CT g md' d 0 0 n r I L (.ref a :: as) (PoV n' r'  I' L')) (hn : as.length = na) (ha : a < n) (hs : (SH a).1 = c + 4) (hst : as.reverse ++ .ref a :: rest = st) (hm : csum rest ≤ 8) (hp : pc + 3 = pc') (h : V g md (d + 1) kc ks n' r' I' L' pc' ls (rest) P) : V g md (d + 1) kc ks n r I L pc ls st P :=
  V_callV hd hl0 hM hC hn ha hs hst hm (Nat.add_zero kc) (Nat.le_refl (ks + 0)) hp (fun v n2 r2 I2 L2 hq => by obtain ⟨rfl, rfl, rfl, rfl, rfl⟩ := hq; exact h)
theorem V_cSv {idx na pc' n' : Nat} {r' : HR} {I' : HI} {L' : HL}  {md' : MD} {as rest : List Value} (hd : decode md.2.1 pc = .ok (.invokestatic idx, 3)) (hl0 : Cond.methodLink md.1.cls idx md'.1 ∈ TB) (hM : MFS md' na) (hC : CT g md' d 0 0 n r I L as (PoV n' r'  I' L')) (hn : as.length = na) (hst : as.reverse ++ rest = st) (hm : csum rest ≤ 8) (hp : pc + 3 = pc') (h : V g md (d + 1) kc ks n' r' I' L' pc' ls (rest) P) : V g md (d + 1) kc ks n r I L pc ls st P :=
  V_callS hd hl0 hM hC hn hst hm (Nat.add_zero kc) (Nat.le_refl (ks + 0)) hp (fun v n2 r2 I2 L2 hq => by obtain ⟨rfl, rfl, rfl, rfl, rfl⟩ := hq; exact h)
theorem V_cNv {k idx na pc' n' : Nat} {r' : HR} {I' : HI} {L' : HL}  {md' : MD} {as rest : List Value} (hd : decode md.2.1 pc = .ok (.invokestatic idx, 3)) (hl0 : nestL[k]? = some (md.1.cls, idx, md'.1, RX11)) (hM : MFS md' na) (hC : CT g md' d 0 0 n r I L as (PoV n' r'  I' L')) (hn : as.length = na) (hst : as.reverse ++ rest = st) (hm : csum rest ≤ 8) (hp : pc + 3 = pc') (h : V g md (d + 1) kc ks n' r' I' L' pc' ls (rest) P) : V g md (d + 1) kc ks n r I L pc ls st P :=
  V_callSN hd hl0 hM hC hn hst hm (Nat.add_zero kc) (Nat.le_refl (ks + 0)) hp (fun v n2 r2 I2 L2 hq => by obtain ⟨rfl, rfl, rfl, rfl, rfl⟩ := hq; exact h)
end VM
