/-! a line, on both sides: frames, what holds between lines, people -/
def wkM (a : Nat) : Prop := a = 73 ∨ a = 76 ∨ a = 77 ∨ a = 80 ∨ (83 ≤ a ∧ a ≤ 90)
def kp73 (j : Nat) : Prop := j ≤ 1 ∨ j = 5 ∨ j = 18 ∨ j = 21 ∨ (52 ≤ j ∧ j ≤ 58) ∨ 63 ≤ j
def FMr (J J' : HI) (M M' : HL) : Prop := (∀ a, ¬ wkM a → J' a = J a) ∧ (∀ j, kp73 j → J' 73 j = J 73 j) ∧ (∀ a, a ≠ 73 → a ≠ 75 → M' a = M a) ∧ ∀ j, j ≠ 9 → ¬ (41 ≤ j ∧ j ≤ 43) → M' 73 j = M 73 j
def FXr (tl : Nat) (I I' : HI) (L L' : HL) : Prop := (∀ a, a ≠ 48 → a ≠ 49 → ¬ (tl ≤ a ∧ a ≤ tl + 22) → I' a = I a) ∧ I' 49 2 = I 49 2 ∧ ∀ a, a ≠ 49 → ¬ (tl ≤ a ∧ a ≤ tl + 22) → L' a = L a
def Rel (B : Nat → Nat) (n tl : Nat) (T : Nat → Nat → Nat) (N : Nat → Nat → List Nat) (sh cl : Bool) (p : Nat) (I : HI) (L : HL) (J : HI) (M : HL) : Prop := RT2 B n p I L J M ∧ isQ2 tl ∧ TOk T ∧ NmOk T N ∧ DX T N tl I L ∧ DM T N J M ∧ I 48 6 = b2i sh ∧ I 48 7 = b2i cl ∧ J 73 61 = b2i sh ∧ J 73 62 = b2i cl ∧ (sh = false → tNS T = 0 ∧ T 0 6 = 0) ∧ fb_ct (isW T) 64 ≤ 24
def LnOut (B : Nat → Nat) (n tl : Nat) (sh cl : Bool) (p : Nat) (I : HI) (L : HL) (J : HI) (M : HL) (rx : Option (Bool × HI × HL)) (rm : Option (HI × HL)) : Prop := (∃ T' N' q I2 L2 J2 M2, p < q ∧ rx = Option.bind (fX6_take (59 : Int32) I2 L2) (fun q => some (q.1, q.2.1, q.2.2)) ∧ rm = some (J2, M2) ∧ Rel B n tl T' N' sh cl q I2 L2 J2 M2 ∧ FXr tl I I2 L L2 ∧ FMr J J2 M M2) ∨ (∃ I2 L2 J2 M2, rx = some (false, I2, L2) ∧ rm = some (J2, M2) ∧ FXr tl I I2 L L2 ∧ FMr J J2 M M2 ∧ Bd2 I2 J2)
section LN1
variable {B : Nat → Nat} {n p tl : Nat} {T T' : Nat → Nat → Nat} {N : Nat → Nat → List Nat} {sh cl : Bool} {I I' I2 : HI} {L L' L2 : HL} {J J' J2 J0 : HI} {M M' M2 M0 : HL}
theorem FXr.trans (h : FXr tl I I' L L') (g : FXr tl I' I2 L' L2) : FXr tl I I2 L L2 := ⟨fun a h1 h2 h3 => by rw [g.1 a h1 h2 h3, h.1 a h1 h2 h3], by rw [g.2.1, h.2.1], fun a h1 h2 => by rw [g.2.2 a h1 h2, h.2.2 a h1 h2]⟩
theorem FMr.trans (h : FMr J J' M M') (g : FMr J' J2 M' M2) : FMr J J2 M M2 := ⟨fun a h1 => by rw [g.1 a h1, h.1 a h1], fun j hj => by rw [g.2.1 j hj, h.2.1 j hj], fun a h1 h2 => by rw [g.2.2.1 a h1 h2, h.2.2.1 a h1 h2], fun j h1 h2 => by rw [g.2.2.2 j h1 h2, h.2.2.2 j h1 h2]⟩
theorem FXr.refl : FXr tl I I L L := ⟨fun _ _ _ _ => rfl, rfl, fun _ _ _ => rfl⟩
theorem FMr.refl : FMr J J M M := ⟨fun _ _ => rfl, fun _ _ => rfl, fun _ _ _ => rfl, fun _ _ _ => rfl⟩
theorem FXr.of (h : XA2 I I' L L') : FXr tl I I' L L' := ⟨fun a h1 h2 _ => h.1 a h1 h2, h.2.2.1, fun a h1 _ => h.2.2.2 a h1⟩
theorem FMr.of (h : XB2 J J' M M') : FMr J J' M M' := ⟨fun a h1 => h.1 a (fun e => h1 (Or.inl e)), fun j hj => h.2.1 j (by unfold kp73 at hj; omega), fun a h1 _ => h.2.2.1 a h1, fun j h1 _ => h.2.2.2 j h1⟩
theorem FMr.row {a i : Nat} {v : Int32} (h1 : wkM a) (h2 : a ≠ 73) : FMr J (up2 J a i v) M M := ⟨fun b hb => upRow _ _ (fun e => hb (e ▸ h1)), fun j _ => by rw [upRow _ _ (fun e => h2 e.symm)], fun _ _ _ => rfl, fun _ _ _ => rfl⟩
theorem FMr.fld {j : Nat} {v : Int32} (h1 : ¬ kp73 j) : FMr J (up2 J 73 j v) M M := ⟨fun b hb => upRow _ _ (fun e => hb (Or.inl e)), fun i hi => by rw [up2_at, if_neg (show ¬ (73 = 73 ∧ i = j) from fun e => h1 (e.2 ▸ hi))], fun _ _ _ => rfl, fun _ _ _ => rfl⟩
theorem FMr.fldL {j : Nat} {v : Int64} (h1 : 41 ≤ j ∧ j ≤ 43) : FMr J J M (up2 M 73 j v) := ⟨fun _ _ => rfl, fun _ _ => rfl, fun a h2 _ => upRow _ _ h2, fun i h2 h3 => by rw [up2_at, if_neg (by omega)]⟩
theorem isBd.up {a i : Nat} {v : Int32} (h : isBd J) (ha : a ≠ 73) : isBd (up2 J a i v) := by
  unfold isBd at *
  rw [upRow _ _ (fun e => ha e.symm)]
  exact h
theorem Bd2.up {a i : Nat} {v : Int32} (h : Bd2 I J) (ha : a ≠ 73) : Bd2 I (up2 J a i v) := by
  unfold Bd2 at *
  rw [upRow _ _ (fun e => ha e.symm)]
  exact h
theorem RT2.step (h : RT2 B n p I L J M) (hk : kd B n p ≠ 23) : ∃ I1 L1 J1 M1, fX9_advance I L = some (I1, L1) ∧ fX12_token J M = some (J1, M1) ∧ RT2 B n (nx B n p) I1 L1 J1 M1 ∧ LxA I I1 L L1 ∧ LxB J J1 M M1 := by
  obtain ⟨h1, h2, h3, h4, h5, h6, h7, h8, h9⟩ := id h
  obtain ⟨I', L', a1, a2, a3⟩ := x_adv' h2 h1 h3 hk
  obtain ⟨J', M', b1, b2, b3⟩ := m_tok' h6 h1 h7 hk
  exact ⟨I', L', J', M', a1, b1, h.on (nx_le h1).2 a2 (XA2.of a3) b2 (XB2.of b3) (by rw [a3.1 48 (by decide)]) (by rw [a3.1 48 (by decide)]) (b3.2.1 2 (by decide) (by decide) (by decide) (by decide)) (b3.2.1 3 (by decide) (by decide) (by decide) (by decide)), a3, b3⟩
theorem evD_cg (h10 : ∀ k, T' 10 k = T 10 k) : ∀ k, evD T' k = evD T k
  | 0 => rfl
  | k + 1 => by rw [evD, evD, h10, evD_cg h10 k]
theorem FOk.cg (h : FOk T) (h0 : T' 0 7 = T 0 7) (h10 : ∀ k, T' 10 k = T 10 k) (h11 : ∀ k, T' 11 k = T 11 k) : FOk T' := by
  unfold FOk tNS at *
  rw [h0, evD_cg h10]
  refine ⟨h.1, fun k hk => ?_, h.2.2⟩
  have := h.2.1 k hk
  unfold StOk at *
  rw [h10, h11, evD_cg h10]
  exact this
theorem datd_cg (h0 : T' 0 7 = T 0 7) (h10 : ∀ k, T' 10 k = T 10 k) (h11 : ∀ k, T' 11 k = T 11 k) : datd T' = datd T := by
  unfold datd tNS
  rw [h0]
  simp only [h10, h11]
theorem XForm.cg {u : Nat} (h : XForm T u I) (h0 : T' 0 7 = T 0 7) (h10 : ∀ k, T' 10 k = T 10 k) (h11 : ∀ k, T' 11 k = T 11 k) : XForm T' u I := by
  unfold XForm tNS cdOf at *
  rw [h0]
  simp only [h10, h11]
  exact h
def addI (tt m : Nat) (c h a b : Int32) (I : HI) : HI := up2 (up2 (up2 (up2 (up2 I (tt + 2) m c) (tt + 3) m h) (tt + 4) m a) (tt + 5) m b) tt 0 (nI (m + 1))
theorem x_addT {tt m : Nat} {c h a b : Int32} {v : Int64} (hm : I tt 0 = nI m) (hc : m < capT tt) (h8 : capT tt ≤ 8) : fX8_add tt v c h a b I L = some (addI tt m c h a b I, up2 L (tt + 1) m v) := by
  unfold fX8_add fX8_isFull addI
  have e : ∀ (F : HI) (k i : Nat) (w : Int32), k ≠ tt → F tt 0 = nI m → up2 F k i w tt 0 = nI m := fun F k i w h1 h2 => by rw [upRow _ _ (fun e => h1 e.symm)]; exact h2
  have e1 := e I (tt + 2) m c (by omega) hm
  have e2 := e _ (tt + 3) m h (by omega) e1
  have e3 := e _ (tt + 4) m a (by omega) e2
  have e4 := e _ (tt + 5) m b (by omega) e3
  rw [hm, if_pos (show nI m < Int32.ofNat (capT tt) from nI_lt hc (by omega)), if_pos (by decide), if_pos (inb_nI hc (by omega)), if_pos (inb_nI hc (by omega))]
  simp only [clamp_nI (show m < 2 ^ 31 by omega), e1, e2, e3, e4, inb_nI hc (show capT tt < 2 ^ 31 by omega), if_true, nI_1]
theorem FXr.ad {tt m : Nat} {c h a b : Int32} {v : Int64} (h1 : tl ≤ tt) (h2 : tt + 5 ≤ tl + 22) (h3 : isQ2 tl) : FXr tl I (addI tt m c h a b I) L (up2 L (tt + 1) m v) := by
  refine ⟨fun x g1 g2 g3 => ?_, ?_, fun x g1 g2 => ?_⟩
  · unfold addI
    rw [upRow _ _ (by omega), upRow _ _ (by omega), upRow _ _ (by omega), upRow _ _ (by omega), upRow _ _ (by omega)]
  · unfold addI
    rcases h3 with e | e <;> rw [upRow _ _ (by omega), upRow _ _ (by omega), upRow _ _ (by omega), upRow _ _ (by omega), upRow _ _ (by omega)]
  · rw [upRow _ _ (by omega)]
theorem addI_48 {tt m : Nat} {c h a b : Int32} (h1 : tt + 5 < 48) {x : Nat} (hx : 48 ≤ x) : addI tt m c h a b I x = I x := by
  unfold addI
  rw [upRow _ _ (by omega), upRow _ _ (by omega), upRow _ _ (by omega), upRow _ _ (by omega), upRow _ _ (by omega)]
end LN1
