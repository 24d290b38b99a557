/-! the formula: the class's code, and what both sides share -/
def cd1 (x : Nat × Nat) : Int32 := if x.1 = 0 then nI x.2 else if x.1 = 1 then iI (-116 - (x.2 : Int)) else if x.1 = 2 then iI (-115) else iI (-100 - (kdOf x.2 : Int))
def CodeX (C : List (Nat × Nat)) (ff : Nat) (I : HI) : Prop := I ff 2 = nI C.length ∧ ∀ k, k < C.length → I (ff + 1) k = cd1 (C.getD k (0, 0))
def dat (C : List (Nat × Nat)) : Bool := C.any fun x => decide (x.1 = 1) && decide (x.2 = 2)
def FX2 (C : List (Nat × Nat)) (u ff : Nat) (I : HI) : Prop := CodeX C ff I ∧ I ff 3 = nI u ∧ I ff 4 = b2i (dat C)
def stepD (e : Nat) (x : Nat × Nat) : Nat := if x.1 = 0 ∨ x.1 = 1 then e + 1 else if x.1 = 2 then e else e - 1
def evL (C : List (Nat × Nat)) : Nat := C.foldl stepD 0
def stOk (e : Nat) (x : Nat × Nat) : Prop := (x.1 = 0 ∧ x.2 ≤ 9999 ∧ e < 30) ∨ (x.1 = 1 ∧ x.2 ≤ 2 ∧ e < 30) ∨ (x.1 = 2 ∧ 1 ≤ e ∧ e ≤ 30) ∨ (x.1 = 3 ∧ okOp x.2 ∧ 2 ≤ e ∧ e ≤ 30)
def okL (C : List (Nat × Nat)) : Prop := ∀ k, k < C.length → stOk (evL (C.take k)) (C.getD k (0, 0))
theorem evL_snoc (C : List (Nat × Nat)) (x : Nat × Nat) : evL (C ++ [x]) = stepD (evL C) x := by unfold evL; rw [List.foldl_append]; rfl
theorem okL_snoc {C : List (Nat × Nat)} {x : Nat × Nat} (h : okL C) (hx : stOk (evL C) x) : okL (C ++ [x]) := by
  intro k hk
  rw [getD_snoc]
  simp at hk
  by_cases e : k = C.length
  · rw [if_pos e, e, List.take_left' rfl]; exact hx
  · rw [if_neg e, List.take_append_of_le_length (by omega)]; exact h k (by omega)
theorem dat_snoc (C : List (Nat × Nat)) (x : Nat × Nat) : dat (C ++ [x]) = (dat C || (decide (x.1 = 1) && decide (x.2 = 2))) := by unfold dat; simp
def XS2 (B : Nat → Nat) (n p : Nat) (I : HI) (L : HL) : Prop := p ≤ n ∧ LxS B n I L ∧ XT B n p I L ∧ I 48 8 = 0 ∧ I 48 9 = -1
def isFF (ff : Nat) : Prop := ff = 21 ∨ ff = 44
def FXf (ff : Nat) (I I' : HI) (L L' : HL) : Prop := (∀ a, a ≠ 49 → a ≠ ff → a ≠ ff + 1 → I' a = I a) ∧ I' 49 2 = I 49 2 ∧ ∀ a, a ≠ 49 → L' a = L a
section FM5
variable {B : Nat → Nat} {n p ff : Nat} {I I' I2 : HI} {L L' L2 : HL} {C : List (Nat × Nat)} {u : Nat}
theorem FXf.refl : FXf ff I I L L := ⟨fun _ _ _ _ => rfl, rfl, fun _ _ => rfl⟩
theorem FXf.trans (h : FXf ff I I' L L') (g : FXf ff I' I2 L' L2) : FXf ff I I2 L L2 := ⟨fun a h1 h2 h3 => by rw [g.1 a h1 h2 h3, h.1 a h1 h2 h3], by rw [g.2.1, h.2.1], fun a h1 => by rw [g.2.2 a h1, h.2.2 a h1]⟩
theorem FXf.of (h : LxA I I' L L') : FXf ff I I' L L' := ⟨fun a h1 _ _ => h.1 a h1, h.2.1, h.2.2⟩
theorem XS2.adv (h : XS2 B n p I L) (hk : kd B n p ≠ 23) : ∃ I' L', fX9_advance I L = some (I', L') ∧ XS2 B n (nx B n p) I' L' ∧ LxA I I' L L' := by
  obtain ⟨a1, a2, a3, a4, a5⟩ := h
  obtain ⟨I', L', b1, b2, b3⟩ := x_adv' a2 a1 a3 hk
  exact ⟨I', L', b1, ⟨(nx_le a1).2, a2.fa b3, b2, by rw [b3.1 48 (by decide)]; exact a4, by rw [b3.1 48 (by decide)]; exact a5⟩, b3⟩
theorem XS2.fr (h : XS2 B n p I L) (h1 : ∀ a, a = 1 ∨ a = 48 ∨ a = 49 → I' a = I a) : XS2 B n p I' L := by
  obtain ⟨a1, a2, a3, a4, a5⟩ := h
  refine ⟨a1, a2.fr (h1 1 (by omega)) (by rw [h1 49 (by omega)]) rfl, ?_, by rw [h1 48 (by omega)]; exact a4, by rw [h1 48 (by omega)]; exact a5⟩
  unfold XT at *
  rw [h1 49 (by omega)]
  exact a3
theorem FX2.fr (h : FX2 C u ff I) (h1 : I' ff = I ff) (h2 : I' (ff + 1) = I (ff + 1)) : FX2 C u ff I' := by
  unfold FX2 CodeX at *
  rw [h1, h2]
  exact h
theorem FX2.fa (h : FX2 C u ff I) (hf : isFF ff) (f : LxA I I' L L') : FX2 C u ff I' := h.fr (f.1 ff (by rcases hf with e | e <;> omega)) (f.1 (ff + 1) (by rcases hf with e | e <;> omega))
def ptI (ff m : Nat) (v : Int32) (I : HI) : HI := up2 (up2 I (ff + 1) m v) ff 2 (nI (m + 1))
theorem x_putF {m : Nat} {v : Int32} (h : I ff 2 = nI m) (hm : m < 270) : fX1_put ff v I = some (ptI ff m v I) := by
  unfold fX1_put ptI
  have e : up2 I (ff + 1) m v ff 2 = nI m := by rw [upRow _ _ (by omega)]; exact h
  rw [h, show Int32.ofNat 270 = nI 270 from rfl, if_neg (nI_ge hm (by decide)), if_pos (inb_nI hm (by decide))]
  simp only [clamp_nI (show m < 2 ^ 31 by omega), e, nI_1]
theorem ptI_o {m a : Nat} {v : Int32} (h1 : a ≠ ff) (h2 : a ≠ ff + 1) : ptI ff m v I a = I a := by unfold ptI; rw [upRow _ _ h1, upRow _ _ h2]
theorem ptI_ff {m j : Nat} {v : Int32} (h : j ≠ 2) : ptI ff m v I ff j = I ff j := by unfold ptI; rw [up2_at, if_neg (by omega), upRow _ _ (by omega)]
theorem ptI_C {v : Int32} {x : Nat × Nat} (h : CodeX C ff I) (hv : v = cd1 x) : CodeX (C ++ [x]) ff (ptI ff C.length v I) := by
  refine ⟨by unfold ptI; rw [up2_eq]; simp, fun k hk => ?_⟩
  rw [getD_snoc]
  simp at hk
  unfold ptI
  rw [upRow _ _ (by omega), up2_at]
  by_cases e : k = C.length
  · rw [if_pos ⟨rfl, e⟩, if_pos e, hv]
  · rw [if_neg (fun g => e g.2), if_neg e]; exact h.2 k (by omega)
theorem x_deed_any {m k : Nat} (hm : m ≤ 270) (h : I ff 2 = nI m) (v : Int32) : ∃ I', fX1_addDeed ff v I = some I' ∧ (∃ m', m' ≤ 270 ∧ I' ff 2 = nI m') ∧ ∀ a, a ≠ ff → a ≠ ff + 1 → I' a = I a := by
  unfold fX1_addDeed
  by_cases c : m < 270
  · rw [x_putF h c, Option.bind_some]
    exact ⟨_, rfl, ⟨m + 1, by omega, by unfold ptI; rw [up2_eq]⟩, fun a h1 h2 => ptI_o h1 h2⟩
  · have : fX1_put ff ((-100 : Int32) - v) I = some I := by
      unfold fX1_put
      rw [h, show Int32.ofNat 270 = nI 270 from rfl, if_pos (nI_le (by omega) (by omega))]
    rw [this, Option.bind_some]
    exact ⟨_, rfl, ⟨m, hm, h⟩, fun _ _ _ => rfl⟩
theorem deed_v {k : Nat} (hk : k < 256) : (-100 : Int32) - nI k = iI (-100 - (k : Int)) := by
  rw [show (-100 : Int32) = iI (-100) from rfl, ← iI_n, iI_sub]
theorem x_deed {k s : Nat} (h : FX2 C u ff I) (hC : C.length < 270) (hk : k < 256) (hs : (s = 21 ∧ k = 15) ∨ (s ≠ 21 ∧ kdOf s = k)) : ∃ I', fX1_addDeed ff (nI k) I = some I' ∧ FX2 (C ++ [st1 s]) u ff I' ∧ ∀ a, a ≠ ff → a ≠ ff + 1 → I' a = I a := by
  unfold fX1_addDeed
  rw [x_putF h.1.1 hC, Option.bind_some]
  refine ⟨_, rfl, ⟨ptI_C h.1 ?_, ?_, ?_⟩, fun a h1 h2 => ptI_o h1 h2⟩
  · rw [deed_v hk]
    unfold cd1 st1
    rcases hs with ⟨e1, e2⟩ | ⟨e1, e2⟩
    · rw [if_pos e1, e2]; rfl
    · rw [if_neg e1]; simp only [Nat.reduceEqDiff, if_false]; rw [e2]
  · rw [ptI_ff (by decide)]; exact h.2.1
  · rw [ptI_ff (by decide), h.2.2, dat_snoc]
    have : (decide ((st1 s).1 = 1) && decide ((st1 s).2 = 2)) = false := by
      unfold st1
      split <;> simp
    rw [this, Bool.or_false]
theorem i2b_or (b : Bool) : i2b (b2i b ||| (1 : Int32)) = some true ∧ i2b (b2i b ||| (0 : Int32)) = some b := by cases b <;> decide
theorem kdOf_sg {k : Nat} (h : sgOf k ≠ 0) : kdOf (sgOf k) = k ∧ sgOf k ≠ 21 ∧ sgOf k ≠ 20 := by
  unfold sgOf at *
  unfold kdOf
  split
  · rename_i c; simp [c]
  · rename_i c; rw [if_neg c] at h
    split
    · rename_i c; simp [c]
    · rename_i c; rw [if_neg c] at h
      split
      · rename_i c
        rw [if_neg (by omega), if_neg (by omega)]
        omega
      · rename_i c; rw [if_neg c] at h; exact absurd rfl h
/-- a number, or height, hour, date -/
theorem x_unitU {E : Int32 → HI → HL → Option (Bool × HI × HL)} {v : Int32} (hf : isFF ff) (h : XS2 B n p I L) (hF : FX2 C u ff I) (hk : isU (kd B n p)) (hu : u < 30) (hC : C.length < 270) : ∃ I' L', fX2_readUnit ff E v I L = some (true, I', L') ∧ XS2 B n (nx B n p) I' L' ∧ FX2 (C ++ [uSt B n p]) (u + 1) ff I' ∧ FXf ff I I' L L' := by
  have k256 := h.2.1.kd h.1
  have e4 : I 49 4 = nI (kd B n p) := h.2.2.1.1
  have l30 : nI u < (30 : Int32) := nI_lt (b := 30) hu (by decide)
  have fin : ∀ I3 : HI, FX2 (C ++ [uSt B n p]) (u + 1) ff I3 → (∀ a, a ≠ ff → a ≠ ff + 1 → I3 a = I a) → ∃ I' L', (Option.bind (fX9_advance I3 L) fun q => some (true, q.1, q.2)) = some (true, I', L') ∧ XS2 B n (nx B n p) I' L' ∧ FX2 (C ++ [uSt B n p]) (u + 1) ff I' ∧ FXf ff I I' L L' := by
    intro I3 h3 ho
    have x3 : XS2 B n p I3 L := h.fr (fun a ha => ho a (by rcases hf with e | e <;> omega) (by rcases hf with e | e <;> omega))
    obtain ⟨I', L', b1, b2, b3⟩ := x3.adv (by unfold isU at hk; omega)
    refine ⟨I', L', by rw [b1, Option.bind_some], b2, h3.fa hf b3, FXf.trans (I' := I3) (L' := L) ⟨fun a _ h2 h4 => ho a h2 h4, by rw [ho 49 (by rcases hf with e | e <;> omega) (by rcases hf with e | e <;> omega)], fun _ _ => rfl⟩ (FXf.of b3)⟩
  unfold fX2_readUnit
  rw [hF.2.1, if_pos l30, e4]
  have unit : ∀ k : Nat, kd B n p = k → (k = 16 ∨ k = 17 ∨ k = 18) → ∃ I3, fX1_addUnit ff (nI k) I = some I3 ∧ FX2 (C ++ [uSt B n p]) (u + 1) ff I3 ∧ (∀ a, a ≠ ff → a ≠ ff + 1 → I3 a = I a) := by
    intro k ek hk3
    have hu1 : uSt B n p = (1, k - 16) := by unfold uSt; rw [if_neg (by omega), ek]
    have hcd : (-100 : Int32) - nI k = cd1 (1, k - 16) := by
      rw [deed_v (by omega)]
      unfold cd1
      simp only [Nat.reduceEqDiff, if_false, if_true]
      congr 1
      omega
    have p3 : ptI ff C.length ((-100 : Int32) - nI k) I ff 3 = nI u := by rw [ptI_ff (by decide)]; exact hF.2.1
    have p4 : ptI ff C.length ((-100 : Int32) - nI k) I ff 4 = b2i (dat C) := by rw [ptI_ff (by decide)]; exact hF.2.2
    have q4 : up2 (ptI ff C.length ((-100 : Int32) - nI k) I) ff 3 (nI (u + 1)) ff 4 = b2i (dat C) := by rw [up2_at, if_neg (by omega)]; exact p4
    unfold fX1_addUnit
    rw [x_putF hF.1.1 hC, Option.bind_some]
    simp only [p3, nI_1, q4, (i2b_or (dat C)).1, (i2b_or (dat C)).2, Option.bind_some]
    have fin2 : ∀ b : Bool, b = dat (C ++ [(1, k - 16)]) → FX2 (C ++ [uSt B n p]) (u + 1) ff (up2 (up2 (ptI ff C.length ((-100 : Int32) - nI k) I) ff 3 (nI (u + 1))) ff 4 (b2i b)) ∧ (∀ a, a ≠ ff → a ≠ ff + 1 → up2 (up2 (ptI ff C.length ((-100 : Int32) - nI k) I) ff 3 (nI (u + 1))) ff 4 (b2i b) a = I a) := by
      intro b hb
      rw [hu1]
      have hc := ptI_C (v := (-100 : Int32) - nI k) hF.1 hcd
      refine ⟨⟨⟨?_, fun j hj => ?_⟩, ?_, ?_⟩, fun a h1 h2 => ?_⟩
      · rw [up2_at, if_neg (by omega), up2_at, if_neg (by omega)]; exact hc.1
      · rw [upRow _ _ (by omega), upRow _ _ (by omega)]; exact hc.2 j hj
      · rw [up2_at, if_neg (by omega), up2_eq]
      · rw [up2_eq, hb]
      · rw [upRow _ _ h1, upRow _ _ h1, ptI_o h1 h2]
    by_cases c18 : k = 18
    · rw [if_pos (show nI k = (18 : Int32) by rw [c18]; rfl)]
      exact ⟨_, rfl, fin2 true (by rw [dat_snoc, c18]; simp)⟩
    · rw [if_neg (show ¬ nI k = (18 : Int32) from ne_lit (c := 18) (by omega) (by decide) c18)]
      refine ⟨_, rfl, fin2 (dat C) ?_⟩
      rw [dat_snoc]
      have : ¬ k - 16 = 2 := by omega
      simp [this]
  rcases hk with c | c
  · have hu1 : uSt B n p = (0, vl B n p) := by unfold uSt; rw [if_pos c]
    have e6 : I 49 6 = nI (vl B n p) := h.2.2.1.2.2.2.1 c
    rw [if_neg (show ¬ nI (kd B n p) = (16 : Int32) from ne_lit (c := 16) k256 (by decide) (by omega)), if_neg (show ¬ nI (kd B n p) = (17 : Int32) from ne_lit (c := 17) k256 (by decide) (by omega)), if_neg (show ¬ nI (kd B n p) = (18 : Int32) from ne_lit (c := 18) k256 (by decide) (by omega)), if_pos (show nI (kd B n p) = (21 : Int32) by rw [c]; rfl), e6]
    have p3 : ptI ff C.length (nI (vl B n p)) I ff 3 = nI u := by rw [ptI_ff (by decide)]; exact hF.2.1
    have ea : fX1_addNumber ff (nI (vl B n p)) I = some (up2 (ptI ff C.length (nI (vl B n p)) I) ff 3 (nI (u + 1))) := by
      unfold fX1_addNumber
      rw [x_putF hF.1.1 hC, Option.bind_some]
      simp only [p3, nI_1]
    rw [ea, Option.bind_some]
    refine fin _ ?_ ?_
    · rw [hu1]
      have hc := ptI_C (x := (0, vl B n p)) (v := nI (vl B n p)) hF.1 rfl
      refine ⟨⟨?_, fun j hj => ?_⟩, ?_, ?_⟩
      · rw [up2_at, if_neg (by omega)]; exact hc.1
      · rw [upRow _ _ (by omega)]; exact hc.2 j hj
      · rw [up2_eq]
      · rw [up2_at, if_neg (by omega), ptI_ff (by decide), hF.2.2, dat_snoc]; simp
    · intro a h1 h2
      rw [upRow _ _ h1, ptI_o h1 h2]
  · obtain ⟨I3, a1, a2, a3⟩ := unit (kd B n p) rfl c
    rcases c with c | c | c
    · rw [if_pos (show nI (kd B n p) = (16 : Int32) by rw [c]; rfl), a1, Option.bind_some]
      exact fin I3 a2 a3
    · rw [if_neg (show ¬ nI (kd B n p) = (16 : Int32) from ne_lit (c := 16) k256 (by decide) (by omega)), if_pos (show nI (kd B n p) = (17 : Int32) by rw [c]; rfl), a1, Option.bind_some]
      exact fin I3 a2 a3
    · rw [if_neg (show ¬ nI (kd B n p) = (16 : Int32) from ne_lit (c := 16) k256 (by decide) (by omega)), if_neg (show ¬ nI (kd B n p) = (17 : Int32) from ne_lit (c := 17) k256 (by decide) (by omega)), if_pos (show nI (kd B n p) = (18 : Int32) by rw [c]; rfl), a1, Option.bind_some]
      exact fin I3 a2 a3
end FM5
