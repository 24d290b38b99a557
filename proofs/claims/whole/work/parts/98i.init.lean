/-! the start -/
noncomputable def w21 : Nat → Int32 → Int32 → (Nat → Int64) → Option (Nat → Int64)
  | 0, _, _, _ => none
  | fu + 1, y2, y3, r =>
    if (fJ0_length_8abf5 0) ≤ y3 then
      some r
    else
      Option.bind (fJ0_charAt_5068e 0 y3) fun q6 =>
      if q6 = (32 : Int32) then
        w21 fu (y2 + (1 : Int32)) (y3 + (1 : Int32)) r
      else
        if (Int32.ofNat 19) ≤ y2 then
          w21 fu y2 (y3 + (1 : Int32)) r
        else
          if inb y2 19 = true then
            w21 fu y2 (y3 + (1 : Int32)) (fun j => if j = y2.toNatClampNeg then fX9_withLetter (r y2.toNatClampNeg) q6 else r j)
          else none
theorem w21_mono : ∀ (fu : Nat) (y2 y3 : Int32) (r s : Nat → Int64), w21 fu y2 y3 r = some s → w21 (fu + 1) y2 y3 r = some s := by
  intro fu
  induction fu with
  | zero => intro y2 y3 r s h; rw [w21] at h; cases h
  | succ fu ih =>
    intro y2 y3 r s h
    rw [w21] at h ⊢
    split at h
    · rename_i c; rw [if_pos c]; exact h
    · rename_i c; rw [if_neg c]
      cases hc : fJ0_charAt_5068e 0 y3 with
      | none => rw [hc] at h; cases h
      | some q6 =>
        rw [hc, Option.bind_some] at h
        rw [Option.bind_some]
        split at h
        · rename_i c; rw [if_pos c]; exact ih _ _ _ _ h
        · rename_i c; rw [if_neg c]
          split at h
          · rename_i c; rw [if_pos c]; exact ih _ _ _ _ h
          · rename_i c; rw [if_neg c]
            split at h
            · rename_i c; rw [if_pos c]; exact ih _ _ _ _ h
            · cases h
theorem w21_up {y2 y3 : Int32} {r s : Nat → Int64} {k : Nat} (h : w21 k y2 y3 r = some s) : ∀ m, w21 (m + k) y2 y3 r = some s := by
  intro m
  induction m with
  | zero => rw [Nat.zero_add]; exact h
  | succ m ih => rw [show m + 1 + k = m + k + 1 by omega]; exact w21_mono _ _ _ _ _ ih
theorem w21_eq : ∀ (fu : Nat) (y2 y3 : Int32) (I : HI) (L : HL) (s : Nat → Int64), w21 fu y2 y3 (L 50) = some s → fX9_init_21 fu y2 y3 I L = some (fun a => if a = 50 then s else L a) := by
  intro fu
  induction fu with
  | zero => intro y2 y3 I L s h; rw [w21] at h; cases h
  | succ fu ih =>
    intro y2 y3 I L s h
    rw [w21] at h
    rw [fX9_init_21]
    split at h
    · rename_i c
      rw [if_pos c]
      cases h
      congr 1
      funext a
      by_cases e : a = 50
      · rw [if_pos e, e]
      · rw [if_neg e]
    · rename_i c; rw [if_neg c]
      cases hc : fJ0_charAt_5068e 0 y3 with
      | none => rw [hc] at h; cases h
      | some q6 =>
        rw [hc, Option.bind_some] at h
        rw [Option.bind_some]
        split at h
        · rename_i c; rw [if_pos c]; exact ih _ _ _ _ _ h
        · rename_i c; rw [if_neg c]
          split at h
          · rename_i c; rw [if_pos c]; exact ih _ _ _ _ _ h
          · rename_i c; rw [if_neg c]
            split at h
            · rename_i c
              rw [if_pos c, if_pos c]
              have e50 : up2 L 50 y2.toNatClampNeg (fX9_withLetter (L 50 y2.toNatClampNeg) q6) 50 = (fun j => if j = y2.toNatClampNeg then fX9_withLetter (L 50 y2.toNatClampNeg) q6 else L 50 j) := by
                funext j
                rw [up2_at]
                simp
              have := ih y2 (y3 + 1) I (up2 L 50 y2.toNatClampNeg (fX9_withLetter (L 50 y2.toNatClampNeg) q6)) s (by rw [e50]; exact h)
              simp only
              rw [this]
              congr 1
              funext a
              by_cases e : a = 50
              · rw [if_pos e, if_pos e]
              · rw [if_neg e, if_neg e, upRow _ _ e]
            · cases h
set_option maxRecDepth 1000000 in
theorem w21_val : ∀ i : Fin 19, (match w21 120 0 0 (fun _ => 0) with | some r => decide (r i.1 = lN (wds.getD i.1 0)) | none => false) = true := by decide +kernel
theorem x_words {I : HI} {L : HL} (h : L 50 = fun _ => 0) : ∃ L', fX9_init_21 FUEL (0 : Int32) (0 : Int32) I L = some L' ∧ LexOk L' ∧ ∀ a, a ≠ 50 → L' a = L a := by
  obtain ⟨m, hm⟩ := fuel_at 120 (by decide)
  cases hr : w21 120 0 0 (fun _ => 0) with
  | none =>
    have := w21_val ⟨0, by decide⟩
    simp only [hr] at this
    cases this
  | some s =>
    have e := w21_eq FUEL 0 0 I L s (by rw [h, hm]; exact w21_up hr m)
    refine ⟨_, e, fun i hi => ?_, fun a ha => if_neg ha⟩
    have := w21_val ⟨i, hi⟩
    simp only [hr] at this
    show (if (50 : Nat) = 50 then s else L 50) i = _
    rw [if_pos rfl]
    exact of_decide_eq_true this
theorem zr_ne {α : Type} {z : α} {F : Nat → Nat → α} {k a : Nat} (h : a ≠ k) : zr0 z F k a = F a := if_neg h
theorem zr_eq {α : Type} {z : α} {F : Nat → Nat → α} {k : Nat} : zr0 z F k k = fun _ => z := if_pos rfl
theorem i_eight {tt : Nat} {v : Int32} {I : HI} {L : HL} : ∀ a, a < tt + 1 ∨ tt + 5 < a → (fX8_init tt v I L).1 a = I a ∧ (fX8_init tt v I L).2 a = L a := by
  intro a ha
  unfold fX8_init
  simp only
  rw [zr_ne (by omega), zr_ne (by omega), zr_ne (by omega), zr_ne (by omega), zr_ne (by omega), zr_ne (by omega), zr_ne (by omega), zr_ne (by omega), zr_ne (by omega), zr_ne (by omega)]
  exact ⟨rfl, rfl⟩
theorem i_five {qq : Nat} (ht : isQ2 qq) (I : HI) (L : HL) : ∃ I' L', fX5_init qq I L = some (I', L') ∧ XTown T00 qq I' L' ∧ ∀ a, ¬ (qq ≤ a ∧ a ≤ qq + 22) → I' a = I a ∧ L' a = L a := by
  unfold fX5_init
  simp only [obn_eq]
  obtain ⟨x, hx⟩ : ∃ x : HI × HL, x = (zr0 0 (fX1_init (qq + 19) (zr0 0 (fX8_init (qq + 13) 4 (zr0 0 (fX8_init (qq + 7) 4 (zr0 0 (fX8_init (qq + 1) 8 (zr0 0 I (qq + 1)) (zr0 0 L (qq + 1))).1 (qq + 7)) (zr0 0 (fX8_init (qq + 1) 8 (zr0 0 I (qq + 1)) (zr0 0 L (qq + 1))).2 (qq + 7))).1 (qq + 13)) (zr0 0 (fX8_init (qq + 7) 4 (zr0 0 (fX8_init (qq + 1) 8 (zr0 0 I (qq + 1)) (zr0 0 L (qq + 1))).1 (qq + 7)) (zr0 0 (fX8_init (qq + 1) 8 (zr0 0 I (qq + 1)) (zr0 0 L (qq + 1))).2 (qq + 7))).2 (qq + 13))).1 (qq + 19)) (zr0 0 (fX8_init (qq + 13) 4 (zr0 0 (fX8_init (qq + 7) 4 (zr0 0 (fX8_init (qq + 1) 8 (zr0 0 I (qq + 1)) (zr0 0 L (qq + 1))).1 (qq + 7)) (zr0 0 (fX8_init (qq + 1) 8 (zr0 0 I (qq + 1)) (zr0 0 L (qq + 1))).2 (qq + 7))).1 (qq + 13)) (zr0 0 (fX8_init (qq + 7) 4 (zr0 0 (fX8_init (qq + 1) 8 (zr0 0 I (qq + 1)) (zr0 0 L (qq + 1))).1 (qq + 7)) (zr0 0 (fX8_init (qq + 1) 8 (zr0 0 I (qq + 1)) (zr0 0 L (qq + 1))).2 (qq + 7))).2 (qq + 13))).2 (qq + 19))).1 (qq + 22), zr0 0 (fX1_init (qq + 19) (zr0 0 (fX8_init (qq + 13) 4 (zr0 0 (fX8_init (qq + 7) 4 (zr0 0 (fX8_init (qq + 1) 8 (zr0 0 I (qq + 1)) (zr0 0 L (qq + 1))).1 (qq + 7)) (zr0 0 (fX8_init (qq + 1) 8 (zr0 0 I (qq + 1)) (zr0 0 L (qq + 1))).2 (qq + 7))).1 (qq + 13)) (zr0 0 (fX8_init (qq + 7) 4 (zr0 0 (fX8_init (qq + 1) 8 (zr0 0 I (qq + 1)) (zr0 0 L (qq + 1))).1 (qq + 7)) (zr0 0 (fX8_init (qq + 1) 8 (zr0 0 I (qq + 1)) (zr0 0 L (qq + 1))).2 (qq + 7))).2 (qq + 13))).1 (qq + 19)) (zr0 0 (fX8_init (qq + 13) 4 (zr0 0 (fX8_init (qq + 7) 4 (zr0 0 (fX8_init (qq + 1) 8 (zr0 0 I (qq + 1)) (zr0 0 L (qq + 1))).1 (qq + 7)) (zr0 0 (fX8_init (qq + 1) 8 (zr0 0 I (qq + 1)) (zr0 0 L (qq + 1))).2 (qq + 7))).1 (qq + 13)) (zr0 0 (fX8_init (qq + 7) 4 (zr0 0 (fX8_init (qq + 1) 8 (zr0 0 I (qq + 1)) (zr0 0 L (qq + 1))).1 (qq + 7)) (zr0 0 (fX8_init (qq + 1) 8 (zr0 0 I (qq + 1)) (zr0 0 L (qq + 1))).2 (qq + 7))).2 (qq + 13))).2 (qq + 19))).2 (qq + 22)) := ⟨_, rfl⟩
  have hfx : ∀ a, ¬ (qq ≤ a ∧ a ≤ qq + 22) → x.1 a = I a ∧ x.2 a = L a := by
    intro a ha
    rw [hx]
    unfold fX1_init
    simp only
    rw [zr_ne (by omega), zr_ne (by omega), zr_ne (by omega), zr_ne (by omega), zr_ne (by omega), zr_ne (by omega), zr_ne (by omega), zr_ne (by omega), (i_eight a (by omega)).1, (i_eight a (by omega)).2, zr_ne (by omega), zr_ne (by omega), (i_eight a (by omega)).1, (i_eight a (by omega)).2, zr_ne (by omega), zr_ne (by omega), (i_eight a (by omega)).1, (i_eight a (by omega)).2, zr_ne (by omega), zr_ne (by omega)]
    exact ⟨rfl, rfl⟩
  have e1 := congrArg Prod.fst hx
  have e2 := congrArg Prod.snd hx
  simp only at e1 e2
  rw [← e1, ← e2]
  obtain ⟨Ic, hIc⟩ : ∃ y : HI × HL, y = fX5_clear qq x.1 x.2 := ⟨_, rfl⟩
  have hfc : (∀ a, ¬ (qq ≤ a ∧ a ≤ qq + 22) → Ic.1 a = x.1 a) ∧ (∀ a, ¬ (qq ≤ a ∧ a ≤ qq + 22) → Ic.2 a = x.2 a) := by
    rw [hIc]
    unfold fX5_clear fX5_setSize fX1_clear tbn
    refine ⟨fun a ha => ?_, fun a ha => ?_⟩
    · simp only
      rw [upRow _ _ (by omega), upRow _ _ (by omega), upRow _ _ (by omega), upRow _ _ (by omega), upRow _ _ (by omega), upRow _ _ (by omega), upRow _ _ (by omega), upRow _ _ (by omega), upRow _ _ (by omega), upRow _ _ (by omega)]
    · simp only
      rw [upRow _ _ (by omega)]
  have hdx : DX T00 N00 qq Ic.1 Ic.2 := by
    rw [hIc]
    unfold fX5_clear fX5_setSize fX1_clear tbn
    refine DX_00 ⟨?_, ?_, ?_⟩ ?_ ?_ ⟨?_, ?_, ?_⟩ ⟨?_, ?_, ?_⟩ <;> simp [up2_at] <;> rfl
  obtain ⟨Lq, g1, g2, g3⟩ := x_settle ht T00_ok hdx
  rw [← hIc, g1, Option.bind_some]
  exact ⟨_, _, rfl, g2, fun a ha => ⟨by rw [hfc.1 a ha, (hfx a ha).1], by rw [g3 a (by omega) (by omega), hfc.2 a ha, (hfx a ha).2]⟩⟩
set_option maxHeartbeats 4000000 in
theorem start_x : ∃ x, fX11_init I00 L00 = some x ∧ XTown T00 2 x.1 x.2 ∧ XNow x.1 (nw0 T00) ∧ x.1 54 1 = 0 ∧ x.1 54 2 = 0 ∧ x.2 55 0 = lN (pk (nw0 T00)) ∧ (∀ j, x.1 0 j = 0) ∧ (∀ j, j ≠ 9 → x.1 48 j = 0) ∧ x.1 48 9 = -1 ∧ (∀ j, x.1 57 j = 0) ∧ (∀ j, x.2 57 j = 0) ∧ (∀ j, x.1 61 j = 0) ∧ (∀ j, x.1 66 j = 0) ∧ LexOk x.2 := by
  have z0 : ∀ a j, I00 a j = 0 := fun a j => by unfold I00 zr0; split <;> rfl
  obtain ⟨I1, L1, a1, a2, a3⟩ := i_five (Or.inl rfl : isQ2 2) (zr0 0 (zr0 0 I00 1) 2) (zr0 0 (zr0 0 L00 1) 2)
  obtain ⟨I2, L2, b1, b2, b3⟩ := i_five (Or.inr rfl : isQ2 25) (zr0 0 I1 25) (zr0 0 L1 25)
  obtain ⟨L3, c1, c2, c3⟩ := x_words (I := zr0 0 (zr0 0 (zr0 0 I2 48) 49) 50) (L := zr0 0 (zr0 0 (zr0 0 L2 48) 49) 50) zr_eq
  obtain ⟨I4, hI4⟩ : ∃ y : HI, y = zr0 0 (zr0 0 (up2 (zr0 0 (zr0 0 (zr0 0 (zr0 0 I2 48) 49) 50) 51) 48 9 (-1 : Int32)) 52) 53 := ⟨_, rfl⟩
  have k4 : ∀ a, a < 48 → I4 a = I2 a := fun a ha => by rw [hI4, zr_ne (by omega), zr_ne (by omega), upRow _ _ (by omega), zr_ne (by omega), zr_ne (by omega), zr_ne (by omega), zr_ne (by omega)]
  have k2 : ∀ a, a < 25 → I2 a = I1 a := fun a ha => by rw [(b3 a (by omega)).1, zr_ne (by omega)]
  have kL2 : ∀ a, a < 25 → L2 a = L1 a := fun a ha => by rw [(b3 a (by omega)).2, zr_ne (by omega)]
  have i15 : I4 (2 + 13) 0 = nI 0 := by
    rw [k4 15 (by decide), k2 15 (by decide)]
    exact a2.2.2.2.2.2.2.2.2.1
  obtain ⟨f0, hf0⟩ := fuel_at 10 (by decide)
  obtain ⟨I5, d1, d2, d3, d4⟩ := x_begin2 (Or.inl rfl : isQ2 2) (m := 0) (by decide) 4 0 FUEL I4 i15 (by omega) (by omega)
  obtain ⟨I6, hI6⟩ : ∃ y : HI, y = up2 (up2 (up2 (up2 (up2 I5 52 1 (0 : Int32)) 52 2 (0 : Int32)) 52 3 (0 : Int32)) 52 4 (b2i false)) 52 5 (0 : Int32) := ⟨_, rfl⟩
  have z : ∀ k, nw0 T00 k = 0 := fun k => by unfold nw0; rw [if_neg (show ¬ k < tnP T00 from Nat.not_lt_zero k)]
  have hnow : XNow (zr0 0 (zr0 0 I6 54) 55) (nw0 T00) := by
    refine ⟨fun i hi => ?_, ?_, ?_, ?_, ?_, ?_⟩
    · rw [zr_ne (by decide), zr_ne (by decide), hI6, upRow _ _ (by decide), upRow _ _ (by decide), upRow _ _ (by decide), upRow _ _ (by decide), upRow _ _ (by decide), d2 i (by omega) hi, if_neg (by omega), z]; rfl
    · rw [zr_ne (by decide), zr_ne (by decide), hI6, z]; simp [up2_at]; rfl
    · rw [zr_ne (by decide), zr_ne (by decide), hI6, z]; simp [up2_at]; rfl
    · rw [zr_ne (by decide), zr_ne (by decide), hI6, z]; simp [up2_at]; rfl
    · rw [zr_ne (by decide), zr_ne (by decide), hI6, z]; simp [up2_at]; rfl
    · rw [zr_ne (by decide), zr_ne (by decide), hI6, z]; simp [up2_at]; rfl
  have hpk := x_packed hnow (nw0_rng T00_ok)
  have k6 : ∀ a, a ≠ 52 → a ≠ 53 → I6 a = I4 a := fun a h1 h2 => by rw [hI6, upRow _ _ h1, upRow _ _ h1, upRow _ _ h1, upRow _ _ h1, upRow _ _ h1, d4 a h2]
  obtain ⟨I7, hI7⟩ : ∃ y : HI, y = up2 (up2 (zr0 0 (zr0 0 I6 54) 55) 54 1 (0 : Int32)) 54 2 (0 : Int32) := ⟨_, rfl⟩
  obtain ⟨L7, hL7⟩ : ∃ y : HL, y = up2 (zr0 0 (zr0 0 (zr0 0 (zr0 0 (zr0 0 L3 51) 52) 53) 54) 55) 55 0 (lN (pk (nw0 T00))) := ⟨_, rfl⟩
  obtain ⟨x, hx⟩ : ∃ y : HI × HL, y = (zr0 0 (zr0 0 (zr0 0 (zr0 0 (zr0 0 (zr0 0 (zr0 0 (zr0 0 (zr0 0 (zr0 0 (zr0 0 (zr0 0 (zr0 0 (zr0 0 (zr0 0 (zr0 0 (zr0 0 I7 56) 57) 58) 59) 60) 61) 62) 63) 64) 65) 66) 67) 68) 69) 70) 71) 72, zr0 0 (zr0 0 (zr0 0 (zr0 0 (zr0 0 (zr0 0 (zr0 0 (zr0 0 (zr0 0 (zr0 0 (zr0 0 (zr0 0 (zr0 0 (zr0 0 (zr0 0 (zr0 0 (zr0 0 L7 56) 57) 58) 59) 60) 61) 62) 63) 64) 65) 66) 67) 68) 69) 70) 71) 72) := ⟨_, rfl⟩
  have kx : ∀ a, a < 56 → x.1 a = I7 a ∧ x.2 a = L7 a := fun a ha => by
    rw [hx]
    simp only [zr0]
    simp only [if_neg (show ¬ a = 56 by omega), if_neg (show ¬ a = 57 by omega), if_neg (show ¬ a = 58 by omega), if_neg (show ¬ a = 59 by omega), if_neg (show ¬ a = 60 by omega), if_neg (show ¬ a = 61 by omega), if_neg (show ¬ a = 62 by omega), if_neg (show ¬ a = 63 by omega), if_neg (show ¬ a = 64 by omega), if_neg (show ¬ a = 65 by omega), if_neg (show ¬ a = 66 by omega), if_neg (show ¬ a = 67 by omega), if_neg (show ¬ a = 68 by omega), if_neg (show ¬ a = 69 by omega), if_neg (show ¬ a = 70 by omega), if_neg (show ¬ a = 71 by omega), if_neg (show ¬ a = 72 by omega)]
    exact ⟨trivial, trivial⟩
  have k7 : ∀ a, a ≠ 54 → a ≠ 55 → I7 a = I6 a := fun a h1 h2 => by rw [hI7, upRow _ _ h1, upRow _ _ h1, zr_ne h2, zr_ne h1]
  have kL7 : ∀ a, a < 51 → L7 a = L3 a := fun a ha => by rw [hL7, upRow _ _ (by omega), zr_ne (by omega), zr_ne (by omega), zr_ne (by omega), zr_ne (by omega), zr_ne (by omega)]
  have x48 : ∀ a, a < 48 → x.1 a = I2 a := fun a ha => by rw [(kx a (by omega)).1, k7 a (by omega) (by omega), k6 a (by omega) (by omega), k4 a ha]
  refine ⟨x, ?_, ?_, ?_, ?_, ?_, ?_, ?_, ?_, ?_, ?_, ?_, ?_, ?_, ?_⟩
  · unfold fX11_init
    simp only
    rw [a1, Option.bind_some]
    simp only
    rw [b1, Option.bind_some]
    unfold fX9_init
    simp only
    rw [c1, Option.bind_some, Option.bind_some]
    unfold fX6_init fX2_init fX4_init fX0_init fX7_init fX10_init fX3_init
    simp only [obn_eq, Option.bind_some]
    rw [← hI4]
    have eb : fX4_begin 2 I4 = some I6 := by
      unfold fX4_begin
      rw [show (0 : Int32) = nI 0 from rfl, d1, Option.bind_some, hI6]
      rfl
    rw [eb, Option.bind_some, hpk, Option.bind_some]
    have e0 : fX0_begin (lN (pk (nw0 T00))) (zr0 0 (zr0 0 I6 54) 55) (zr0 0 (zr0 0 (zr0 0 (zr0 0 (zr0 0 L3 51) 52) 53) 54) 55) = some (I7, L7) := by
      unfold fX0_begin
      rw [if_pos (by decide), hI7, hL7]
      rfl
    rw [e0, Option.bind_some, hx]
  · refine a2.fr (fun a h1 h2 => ?_) ⟨?_, ?_⟩
    · rw [x48 a (by omega), k2 a (by omega)]
    · rw [(kx 2 (by decide)).2, kL7 2 (by decide), c3 2 (by decide), zr_ne (by decide), zr_ne (by decide), zr_ne (by decide), kL2 2 (by decide)]
    · rw [(kx 24 (by decide)).2, kL7 24 (by decide), c3 24 (by decide), zr_ne (by decide), zr_ne (by decide), zr_ne (by decide), kL2 24 (by decide)]
  · unfold XNow at *
    have e53 : x.1 53 = zr0 0 (zr0 0 I6 54) 55 53 := by rw [(kx 53 (by decide)).1, hI7, upRow _ _ (by decide), upRow _ _ (by decide)]
    have e52 : x.1 52 = zr0 0 (zr0 0 I6 54) 55 52 := by rw [(kx 52 (by decide)).1, hI7, upRow _ _ (by decide), upRow _ _ (by decide)]
    rw [e53, e52]
    exact hnow
  · rw [(kx 54 (by decide)).1, hI7]; simp [up2_at]
  · rw [(kx 54 (by decide)).1, hI7]; simp [up2_at]
  · rw [(kx 55 (by decide)).2, hL7, up2_eq]
  · intro j
    rw [x48 0 (by decide), k2 0 (by decide), (a3 0 (by decide)).1, zr_ne (by decide), zr_ne (by decide), z0]
  · intro j hj
    rw [(kx 48 (by decide)).1, k7 48 (by decide) (by decide), k6 48 (by decide) (by decide), hI4, zr_ne (by decide), zr_ne (by decide), up2_at, if_neg (by omega), zr_ne (by decide), zr_ne (by decide), zr_ne (by decide), zr_eq]
  · rw [(kx 48 (by decide)).1, k7 48 (by decide) (by decide), k6 48 (by decide) (by decide), hI4, zr_ne (by decide), zr_ne (by decide), up2_eq]
  · intro j; rw [hx]; simp [zr0]
  · intro j; rw [hx]; simp [zr0]
  · intro j; rw [hx]; simp [zr0]
  · intro j; rw [hx]; simp [zr0]
  · intro i hi
    rw [(kx 50 (by decide)).2, kL7 50 (by decide)]
    exact c2 i hi
