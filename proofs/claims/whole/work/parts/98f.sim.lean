/-! a text is read, on both sides -/
def T00 : Nat → Nat → Nat := fun i j => if i = 0 then (if j = 0 then 6 else if j = 1 then 6 else 0) else 0
def N00 : Nat → Nat → List Nat := fun _ _ => []
def FQx (dr : Nat) (I I' : HI) (L L' : HL) : Prop := (∀ a, a ≠ 48 → a ≠ 49 → ¬ (dr ≤ a ∧ a ≤ dr + 22) → I' a = I a) ∧ ∀ a, a ≠ 49 → ¬ (dr ≤ a ∧ a ≤ dr + 22) → L' a = L a
def FQm (J J' : HI) (M M' : HL) : Prop := (∀ a, ¬ wkM a → J' a = J a) ∧ (∀ j, j = 0 ∨ j = 18 ∨ j = 21 ∨ (52 ≤ j ∧ j ≤ 58) ∨ 63 ≤ j → J' 73 j = J 73 j) ∧ (∀ a, a ≠ 73 → a ≠ 75 → M' a = M a) ∧ ∀ j, j ≠ 9 → ¬ (41 ≤ j ∧ j ≤ 43) → M' 73 j = M 73 j
theorem T00_ok : TOk T00 := by
  refine ⟨⟨by decide, by decide, by decide, by decide⟩, by decide, by decide, by decide, by decide, by decide, ?_, ?_, ?_, ⟨by decide, ?_, Or.inl rfl⟩, ?_⟩
  · intro d hd; exact absurd hd (Nat.not_lt_zero d)
  · intro d hd; exact absurd hd (Nat.not_lt_zero d)
  · intro d hd; exact absurd hd (Nat.not_lt_zero d)
  · intro d hd; exact absurd hd (Nat.not_lt_zero d)
  · intro c hc; cases hc
theorem T00_w (c : Nat) : isW T00 c = false := rfl
theorem N00_ok : NmOk T00 N00 := ⟨fun d hd => absurd hd (Nat.not_lt_zero d), fun d hd => absurd hd (Nat.not_lt_zero d), fun d hd => absurd hd (Nat.not_lt_zero d)⟩
theorem T00_ct : fb_ct (isW T00) 64 = 0 := fb_ct_zero.mpr (fun k _ => rfl)
section SIM
variable {B : Nat → Nat} {n dr : Nat} {I : HI} {L : HL} {J : HI} {M : HL}
theorem DX_00 (h0 : I dr 0 = nI 6 ∧ I dr 1 = nI 6 ∧ I dr 2 = nI 36) (h1 : L dr 3 = 0) (h2 : I dr 10 = 0) (h3 : I (dr + 1) 0 = 0 ∧ I (dr + 7) 0 = 0 ∧ I (dr + 13) 0 = 0) (h4 : I (dr + 19) 2 = 0 ∧ I (dr + 19) 3 = 0 ∧ I (dr + 19) 4 = 0) : DX T00 N00 dr I L := by
  refine ⟨h0, fun c _ => by rw [h1, hb_0]; rfl, h2, h3.1, fun d hd => absurd hd (Nat.not_lt_zero d), h3.2.1, fun d hd => absurd hd (Nat.not_lt_zero d), h3.2.2, fun d hd => absurd hd (Nat.not_lt_zero d), ⟨h4.1, fun d hd => absurd hd (Nat.not_lt_zero d)⟩, h4.2.1, h4.2.2⟩
theorem x_start (ht : isQ2 dr) (hn : n ≤ 1600) (hB : ∀ i, i < n → B i < 256 ∧ I 1 i = sB (B i)) (hL : LexOk L) (tl ff : Nat) : ∃ Is Ls, fX6_readInto dr tl ff (nI n) I L = (Option.bind (fX6_readInto_45 dr tl ff FUEL (nI n) (1 : Int32) (0 : Int32) ff Is Ls) fun q30 => match q30 with
  | .inl a31 =>
    if a31.1 = 0 then
      Option.bind (i2b a31.1) fun b33 =>
      some (b33, a31.2.1, a31.2.2.1, a31.2.2.2)
    else
      Option.bind (fX5_settle dr a31.2.2.1 a31.2.2.2) fun q34 =>
      Option.bind (i2b a31.1) fun b35 =>
      some (b35, a31.2.1, a31.2.2.1, q34)
  | .inr b32 =>
    some (b32.1, b32.2.1, b32.2.2.1, b32.2.2.2)) ∧ XS2 B n 0 Is Ls ∧ DX T00 N00 dr Is Ls ∧ Is 48 6 = b2i false ∧ Is 48 7 = b2i false ∧ FQx dr I Is L Ls := by
  obtain ⟨Ic, hIc⟩ : ∃ x : HI × HL, x = fX5_clear dr I L := ⟨_, rfl⟩
  have hfx : (∀ a, ¬ (dr ≤ a ∧ a ≤ dr + 22) → Ic.1 a = I a) ∧ (∀ a, ¬ (dr ≤ a ∧ a ≤ dr + 22) → Ic.2 a = L a) := by
    rw [hIc]
    unfold fX5_clear fX5_setSize fX1_clear tbn
    refine ⟨fun a ha => ?_, fun a ha => ?_⟩
    · simp only
      rw [upRow _ _ (by omega), upRow _ _ (by omega), upRow _ _ (by omega), upRow _ _ (by omega), upRow _ _ (by omega), upRow _ _ (by omega), upRow _ _ (by omega), upRow _ _ (by omega), upRow _ _ (by omega), upRow _ _ (by omega)]
    · simp only
      rw [upRow _ _ (by omega)]
  have hdx : DX T00 N00 dr Ic.1 Ic.2 := by
    rw [hIc]
    unfold fX5_clear fX5_setSize fX1_clear tbn
    refine DX_00 ⟨?_, ?_, ?_⟩ ?_ ?_ ⟨?_, ?_, ?_⟩ ⟨?_, ?_, ?_⟩ <;> simp [up2_at] <;> rfl
  obtain ⟨I5, hI5⟩ : ∃ x : HI, x = up2 (up2 (up2 (up2 (up2 (up2 Ic.1 48 6 (b2i false)) 48 7 (b2i false)) 48 8 (0 : Int32)) 48 9 (-1 : Int32)) 49 2 (nI n)) 49 3 (0 : Int32) := ⟨_, rfl⟩
  have o5 : ∀ a, a ≠ 48 → a ≠ 49 → I5 a = Ic.1 a := fun a h1 h2 => by rw [hI5, upRow _ _ h2, upRow _ _ h2, upRow _ _ h1, upRow _ _ h1, upRow _ _ h1, upRow _ _ h1]
  have hTX : TX B n I5 := by
    refine ⟨hn, by rw [hI5]; simp [up2_at], fun i hi => ?_⟩
    rw [o5 1 (by decide) (by decide), hfx.1 1 (by rcases ht with e | e <;> omega)]
    exact hB i hi
  have hLx : LexOk Ic.2 := fun i hi => by rw [hfx.2 50 (by rcases ht with e | e <;> omega)]; exact hL i hi
  obtain ⟨Is, Ls, a1, a2, a3, a4, a5⟩ := x_adv hTX hLx (Nat.zero_le n) (by rw [hI5]; simp [up2_at]; rfl)
  refine ⟨Is, Ls, ?_, ⟨Nat.zero_le n, ⟨⟨hn, by rw [a4]; exact hTX.2.1, by rw [a3 1 (by decide)]; exact hTX.2.2⟩, fun i hi => by rw [a5 50 (by decide)]; exact hLx i hi⟩, a2, ?_, ?_⟩, hdx.fr (fun a h1 h2 => by rw [a3 a (by rcases ht with e | e <;> omega), o5 a (by rcases ht with e | e <;> omega) (by rcases ht with e | e <;> omega)]) (fun a h1 h2 => a5 a (by rcases ht with e | e <;> omega)), ?_, ?_, ⟨fun a h1 h2 h3 => by rw [a3 a h2, o5 a h1 h2, hfx.1 a h3], fun a h1 h2 => by rw [a5 a h1, hfx.2 a h2]⟩⟩
  · unfold fX6_readInto fX9_begin
    rw [obn_eq, ← hIc]
    simp only
    rw [show Int32.ofNat 1600 = nI 1600 from rfl, if_neg (nI_nlt hn (by decide)), ← hI5, a1, Option.bind_some, Option.bind_some]
    rfl
  · rw [a3 48 (by decide), hI5]; simp [up2_at]
  · rw [a3 48 (by decide), hI5]; simp [up2_at]
  · rw [a3 48 (by decide), hI5]; simp [up2_at]
  · rw [a3 48 (by decide), hI5]; simp [up2_at]
theorem m_start (hn : n ≤ 1600) (hB : ∀ i, i < n → B i < 256 ∧ J 74 i = nI (B i)) (h1 : J 73 1 = nI n) : ∃ Js Ms, fX12_readAll J M = fX12_readAll_114 FUEL Js Ms ∧ MS B n 0 Js Ms ∧ DM T00 N00 Js Ms ∧ Js 73 59 = 0 ∧ Js 73 60 = 0 ∧ Js 73 61 = b2i false ∧ Js 73 62 = b2i false ∧ Js 73 1 = 0 ∧ FQm J Js M Ms := by
  obtain ⟨J1, hJ1⟩ : ∃ x : HI, x = up2 (up2 (up2 (up2 (up2 (up2 (up2 (up2 (up2 (up2 (up2 (up2 (up2 (up2 (up2 (up2 (up2 (up2 J 73 5 (J 73 1)) 73 1 (0 : Int32)) 73 4 (0 : Int32)) 73 2 (0 : Int32)) 73 3 (-1 : Int32)) 73 45 (6 : Int32)) 73 46 (6 : Int32)) 73 47 (0 : Int32)) 73 48 (0 : Int32)) 73 49 (0 : Int32)) 73 50 (0 : Int32)) 73 51 (0 : Int32)) 73 59 (b2i false)) 73 60 (b2i false)) 73 61 (b2i false)) 73 62 (b2i false)) 73 20 (0 : Int32)) 73 17 (0 : Int32) := ⟨_, rfl⟩
  obtain ⟨M1, hM1⟩ : ∃ x : HL, x = up2 (up2 (up2 M 73 41 (0 : Int64)) 73 42 (0 : Int64)) 73 43 (0 : Int64) := ⟨_, rfl⟩
  have o1 : ∀ a, a ≠ 73 → J1 a = J a := fun a ha => by rw [hJ1]; simp only [upRow _ _ ha]
  have g : ∀ j v, J1 73 j = v ↔ J1 73 j = v := fun _ _ => Iff.rfl
  have g5 : J1 73 5 = nI n := by rw [hJ1]; simp [up2_at, h1]
  have g4 : J1 73 4 = nI 0 := by rw [hJ1]; simp [up2_at]; rfl
  have hTM : TM B n J1 := ⟨hn, g5, by rw [o1 74 (by decide)]; exact hB⟩
  obtain ⟨Js, Ms, a1, a2, a3, a4, a5, a6⟩ := m_tok (M := M1) hTM (Nat.zero_le n) g4
  have k : ∀ j, j ≠ 4 → j ≠ 6 → j ≠ 7 → j ≠ 8 → Js 73 j = J1 73 j := a4
  refine ⟨Js, Ms, ?_, ⟨Nat.zero_le n, hTM.fr (k 5 (by decide) (by decide) (by decide) (by decide)) (a3 74 (by decide)), a2, ?_, ?_⟩, ?_, ?_, ?_, ?_, ?_, ?_, ⟨fun a ha => ?_, fun j hj => ?_, fun a q1 q2 => ?_, fun j q1 q2 => ?_⟩⟩
  · unfold fX12_readAll
    simp only
    rw [← hJ1, ← hM1, a1, Option.bind_some]
    cases fX12_readAll_114 FUEL Js Ms with
    | none => rfl
    | some q => rfl
  · rw [k 2 (by decide) (by decide) (by decide) (by decide), hJ1]; simp [up2_at]
  · rw [k 3 (by decide) (by decide) (by decide) (by decide), hJ1]; simp [up2_at]
  · unfold DM
    rw [k 45 (by decide) (by decide) (by decide) (by decide), k 46 (by decide) (by decide) (by decide) (by decide), k 47 (by decide) (by decide) (by decide) (by decide), k 48 (by decide) (by decide) (by decide) (by decide), k 49 (by decide) (by decide) (by decide) (by decide), k 50 (by decide) (by decide) (by decide) (by decide), k 51 (by decide) (by decide) (by decide) (by decide), k 20 (by decide) (by decide) (by decide) (by decide), k 17 (by decide) (by decide) (by decide) (by decide), a6 41 (by decide), a6 42 (by decide), a6 43 (by decide)]
    have z : ∀ x, hb (0 : Int64) x = false := hb_0
    refine ⟨by rw [hJ1]; simp [up2_at]; rfl, by rw [hJ1]; simp [up2_at]; rfl, fun c _ => by rw [hM1]; simp [up2_at, z, T00_w], fun c _ => ?_, fun c _ => ?_, by rw [hJ1, T00_ct]; simp [up2_at]; rfl, by rw [hJ1]; simp [up2_at]; rfl, by rw [hJ1]; simp [up2_at]; rfl, by rw [hJ1]; simp [up2_at]; rfl, by rw [hJ1]; simp [up2_at]; rfl, by rw [hJ1]; simp [up2_at]; rfl, fun d hd => absurd hd (Nat.not_lt_zero d), fun d hd => absurd hd (Nat.not_lt_zero d), fun d hd => absurd hd (Nat.not_lt_zero d), by rw [hJ1]; simp [up2_at]; rfl, fun d hd => absurd hd (Nat.not_lt_zero d)⟩
    · have : M1 73 42 = 0 := by rw [hM1]; simp [up2_at]
      rw [this, z]
      constructor
      · intro h; cases h
      · rintro (⟨d, hd, _⟩ | ⟨d, hd, _⟩ | ⟨d, hd, _⟩) <;> exact absurd hd (Nat.not_lt_zero d)
    · have : M1 73 43 = 0 := by rw [hM1]; simp [up2_at]
      rw [this, z]
      constructor
      · intro h; cases h
      · rintro ⟨d, hd, _⟩; exact absurd hd (Nat.not_lt_zero d)
  · rw [k 59 (by decide) (by decide) (by decide) (by decide), hJ1]; simp [up2_at]; rfl
  · rw [k 60 (by decide) (by decide) (by decide) (by decide), hJ1]; simp [up2_at]; rfl
  · rw [k 61 (by decide) (by decide) (by decide) (by decide), hJ1]; simp [up2_at]
  · rw [k 62 (by decide) (by decide) (by decide) (by decide), hJ1]; simp [up2_at]
  · rw [k 1 (by decide) (by decide) (by decide) (by decide), hJ1]; simp [up2_at]
  · have q : a ≠ 73 := fun e => ha (Or.inl e)
    rw [a3 a q, o1 a q]
  · rw [k j (by omega) (by omega) (by omega) (by omega), hJ1]
    simp only [up2_at]
    rw [if_neg (by omega), if_neg (by omega), if_neg (by omega), if_neg (by omega), if_neg (by omega), if_neg (by omega), if_neg (by omega), if_neg (by omega), if_neg (by omega), if_neg (by omega), if_neg (by omega), if_neg (by omega), if_neg (by omega), if_neg (by omega), if_neg (by omega), if_neg (by omega), if_neg (by omega), if_neg (by omega)]
  · rw [a5 a q1, hM1, upRow _ _ q1, upRow _ _ q1, upRow _ _ q1]
  · rw [a6 j q1, hM1, up2_at, if_neg (by omega), up2_at, if_neg (by omega), up2_at, if_neg (by omega)]
theorem q_sim (ht : isQ2 dr) (hn : n ≤ 1600) (hBx : ∀ i, i < n → B i < 256 ∧ I 1 i = sB (B i)) (hL : LexOk L) (hBm : ∀ i, i < n → B i < 256 ∧ J 74 i = nI (B i)) (h1 : J 73 1 = nI n) (tl ff : Nat) : ∃ ok z I' L' J' M', fX6_readInto dr tl ff (nI n) I L = some (ok, z, I', L') ∧ fX12_readAll J M = some (J', M') ∧ FQx dr I I' L L' ∧ FQm J J' M M' ∧ J' 73 1 = 0 ∧ (ok = true → ∃ T' N' sh, TOk T' ∧ XTown T' dr I' L' ∧ DM T' N' J' M' ∧ I' 48 8 = 0 ∧ I' 48 9 = -1 ∧ J' 73 2 = 0 ∧ J' 73 3 = -1 ∧ J' 73 61 = b2i sh ∧ (sh = false → tNS T' = 0)) ∧ (ok = false → Bd2 I' J') := by
  obtain ⟨Is, Ls, a1, a2, a3, a4, a5, a6⟩ := x_start ht hn hBx hL tl ff
  obtain ⟨Js, Ms, b1, b2, b3, b4, b5, b6, b7, b8, b9⟩ := m_start (M := M) hn hBm h1
  have rl : Rel B n dr T00 N00 false false 0 Is Ls Js Ms := ⟨⟨a2.1, a2.2.1, a2.2.2.1, a2.2.2.2.1, a2.2.2.2.2, b2.2.1, b2.2.2.1, b2.2.2.2.1, b2.2.2.2.2⟩, ht, T00_ok, N00_ok, a3, b3, a4, a5, b6, b7, fun _ => ⟨rfl, rfl⟩, by rw [T00_ct]; omega⟩
  obtain ⟨f0, hf0⟩ := fuel_at 2000 (by decide)
  obtain ⟨res, J', M', c1, c2, c3, c4⟩ := ln_all (t0 := tl) (f0 := ff) n 0 0 ff T00 N00 false false Is Ls Js Ms FUEL FUEL rl ⟨fun _ => ⟨b4, b5, rfl, rfl, rfl, T00_w⟩, fun g => absurd g (Nat.lt_irrefl 0)⟩ (Nat.le_refl 0) (by omega) (by omega) (by omega)
  have fq : FQm J J' M M' := ⟨fun a ha => by rw [c3.1 a ha, b9.1 a ha], fun j hj => by rw [c3.2.1 j (by unfold kp73; omega), b9.2.1 j hj], fun a q1 q2 => by rw [c3.2.2.1 a q1 q2, b9.2.2.1 a q1 q2], fun j q1 q2 => by rw [c3.2.2.2 j q1 q2, b9.2.2.2 j q1 q2]⟩
  have j1 : J' 73 1 = 0 := by rw [c3.2.1 1 (by unfold kp73; omega)]; exact b8
  rw [show nI 0 = (0 : Int32) from rfl] at c1
  rw [a1, b1, c2, c1, Option.bind_some]
  rcases c4 with ⟨z2, I', L', T', N', sh', cl', q, d1, d2, d3⟩ | ⟨z2, I', L', d1, d2, d3⟩
  · obtain ⟨e0, e1, e2, e3, e4, e5, e6, e7, e8, e9, e10⟩ := d2
    obtain ⟨Lq, g1, g2, g3⟩ := x_settle ht e2 e4
    subst d1
    simp only
    rw [if_neg (show ¬ (1 : Int32) = 0 by decide), g1, Option.bind_some, i2b_1, Option.bind_some]
    refine ⟨true, z2, I', Lq, J', M', rfl, rfl, ⟨fun a q1 q2 q3 => by rw [d3.1 a q1 q2 q3, a6.1 a q1 q2 q3], fun a q1 q2 => by rw [g3 a (by omega) (by omega), d3.2.2 a q1 q2, a6.2 a q1 q2]⟩, fq, j1, fun _ => ⟨T', N', sh', e2, g2, e5, e0.2.2.2.1, e0.2.2.2.2.1, e0.2.2.2.2.2.2.2.1, e0.2.2.2.2.2.2.2.2, e8, fun g => (e10.1 g).1⟩, fun g => (by cases g)⟩
  · have fx : FQx dr I I' L L' := ⟨fun a q1 q2 q3 => by rw [d2.1 a q1 q2 q3, a6.1 a q1 q2 q3], fun a q1 q2 => by rw [d2.2.2 a q1 q2, a6.2 a q1 q2]⟩
    rcases d1 with d1 | d1
    · subst d1
      simp only
      rw [if_pos trivial, i2b_0, Option.bind_some]
      exact ⟨false, z2, I', L', J', M', rfl, rfl, fx, fq, j1, fun g => (by cases g), fun _ => d3⟩
    · subst d1
      exact ⟨false, z2, I', L', J', M', rfl, rfl, fx, fq, j1, fun g => (by cases g), fun _ => d3⟩
end SIM
