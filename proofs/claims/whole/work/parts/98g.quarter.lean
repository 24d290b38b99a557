/-! quarter -/
section QTR
variable {T : Nat → Nat → Nat} {q dr : Nat} {st : Nat → Nat → Nat} {a u : Nat} {I : HI} {L : HL}
theorem x_begin2 {m : Nat} (ht : isQ2 dr) (hm : m ≤ 4) : ∀ (d k fu : Nat) (I : HI), I (dr + 13) 0 = nI m → k + d = 4 → d < fu → ∃ I', fX4_begin_2 dr fu (nI k) I = some I' ∧ (∀ i, k ≤ i → i < 4 → I' 53 i = if i < m then I (dr + 15) i else 0) ∧ (∀ i, i < k → I' 53 i = I 53 i) ∧ ∀ a, a ≠ 53 → I' a = I a := by
  obtain ⟨c1, c2, c3⟩ := cap_of ht
  intro d
  induction d with
  | zero =>
    intro k fu I h13 hk hf
    obtain ⟨f, rfl⟩ : ∃ f, fu = f + 1 := ⟨fu - 1, by omega⟩
    refine ⟨I, ?_, fun i h1 h2 => by omega, fun _ _ => rfl, fun _ _ => rfl⟩
    rw [fX4_begin_2, show Int32.ofNat 4 = nI 4 from rfl, if_pos (nI_le (by omega) (by omega))]
  | succ d ih =>
    intro k fu I h13 hk hf
    obtain ⟨f, rfl⟩ : ∃ f, fu = f + 1 := ⟨fu - 1, by omega⟩
    have hd53 : dr + 15 ≠ 53 ∧ dr + 13 ≠ 53 := by rcases ht with e | e <;> omega
    rw [fX4_begin_2, show Int32.ofNat 4 = nI 4 from rfl, if_neg (nI_ge (by omega) (by omega)), h13]
    by_cases c : m ≤ k
    · rw [if_pos (nI_le c (by omega)), if_pos (inb_nI (show k < 4 by omega) (by decide)), clamp_nI (by omega), nI_1]
      obtain ⟨I', w1, w2, w3, w4⟩ := ih (k + 1) f (up2 I 53 k 0) (by rw [upRow _ _ hd53.2]; exact h13) (by omega) (by omega)
      refine ⟨I', w1, fun i h1 h2 => ?_, fun i hi => by rw [w3 i (by omega), up2_at, if_neg (by omega)], fun a ha => by rw [w4 a ha, upRow _ _ ha]⟩
      by_cases e : i = k
      · rw [w3 i (by omega), e, up2_eq, if_neg (by omega)]
      · rw [w2 i (by omega) h2, upRow _ _ hd53.1]
    · rw [if_neg (nI_ge (by omega) (by omega)), c3, if_pos (inb_nI (show k < 4 by omega) (by decide)), if_pos (inb_nI (show k < 4 by omega) (by decide)), clamp_nI (by omega), nI_1, show dr + 13 + 2 = dr + 15 by omega]
      obtain ⟨I', w1, w2, w3, w4⟩ := ih (k + 1) f (up2 I 53 k (I (dr + 15) k)) (by rw [upRow _ _ hd53.2]; exact h13) (by omega) (by omega)
      refine ⟨I', w1, fun i h1 h2 => ?_, fun i hi => by rw [w3 i (by omega), up2_at, if_neg (by omega)], fun a ha => by rw [w4 a ha, upRow _ _ ha]⟩
      by_cases e : i = k
      · rw [w3 i (by omega), e, up2_eq, if_pos (by omega)]
      · rw [w2 i (by omega) h2, upRow _ _ hd53.1]
theorem nw0_rng (hO : TOk T) : NRng (nw0 T) := by
  have t4 := hO.2.2.2.1
  have p : ∀ k, k < 4 → nw0 T k < 64 := by
    intro k hk
    unfold nw0
    by_cases c : k < tnP T
    · rw [if_pos c]; exact hO.c64 (hO.2.2.2.2.2.2.2.2.1 k c)
    · rw [if_neg c]; decide
  have z : ∀ k, 4 ≤ k → nw0 T k = 0 := by
    intro k hk
    unfold nw0
    rw [if_neg (by omega)]
  refine ⟨p 0 (by decide), p 1 (by decide), p 2 (by decide), p 3 (by decide), ?_, ?_, ?_, ?_, ?_⟩ <;> rw [z _ (by decide)] <;> decide
/-- the class enters a quarter -/
theorem x_enter (ht : isQ2 dr) (hO : TOk T) (hX : XTown T dr I L) : ∃ q3 q4 q5, fX4_begin dr I = some q3 ∧ fX4_packed q3 = some q4 ∧ fX0_begin q4 q3 L = some q5 ∧ ∃ Ie Le, Ie = fX3_forget (fX10_forget (up2 q5.1 0 8 (0 : Int32))) ∧ Le = fX7_forget dr q q5.2 ∧ Ie (dr + 1) 0 = nI (tnD T) ∧ XNow Ie (nw0 T) ∧ Ie 54 1 = 0 ∧ Ie 54 2 = 0 ∧ Le 55 0 = lN (pk (nw0 T)) ∧ Ie 0 8 = 0 ∧ Le 57 6 = 0 ∧ Ie 61 2 = 0 ∧ Ie 66 0 = 0 ∧ Ie 66 8 = 0 ∧ Ie 66 9 = 0 ∧ (∀ a, a ≠ 0 → ¬ (52 ≤ a ∧ a ≤ 54) → a ≠ 61 → a ≠ 66 → Ie a = I a) ∧ (∀ j, j ≠ 8 → Ie 0 j = I 0 j) ∧ Ie 66 1 = I 66 1 ∧ (∀ a, a ≠ 55 → a ≠ 57 → Le a = L a) := by
  obtain ⟨f0, hf0⟩ := fuel_at 10 (by decide)
  have t4 := hO.2.2.2.1
  have x8 : I (dr + 13) 0 = nI (tnP T) := hX.2.2.2.2.2.2.2.2.1
  have x9 := hX.2.2.2.2.2.2.2.2.2.1
  obtain ⟨I1, w1, w2, w3, w4⟩ := x_begin2 ht t4 4 0 FUEL I x8 (by omega) (by omega)
  obtain ⟨q3, hq3⟩ : ∃ y : HI, y = up2 (up2 (up2 (up2 (up2 I1 52 1 (0 : Int32)) 52 2 (0 : Int32)) 52 3 (0 : Int32)) 52 4 (b2i false)) 52 5 (0 : Int32) := ⟨_, rfl⟩
  have z : ∀ k, 4 ≤ k → nw0 T k = 0 := by
    intro k hk
    unfold nw0
    rw [if_neg (by omega)]
  have hnow : XNow q3 (nw0 T) := by
    refine ⟨fun i hi => ?_, ?_, ?_, ?_, ?_, ?_⟩
    · rw [hq3, upRow _ _ (by decide), upRow _ _ (by decide), upRow _ _ (by decide), upRow _ _ (by decide), upRow _ _ (by decide), w2 i (by omega) hi]
      unfold nw0
      by_cases c : i < tnP T
      · rw [if_pos c, if_pos c]; exact x9 i c
      · rw [if_neg c, if_neg c]; rfl
    · rw [hq3, z 4 (by decide)]; simp [up2_at]; rfl
    · rw [hq3, z 5 (by decide)]; simp [up2_at]; rfl
    · rw [hq3, z 6 (by decide)]; simp [up2_at]; rfl
    · rw [hq3, z 7 (by decide)]; simp [up2_at]; rfl
    · rw [hq3, z 8 (by decide)]; simp [up2_at]; rfl
  have hpk := x_packed hnow (nw0_rng hO)
  have o3 : ∀ a, a ≠ 52 → a ≠ 53 → q3 a = I a := fun a h1 h2 => by rw [hq3, upRow _ _ h1, upRow _ _ h1, upRow _ _ h1, upRow _ _ h1, upRow _ _ h1, w4 a h2]
  refine ⟨q3, lN (pk (nw0 T)), (up2 (up2 q3 54 1 (0 : Int32)) 54 2 (0 : Int32), up2 L 55 0 (lN (pk (nw0 T)))), ?_, hpk, ?_, _, _, rfl, rfl, ?_⟩
  · unfold fX4_begin
    rw [show (0 : Int32) = nI 0 from rfl, w1, Option.bind_some, hq3]
    rfl
  · unfold fX0_begin
    rw [if_pos (by decide)]
    rfl
  · unfold fX3_forget fX10_forget fX7_forget
    simp only
    have hd : dr + 1 ≠ 66 ∧ dr + 1 ≠ 61 ∧ dr + 1 ≠ 0 ∧ dr + 1 ≠ 54 ∧ dr + 1 ≠ 52 ∧ dr + 1 ≠ 53 := by rcases ht with e | e <;> omega
    have hb : ∀ b, b ≠ 66 → b ≠ 61 → b ≠ 0 → b ≠ 54 → up2 (up2 (up2 (up2 (up2 (up2 (up2 q3 54 1 (0 : Int32)) 54 2 (0 : Int32)) 0 8 (0 : Int32)) 61 2 (0 : Int32)) 66 0 (0 : Int32)) 66 8 (0 : Int32)) 66 9 (0 : Int32) b = q3 b := fun b h1 h2 h3 h4 => by rw [upRow _ _ h1, upRow _ _ h1, upRow _ _ h1, upRow _ _ h2, upRow _ _ h3, upRow _ _ h4, upRow _ _ h4]
    refine ⟨?_, ?_, ?_, ?_, ?_, ?_, ?_, ?_, ?_, ?_, ?_, ?_, ?_, ?_, ?_⟩
    · rw [hb _ hd.1 hd.2.1 hd.2.2.1 hd.2.2.2.1, o3 _ hd.2.2.2.2.1 hd.2.2.2.2.2]
      exact hX.2.2.2.2.1
    · unfold XNow at *
      rw [hb 53 (by decide) (by decide) (by decide) (by decide), hb 52 (by decide) (by decide) (by decide) (by decide)]
      exact hnow
    · simp [up2_at]
    · simp [up2_at]
    · simp [up2_at]
    · simp [up2_at]
    · simp [up2_at]
    · simp [up2_at]
    · simp [up2_at]
    · simp [up2_at]
    · simp [up2_at]
    · intro b h1 h2 h3 h4
      rw [hb b h4 h3 h1 (by omega), o3 b (by omega) (by omega)]
    · intro j hj
      simp only [up2_at, Nat.reduceEqDiff, false_and, if_false]
      rw [if_neg (by omega), o3 0 (by decide) (by decide)]
    · simp only [up2_at, Nat.reduceEqDiff, false_and, and_false, if_false]
      rw [o3 66 (by decide) (by decide)]
    · intro b h1 h2
      rw [upRow _ _ h2, upRow _ _ h1]
theorem MTown.fr2 {I J : HI} {L M : HL} (h : MTown T I L) (hI : ∀ a, (a = 78 ∨ a = 79 ∨ (91 ≤ a ∧ a ≤ 98)) → J a = I a) (h73 : ∀ j, (j = 18 ∨ j = 21 ∨ (52 ≤ j ∧ j ≤ 58)) → J 73 j = I 73 j) (hL : M 73 44 = L 73 44) : MTown T J M := by
  unfold MTown MSize MForm at *
  rw [hI 78 (by omega), hI 79 (by omega), hI 91 (by omega), hI 92 (by omega), hI 93 (by omega), hI 94 (by omega), hI 95 (by omega), hI 96 (by omega), hI 97 (by omega), hI 98 (by omega), h73 18 (by omega), h73 21 (by omega), h73 52 (by omega), h73 53 (by omega), h73 54 (by omega), h73 55 (by omega), h73 56 (by omega), h73 57 (by omega), h73 58 (by omega), hL]
  exact h
set_option maxHeartbeats 4000000 in
theorem c_quarter (h : Inv T q st a u I L) (hd : isQ2 dr) (hne : dr ≠ q) (tl ff : Nat) : ∃ r q' d' t' f' I1 L1 I2 L2 T' st' a' u', fX11_quarter q dr q tl ff I L = some (r, q', d', q', t', f', I1, L1) ∧ isQ2 q' ∧ isQ2 d' ∧ d' ≠ q' ∧ isQ2 t' ∧ fX12_quarter I1 L1 = some (r, I2, L2) ∧ Inv T' q' st' a' u' I2 L2 := by
  obtain ⟨h1, h2, h3, h4, h5, h6, h7, h8, h9, h10, h11, h12, h13⟩ := h
  obtain ⟨n, n1, n2, n3, n4⟩ := h8
  have hB' : ∀ i, ∃ b, i < n → b < 256 ∧ I 1 i = sB b ∧ I 74 i = nI b := by
    intro i
    by_cases c : i < n
    · obtain ⟨b, e1, e2, e3⟩ := n4 i c
      exact ⟨b, fun _ => ⟨e1, e2, e3⟩⟩
    · exact ⟨0, fun g => absurd g c⟩
  obtain ⟨B, hB⟩ := Classical.axiomOfChoice hB'
  have hBx : ∀ i, i < n → B i < 256 ∧ I 1 i = sB (B i) := fun i hi => ⟨(hB i hi).1, (hB i hi).2.1⟩
  have hBm : ∀ i, i < n → B i < 256 ∧ I 74 i = nI (B i) := fun i hi => ⟨(hB i hi).1, (hB i hi).2.2⟩
  obtain ⟨ok, z, I', L', _, _, a1, _, a3, _, _, a6, a7⟩ := q_sim (M := L) hd n1 hBx h13 hBm n3 tl ff
  have dq : ∀ x, q ≤ x → x ≤ q + 22 → x < 48 ∧ ¬ (dr ≤ x ∧ x ≤ dr + 22) := fun x x1 x2 => by
    rcases hd with e | e <;> rcases h2 with g | g <;> omega
  have d48 : dr + 22 < 48 ∧ 2 ≤ dr := by rcases hd with e | e <;> omega
  have kI : ∀ x, x < 2 ∨ 50 ≤ x → I' x = I x := fun x hx => a3.1 x (by omega) (by omega) (by omega)
  have kL : ∀ x, x < 2 ∨ x = 48 ∨ 50 ≤ x → L' x = L x := fun x hx => a3.2 x (by omega) (by omega)
  cases ok with
  | false =>
    obtain ⟨Ic, hIc⟩ : ∃ y : HI, y = up2 I' 0 1 (0 : Int32) := ⟨_, rfl⟩
    have oc : ∀ x, x ≠ 0 → Ic x = I' x := fun x hx => by rw [hIc, upRow _ _ hx]
    obtain ⟨ok2, z2, I2', L2', J', M', b1, b2, _, b4, b5, _, b7⟩ := q_sim (J := Ic) (M := L') hd n1 hBx h13 (by rw [oc 74 (by decide), kI 74 (by decide)]; exact hBm) (by rw [oc 73 (by decide), kI 73 (by decide)]; exact n3) tl ff
    rw [a1] at b1
    cases b1
    have hbd := b7 rfl
    have eX : fX11_quarter q dr q tl ff I L = some ((-1 : Int32), q, dr, q, dr, z, Ic, L') := by
      unfold fX11_quarter
      rw [n2, a1, Option.bind_some]
      simp only
      rw [if_pos (by decide), hIc]
    have eM : fX12_quarter Ic L' = some ((-1 : Int32), J', M') := by
      unfold fX12_quarter
      rw [b2, Option.bind_some]
      simp only
      rw [if_neg hbd.m.1]
    have jI : ∀ x, (2 ≤ x ∧ x < 48 ∨ 50 ≤ x) → ¬ (dr ≤ x ∧ x ≤ dr + 22) → ¬ wkM x → J' x = I x := fun x x1 x2 x3 => by rw [b4.1 x x3, oc x (by omega), a3.1 x (by omega) (by omega) x2]
    have jI50 : ∀ x, 50 ≤ x → ¬ wkM x → J' x = I x := fun x x1 x3 => jI x (by omega) (by omega) x3
    have j73 : ∀ j, j = 18 ∨ j = 21 ∨ (52 ≤ j ∧ j ≤ 58) ∨ 63 ≤ j → J' 73 j = I 73 j := fun j hj => by rw [b4.2.1 j (by omega), oc 73 (by decide), kI 73 (by decide)]
    have mL : ∀ x, x < 48 ∨ (50 ≤ x ∧ x ≠ 73 ∧ x ≠ 75) → ¬ (dr ≤ x ∧ x ≤ dr + 22) → M' x = L x := fun x x1 x2 => by rw [b4.2.2.1 x (by omega) (by omega), a3.2 x (by omega) x2]
    have mL50 : ∀ x, (50 ≤ x ∧ x ≠ 73 ∧ x ≠ 75) → M' x = L x := fun x x1 => mL x (by omega) (by omega)
    have j0 : ∀ j, j ≠ 1 → J' 0 j = I 0 j := fun j hj => by rw [b4.1 0 (by unfold wkM; omega), hIc, up2_at, if_neg (by omega), kI 0 (by decide)]
    refine ⟨_, q, dr, dr, z, Ic, L', J', M', T, st, a, u, eX, h2, hd, hne, hd, eM, h1, h2, ?_, ?_, ?_, h6, ?_, ?_, ?_, ?_, ?_, ?_, ?_⟩
    · refine h3.fr (fun x x1 x2 => ?_) ⟨?_, ?_⟩
      · obtain ⟨y1, y2⟩ := dq x x1 (by omega)
        exact jI x (by rcases h2 with e | e <;> omega) y2 (by unfold wkM; omega)
      · obtain ⟨y1, y2⟩ := dq q (by omega) (by omega)
        exact mL q (by omega) y2
      · obtain ⟨y1, y2⟩ := dq (q + 22) (by omega) (by omega)
        exact mL (q + 22) (by omega) y2
    · refine h4.fr2 (fun x hx => jI50 x (by omega) (by unfold wkM; omega)) (fun j hj => j73 j (by omega)) ?_
      rw [b4.2.2.2 44 (by decide) (by omega), kL 73 (by omega)]
    · exact h5.fr (jI50 52 (by decide) (by unfold wkM; omega)) (jI50 53 (by decide) (by unfold wkM; omega)) (jI50 54 (by decide) (by unfold wkM; omega)) (jI50 99 (by decide) (by unfold wkM; omega)) (jI50 102 (by decide) (by unfold wkM; omega)) (j73 73 (by omega)) (j73 74 (by omega)) (mL50 55 (by omega))
    · exact h7.fr (jI50 57 (by decide) (by unfold wkM; omega)) (jI50 59 (by decide) (by unfold wkM; omega)) (mL50 57 (by omega)) (mL50 58 (by omega))
    · refine ⟨0, by decide, ?_, b5, fun i hi => absurd hi (Nat.not_lt_zero i)⟩
      rw [b4.1 0 (by unfold wkM; omega), hIc, up2_eq]; rfl
    · obtain ⟨f, pl, _, _, _, g1, g2, g3, g4⟩ := hbd
      refine ⟨?_, ?_⟩
      · rw [b4.1 48 (by unfold wkM; omega), oc 48 (by decide), g1, g3]
      · rw [b4.1 48 (by unfold wkM; omega), oc 48 (by decide), g2, g4]
    · exact h10.fr (j0 8 (by decide)) (jI50 114 (by decide) (by unfold wkM; omega)) (jI50 115 (by decide) (by unfold wkM; omega)) (mL50 56 (by omega))
    · exact h11.fr (by rw [jI50 61 (by decide) (by unfold wkM; omega)]) (jI50 62 (by decide) (by unfold wkM; omega)) (jI50 103 (by decide) (by unfold wkM; omega)) (j73 76 (by omega))
    · exact h12.fr (fun j _ => by rw [jI50 66 (by decide) (by unfold wkM; omega)]) (fun x x1 x2 => jI50 x (by omega) (by unfold wkM; omega)) (fun x x1 x2 => jI50 x (by omega) (by unfold wkM; omega)) (j73 86 (by omega)) (j73 87 (by omega))
    · intro i hi
      rw [mL50 50 (by omega)]
      exact h13 i hi
  | true =>
    obtain ⟨T1, N1, s1, u1, u2, _⟩ := a6 rfl
    have x21 : XTown T1 dr (up2 I' 0 1 (0 : Int32)) L' := u2.fr (fun x x1 x2 => upRow _ _ (by omega)) ⟨rfl, rfl⟩
    obtain ⟨q3, q4, q5, v1, v2, v3, Ie, Le, v4, v5, v6, v7, v8, v9, v10, v11, v12, v13, v14, v15, v16, v17, v18, v19, v20⟩ := x_enter (q := q) hd u1 x21
    have oe : ∀ x, x ≠ 0 → ¬ (52 ≤ x ∧ x ≤ 54) → x ≠ 61 → x ≠ 66 → Ie x = I' x := fun x x1 x2 x3 x4 => by rw [v17 x x1 x2 x3 x4, upRow _ _ x1]
    have eX : fX11_quarter q dr q tl ff I L = some (nI (tnD T1), dr, q, dr, dr, z, Ie, Le) := by
      unfold fX11_quarter
      rw [n2, a1, Option.bind_some]
      simp only
      rw [if_neg (show ¬ b2i true = 0 by decide), v1, Option.bind_some, v2, Option.bind_some, v3, Option.bind_some]
      simp only [obn_eq]
      rw [← v4, ← v5, v6]
    obtain ⟨ok2, z2, I2', L2', J', M', b1, b2, _, b4, b5, b6, _⟩ := q_sim (J := Ie) (M := Le) hd n1 hBx h13 (by rw [oe 74 (by decide) (by decide) (by decide) (by decide), kI 74 (by decide)]; exact hBm) (by rw [oe 73 (by decide) (by decide) (by decide) (by decide), kI 73 (by decide)]; exact n3) tl ff
    rw [a1] at b1
    cases b1
    obtain ⟨T2, N2, s2, p1, p2, p3, p4, p5, p6, p7, p8, p9⟩ := b6 rfl
    have x22 : XTown T2 dr (up2 I' 0 1 (0 : Int32)) L' := p2.fr (fun x x1 x2 => upRow _ _ (by omega)) ⟨rfl, rfl⟩
    obtain ⟨q3', q4', q5', v1', v2', v3', Ie', Le', v4', v5', w6, w7, w8, w9, w10, w11, w12, w13, w14, w15, w16, w17, w18, w19, w20⟩ := x_enter (q := q) hd p1 x22
    rw [v1] at v1'
    cases v1'
    rw [v2] at v2'
    cases v2'
    rw [v3] at v3'
    cases v3'
    rw [← v4] at v4'
    rw [← v5] at v5'
    subst v4' v5'
    obtain ⟨J2, r1, r2, r3, r4, r5, r6, r7, r8, r9, r10⟩ := m_qtail p1 p3 p6 p8 p9 b2
    have et : nI (tnD T1) = nI (tnD T2) := by rw [← v6, w6]
    rw [et] at eX
    have jI : ∀ x, ¬ wkM x → x ≠ 78 → x ≠ 79 → ¬ (91 ≤ x ∧ x ≤ 99) → x ≠ 114 → J2 x = Ie' x := fun x x1 x2 x3 x4 x5 => by rw [r9 x (fun e => x1 (Or.inl e)) x2 x3 x4 x5, b4.1 x x1]
    have mL : ∀ x, x ≠ 73 → x ≠ 75 → up2 M' 73 44 (M' 73 41) x = Le' x := fun x x1 x2 => by rw [upRow _ _ x1, b4.2.2.1 x x1 x2]
    have j66 : ∀ x, 67 ≤ x ∧ x ≤ 70 ∨ x = 57 ∨ x = 59 → J2 x = I x := fun x hx => by rw [jI x (by unfold wkM; omega) (by omega) (by omega) (by omega) (by omega), oe x (by omega) (by omega) (by omega) (by omega), kI x (by omega)]
    have hst0 : ∀ i, i ≤ 0 + 0 → (fun _ : Nat => nw0 T2) i = nw0 T2 := fun _ _ => rfl
    refine ⟨nI (tnD T2), dr, q, dr, z, Ie', Le', J2, up2 M' 73 44 (M' 73 41), T2, fun _ => nw0 T2, 0, 0, eX, hd, h2, fun e => hne e.symm, hd, r1, p1, hd, ?_, r2, ⟨⟨by decide, ?_, ?_, ?_⟩, ⟨r4, r5, fun i hi => absurd hi (Nat.not_lt_zero i), fun i hi => absurd hi (Nat.not_lt_zero i)⟩, ?_, r3⟩, ?_, ?_, ?_, ?_, ?_, ?_, ?_, ?_⟩
    · refine p2.fr (fun x x1 x2 => ?_) ⟨?_, ?_⟩
      · rw [jI x (by unfold wkM; omega) (by omega) (by omega) (by omega) (by omega), oe x (by omega) (by omega) (by omega) (by omega)]
      · rw [mL dr (by omega) (by omega), w20 dr (by omega) (by omega)]
      · rw [mL (dr + 22) (by omega) (by omega), w20 (dr + 22) (by omega) (by omega)]
    · rw [jI 54 (by unfold wkM; omega) (by decide) (by decide) (by decide) (by decide), w8]; rfl
    · rw [jI 54 (by unfold wkM; omega) (by decide) (by decide) (by decide) (by decide), w9]; rfl
    · intro i hi
      have hi0 : i = 0 := by omega
      rw [hi0, mL 55 (by decide) (by decide), w10]
      exact ⟨rfl, nw0_rng p1⟩
    · unfold XNow at *
      rw [jI 53 (by unfold wkM; omega) (by decide) (by decide) (by decide) (by decide), jI 52 (by unfold wkM; omega) (by decide) (by decide) (by decide) (by decide)]
      exact w7
    · intro i hi p hp
      show grd T2 (nw0 T2 p)
      unfold nw0
      rw [if_pos hp]
      exact p1.2.2.2.2.2.2.2.2.1 p hp
    · obtain ⟨s, S, O, Bu, K, ⟨e1, e2, e3, e4, e5, _⟩, e7, e8, e9⟩ := h7
      refine ⟨s, S, O, Bu, K, ⟨?_, ?_, ?_, ?_, ?_, ?_⟩, e7, e8, e9⟩
      · rw [j66 57 (by omega)]; exact e1
      · rw [j66 57 (by omega)]; exact e2
      · rw [j66 57 (by omega)]; exact e3
      · rw [j66 57 (by omega)]; exact e4
      · rw [j66 57 (by omega)]; exact e5
      · intro m hm hbit
        rw [mL 57 (by decide) (by decide), w12, hb_0] at hbit
        cases hbit
    · refine ⟨0, by decide, ?_, ?_, fun i hi => absurd hi (Nat.not_lt_zero i)⟩
      · rw [jI 0 (by unfold wkM; omega) (by decide) (by decide) (by decide) (by decide), w18 1 (by decide), up2_eq]; rfl
      · rw [r10 1 (by omega)]; exact b5
    · refine ⟨?_, ?_⟩
      · rw [jI 48 (by unfold wkM; omega) (by decide) (by decide) (by decide) (by decide), oe 48 (by decide) (by decide) (by decide) (by decide), p4, r10 2 (by omega), p6]
      · rw [jI 48 (by unfold wkM; omega) (by decide) (by decide) (by decide) (by decide), oe 48 (by decide) (by decide) (by decide) (by decide), p5, r10 3 (by omega), p7]
    · refine ⟨fun _ _ => 0, 0, by decide, ?_, fun b hb' => ⟨?_, fun g => ?_⟩⟩
      · rw [jI 0 (by unfold wkM; omega) (by decide) (by decide) (by decide) (by decide), w11]; rfl
      · rw [r8 b hb', Nat.zero_testBit]
      · rw [Nat.zero_testBit] at g; cases g
    · refine ⟨0, by decide, ?_, r7, fun i hi => absurd hi (Nat.not_lt_zero i)⟩
      rw [jI 61 (by unfold wkM; omega) (by decide) (by decide) (by decide) (by decide), w13]; rfl
    · obtain ⟨lk, m, t, l1, l2, l3, l4, l5, l6, l7, l8⟩ := h12
      have r66 : ∀ j, J2 66 j = Ie' 66 j := fun j => by rw [jI 66 (by unfold wkM; omega) (by decide) (by decide) (by decide) (by decide)]
      refine ⟨lk, 0, t, by decide, l2, ?_, r6, ?_, ?_, fun i hi => absurd hi (Nat.not_lt_zero i), fun i _ _ => ?_⟩
      · rw [r66, w14]; rfl
      · rw [r66, w19, upRow _ _ (by decide), kI 66 (by decide)]; exact l5
      · rw [r10 87 (by omega), b4.2.1 87 (by omega), oe 73 (by decide) (by decide) (by decide) (by decide), kI 73 (by decide)]; exact l6
      · rw [r66, r66, w15, w16, b_0]; exact ⟨rfl, rfl⟩
    · intro i hi
      rw [mL 50 (by decide) (by decide), w20 50 (by decide) (by decide), kL 50 (by omega)]
      exact h13 i hi
end QTR
