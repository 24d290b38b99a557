theorem x_crL {T : Nat → Nat → Nat} {q n hr dt S O B d : Nat} {K : Bool} {I : HI} {L : HL} {y : Int32} (hO : TOk T) (hq : isQ2 q) (hX : XTown T q I L) (hn : n ≤ 48) (hN : SkyN T hr dt O B K n (tnD T) I L) (hy : ∀ d, d < tnD T → bt y d = opnA T hr S d) (hd : d < tnD T) : ∀ (m e fu : Nat) (s : Int64), e + m = tnD T → m < fu → ∃ r, fX7_crossed_6 q fu (L 58 (8 * n + d)) (nI n) y s (nI e) I L = some r ∧ ∀ c, c < 64 → (hb r c = true ↔ (hb s c = true ∨ ∃ f, e ≤ f ∧ f < tnD T ∧ opnA T hr S f = true ∧ crsA T hr dt O B K d f ∧ c = T 2 f)) := by
  have h8 := hO.2.1
  obtain ⟨c1, _, _⟩ := cap1 hq
  intro m
  induction m with
  | zero =>
    intro e fu s he hf
    obtain ⟨f, rfl⟩ : ∃ f, fu = f + 1 := ⟨fu - 1, by omega⟩
    rw [fX7_crossed_6, hX.2.2.2.2.1, if_pos (nI_le (by omega) (by omega))]
    refine ⟨s, rfl, fun c _ => ⟨Or.inl, ?_⟩⟩
    rintro (h | ⟨k, h1, h2, _⟩)
    · exact h
    · omega
  | succ m ih =>
    intro e fu s he hf
    obtain ⟨f, rfl⟩ : ∃ f, fu = f + 1 := ⟨fu - 1, by omega⟩
    have he4 : e < tnD T := by omega
    have k64 : T 2 e < 64 := Nat.lt_of_lt_of_le (hO.2.2.2.2.2.2.1 e he4).1.1 (tC_le hO.1)
    have stp : ∀ c, (∃ f, e ≤ f ∧ f < tnD T ∧ opnA T hr S f = true ∧ crsA T hr dt O B K d f ∧ c = T 2 f) ↔ ((opnA T hr S e = true ∧ crsA T hr dt O B K d e ∧ c = T 2 e) ∨ ∃ f, e + 1 ≤ f ∧ f < tnD T ∧ opnA T hr S f = true ∧ crsA T hr dt O B K d f ∧ c = T 2 f) := by
      intro c
      constructor
      · rintro ⟨k, h1, h2, h3⟩
        by_cases hk : k = e
        · subst hk; exact Or.inl h3
        · exact Or.inr ⟨k, by omega, h2, h3⟩
      · rintro (h | ⟨k, h1, h2, h3⟩)
        · exact ⟨e, Nat.le_refl _, he4, h⟩
        · exact ⟨k, by omega, h2, h3⟩
    have hcr : (L 58 (8 * n + d) &&& L 58 (8 * n + e) = 0) ↔ ¬ crsA T hr dt O B K d e := by
      rw [and_ne0]
      constructor
      · rintro h ⟨x, h1, h2, h3⟩; exact h ⟨x, h1, (hN.1 d hd x h1).mpr h3, (hN.1 e he4 x h1).mpr h2⟩
      · rintro h ⟨x, h1, h2, h3⟩; exact h ⟨x, h1, (hN.1 e he4 x h1).mp h3, (hN.1 d hd x h1).mp h2⟩
    have skip : ¬ (opnA T hr S e = true ∧ crsA T hr dt O B K d e) → ∃ r, fX7_crossed_6 q f (L 58 (8 * n + d)) (nI n) y s (nI (e + 1)) I L = some r ∧ ∀ c, c < 64 → (hb r c = true ↔ (hb s c = true ∨ ∃ f, e ≤ f ∧ f < tnD T ∧ opnA T hr S f = true ∧ crsA T hr dt O B K d f ∧ c = T 2 f)) := by
      intro hno
      obtain ⟨r, e1, hr'⟩ := ih (e + 1) f s (by omega) (by omega)
      refine ⟨r, e1, fun c hc => ?_⟩
      rw [hr' c hc, stp c]
      constructor
      · rintro (h | h)
        · exact Or.inl h
        · exact Or.inr (Or.inr h)
      · rintro (h | h | h)
        · exact Or.inl h
        · exact absurd ⟨h.1, h.2.1⟩ hno
        · exact Or.inr h
    have ix : nI n * (8 : Int32) + nI e = nI (8 * n + e) := by
      rw [show (8 : Int32) = nI 8 from rfl, pk_mul, nI_add, Nat.mul_comm]
    rw [fX7_crossed_6, hX.2.2.2.2.1, if_neg (nI_ge he4 (by omega)), isBit_bt _ (by omega), hy e he4, nI_1, ix, if_pos (inb_nI (by omega) (by decide)), clamp_nI (show 8 * n + e < 2 ^ 31 by omega), c1, if_pos (inb_nI (show e < 8 by omega) (by decide)), clamp_nI (show e < 2 ^ 31 by omega), show I (q + 1 + 2) e = nI (T 2 e) from (hX.2.2.2.2.2.1 e he4).1]
    simp only [b2i_eq0]
    cases hop : opnA T hr S e with
    | false =>
      rw [if_pos rfl]
      simp only [Option.bind_some]
      rw [if_pos trivial]
      exact skip (fun h => by rw [hop] at h; exact absurd h.1 (by decide))
    | true =>
      rw [if_neg (by decide)]
      by_cases hc : crsA T hr dt O B K d e
      · rw [if_neg (fun h => (hcr.mp h) hc)]
        simp only [Option.bind_some]
        rw [if_neg (by decide)]
        obtain ⟨r, e1, hr'⟩ := ih (e + 1) f (s ||| (1 : Int64) <<< ((nI (T 2 e)).toInt64 &&& 63)) (by omega) (by omega)
        refine ⟨r, e1, fun c h64 => ?_⟩
        rw [hr' c h64, stp c, hb_or, Bool.or_eq_true, hb_one k64 c h64, decide_eq_true_eq, hop]
        constructor
        · rintro ((h | h) | h)
          · exact Or.inl h
          · exact Or.inr (Or.inl ⟨rfl, hc, h⟩)
          · exact Or.inr (Or.inr h)
        · rintro (h | h | h)
          · exact Or.inl (Or.inl h)
          · exact Or.inl (Or.inr h.2.2)
          · exact Or.inr h
      · rw [if_pos (hcr.mpr hc)]
        simp only [Option.bind_some]
        rw [if_pos trivial]
        exact skip (fun h => hc h.2)
/-- what a door gives to a set -/
def dst (T : Nat → Nat → Nat) (hr dt S O B : Nat) (K : Bool) (P : Nat → Prop) (k e : Nat) : Prop := opnA T hr S k = true ∧ (((∃ x, x < 64 ∧ P x ∧ shdA T hr dt O B K k x) ∧ e = T 2 k) ∨ (P (T 2 k) ∧ (shdA T hr dt O B K k e ∨ ∃ f, f < tnD T ∧ opnA T hr S f = true ∧ crsA T hr dt O B K k f ∧ e = T 2 f)))
theorem x_stL {T : Nat → Nat → Nat} {q n hr dt S O B : Nat} {K : Bool} {I : HI} {L : HL} {y : Int32} {set : Int64} (hO : TOk T) (hq : isQ2 q) (hX : XTown T q I L) (hn : n ≤ 48) (hN : SkyN T hr dt O B K n (tnD T) I L) (hy : ∀ d, d < tnD T → bt y d = opnA T hr S d) : ∀ (m d fu : Nat) (s : Int64), d + m = tnD T → m < fu → ∃ r, fX7_stepFrom_38 q fu set (nI n) y s (nI d) I L = some r ∧ ∀ c, c < 64 → (hb r c = true ↔ (hb s c = true ∨ ∃ k, d ≤ k ∧ k < tnD T ∧ dst T hr dt S O B K (fun x => hb set x = true) k c)) := by
  have h8 := hO.2.1
  obtain ⟨c1, _, _⟩ := cap1 hq
  obtain ⟨mf, hmf⟩ := fuel_at 1000 (by decide)
  intro m
  induction m with
  | zero =>
    intro d fu s hd hf
    obtain ⟨f, rfl⟩ : ∃ f, fu = f + 1 := ⟨fu - 1, by omega⟩
    rw [fX7_stepFrom_38, hX.2.2.2.2.1, if_pos (nI_le (by omega) (by omega))]
    refine ⟨s, rfl, fun c _ => ⟨Or.inl, ?_⟩⟩
    rintro (h | ⟨k, h1, h2, _⟩)
    · exact h
    · omega
  | succ m ih =>
    intro d fu s hd hf
    obtain ⟨f, rfl⟩ : ∃ f, fu = f + 1 := ⟨fu - 1, by omega⟩
    have hd4 : d < tnD T := by omega
    have k64 : T 2 d < 64 := Nat.lt_of_lt_of_le (hO.2.2.2.2.2.2.1 d hd4).1.1 (tC_le hO.1)
    have stp : ∀ c, (∃ k, d ≤ k ∧ k < tnD T ∧ dst T hr dt S O B K (fun x => hb set x = true) k c) ↔ (dst T hr dt S O B K (fun x => hb set x = true) d c ∨ ∃ k, d + 1 ≤ k ∧ k < tnD T ∧ dst T hr dt S O B K (fun x => hb set x = true) k c) := by
      intro c
      constructor
      · rintro ⟨k, h1, h2, h3⟩
        by_cases hk : k = d
        · subst hk; exact Or.inl h3
        · exact Or.inr ⟨k, by omega, h2, h3⟩
      · rintro (h | ⟨k, h1, h2, h3⟩)
        · exact ⟨d, Nat.le_refl _, hd4, h⟩
        · exact ⟨k, by omega, h2, h3⟩
    have go : ∀ s' : Int64, (∀ c, c < 64 → (hb s' c = true ↔ (hb s c = true ∨ dst T hr dt S O B K (fun x => hb set x = true) d c))) → ∃ r, fX7_stepFrom_38 q f set (nI n) y s' (nI (d + 1)) I L = some r ∧ ∀ c, c < 64 → (hb r c = true ↔ (hb s c = true ∨ ∃ k, d ≤ k ∧ k < tnD T ∧ dst T hr dt S O B K (fun x => hb set x = true) k c)) := by
      intro s' h'
      obtain ⟨r, e1, hr'⟩ := ih (d + 1) f s' (by omega) (by omega)
      refine ⟨r, e1, fun c h64 => ?_⟩
      rw [hr' c h64, stp c, h' c h64]
      exact or_assoc
    have ix : nI n * (8 : Int32) + nI d = nI (8 * n + d) := by
      rw [show (8 : Int32) = nI 8 from rfl, pk_mul, nI_add, Nat.mul_comm]
    rw [fX7_stepFrom_38, hX.2.2.2.2.1, if_neg (nI_ge hd4 (by omega)), isBit_bt _ (by omega), hy d hd4, nI_1, ix, if_pos (inb_nI (by omega) (by decide)), clamp_nI (show 8 * n + d < 2 ^ 31 by omega), c1, if_pos (inb_nI (show d < 8 by omega) (by decide)), clamp_nI (show d < 2 ^ 31 by omega), show I (q + 1 + 2) d = nI (T 2 d) from (hX.2.2.2.2.2.1 d hd4).1]
    simp only [b2i_eq0, ushr1_0 _ k64]
    cases hop : opnA T hr S d with
    | false =>
      rw [if_pos rfl]
      refine go s (fun c _ => ⟨Or.inl, ?_⟩)
      rintro (h | h)
      · exact h
      · have := h.1; rw [hop] at this; cases this
    | true =>
      rw [if_neg (by decide)]
      have hq : ∃ q7, (if set &&& L 58 (8 * n + d) = 0 then some s else some (s ||| (1 : Int64) <<< ((nI (T 2 d)).toInt64 &&& 63))) = some q7 ∧ ∀ c, c < 64 → (hb q7 c = true ↔ (hb s c = true ∨ ((∃ x, x < 64 ∧ hb set x = true ∧ shdA T hr dt O B K d x) ∧ c = T 2 d))) := by
        by_cases hz : set &&& L 58 (8 * n + d) = 0
        · refine ⟨s, by rw [if_pos hz], fun c _ => ⟨Or.inl, ?_⟩⟩
          rintro (h | ⟨⟨x, h1, h2, h3⟩, _⟩)
          · exact h
          · exact absurd ⟨x, h1, h2, (hN.1 d hd4 x h1).mpr h3⟩ (and_ne0.mp hz)
        · refine ⟨_, by rw [if_neg hz], fun c h64 => ?_⟩
          rw [hb_or, Bool.or_eq_true, hb_one k64 c h64, decide_eq_true_eq]
          constructor
          · rintro (h | h)
            · exact Or.inl h
            · refine Or.inr ⟨?_, h⟩
              apply Classical.byContradiction
              intro hh
              apply hz
              rw [and_ne0]
              rintro ⟨x, h1, h2, h3⟩
              exact hh ⟨x, h1, h2, (hN.1 d hd4 x h1).mp h3⟩
          · rintro (h | h)
            · exact Or.inl h
            · exact Or.inr h.2
      obtain ⟨q7, eq7, hq7⟩ := hq
      rw [eq7]
      simp only [Option.bind_some]
      cases hset : hb set (T 2 d) with
      | false =>
        rw [if_pos rfl]
        refine go q7 (fun c h64 => ?_)
        rw [hq7 c h64]
        unfold dst
        constructor
        · rintro (h | h)
          · exact Or.inl h
          · exact Or.inr ⟨hop, Or.inl h⟩
        · rintro (h | ⟨_, h | ⟨h, _⟩⟩)
          · exact Or.inl h
          · exact Or.inr h
          · rw [hset] at h; cases h
      | true =>
        rw [if_neg (by decide)]
        obtain ⟨r8, e8, h8'⟩ := x_crL hO hq hX hn hN hy hd4 (tnD T) 0 FUEL 0 (by omega) (by omega)
        unfold fX7_crossed
        rw [show (0 : Int32) = nI 0 from rfl, e8]
        simp only [Option.bind_some]
        refine go _ (fun c h64 => ?_)
        rw [hb_or, hb_or, Bool.or_eq_true, Bool.or_eq_true, hq7 c h64, hN.1 d hd4 c h64, h8' c h64, hb_0]
        unfold dst
        constructor
        · rintro ((h | h) | h | h | ⟨f, _, h2, h3, h4, h5⟩)
          · exact Or.inl h
          · exact Or.inr ⟨hop, Or.inl h⟩
          · exact Or.inr ⟨hop, Or.inr ⟨hset, Or.inl h⟩⟩
          · cases h
          · exact Or.inr ⟨hop, Or.inr ⟨hset, Or.inr ⟨f, h2, h3, h4, h5⟩⟩⟩
        · rintro (h | ⟨_, h | ⟨_, h | ⟨f, h2, h3, h4, h5⟩⟩⟩)
          · exact Or.inl (Or.inl h)
          · exact Or.inl (Or.inr h)
          · exact Or.inr (Or.inl h)
          · exact Or.inr (Or.inr (Or.inr ⟨f, Nat.zero_le _, h2, h3, h4, h5⟩))
theorem nbr_lt {T : Nat → Nat → Nat} {c e : Nat} (h : nbr T c e = true) : e < tC T := by
  unfold nbr ray at h
  simp only [Bool.or_eq_true, Bool.and_eq_true, decide_eq_true_eq] at h
  rcases h with ((h | h) | h) | h <;> exact h.1
theorem x_stepFrom {T : Nat → Nat → Nat} {q n s S S2 O B : Nat} {K : Bool} {I : HI} {L : HL} {set : Int64} (hO : TOk T) (hq : isQ2 q) (hX : XTown T q I L) (hs : s < 10000) (hn : n ≤ 48) (hS : SkyAt T s S O B K I L) (hset : ∀ c, hb set c = true → grd T c) : ∃ r I' L', fX7_stepFrom q set (nI n) (nI S2) I L = some (r, I', L') ∧ (∀ e, e < 64 → (hb r e = true ↔ stA T ((s + n) % 24) ((s + n) / 24) (S ||| S2) O B K (fun c => hb set c = true) e)) ∧ FX q I I' L L' ∧ SkyAt T s S O B K I' L' ∧ I' 57 = I 57 := by
  obtain ⟨mf, hmf⟩ := fuel_at 1000 (by decide)
  have h8 := hO.2.1
  obtain ⟨I1, L1, e1, f1, s1, n1, i57⟩ := x_prepare hO hq hX hs hn hS
  have hX1 := hX.fx hq f1
  unfold fX7_stepFrom
  rw [e1]
  simp only [Option.bind_some]
  rw [if_pos (inb_nI (by omega) (by decide)), clamp_nI (by omega)]
  have hy : ∀ d, d < tnD T → bt (I1 59 n &&& (I1 57 2 ^^^ -1) &&& (nI S2 ^^^ -1)) d = opnA T ((s + n) % 24) (S ||| S2) d := by
    intro d hd
    rw [b_and, b_and, b_not _ (by omega), b_not _ (by omega), s1.2.1, bt_nI d (by omega), bt_nI d (by omega), n1.2 d (by omega)]
    unfold opnA
    rw [Nat.testBit_or, Bool.not_or, Bool.and_assoc]
    congr 1
    rw [decide_eq_decide]
    exact ⟨fun h => h.2, fun h => ⟨hd, h⟩⟩
  obtain ⟨r, e, hr⟩ := x_stL (set := set) hO hq hX1 hn n1 hy (tnD T) 0 FUEL (fX5_spread q set I1 L1) (by omega) (by omega)
  rw [show (0 : Int32) = nI 0 from rfl, e]
  refine ⟨r, I1, L1, rfl, fun c hc => ?_, f1, s1, i57⟩
  rw [hr c hc, x_spread hO.1 hX1.1 hX1.2.1.2 hX1.2.2.1 (fun c h => (hset c h).1) c hc]
  unfold stA mvA dst
  constructor
  · rintro (⟨⟨x, h1, h2 | h2⟩, h3⟩ | ⟨k, _, h2, h3, ⟨⟨x, _, h5, h6⟩, h7⟩ | ⟨h4, h5 | h5⟩⟩)
    · exact ⟨x, h1, hset x h1, Or.inl (Or.inl h2)⟩
    · exact ⟨x, h1, hset x h1, Or.inl (Or.inr ⟨h2, h3.2⟩)⟩
    · exact ⟨x, h5, hset x h5, Or.inr ⟨k, h2, h3, Or.inl ⟨h6, h7⟩⟩⟩
    · exact ⟨T 2 k, h4, hset _ h4, Or.inr ⟨k, h2, h3, Or.inr ⟨rfl, Or.inl h5⟩⟩⟩
    · exact ⟨T 2 k, h4, hset _ h4, Or.inr ⟨k, h2, h3, Or.inr ⟨rfl, Or.inr h5⟩⟩⟩
  · rintro ⟨x, h1, h2, (h3 | ⟨h3, h4⟩) | ⟨k, h3, h4, ⟨h5, h6⟩ | ⟨h5, h6⟩⟩⟩
    · subst h3; exact Or.inl ⟨⟨x, h1, Or.inl rfl⟩, h2⟩
    · exact Or.inl ⟨⟨x, h1, Or.inr h3⟩, nbr_lt h3, h4⟩
    · exact Or.inr ⟨k, Nat.zero_le _, h3, h4, Or.inl ⟨⟨x, Nat.lt_of_lt_of_le h2.1 (tC_le hO.1), h1, h5⟩, h6⟩⟩
    · subst h5; exact Or.inr ⟨k, Nat.zero_le _, h3, h4, Or.inr ⟨h1, h6⟩⟩
