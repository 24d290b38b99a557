/-! the reference lays shadows and moves -/
def MShd (T : Nat → Nat → Nat) (hr dt O B : Nat) (K : Bool) (n : Nat) (L : HL) : Prop := ∀ d, d < n → ∀ c, c < 64 → (hb (L 100 d) c = true ↔ shdA T hr dt O B K d c)
theorem upRow {α : Type} (F : Nat → Nat → α) {k i : Nat} (v : α) {a : Nat} (h : a ≠ k) : up2 F k i v a = F a := by
  funext j
  rw [up2_at, if_neg (fun hh => h hh.1)]
theorem m_layShL {T : Nat → Nat → Nat} {hr dt S O B : Nat} {K : Bool} (hO : TOk T) (hh : hr < 24) (hO2 : O < 2 ^ 31) (hB : B < 2 ^ 31) : ∀ (m d fu : Nat) (I : HI) (L : HL), d + m = tnD T → m < fu → MTown T I L → MAim hr dt S O B K I → MShd T hr dt O B K d L → ∃ I' L', fX12_layShadows_2 fu (nI d) I L = some (I', L') ∧ (∀ a, a ≠ 81 → a ≠ 82 → I' a = I a) ∧ (∀ a, a ≠ 100 → L' a = L a) ∧ MShd T hr dt O B K (tnD T) L' := by
  have h8 := hO.2.1
  intro m
  induction m with
  | zero =>
    intro d fu I L hd hf hM hA hS
    obtain ⟨f, rfl⟩ : ∃ f, fu = f + 1 := ⟨fu - 1, by omega⟩
    rw [fX12_layShadows_2, hM.2.2.1, if_pos (nI_le (by omega) (by omega))]
    rw [show d = tnD T by omega] at hS
    exact ⟨I, L, rfl, fun _ _ _ => rfl, fun _ _ => rfl, hS⟩
  | succ m ih =>
    intro d fu I L hd hf hM hA hS
    obtain ⟨f, rfl⟩ : ∃ f, fu = f + 1 := ⟨fu - 1, by omega⟩
    have hd4 : d < tnD T := by omega
    obtain ⟨r, I1, e1, h1, f1⟩ := m_shadowOf hO hM hA hd4 hh hO2 hB
    rw [fX12_layShadows_2, hM.2.2.1, if_neg (nI_ge hd4 (by omega)), e1]
    simp only [Option.bind_some]
    rw [if_pos (inb_nI (by omega) (by decide)), clamp_nI (by omega), nI_1]
    have fL : ∀ a, a ≠ 100 → up2 L 100 d r a = L a := fun a ha => upRow L r ha
    obtain ⟨I2, L2, e2, f2, g2, s2⟩ := ih (d + 1) f I1 (up2 L 100 d r) (by omega) (by omega) (hM.fr (fun a ha => f1 a (by omega) (by omega)) (fun j _ => by rw [f1 73 (by decide) (by decide)]) (fL 73 (by decide))) (FM.aim (L := L) (M := L) hA (f1 73 (by decide) (by decide))) (by
      intro d' hd' c hc
      rw [up2_at]
      by_cases hdd : d' = d
      · rw [if_pos ⟨rfl, hdd⟩, hdd]; exact h1 c hc
      · rw [if_neg (fun hh => hdd hh.2)]; exact hS d' (by omega) c hc)
    exact ⟨I2, L2, e2, fun a h1 h2 => by rw [f2 a h1 h2, f1 a h1 h2], fun a ha => by rw [g2 a ha, fL a ha], s2⟩
theorem m_layShadows {T : Nat → Nat → Nat} {hr dt S O B : Nat} {K : Bool} {I : HI} {L : HL} (hO : TOk T) (hM : MTown T I L) (hA : MAim hr dt S O B K I) (hh : hr < 24) (hO2 : O < 2 ^ 31) (hB : B < 2 ^ 31) : ∃ I' L', fX12_layShadows I L = some (I', L') ∧ (∀ a, a ≠ 81 → a ≠ 82 → I' a = I a) ∧ (∀ a, a ≠ 100 → L' a = L a) ∧ MShd T hr dt O B K (tnD T) L' := by
  obtain ⟨m, hm⟩ := fuel_at 1000 (by decide)
  have h8 := hO.2.1
  obtain ⟨I', L', e, f1, f2, s⟩ := m_layShL (S := S) hO hh hO2 hB (tnD T) 0 FUEL I L (by omega) (by omega) hM hA (fun d hd => absurd hd (Nat.not_lt_zero d))
  unfold fX12_layShadows
  rw [show (0 : Int32) = nI 0 from rfl, e]
  exact ⟨I', L', rfl, f1, f2, s⟩
theorem and_ne0 {a b : Int64} : (a &&& b = 0) ↔ ¬ ∃ x, x < 64 ∧ hb a x = true ∧ hb b x = true := by
  rw [hb_eq0]
  constructor
  · rintro h ⟨x, h1, h2, h3⟩
    have := h x h1
    rw [hb_and, h2, h3] at this
    cases this
  · intro h x hx
    rw [hb_and]
    cases h1 : hb a x <;> cases h2 : hb b x <;> try rfl
    exact absurd ⟨x, hx, h1, h2⟩ h
theorem m_mv87 {T : Nat → Nat → Nat} {hr dt S O B d : Nat} {K : Bool} {I : HI} {L : HL} {y1 : Int32} (hO : TOk T) (hM : MTown T I L) (hA : MAim hr dt S O B K I) (hh : hr < 24) (hS : S < 2 ^ 31) (hs : MShd T hr dt O B K (tnD T) L) (hd : d < tnD T) : ∀ (m e fu : Nat) (s : Int64), e + m = tnD T → m < fu → ∃ r, fX12_movesFrom_87 fu y1 s (nI d) (nI e) I L = some r ∧ ∀ c, c < 64 → (hb r c = true ↔ (hb s c = true ∨ ∃ f, e ≤ f ∧ f < tnD T ∧ f ≠ d ∧ opnA T hr S f = true ∧ crsA T hr dt O B K d f ∧ c = T 2 f)) := by
  have h8 := hO.2.1
  intro m
  induction m with
  | zero =>
    intro e fu s he hf
    obtain ⟨f, rfl⟩ : ∃ f, fu = f + 1 := ⟨fu - 1, by omega⟩
    rw [fX12_movesFrom_87, hM.2.2.1, if_pos (nI_le (by omega) (by omega))]
    refine ⟨s, rfl, fun c _ => ⟨Or.inl, ?_⟩⟩
    rintro (h | ⟨k, h1, h2, _⟩)
    · exact h
    · omega
  | succ m ih =>
    intro e fu s he hf
    obtain ⟨f, rfl⟩ : ∃ f, fu = f + 1 := ⟨fu - 1, by omega⟩
    have he4 : e < tnD T := by omega
    have k1 := (hO.2.2.2.2.2.2.1 e he4).1
    have k64 : T 2 e < 64 := Nat.lt_of_lt_of_le k1.1 (tC_le hO.1)
    have stp : ∀ c, (∃ f, e ≤ f ∧ f < tnD T ∧ f ≠ d ∧ opnA T hr S f = true ∧ crsA T hr dt O B K d f ∧ c = T 2 f) ↔ ((e ≠ d ∧ opnA T hr S e = true ∧ crsA T hr dt O B K d e ∧ c = T 2 e) ∨ ∃ f, e + 1 ≤ f ∧ f < tnD T ∧ f ≠ d ∧ opnA T hr S f = true ∧ crsA T hr dt O B K d f ∧ c = T 2 f) := by
      intro c
      constructor
      · rintro ⟨k, h1, h2, h3⟩
        by_cases hk : k = e
        · subst hk; exact Or.inl h3
        · exact Or.inr ⟨k, by omega, h2, h3⟩
      · rintro (h | ⟨k, h1, h2, h3⟩)
        · exact ⟨e, Nat.le_refl _, he4, h⟩
        · exact ⟨k, by omega, h2, h3⟩
    have hcr : (L 100 e &&& L 100 d = 0) ↔ ¬ crsA T hr dt O B K d e := by
      rw [and_ne0]
      constructor
      · rintro h ⟨x, h1, h2, h3⟩; exact h ⟨x, h1, (hs e he4 x h1).mpr h2, (hs d hd x h1).mpr h3⟩
      · rintro h ⟨x, h1, h2, h3⟩; exact h ⟨x, h1, (hs e he4 x h1).mp h2, (hs d hd x h1).mp h3⟩
    have skip : ¬ (e ≠ d ∧ opnA T hr S e = true ∧ crsA T hr dt O B K d e) → ∃ r, fX12_movesFrom_87 f y1 s (nI d) (nI (e + 1)) I L = some r ∧ ∀ c, c < 64 → (hb r c = true ↔ (hb s c = true ∨ ∃ f, e ≤ f ∧ f < tnD T ∧ f ≠ d ∧ opnA T hr S f = true ∧ crsA T hr dt O B K d f ∧ c = T 2 f)) := by
      intro hno
      obtain ⟨r, e1, hr'⟩ := ih (e + 1) f s (by omega) (by omega)
      refine ⟨r, e1, fun c hc => ?_⟩
      rw [hr' c hc, stp c]
      constructor
      · rintro (h | h)
        · exact Or.inl h
        · exact Or.inr (Or.inr h)
      · rintro (h | h | h)
        · exact Or.inl h
        · exact absurd ⟨h.1, h.2.1, h.2.2.1⟩ hno
        · exact Or.inr h
    rw [fX12_movesFrom_87, hM.2.2.1, if_neg (nI_ge he4 (by omega)), nI_1, m_isOpen hO hM hA he4 hh hS]
    simp only [Option.bind_some, b2i_eq0, clamp_nI (show e < 2 ^ 31 by omega), clamp_nI (show d < 2 ^ 31 by omega)]
    rw [if_pos (inb_nI (show e < 8 by omega) (by decide)), if_pos (inb_nI (show d < 8 by omega) (by decide))]
    by_cases hed : e = d
    · rw [if_pos (by rw [hed])]
      simp only [Option.bind_some]
      rw [if_pos trivial]
      exact skip (fun h => h.1 hed)
    · rw [if_neg (fun h => hed ((nI_eq (by omega) (by omega)).mp h))]
      cases hop : opnA T hr S e with
      | false =>
        rw [if_pos rfl]
        simp only [Option.bind_some]
        rw [if_pos trivial]
        exact skip (fun h => by rw [hop] at h; exact absurd h.2.1 (by decide))
      | true =>
        rw [if_neg (by decide)]
        by_cases hc : crsA T hr dt O B K d e
        · rw [if_neg (fun h => (hcr.mp h) hc)]
          simp only [Option.bind_some]
          rw [if_neg (by decide), if_pos (inb_nI (show e < 8 by omega) (by decide)), (hM.2.2.2.2.2.2.2.1 e he4).1]
          obtain ⟨r, e1, hr'⟩ := ih (e + 1) f (s ||| (1 : Int64) <<< ((nI (T 2 e)).toInt64 &&& 63)) (by omega) (by omega)
          refine ⟨r, e1, fun c h64 => ?_⟩
          rw [hr' c h64, stp c, hb_or, Bool.or_eq_true, hb_one k64 c h64, decide_eq_true_eq, hop]
          constructor
          · rintro ((h | h) | h)
            · exact Or.inl h
            · exact Or.inr (Or.inl ⟨hed, rfl, hc, h⟩)
            · exact Or.inr (Or.inr h)
          · rintro (h | h | h)
            · exact Or.inl (Or.inl h)
            · exact Or.inl (Or.inr h.2.2.2)
            · exact Or.inr h
        · rw [if_pos (hcr.mpr hc)]
          simp only [Option.bind_some]
          rw [if_pos trivial]
          exact skip (fun h => hc h.2.2)
/-- what one door gives to who stands on c -/
def dmv (T : Nat → Nat → Nat) (hr dt S O B : Nat) (K : Bool) (c d e : Nat) : Prop := opnA T hr S d = true ∧ ((shdA T hr dt O B K d c ∧ e = T 2 d) ∨ (T 2 d = c ∧ (shdA T hr dt O B K d e ∨ ∃ f, f < tnD T ∧ f ≠ d ∧ opnA T hr S f = true ∧ crsA T hr dt O B K d f ∧ e = T 2 f)))
theorem m_mv13 {T : Nat → Nat → Nat} {hr dt S O B cell : Nat} {K : Bool} {I : HI} {L : HL} (hO : TOk T) (hM : MTown T I L) (hA : MAim hr dt S O B K I) (hh : hr < 24) (hS : S < 2 ^ 31) (hs : MShd T hr dt O B K (tnD T) L) (hc : cell < 64) : ∀ (m d fu : Nat) (s : Int64), d + m = tnD T → m < fu → ∃ r, fX12_movesFrom_13 fu (nI cell) s (nI d) I L = some r ∧ ∀ c, c < 64 → (hb r c = true ↔ (hb s c = true ∨ ∃ k, d ≤ k ∧ k < tnD T ∧ dmv T hr dt S O B K cell k c)) := by
  have h8 := hO.2.1
  obtain ⟨mf, hmf⟩ := fuel_at 1000 (by decide)
  intro m
  induction m with
  | zero =>
    intro d fu s hd hf
    obtain ⟨f, rfl⟩ : ∃ f, fu = f + 1 := ⟨fu - 1, by omega⟩
    rw [fX12_movesFrom_13, hM.2.2.1, if_pos (nI_le (by omega) (by omega))]
    refine ⟨s, rfl, fun c _ => ⟨Or.inl, ?_⟩⟩
    rintro (h | ⟨k, h1, h2, _⟩)
    · exact h
    · omega
  | succ m ih =>
    intro d fu s hd hf
    obtain ⟨f, rfl⟩ : ∃ f, fu = f + 1 := ⟨fu - 1, by omega⟩
    have hd4 : d < tnD T := by omega
    have k1 := (hO.2.2.2.2.2.2.1 d hd4).1
    have k64 : T 2 d < 64 := Nat.lt_of_lt_of_le k1.1 (tC_le hO.1)
    have stp : ∀ c, (∃ k, d ≤ k ∧ k < tnD T ∧ dmv T hr dt S O B K cell k c) ↔ (dmv T hr dt S O B K cell d c ∨ ∃ k, d + 1 ≤ k ∧ k < tnD T ∧ dmv T hr dt S O B K cell k c) := by
      intro c
      constructor
      · rintro ⟨k, h1, h2, h3⟩
        by_cases hk : k = d
        · subst hk; exact Or.inl h3
        · exact Or.inr ⟨k, by omega, h2, h3⟩
      · rintro (h | ⟨k, h1, h2, h3⟩)
        · exact ⟨d, Nat.le_refl _, hd4, h⟩
        · exact ⟨k, by omega, h2, h3⟩
    have go : ∀ s' : Int64, (∀ c, c < 64 → (hb s' c = true ↔ (hb s c = true ∨ dmv T hr dt S O B K cell d c))) → ∃ r, fX12_movesFrom_13 f (nI cell) s' (nI (d + 1)) I L = some r ∧ ∀ c, c < 64 → (hb r c = true ↔ (hb s c = true ∨ ∃ k, d ≤ k ∧ k < tnD T ∧ dmv T hr dt S O B K cell k c)) := by
      intro s' h'
      obtain ⟨r, e1, hr'⟩ := ih (d + 1) f s' (by omega) (by omega)
      refine ⟨r, e1, fun c h64 => ?_⟩
      rw [hr' c h64, stp c, h' c h64]
      exact or_assoc
    rw [fX12_movesFrom_13, hM.2.2.1, if_neg (nI_ge hd4 (by omega)), nI_1, m_isOpen hO hM hA hd4 hh hS]
    simp only [Option.bind_some, b2i_eq0, clamp_nI (show d < 2 ^ 31 by omega)]
    cases hop : opnA T hr S d with
    | false =>
      rw [if_pos rfl]
      refine go s (fun c _ => ⟨Or.inl, ?_⟩)
      rintro (h | h)
      · exact h
      · have := h.1; rw [hop] at this; cases this
    | true =>
      rw [if_neg (by decide)]
      simp only [if_pos (inb_nI (show d < 8 by omega) (show 8 < 2 ^ 31 by decide)), (hM.2.2.2.2.2.2.2.1 d hd4).1, has_hb _ hc]
      have hq : ∃ q7, (if hb (L 100 d) cell = false then some s else some (s ||| (1 : Int64) <<< ((nI (T 2 d)).toInt64 &&& 63))) = some q7 ∧ ∀ c, c < 64 → (hb q7 c = true ↔ (hb s c = true ∨ (shdA T hr dt O B K d cell ∧ c = T 2 d))) := by
        have hsh := hs d hd4 cell hc
        cases hb1 : hb (L 100 d) cell with
        | false =>
          refine ⟨s, by rw [if_pos rfl], fun c _ => ⟨Or.inl, ?_⟩⟩
          rintro (h | h)
          · exact h
          · have := hsh.mpr h.1; rw [hb1] at this; cases this
        | true =>
          refine ⟨_, by rw [if_neg (by decide)], fun c h64 => ?_⟩
          rw [hb_or, Bool.or_eq_true, hb_one k64 c h64, decide_eq_true_eq]
          constructor
          · rintro (h | h)
            · exact Or.inl h
            · exact Or.inr ⟨hsh.mp hb1, h⟩
          · rintro (h | h)
            · exact Or.inl h
            · exact Or.inr h.2
      obtain ⟨q7, eq7, hq7⟩ := hq
      rw [eq7]
      simp only [Option.bind_some]
      by_cases hcell : T 2 d = cell
      · rw [if_pos (by rw [hcell])]
        obtain ⟨r8, e8, h8'⟩ := m_mv87 (y1 := nI cell) hO hM hA hh hS hs hd4 (tnD T) 0 FUEL (q7 ||| L 100 d) (by omega) (by omega)
        rw [show (0 : Int32) = nI 0 from rfl, e8]
        simp only [Option.bind_some]
        refine go r8 (fun c h64 => ?_)
        rw [h8' c h64, hb_or, Bool.or_eq_true, hq7 c h64, hs d hd4 c h64]
        unfold dmv
        constructor
        · rintro (((h | h) | h) | ⟨f, _, h2, h3, h4, h5, h6⟩)
          · exact Or.inl h
          · exact Or.inr ⟨hop, Or.inl h⟩
          · exact Or.inr ⟨hop, Or.inr ⟨hcell, Or.inl h⟩⟩
          · exact Or.inr ⟨hop, Or.inr ⟨hcell, Or.inr ⟨f, h2, h3, h4, h5, h6⟩⟩⟩
        · rintro (h | ⟨_, h | ⟨_, h | ⟨f, h2, h3, h4, h5, h6⟩⟩⟩)
          · exact Or.inl (Or.inl (Or.inl h))
          · exact Or.inl (Or.inl (Or.inr h))
          · exact Or.inl (Or.inr h)
          · exact Or.inr ⟨f, Nat.zero_le _, h2, h3, h4, h5, h6⟩
      · rw [if_neg (fun h => hcell ((nI_eq (by omega) (by omega)).mp h))]
        refine go q7 (fun c h64 => ?_)
        rw [hq7 c h64]
        unfold dmv
        constructor
        · rintro (h | h)
          · exact Or.inl h
          · exact Or.inr ⟨hop, Or.inl h⟩
        · rintro (h | ⟨_, h | ⟨h, _⟩⟩)
          · exact Or.inl h
          · exact Or.inr h
          · exact absurd h hcell
theorem m_movesFrom {T : Nat → Nat → Nat} {hr dt S O B cell : Nat} {K : Bool} {I : HI} {L : HL} (hO : TOk T) (hM : MTown T I L) (hA : MAim hr dt S O B K I) (hh : hr < 24) (hS : S < 2 ^ 31) (hs : MShd T hr dt O B K (tnD T) L) (hc : grd T cell) : ∃ r, fX12_movesFrom (nI cell) I L = some r ∧ ∀ c, c < 64 → (hb r c = true ↔ mvA T hr dt S O B K cell c) := by
  have h8 := hO.2.1
  obtain ⟨mf, hmf⟩ := fuel_at 1000 (by decide)
  have h64 : cell < 64 := Nat.lt_of_lt_of_le hc.1 (tC_le hO.1)
  obtain ⟨rn, en, hn⟩ := m_nextTo hO.1 hM.1 hc.1
  obtain ⟨r, e, hr'⟩ := m_mv13 hO hM hA hh hS hs h64 (tnD T) 0 FUEL ((1 : Int64) <<< ((nI cell).toInt64 &&& 63) ||| rn) (by omega) (by omega)
  unfold fX12_movesFrom
  rw [en]
  simp only [Option.bind_some]
  rw [show (0 : Int32) = nI 0 from rfl, e]
  refine ⟨r, rfl, fun c hc' => ?_⟩
  rw [hr' c hc', hb_or, Bool.or_eq_true, hb_one h64 c hc', decide_eq_true_eq, hn c hc', Bool.and_eq_true, Bool.not_eq_true']
  unfold mvA dmv
  constructor
  · rintro ((h | h) | ⟨k, _, h2, h3, h4 | ⟨h4, h5 | ⟨f, h6, _, h7⟩⟩⟩)
    · exact Or.inl (Or.inl h.symm)
    · exact Or.inl (Or.inr h)
    · exact Or.inr ⟨k, h2, h3, Or.inl h4⟩
    · exact Or.inr ⟨k, h2, h3, Or.inr ⟨h4, Or.inl h5⟩⟩
    · exact Or.inr ⟨k, h2, h3, Or.inr ⟨h4, Or.inr ⟨f, h6, h7⟩⟩⟩
  · rintro ((h | h) | ⟨k, h2, h3, h4 | ⟨h4, h5 | ⟨f, h6, h7⟩⟩⟩)
    · exact Or.inl (Or.inl h.symm)
    · exact Or.inl (Or.inr h)
    · exact Or.inr ⟨k, Nat.zero_le _, h2, h3, Or.inl h4⟩
    · exact Or.inr ⟨k, Nat.zero_le _, h2, h3, Or.inr ⟨h4, Or.inl h5⟩⟩
    · by_cases hfk : f = k
      · subst hfk
        exact Or.inl (Or.inl (by rw [h7.2.2, h4]))
      · exact Or.inr ⟨k, Nat.zero_le _, h2, h3, Or.inr ⟨h4, Or.inr ⟨f, h6, hfk, h7⟩⟩⟩
