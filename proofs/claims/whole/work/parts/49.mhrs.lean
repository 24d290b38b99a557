def MMov (T : Nat → Nat → Nat) (hr dt S O B : Nat) (K : Bool) (k : Nat) (n : Nat) (L : HL) : Prop := ∀ c, c < n → ∀ e, e < 64 → (hb (L 101 (64 * k + c)) e = true ↔ (grd T c ∧ mvA T hr dt S O B K c e))
theorem MShd.fr {T : Nat → Nat → Nat} {hr dt O B n : Nat} {K : Bool} {L M : HL} (h : MShd T hr dt O B K n L) (e : M 100 = L 100) : MShd T hr dt O B K n M := by
  unfold MShd at *; rw [e]; exact h
theorem m_size {T : Nat → Nat → Nat} {I : HI} {L : HL} (hm : MSize T I L) : I 73 52 * I 73 53 = nI (tC T) := by
  rw [hm.1, hm.2.1, pk_mul]; rfl
theorem m_layMvL {T : Nat → Nat → Nat} {hr dt S O B k : Nat} {K : Bool} {I : HI} (hO : TOk T) (hA : MAim hr dt S O B K I) (hh : hr < 24) (hS : S < 2 ^ 31) (hk : k < 49) : ∀ (m c fu : Nat) (L : HL), c + m = tC T → m < fu → MTown T I L → MShd T hr dt O B K (tnD T) L → MMov T hr dt S O B K k c L → ∃ L', fX12_layMoves_6 fu (nI k) (nI c) I L = some L' ∧ (∀ a, a ≠ 101 → L' a = L a) ∧ (∀ j, ¬ (64 * k ≤ j ∧ j < 64 * k + 64) → L' 101 j = L 101 j) ∧ MMov T hr dt S O B K k (tC T) L' := by
  have hC := tC_le hO.1
  intro m
  induction m with
  | zero =>
    intro c fu L hc hf hM hs hm
    obtain ⟨f, rfl⟩ : ∃ f, fu = f + 1 := ⟨fu - 1, by omega⟩
    rw [fX12_layMoves_6, m_size hM.1, if_pos (nI_le (by omega) (by omega))]
    rw [show c = tC T by omega] at hm
    exact ⟨L, rfl, fun _ _ => rfl, fun _ _ => rfl, hm⟩
  | succ m ih =>
    intro c fu L hc hf hM hs hm
    obtain ⟨f, rfl⟩ : ∃ f, fu = f + 1 := ⟨fu - 1, by omega⟩
    have hc4 : c < tC T := by omega
    have go : ∀ v : Int64, (∀ e, e < 64 → (hb v e = true ↔ (grd T c ∧ mvA T hr dt S O B K c e))) → ∃ L', fX12_layMoves_6 f (nI k) (nI (c + 1)) I (up2 L 101 (64 * k + c) v) = some L' ∧ (∀ a, a ≠ 101 → L' a = L a) ∧ (∀ j, ¬ (64 * k ≤ j ∧ j < 64 * k + 64) → L' 101 j = L 101 j) ∧ MMov T hr dt S O B K k (tC T) L' := by
      intro v hv
      have fL : ∀ a, a ≠ 101 → up2 L 101 (64 * k + c) v a = L a := fun a ha => upRow L v ha
      obtain ⟨L', e1, f1, f2, m1⟩ := ih (c + 1) f (up2 L 101 (64 * k + c) v) (by omega) (by omega) (hM.fr (fun _ _ => rfl) (fun _ _ => rfl) (fL 73 (by decide))) (hs.fr (fL 100 (by decide))) (by
        intro c' hc' e he
        rw [up2_at]
        by_cases hcc : c' = c
        · rw [if_pos ⟨rfl, by rw [hcc]⟩, hcc]; exact hv e he
        · rw [if_neg (fun h => hcc (by omega))]; exact hm c' (by omega) e he)
      refine ⟨L', e1, fun a ha => by rw [f1 a ha, fL a ha], fun j hj => ?_, m1⟩
      rw [f2 j hj, up2_at, if_neg (by omega)]
    have ix : (64 : Int32) * nI k + nI c = nI (64 * k + c) := by
      rw [show (64 : Int32) = nI 64 from rfl, pk_mul, nI_add]
    rw [fX12_layMoves_6, m_size hM.1, if_neg (nI_ge hc4 (by omega)), nI_1, has_hb _ (by omega), hM.1.2.2 c (by omega), ix]
    simp only [b2i_eq0, if_pos (inb_nI (show 64 * k + c < 3136 by omega) (show 3136 < 2 ^ 31 by decide)), clamp_nI (show 64 * k + c < 2 ^ 31 by omega)]
    cases hw : isW T c with
    | false =>
      obtain ⟨r, e1, h1⟩ := m_movesFrom hO hM hA hh hS hs (cell := c) ⟨hc4, hw⟩
      rw [if_pos rfl, e1]
      simp only [Option.bind_some]
      exact go r (fun e he => by rw [h1 e he]; exact ⟨fun h => ⟨⟨hc4, hw⟩, h⟩, fun h => h.2⟩)
    | true =>
      rw [if_neg (by decide)]
      refine go 0 (fun e _ => ?_)
      rw [hb_0]
      constructor
      · intro h; cases h
      · intro h; have := h.1.2; rw [hw] at this; cases this
theorem m_layMoves {T : Nat → Nat → Nat} {hr dt S O B k : Nat} {K : Bool} {I : HI} {L : HL} (hO : TOk T) (hM : MTown T I L) (hA : MAim hr dt S O B K I) (hh : hr < 24) (hS : S < 2 ^ 31) (hO2 : O < 2 ^ 31) (hB : B < 2 ^ 31) (hk : k < 49) : ∃ I' L', fX12_layMoves (nI k) I L = some (I', L') ∧ (∀ a, a ≠ 81 → a ≠ 82 → I' a = I a) ∧ (∀ a, a ≠ 100 → a ≠ 101 → L' a = L a) ∧ (∀ j, ¬ (64 * k ≤ j ∧ j < 64 * k + 64) → L' 101 j = L 101 j) ∧ MMov T hr dt S O B K k (tC T) L' := by
  obtain ⟨mf, hmf⟩ := fuel_at 1000 (by decide)
  have hC := tC_le hO.1
  obtain ⟨I1, L1, e1, f1, g1, s1⟩ := m_layShadows hO hM hA hh hO2 hB
  have hM1 : MTown T I1 L1 := hM.fr (fun a ha => f1 a (by omega) (by omega)) (fun j _ => by rw [f1 73 (by decide) (by decide)]) (g1 73 (by decide))
  have hA1 : MAim hr dt S O B K I1 := FM.aim (L := L) (M := L) hA (f1 73 (by decide) (by decide))
  obtain ⟨L2, e2, f2, g2, m2⟩ := m_layMvL hO hA1 hh hS hk (tC T) 0 FUEL L1 (by omega) (by omega) hM1 s1 (fun c hc => absurd hc (Nat.not_lt_zero c))
  unfold fX12_layMoves
  rw [e1]
  simp only [Option.bind_some]
  rw [show (0 : Int32) = nI 0 from rfl, e2]
  exact ⟨I1, L2, rfl, f1, fun a h1 h2 => by rw [f2 a h2, g1 a h1], fun j hj => by rw [g2 j hj, g1 101 (by decide)], m2⟩
def MHrs (T : Nat → Nat → Nat) (w S O B : Nat) (K : Bool) (n : Nat) (L : HL) : Prop := ∀ k, k < n → MMov T ((w + k) % 24) ((w + k) / 24) S O B K k (tC T) L
theorem FM.of81 {I I' : HI} {L L' : HL} (h : ∀ a, a ≠ 81 → a ≠ 82 → I' a = I a) (g : ∀ a, a ≠ 100 → a ≠ 101 → L' a = L a) : FM I I' L L' := ⟨fun a _ h2 h3 => h a h2 h3, fun j _ => by rw [h 73 (by decide) (by decide)], g⟩
theorem m_layHrL {T : Nat → Nat → Nat} {w S O B n : Nat} {K : Bool} (hO : TOk T) (hS : S < 2 ^ 31) (hO2 : O < 2 ^ 31) (hB : B < 2 ^ 31) (hw : w < 10000) (hn : n ≤ 48) : ∀ (m k fu : Nat) (I : HI) (L : HL) (hr dt : Nat), k + m = n → m < fu → MTown T I L → MAim hr dt S O B K I → MHrs T w S O B K k L → ∃ I' L' hr' dt', fX12_layHours_2 fu (nI w) (nI n) (nI k) I L = some (I', L') ∧ FM I I' L L' ∧ MAim hr' dt' S O B K I' ∧ MHrs T w S O B K n L' := by
  intro m
  induction m with
  | zero =>
    intro k fu I L hr dt hk hf hM hA hH
    obtain ⟨f, rfl⟩ : ∃ f, fu = f + 1 := ⟨fu - 1, by omega⟩
    rw [fX12_layHours_2, if_pos (nI_le (by omega) (by omega))]
    rw [show k = n by omega] at hH
    exact ⟨I, L, hr, dt, rfl, FM.refl I L, hA, hH⟩
  | succ m ih =>
    intro k fu I L hr dt hk hf hM hA hH
    obtain ⟨f, rfl⟩ : ∃ f, fu = f + 1 := ⟨fu - 1, by omega⟩
    rw [fX12_layHours_2, if_neg (nI_ge (by omega) (by omega)), obn_eq, nI_add, nI_1]
    obtain ⟨a1, f1⟩ := m_setHour (w := w + k) (by omega) hA
    have hM1 := hM.fm (f1 L)
    obtain ⟨I2, L2, e2, f2, g2, h2, m2⟩ := m_layMoves (k := k) hO hM1 a1 (Nat.mod_lt _ (by decide)) hS hO2 hB (by omega)
    rw [e2]
    simp only [Option.bind_some]
    have fm2 : FM I I2 L L2 := (f1 L).trans (FM.of81 f2 g2)
    obtain ⟨I3, L3, hr', dt', e3, f3, a3, h3⟩ := ih (k + 1) f I2 L2 _ _ (by omega) (by omega) (hM.fm fm2) (FM.aim (L := L) (M := L) a1 (f2 73 (by decide) (by decide))) (by
      intro j hj
      by_cases hjk : j = k
      · subst hjk; exact m2
      · intro c hc e he
        rw [h2 _ (by have := tC_le hO.1; omega)]
        exact hH j (by omega) c hc e he)
    exact ⟨I3, L3, hr', dt', e3, fm2.trans f3, a3, h3⟩
theorem m_layHours {T : Nat → Nat → Nat} {w S O B n hr dt : Nat} {K : Bool} {I : HI} {L : HL} (hO : TOk T) (hM : MTown T I L) (hA : MAim hr dt S O B K I) (hS : S < 2 ^ 31) (hO2 : O < 2 ^ 31) (hB : B < 2 ^ 31) (hw : w < 10000) (hn : n ≤ 48) : ∃ I' L' hr' dt', fX12_layHours (nI w) (nI n) I L = some (I', L') ∧ FM I I' L L' ∧ MAim hr' dt' S O B K I' ∧ MHrs T w S O B K n L' := by
  obtain ⟨mf, hmf⟩ := fuel_at 1000 (by decide)
  obtain ⟨I1, L1, hr', dt', e1, f1, a1, h1⟩ := m_layHrL hO hS hO2 hB hw hn n 0 FUEL I L hr dt (by omega) (by omega) hM hA (fun k hk => absurd hk (Nat.not_lt_zero k))
  unfold fX12_layHours
  rw [show (0 : Int32) = nI 0 from rfl, e1]
  exact ⟨I1, L1, hr', dt', rfl, f1, a1, h1⟩
theorem m_goL {T : Nat → Nat → Nat} {k : Nat} {I : HI} {L : HL} {s : Int64} (hO : TOk T) (hM : MTown T I L) (hk : k < 49) : ∀ (m c fu : Nat) (v : Int64), c + m = tC T → m < fu → ∃ r, fX12_goOn_6 fu s (nI k) v (nI c) I L = some r ∧ ∀ e, e < 64 → (hb r e = true ↔ (hb v e = true ∨ ∃ x, c ≤ x ∧ x < tC T ∧ hb s x = true ∧ hb (L 101 (64 * k + x)) e = true)) := by
  have hC := tC_le hO.1
  intro m
  induction m with
  | zero =>
    intro c fu v hc hf
    obtain ⟨f, rfl⟩ : ∃ f, fu = f + 1 := ⟨fu - 1, by omega⟩
    rw [fX12_goOn_6, m_size hM.1, if_pos (nI_le (by omega) (by omega))]
    refine ⟨v, rfl, fun e _ => ⟨Or.inl, ?_⟩⟩
    rintro (h | ⟨x, h1, h2, _⟩)
    · exact h
    · omega
  | succ m ih =>
    intro c fu v hc hf
    obtain ⟨f, rfl⟩ : ∃ f, fu = f + 1 := ⟨fu - 1, by omega⟩
    have hc4 : c < tC T := by omega
    have ix : (64 : Int32) * nI k + nI c = nI (64 * k + c) := by
      rw [show (64 : Int32) = nI 64 from rfl, pk_mul, nI_add]
    have stp : ∀ e, (∃ x, c ≤ x ∧ x < tC T ∧ hb s x = true ∧ hb (L 101 (64 * k + x)) e = true) ↔ ((hb s c = true ∧ hb (L 101 (64 * k + c)) e = true) ∨ ∃ x, c + 1 ≤ x ∧ x < tC T ∧ hb s x = true ∧ hb (L 101 (64 * k + x)) e = true) := by
      intro e
      constructor
      · rintro ⟨x, h1, h2, h3⟩
        by_cases hx : x = c
        · subst hx; exact Or.inl h3
        · exact Or.inr ⟨x, by omega, h2, h3⟩
      · rintro (h | ⟨x, h1, h2, h3⟩)
        · exact ⟨c, Nat.le_refl _, hc4, h⟩
        · exact ⟨x, by omega, h2, h3⟩
    rw [fX12_goOn_6, m_size hM.1, if_neg (nI_ge hc4 (by omega)), nI_1, has_hb _ (by omega), ix]
    simp only [b2i_eq0, if_pos (inb_nI (show 64 * k + c < 3136 by omega) (show 3136 < 2 ^ 31 by decide)), clamp_nI (show 64 * k + c < 2 ^ 31 by omega)]
    cases hs : hb s c with
    | false =>
      rw [if_pos rfl]
      obtain ⟨r, e1, h1⟩ := ih (c + 1) f v (by omega) (by omega)
      refine ⟨r, e1, fun e he => ?_⟩
      rw [h1 e he, stp e, hs]
      simp
    | true =>
      rw [if_neg (by decide)]
      obtain ⟨r, e1, h1⟩ := ih (c + 1) f (v ||| L 101 (64 * k + c)) (by omega) (by omega)
      refine ⟨r, e1, fun e he => ?_⟩
      rw [h1 e he, stp e, hs, hb_or, Bool.or_eq_true]
      simp only [true_and]
      exact or_assoc
/-- a step of a whole set -/
def stA (T : Nat → Nat → Nat) (hr dt S O B : Nat) (K : Bool) (P : Nat → Prop) (e : Nat) : Prop := ∃ c, P c ∧ grd T c ∧ mvA T hr dt S O B K c e
theorem m_goOn {T : Nat → Nat → Nat} {hr dt S O B k : Nat} {K : Bool} {I : HI} {L : HL} {s : Int64} (hO : TOk T) (hM : MTown T I L) (hk : k < 49) (hm : MMov T hr dt S O B K k (tC T) L) : ∃ r, fX12_goOn s (nI k) I L = some r ∧ ∀ e, e < 64 → (hb r e = true ↔ stA T hr dt S O B K (fun c => hb s c = true) e) := by
  obtain ⟨mf, hmf⟩ := fuel_at 1000 (by decide)
  have hC := tC_le hO.1
  obtain ⟨r, e1, h1⟩ := m_goL (s := s) hO hM hk (tC T) 0 FUEL 0 (by omega) (by omega)
  unfold fX12_goOn
  rw [show (0 : Int32) = nI 0 from rfl, e1]
  refine ⟨r, rfl, fun e he => ?_⟩
  rw [h1 e he, hb_0]
  unfold stA
  constructor
  · rintro (h | ⟨x, _, h2, h3, h4⟩)
    · cases h
    · exact ⟨x, h3, (hm x h2 e he).mp h4⟩
  · rintro ⟨x, h1, h2, h3⟩
    exact Or.inr ⟨x, Nat.zero_le _, h2.1, h1, (hm x h2.1 e he).mpr ⟨h2, h3⟩⟩
