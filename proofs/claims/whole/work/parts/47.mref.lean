/-! hours, lamps, shadows, moves: told once, and the reference's -/
def litA (T : Nat → Nat → Nat) (hr O B l : Nat) : Bool := B.testBit l || (decide (T 7 l ≤ hr ∧ hr < T 8 l) && !O.testBit l)
def capI (x : Int32) : Int := if 8 < x.toInt then 8 else if x.toInt < -8 then -8 else x.toInt
def shV (T : Nat → Nat → Nat) (hr dt : Nat) (K : Bool) (d : Nat) : Int := if K then 0 else capI (evF T (nI (T 3 d)) (nI hr) (nI dt))
def shdA (T : Nat → Nat → Nat) (hr dt O B : Nat) (K : Bool) (d c : Nat) : Prop := (rayS T (T 2 d) (shV T hr dt K d) c = true ∧ isW T c = false) ∨ ∃ l, l < tnL T ∧ litA T hr O B l = true ∧ thr T (T 6 l) (T 2 d) (T 3 d) c
def opnA (T : Nat → Nat → Nat) (hr S d : Nat) : Bool := decide (T 4 d ≤ hr ∧ hr < T 5 d) && !S.testBit d
def crsA (T : Nat → Nat → Nat) (hr dt O B : Nat) (K : Bool) (d e : Nat) : Prop := ∃ x, x < 64 ∧ shdA T hr dt O B K e x ∧ shdA T hr dt O B K d x
def mvA (T : Nat → Nat → Nat) (hr dt S O B : Nat) (K : Bool) (c e : Nat) : Prop := (c = e ∨ (nbr T c e = true ∧ isW T e = false)) ∨ ∃ d, d < tnD T ∧ opnA T hr S d = true ∧ ((shdA T hr dt O B K d c ∧ e = T 2 d) ∨ (T 2 d = c ∧ (shdA T hr dt O B K d e ∨ ∃ f, f < tnD T ∧ opnA T hr S f = true ∧ crsA T hr dt O B K d f ∧ e = T 2 f)))
def MAim (hr dt S O B : Nat) (K : Bool) (I : HI) : Prop := I 73 64 = nI hr ∧ I 73 65 = nI dt ∧ I 73 66 = nI S ∧ I 73 67 = nI O ∧ I 73 68 = nI B ∧ I 73 69 = b2i K
theorem capI_le (x : Int32) : -8 ≤ capI x ∧ capI x ≤ 8 := by 
  unfold capI
  split
  · omega
  · split <;> omega
theorem shV_le (T : Nat → Nat → Nat) (hr dt : Nat) (K : Bool) (d : Nat) : -8 ≤ shV T hr dt K d ∧ shV T hr dt K d ≤ 8 := by
  unfold shV
  split
  · omega
  · exact capI_le _
theorem m_capped (x : Int32) : fX12_capped x = iI (capI x) := by
  have h1 : (x ≤ (8 : Int32)) ↔ x.toInt ≤ 8 := by rw [fa_le]; rfl
  have h2 : ((-8 : Int32) ≤ x) ↔ -8 ≤ x.toInt := by rw [fa_le]; rfl
  unfold fX12_capped capI
  by_cases a : x.toInt ≤ 8
  · have a' : ¬ 8 < x.toInt := by omega
    rw [if_pos (h1.mpr a), if_neg a']
    by_cases b : -8 ≤ x.toInt
    · have b' : ¬ x.toInt < -8 := by omega
      rw [if_pos (h2.mpr b), if_neg b']; exact iI_of x
    · have b' : x.toInt < -8 := by omega
      rw [if_neg (fun h => b (h2.mp h)), if_pos b']; rfl
  · have a' : 8 < x.toInt := by omega
    rw [if_neg (fun h => a (h1.mp h)), if_pos a']; rfl
theorem sbit {n k : Nat} (hn : n < 2 ^ 31) (hk : k < 31) : ((nI n >>> (nI k &&& 31)) &&& (1 : Int32)) = if n.testBit k then 1 else 0 := by
  rw [pk_shrN hn _ k (s_l k (by omega)), show (1 : Int32) = nI (2 ^ 1 - 1) from rfl, fa_mask, Nat.testBit_eq_decide_div_mod_eq]
  have : n / 2 ^ k % 2 ^ 1 = 0 ∨ n / 2 ^ k % 2 ^ 1 = 1 := by omega
  rcases this with h | h <;> rw [h]
  · rfl
  · rfl
theorem m_isOpen {T : Nat → Nat → Nat} {I : HI} {L : HL} {hr dt S O B d : Nat} {K : Bool} (hO : TOk T) (hM : MTown T I L) (hA : MAim hr dt S O B K I) (hd : d < tnD T) (hh : hr < 24) (hS : S < 2 ^ 31) : fX12_isOpen (nI d) I = some (opnA T hr S d) := by
  have h8 := hO.2.1
  obtain ⟨_, _, _, t1, t2⟩ := hO.2.2.2.2.2.2.1 d hd
  obtain ⟨_, _, e1, e2⟩ := hM.2.2.2.2.2.2.2.1 d hd
  unfold fX12_isOpen opnA
  rw [if_pos (inb_nI (by omega) (by decide)), if_pos (inb_nI (by omega) (by decide)), clamp_nI (by omega), hA.1, hA.2.2.1, e1, e2, sbit hS (by omega)]
  by_cases a : T 4 d ≤ hr
  · rw [if_neg (nI_nlt a (by omega))]
    by_cases b : hr < T 5 d
    · rw [if_neg (nI_ge b (by omega)), decide_eq_true ⟨a, b⟩]
      cases S.testBit d <;> simp
    · rw [if_pos (nI_le (by omega) (by omega)), decide_eq_false (fun h => b h.2)]; rfl
  · rw [if_pos (nI_lt (by omega) (by omega)), decide_eq_false (fun h => a h.1)]; rfl
theorem m_isLit {T : Nat → Nat → Nat} {I : HI} {L : HL} {hr dt S O B l : Nat} {K : Bool} (hO : TOk T) (hM : MTown T I L) (hA : MAim hr dt S O B K I) (hl : l < tnL T) (hh : hr < 24) (hO2 : O < 2 ^ 31) (hB : B < 2 ^ 31) : fX12_isLit (nI l) I = some (litA T hr O B l) := by
  have h8 := hO.2.2.1
  obtain ⟨_, t1, t2⟩ := hO.2.2.2.2.2.2.2.1 l hl
  obtain ⟨_, e1, e2⟩ := hM.2.2.2.2.2.2.2.2.1 l hl
  unfold fX12_isLit litA
  rw [if_pos (inb_nI (by omega) (by decide)), if_pos (inb_nI (by omega) (by decide)), clamp_nI (by omega), hA.1, hA.2.2.2.1, hA.2.2.2.2.1, e1, e2, sbit hO2 (by omega), sbit hB (by omega)]
  cases hb : B.testBit l with
  | true => simp
  | false =>
    rw [if_neg (by decide)]
    by_cases a : T 7 l ≤ hr
    · rw [if_neg (nI_nlt a (by omega))]
      by_cases b : hr < T 8 l
      · rw [if_neg (nI_ge b (by omega)), decide_eq_true ⟨a, b⟩]
        cases O.testBit l <;> simp
      · rw [if_pos (nI_le (by omega) (by omega)), decide_eq_false (fun h => b h.2)]; rfl
    · rw [if_pos (nI_lt (by omega) (by omega)), decide_eq_false (fun h => a h.1)]; rfl
theorem m_load {I : HI} {N : Nat → Nat} {n : Nat} (hN : NRng N) (hn : n ≤ 100) (h : MNow I N) : ∃ I', fX12_load (nI n) I = some I' ∧ MAim ((N 8 + n) % 24) ((N 8 + n) / 24) (N 5) (N 6) 0 (decide (N 7 = 1)) I' ∧ ∀ L, FM I I' L L := by
  have h8 := hN.2.2.2.2.2.2.2.2
  have h7 := hN.2.2.2.2.2.2.2.1
  unfold fX12_load
  simp only [show (8 : Int32) = nI 8 from rfl, show (5 : Int32) = nI 5 from rfl, show (6 : Int32) = nI 6 from rfl, show (7 : Int32) = nI 7 from rfl, show (24 : Int32) = nI 24 from rfl, clamp_nI (show 8 < 2 ^ 31 by decide), clamp_nI (show 5 < 2 ^ 31 by decide), clamp_nI (show 6 < 2 ^ 31 by decide), clamp_nI (show 7 < 2 ^ 31 by decide)]
  rw [if_pos (inb_nI (by decide) (by decide)), if_pos (inb_nI (by decide) (by decide)), if_pos (inb_nI (by decide) (by decide)), if_pos (inb_nI (by decide) (by decide)), if_pos (inb_nI (by decide) (by decide))]
  have e9 : ∀ k, k < 9 → ∀ (J : HI) (j : Nat) (v : Int32), (∀ k, k < 9 → J 99 k = nI (N k)) → up2 J 73 j v 99 k = nI (N k) := by
    intro k hk J j v hJ
    rw [up2_at, if_neg (by omega)]; exact hJ k hk
  simp only [up2_at, show ¬ (99 : Nat) = 73 by decide, false_and, if_false, h 8 (by decide), h 5 (by decide), h 6 (by decide), h 7 (by decide)]
  rw [nI_add, pk_rem (by omega) (by decide) (by decide), pk_div (by omega) (by decide) (by decide)]
  have hb7 : (nI (N 7) = (1 : Int32)) ↔ N 7 = 1 := nI_eq (b := 1) (by omega) (by decide)
  by_cases c : N 7 = 1
  · rw [if_pos (hb7.mpr c)]
    refine ⟨_, rfl, ?_, ?_⟩
    · rw [decide_eq_true c]
      unfold MAim
      simp [up2_at, nI_0]
    · intro L
      refine ⟨fun a h1 h2 h3 => ?_, fun j hj => ?_, fun _ _ _ => rfl⟩
      · funext i; simp [up2_at, h1]
      · simp only [up2_at]; simp only [true_and]
        rw [if_neg (by omega), if_neg (by omega), if_neg (by omega), if_neg (by omega), if_neg (by omega), if_neg (by omega)]
  · rw [if_neg (fun hh => c (hb7.mp hh))]
    refine ⟨_, rfl, ?_, ?_⟩
    · rw [decide_eq_false c]
      unfold MAim
      simp [up2_at, nI_0]
    · intro L
      refine ⟨fun a h1 h2 h3 => ?_, fun j hj => ?_, fun _ _ _ => rfl⟩
      · funext i; simp [up2_at, h1]
      · simp only [up2_at]; simp only [true_and]
        rw [if_neg (by omega), if_neg (by omega), if_neg (by omega), if_neg (by omega), if_neg (by omega), if_neg (by omega)]
theorem m_setHour {I : HI} {w hr dt S O B : Nat} {K : Bool} (hw : w < 100000) (h : MAim hr dt S O B K I) : MAim (w % 24) (w / 24) S O B K (fX12_setHour (nI w) I) ∧ ∀ L, FM I (fX12_setHour (nI w) I) L L := by
  unfold fX12_setHour
  simp only [show (24 : Int32) = nI 24 from rfl]
  rw [pk_rem (by omega) (by decide) (by decide), pk_div (by omega) (by decide) (by decide)]
  constructor
  · unfold MAim at *
    simp [up2_at, h]
  · intro L
    refine ⟨fun a h1 h2 h3 => ?_, fun j hj => ?_, fun _ _ _ => rfl⟩
    · funext i; simp [up2_at, h1]
    · simp only [up2_at]; simp only [true_and]
      rw [if_neg (by omega), if_neg (by omega)]
/-- the lamps' part of a shadow -/
theorem m_shL {T : Nat → Nat → Nat} {I : HI} {L : HL} {hr dt S O B d : Nat} {K : Bool} (hO : TOk T) (hM : MTown T I L) (hA : MAim hr dt S O B K I) (hd : d < tnD T) (hh : hr < 24) (hO2 : O < 2 ^ 31) (hB : B < 2 ^ 31) : ∀ (m l fu : Nat) (s : Int64), l + m = tnL T → m < fu → ∃ r, fX12_shadowOf_71 fu (nI d) s (nI l) I L = some r ∧ ∀ c, c < 64 → (hb r c = true ↔ (hb s c = true ∨ ∃ k, l ≤ k ∧ k < tnL T ∧ litA T hr O B k = true ∧ thr T (T 6 k) (T 2 d) (T 3 d) c)) := by
  have h8 := hO.2.1
  have h4 := hO.2.2.1
  intro m
  induction m with
  | zero =>
    intro l fu s hl hf
    obtain ⟨f, rfl⟩ : ∃ f, fu = f + 1 := ⟨fu - 1, by omega⟩
    rw [fX12_shadowOf_71, hM.2.2.2.1, if_pos (nI_le (by omega) (by omega))]
    refine ⟨s, rfl, fun c _ => ⟨Or.inl, ?_⟩⟩
    rintro (h | ⟨k, h1, h2, _⟩)
    · exact h
    · omega
  | succ m ih =>
    intro l fu s hl hf
    obtain ⟨f, rfl⟩ : ∃ f, fu = f + 1 := ⟨fu - 1, by omega⟩
    have hl4 : l < tnL T := by omega
    rw [fX12_shadowOf_71, hM.2.2.2.1, if_neg (nI_ge hl4 (by omega)), m_isLit hO hM hA hl4 hh hO2 hB]
    simp only [Option.bind_some, b2i_eq0, nI_1]
    have stp : ∀ c, (∃ k, l ≤ k ∧ k < tnL T ∧ litA T hr O B k = true ∧ thr T (T 6 k) (T 2 d) (T 3 d) c) ↔ ((litA T hr O B l = true ∧ thr T (T 6 l) (T 2 d) (T 3 d) c) ∨ ∃ k, l + 1 ≤ k ∧ k < tnL T ∧ litA T hr O B k = true ∧ thr T (T 6 k) (T 2 d) (T 3 d) c) := by
      intro c
      constructor
      · rintro ⟨k, h1, h2, h3⟩
        by_cases hk : k = l
        · subst hk; exact Or.inl h3
        · exact Or.inr ⟨k, by omega, h2, h3⟩
      · rintro (h | ⟨k, h1, h2, h3⟩)
        · exact ⟨l, Nat.le_refl _, hl4, h⟩
        · exact ⟨k, by omega, h2, h3⟩
    cases hlit : litA T hr O B l with
    | false =>
      rw [if_pos rfl]
      obtain ⟨r, e, hr'⟩ := ih (l + 1) f s (by omega) (by omega)
      refine ⟨r, e, fun c hc => ?_⟩
      rw [hr' c hc, stp c, hlit]
      simp
    | true =>
      rw [if_neg (by decide)]
      obtain ⟨g1, g2, g3⟩ := hO.2.2.2.2.2.2.2.1 l hl4
      obtain ⟨k1, k2, k3, k4, k5⟩ := hO.2.2.2.2.2.2.1 d hd
      obtain ⟨rb, eb, hb'⟩ := m_byLamp (di := d) (li := l) (lamp := T 6 l) (door := T 2 d) (high := T 3 d) hO.1 hM.1 (by omega) (by omega) (hM.2.2.2.2.2.2.2.1 d hd).1 (hM.2.2.2.2.2.2.2.1 d hd).2.1 (hM.2.2.2.2.2.2.2.2.1 l hl4).1 g1.1 k1.1 ⟨k2, k3⟩
      rw [eb]
      simp only [Option.bind_some]
      obtain ⟨r, e, hr'⟩ := ih (l + 1) f (s ||| rb) (by omega) (by omega)
      refine ⟨r, e, fun c hc => ?_⟩
      rw [hr' c hc, stp c, hlit, hb_or, Bool.or_eq_true, hb' c hc]
      simp only [true_and]
      exact or_assoc
theorem m_rowS {T : Nat → Nat → Nat} {I : HI} {L : HL} {cell : Nat} {v : Int} (hT : TSize T) (hm : MSize T I L) (hc : cell < tC T) (hv : -100 ≤ v ∧ v ≤ 100) : (v ≤ 0 → ∃ r, fX12_row (nI cell) (-1) 0 (-(iI v)) I L = some r ∧ ∀ c, c < 64 → (hb r c = true ↔ (rayS T cell v c = true ∧ isW T c = false))) ∧ (0 < v → ∃ r, fX12_row (nI cell) 1 0 (iI v) I L = some r ∧ ∀ c, c < 64 → (hb r c = true ↔ (rayS T cell v c = true ∧ isW T c = false))) := by
  unfold rayS
  constructor
  · intro h
    obtain ⟨r, e, hr⟩ := m_row (n := (-v).toNat) (dir := 1) hT hm hc (by omega) (by decide)
    refine ⟨r, ?_, fun c h64 => ?_⟩
    · rw [show -(iI v) = nI (-v).toNat by rw [iI_neg, ← iI_n]; congr 1; omega]
      exact e
    · rw [hr c h64, if_neg (by omega)]
      simp only [Bool.and_eq_true, Bool.not_eq_true']
  · intro h
    obtain ⟨r, e, hr⟩ := m_row (n := v.toNat) (dir := 0) hT hm hc (by omega) (by decide)
    refine ⟨r, ?_, fun c h64 => ?_⟩
    · rw [show iI v = nI v.toNat by rw [← iI_n]; congr 1; omega]
      exact e
    · rw [hr c h64, if_pos (by omega)]
      simp only [Bool.and_eq_true, Bool.not_eq_true']
theorem FM.aim {I J : HI} {L M : HL} {hr dt S O B : Nat} {K : Bool} (hA : MAim hr dt S O B K I) (e : J 73 = I 73) : MAim hr dt S O B K J := by
  unfold MAim at *
  rw [e]; exact hA
theorem m_shadowOf {T : Nat → Nat → Nat} {I : HI} {L : HL} {hr dt S O B d : Nat} {K : Bool} (hO : TOk T) (hM : MTown T I L) (hA : MAim hr dt S O B K I) (hd : d < tnD T) (hh : hr < 24) (hO2 : O < 2 ^ 31) (hB : B < 2 ^ 31) : ∃ r I', fX12_shadowOf (nI d) I L = some (r, I') ∧ (∀ c, c < 64 → (hb r c = true ↔ shdA T hr dt O B K d c)) ∧ (∀ a, a ≠ 81 → a ≠ 82 → I' a = I a) := by
  obtain ⟨m, hm⟩ := fuel_at 1000 (by decide)
  have h8 := hO.2.1
  have h4 := hO.2.2.1
  obtain ⟨k1, k2, k3, k4, k5⟩ := hO.2.2.2.2.2.2.1 d hd
  have hF := hO.2.2.2.2.2.2.2.2.2.1
  have eH := (hM.2.2.2.2.2.2.2.1 d hd).2.1
  -- the value
  have hval : ∃ I', (if I 73 69 = 0 then if inb (nI d) 8 = true then Option.bind (fX12_shadeOf (I 92 (nI d).toNatClampNeg) (I 73 64) (I 73 65) I) fun q5 => some (fX12_capped q5.1, q5.2) else none else some ((0 : Int32), I)) = some (iI (shV T hr dt K d), I') ∧ ∀ a, a ≠ 81 → a ≠ 82 → I' a = I a := by
    rw [hA.2.2.2.2.2, if_pos (inb_nI (by omega) (by decide)), clamp_nI (by omega), eH, hA.1, hA.2.1]
    simp only [b2i_eq0]
    cases K with
    | true => exact ⟨I, by rw [if_neg (by decide)]; rfl, fun _ _ _ => rfl⟩
    | false =>
      obtain ⟨I1, e1, f1⟩ := m_shade (nI (T 3 d)) (nI hr) (nI dt) hF hM.2.2.2.2.2.2.2.2.2.2
      refine ⟨I1, ?_, f1⟩
      rw [if_pos rfl, e1]
      simp only [Option.bind_some]
      rw [m_capped]
      rfl
  obtain ⟨I1, e1, f1⟩ := hval
  have hM1 : MTown T I1 L := hM.fr (fun a ha => f1 a (by omega) (by omega)) (fun j _ => by rw [f1 73 (by decide) (by decide)]) rfl
  have hA1 : MAim hr dt S O B K I1 := FM.aim (L := L) (M := L) hA (f1 73 (by decide) (by decide))
  have hle := shV_le T hr dt K d
  unfold fX12_shadowOf
  rw [e1]
  simp only [Option.bind_some]
  rw [if_pos (inb_nI (by omega) (by decide)), clamp_nI (by omega), (hM1.2.2.2.2.2.2.2.1 d hd).1]
  obtain ⟨g1, g2⟩ := m_rowS (v := shV T hr dt K d) hO.1 hM1.1 k1.1 (by omega)
  have fin : ∀ r1 : Int64, (∀ c, c < 64 → (hb r1 c = true ↔ (rayS T (T 2 d) (shV T hr dt K d) c = true ∧ isW T c = false))) → ∃ r, fX12_shadowOf_71 FUEL (nI d) r1 0 I1 L = some r ∧ ∀ c, c < 64 → (hb r c = true ↔ shdA T hr dt O B K d c) := by
    intro r1 h1
    obtain ⟨r, e, hr'⟩ := m_shL hO hM1 hA1 hd hh hO2 hB (tnL T) 0 FUEL r1 (by omega) (by omega)
    refine ⟨r, e, fun c hc => ?_⟩
    rw [hr' c hc, h1 c hc]
    unfold shdA
    simp
  have c0 : (iI (shV T hr dt K d) ≤ 0) ↔ shV T hr dt K d ≤ 0 := by
    rw [show (0 : Int32) = iI 0 from rfl, iI_le (by unfold sml; omega) (by unfold sml; omega)]
  by_cases hv : shV T hr dt K d ≤ 0
  · obtain ⟨r1, e1', h1⟩ := g1 hv
    rw [if_pos (c0.mpr hv), e1']
    simp only [Option.bind_some]
    obtain ⟨r, e, hr'⟩ := fin r1 h1
    rw [e]
    exact ⟨r, I1, rfl, hr', f1⟩
  · obtain ⟨r1, e1', h1⟩ := g2 (by omega)
    rw [if_neg (fun h => hv (c0.mp h)), if_pos (inb_nI (show d < 8 by omega) (by decide)), e1']
    simp only [Option.bind_some]
    obtain ⟨r, e, hr'⟩ := fin r1 h1
    rw [e]
    exact ⟨r, I1, rfl, hr', f1⟩
