section RO2
variable {T : Nat → Nat → Nat} {q : Nat} {I : HI} {L : HL} {N : Nat → Nat}
def RR (T : Nat → Nat → Nat) (E : Nat → Nat → Prop) (r : Nat → Nat) (I : HI) : Prop := (∀ c, grd T c → I 105 c = nI (r c)) ∧ (∀ c, c < tC T → isW T c = true → I 105 c = -1) ∧ (∀ x y, E x y → r x = r y) ∧ (∀ c e, grd T c → grd T e → r c = r e → conn E c e) ∧ ∀ c, grd T c → r c ≤ c ∧ grd T (r c) ∧ r (r c) = r c
theorem m_jL (hO : TOk T) {x y z : Int32} : ∀ (m c fu : Nat) (I : HI), c + m = tC T → m < fu → MTown T I L → ∃ I', fX12_join_32 fu x y z (nI c) I = some I' ∧ (∀ b, b ≠ 105 → I' b = I b) ∧ ∀ e, I' 105 e = if c ≤ e ∧ e < tC T then (if I 105 e = x ∨ I 105 e = y then z else I 105 e) else I 105 e := by
  have hC := tC_le hO.1
  intro m
  induction m with
  | zero =>
    intro c fu I hc hf hM
    obtain ⟨f, rfl⟩ : ∃ f, fu = f + 1 := ⟨fu - 1, by omega⟩
    rw [fX12_join_32, m_size hM.1, if_pos (nI_le (by omega) (by omega))]
    exact ⟨I, rfl, fun _ _ => rfl, fun e => by rw [if_neg (by omega)]⟩
  | succ m ih =>
    intro c fu I hc hf hM
    obtain ⟨f, rfl⟩ : ∃ f, fu = f + 1 := ⟨fu - 1, by omega⟩
    have hc4 : c < tC T := by omega
    rw [fX12_join_32, m_size hM.1, if_neg (nI_ge hc4 (by omega)), nI_1]
    simp only [if_pos (inb_nI (show c < 64 by omega) (show 64 < 2 ^ 31 by decide)), clamp_nI (show c < 2 ^ 31 by omega)]
    by_cases hin : I 105 c = x ∨ I 105 c = y
    · have e0 : (if I 105 c = x then some true else if I 105 c = y then some true else some false) = some true := by
        by_cases h1 : I 105 c = x
        · rw [if_pos h1]
        · rw [if_neg h1, if_pos (hin.resolve_left h1)]
      rw [e0]
      simp only [Option.bind_some, if_true]
      obtain ⟨I', e1, f1, v1⟩ := ih (c + 1) f (up2 I 105 c z) (by omega) (by omega) (hM.fr (fun b hb => upRow _ _ (by omega)) (fun j _ => by rw [upRow _ _ (by decide)]) rfl)
      refine ⟨I', e1, fun b hb => by rw [f1 b hb, upRow _ _ hb], fun e => ?_⟩
      rw [v1 e, up2_at]
      by_cases hec : e = c
      · subst hec
        rw [if_neg (by omega), if_pos ⟨rfl, rfl⟩, if_pos (by omega), if_pos hin]
      · rw [if_neg (show ¬ (105 = 105 ∧ e = c) from fun g => hec g.2)]
        by_cases h2 : c + 1 ≤ e ∧ e < tC T
        · rw [if_pos h2, if_pos (show c ≤ e ∧ e < tC T by omega)]
        · rw [if_neg h2, if_neg (show ¬ (c ≤ e ∧ e < tC T) by omega)]
    · have e0 : (if I 105 c = x then some true else if I 105 c = y then some true else some false) = some false := by
        rw [if_neg (fun g => hin (Or.inl g)), if_neg (fun g => hin (Or.inr g))]
      rw [e0]
      simp only [Option.bind_some, Bool.false_eq_true, if_false]
      obtain ⟨I', e1, f1, v1⟩ := ih (c + 1) f I (by omega) (by omega) hM
      refine ⟨I', e1, f1, fun e => ?_⟩
      rw [v1 e]
      by_cases hec : e = c
      · subst hec
        rw [if_neg (by omega), if_pos (by omega), if_neg hin]
      · by_cases h2 : c + 1 ≤ e ∧ e < tC T
        · rw [if_pos h2, if_pos (show c ≤ e ∧ e < tC T by omega)]
        · rw [if_neg h2, if_neg (show ¬ (c ≤ e ∧ e < tC T) by omega)]
theorem m_join (hO : TOk T) {E : Nat → Nat → Prop} {r : Nat → Nat} {a b : Nat} (hM : MTown T I L) (hR : RR T E r I) (ha : grd T a) (hb' : grd T b) : ∃ I' r', fX12_join (nI a) (nI b) I = some I' ∧ (∀ x, x ≠ 105 → I' x = I x) ∧ RR T (fun x y => E x y ∨ (x = a ∧ y = b)) r' I' := by
  obtain ⟨mf, hmf⟩ := fuel_at 1000 (by decide)
  have hC := tC_le hO.1
  obtain ⟨v1, v2, A, B, C⟩ := hR
  have a64 := grd_64 hO ha
  have b64 := grd_64 hO hb'
  obtain ⟨ca1, ca2, ca3⟩ := C a ha
  obtain ⟨cb1, cb2, cb3⟩ := C b hb'
  have ra64 := grd_64 hO ca2
  have rb64 := grd_64 hO cb2
  obtain ⟨I', e1, f1, w1⟩ := m_jL (L := L) (x := nI (r a)) (y := nI (r b)) (z := nI (min (r a) (r b))) hO (tC T) 0 FUEL I (by omega) (by omega) hM
  have hmin : (if nI (r b) ≤ nI (r a) then some (nI (r b)) else some (nI (r a))) = some (nI (min (r a) (r b))) := by
    by_cases h : r b ≤ r a
    · rw [if_pos (nI_le h (by omega)), Nat.min_eq_right h]
    · rw [if_neg (nI_ge (by omega) (by omega)), Nat.min_eq_left (by omega)]
  have inj : ∀ {x y : Nat}, x < 64 → y < 64 → (nI x = nI y ↔ x = y) := fun h1 h2 => nI_eq (by omega) (by omega)
  have gmin : grd T (min (r a) (r b)) := by
    by_cases h : r b ≤ r a
    · rw [Nat.min_eq_right h]; exact cb2
    · rw [Nat.min_eq_left (by omega)]; exact ca2
  have rmin : r (min (r a) (r b)) = min (r a) (r b) := by
    by_cases h : r b ≤ r a
    · rw [Nat.min_eq_right h]; exact cb3
    · rw [Nat.min_eq_left (by omega)]; exact ca3
  -- the new names
  obtain ⟨r', hr'⟩ : ∃ r' : Nat → Nat, ∀ c, r' c = if r c = r a ∨ r c = r b then min (r a) (r b) else r c := ⟨_, fun _ => rfl⟩
  have hrf : ∀ {x y}, r x = r y → r' x = r' y := fun h => by rw [hr', hr', h]
  refine ⟨I', r', ?_, f1, ?_, ?_, ?_, ?_, ?_⟩
  · unfold fX12_join
    simp only [if_pos (inb_nI a64 (show 64 < 2 ^ 31 by decide)), if_pos (inb_nI b64 (show 64 < 2 ^ 31 by decide)), clamp_nI (show a < 2 ^ 31 by omega), clamp_nI (show b < 2 ^ 31 by omega), v1 a ha, v1 b hb']
    rw [hmin]
    simp only [Option.bind_some]
    rw [show fX12_join_32 FUEL (nI (r a)) (nI (r b)) (nI (min (r a) (r b))) 0 I = _ from e1]
    rfl
  · intro c hc
    have rc64 := grd_64 hO (C c hc).2.1
    rw [w1 c, if_pos ⟨Nat.zero_le _, hc.1⟩, v1 c hc, hr']
    by_cases hin : r c = r a ∨ r c = r b
    · rw [if_pos (by rcases hin with g | g <;> rw [g] <;> simp), if_pos hin]
    · rw [if_neg (by rw [inj rc64 ra64, inj rc64 rb64]; exact hin), if_neg hin]
  · intro c hc hw
    rw [w1 c, if_pos ⟨Nat.zero_le _, hc⟩, v2 c hc hw]
    have ne : ∀ x : Nat, x < 64 → ¬ (-1 : Int32) = nI x := by
      intro x hx g
      have := congrArg Int32.toInt g
      rw [nI_toInt (by omega)] at this
      have e : (-1 : Int32).toInt = -1 := rfl
      omega
    rw [if_neg (by rintro (g | g); exact ne _ ra64 g; exact ne _ rb64 g)]
  · rintro x y (g | ⟨rfl, rfl⟩)
    · exact hrf (A x y g)
    · rw [hr', hr', if_pos (Or.inl rfl), if_pos (Or.inr rfl)]
  · intro c e hc he hce
    have up : ∀ {x y}, conn E x y → conn (fun x y => E x y ∨ (x = a ∧ y = b)) x y := fun h => conn_mono (fun x y g => conn_edge (Or.inl g)) h
    have cab : conn (fun x y => E x y ∨ (x = a ∧ y = b)) a b := conn_edge (Or.inr ⟨rfl, rfl⟩)
    have toa : ∀ {x}, grd T x → (r x = r a ∨ r x = r b) → conn (fun x y => E x y ∨ (x = a ∧ y = b)) x a := by
      intro x gx hx
      rcases hx with g | g
      · exact up (B x a gx ha g)
      · exact conn_trans (up (B x b gx hb' g)) (conn_symm cab)
    rw [hr', hr'] at hce
    by_cases h1 : r c = r a ∨ r c = r b
    · rw [if_pos h1] at hce
      by_cases h2 : r e = r a ∨ r e = r b
      · exact conn_trans (toa hc h1) (conn_symm (toa he h2))
      · rw [if_neg h2] at hce
        exfalso
        apply h2
        by_cases h : r b ≤ r a
        · rw [Nat.min_eq_right h] at hce; exact Or.inr hce.symm
        · rw [Nat.min_eq_left (by omega)] at hce; exact Or.inl hce.symm
    · rw [if_neg h1] at hce
      by_cases h2 : r e = r a ∨ r e = r b
      · rw [if_pos h2] at hce
        exfalso
        apply h1
        by_cases h : r b ≤ r a
        · rw [Nat.min_eq_right h] at hce; exact Or.inr hce
        · rw [Nat.min_eq_left (by omega)] at hce; exact Or.inl hce
      · rw [if_neg h2] at hce
        exact up (B c e hc he hce)
  · intro c hc
    obtain ⟨c1, c2, c3⟩ := C c hc
    rw [hr' c]
    by_cases h1 : r c = r a ∨ r c = r b
    · rw [if_pos h1]
      refine ⟨by rcases h1 with g | g <;> omega, gmin, ?_⟩
      rw [hr', rmin]
      split <;> rfl
    · rw [if_neg h1]
      refine ⟨c1, c2, ?_⟩
      rw [hr', c3, if_neg h1]
/-- all edges of hour n -/
def Efin (T : Nat → Nat → Nat) (N : Nat → Nat) (n x y : Nat) : Prop := (grd T x ∧ grd T y ∧ y < x ∧ nbr T x y = true) ∨ ∃ d, d < tnD T ∧ opnA T ((N 8 + n) % 24) (N 5) d = true ∧ x = T 2 d ∧ shdA T ((N 8 + n) % 24) ((N 8 + n) / 24) (N 6) 0 (decide (N 7 = 1)) d y
def RS (T : Nat → Nat → Nat) (N : Nat → Nat) (n : Nat) (D : Nat → Nat → Prop) (I : HI) : Prop := ∃ r E, RR T E r I ∧ (∀ x y, E x y → Efin T N n x y) ∧ ∀ x y, D x y → conn E x y
theorem Efin_grd (hO : TOk T) {n x y : Nat} (h : Efin T N n x y) : grd T x ∧ grd T y := by
  rcases h with h | ⟨d, h1, _, h3, h4⟩
  · exact ⟨h.1, h.2.1⟩
  · subst h3; exact ⟨(hO.2.2.2.2.2.2.1 d h1).1, shd_grd h4⟩
theorem RS.join (hO : TOk T) {n x y : Nat} {D : Nat → Nat → Prop} (hM : MTown T I L) (h : RS T N n D I) (he : Efin T N n x y) : ∃ I', fX12_join (nI x) (nI y) I = some I' ∧ (∀ b, b ≠ 105 → I' b = I b) ∧ RS T N n (fun p s => D p s ∨ (p = x ∧ s = y)) I' := by
  obtain ⟨r, E, hR, h1, h2⟩ := h
  obtain ⟨gx, gy⟩ := Efin_grd hO he
  obtain ⟨I', r', e, f, hR'⟩ := m_join hO hM hR gx gy
  refine ⟨I', e, f, r', _, hR', ?_, ?_⟩
  · rintro p s (g | ⟨rfl, rfl⟩)
    · exact h1 p s g
    · exact he
  · rintro p s (g | ⟨rfl, rfl⟩)
    · exact conn_mono (fun x y g => conn_edge (Or.inl g)) (h2 p s g)
    · exact conn_edge (Or.inr ⟨rfl, rfl⟩)
theorem RS.weak {n : Nat} {D D' : Nat → Nat → Prop} (h : RS T N n D I) (hD : ∀ x y, D' x y → D x y) : RS T N n D' I := by
  obtain ⟨r, E, h1, h2, h3⟩ := h
  exact ⟨r, E, h1, h2, fun x y g => h3 x y (hD x y g)⟩
theorem MTown.f105 {J : HI} (h : MTown T I L) (f : ∀ b, b ≠ 105 → J b = I b) : MTown T J L := h.fr (fun b hb => f b (by omega)) (fun j _ => by rw [f 73 (by decide)]) rfl
theorem m_r69 (hO : TOk T) {n c : Nat} (hc : c < tC T) : ∀ (m k fu : Nat) (I : HI) (D : Nat → Nat → Prop), k + m = c → m < fu → MTown T I L → RS T N n D I → ∃ I', fX12_layRooms_69 fu (nI c) (nI k) I L = some I' ∧ (∀ b, b ≠ 105 → I' b = I b) ∧ RS T N n (fun x y => D x y ∨ (x = c ∧ k ≤ y ∧ y < c ∧ grd T c ∧ grd T y ∧ nbr T c y = true)) I' := by
  have hC := tC_le hO.1
  intro m
  induction m with
  | zero =>
    intro k fu I D hk hf hM h
    obtain ⟨f, rfl⟩ : ∃ f, fu = f + 1 := ⟨fu - 1, by omega⟩
    rw [fX12_layRooms_69, if_pos (nI_le (by omega) (by omega))]
    refine ⟨I, rfl, fun _ _ => rfl, h.weak ?_⟩
    rintro x y (g | ⟨_, g2, g3, _⟩)
    · exact g
    · omega
  | succ m ih =>
    intro k fu I D hk hf hM h
    obtain ⟨f, rfl⟩ : ∃ f, fu = f + 1 := ⟨fu - 1, by omega⟩
    obtain ⟨rn, en, hn⟩ := m_nextTo hO.1 hM.1 hc
    rw [fX12_layRooms_69, if_neg (nI_ge (by omega) (by omega)), has_hb _ (show c < 64 by omega), hM.1.2.2 c (by omega), en, nI_1]
    simp only [Option.bind_some, b2i_eq0, has_hb _ (show k < 64 by omega), hn k (by omega)]
    by_cases hed : grd T c ∧ grd T k ∧ nbr T c k = true
    · have e0 : (if isW T c = false then if (nbr T c k && !isW T k) = false then some true else some false else some true) = some false := by
        rw [if_pos hed.1.2, hed.2.2, hed.2.1.2]; rfl
      rw [e0]
      simp only [Option.bind_some, Bool.false_eq_true, if_false]
      obtain ⟨I1, e1, f1, h1⟩ := h.join hO hM (x := c) (y := k) (Or.inl ⟨hed.1, hed.2.1, by omega, hed.2.2⟩)
      rw [e1]
      simp only [Option.bind_some]
      obtain ⟨I2, e2, f2, h2⟩ := ih (k + 1) f I1 _ (by omega) (by omega) (hM.f105 f1) h1
      refine ⟨I2, e2, fun b hb => by rw [f2 b hb, f1 b hb], h2.weak ?_⟩
      rintro x y (g | ⟨g1, g2, g3⟩)
      · exact Or.inl (Or.inl g)
      · by_cases hyk : y = k
        · exact Or.inl (Or.inr ⟨g1, hyk⟩)
        · exact Or.inr ⟨g1, by omega, g3⟩
    · have e0 : (if isW T c = false then if (nbr T c k && !isW T k) = false then some true else some false else some true) = some true := by
        by_cases hw : isW T c = false
        · rw [if_pos hw, if_pos]
          cases hnb : nbr T c k with
          | false => rfl
          | true =>
            cases hwk : isW T k with
            | true => rfl
            | false => exact absurd ⟨⟨hc, hw⟩, ⟨by omega, hwk⟩, hnb⟩ hed
        · rw [if_neg hw]
      rw [e0]
      simp only [Option.bind_some, if_true]
      obtain ⟨I2, e2, f2, h2⟩ := ih (k + 1) f I D (by omega) (by omega) hM h
      refine ⟨I2, e2, f2, h2.weak ?_⟩
      rintro x y (g | ⟨g1, g2, g3, g4⟩)
      · exact Or.inl g
      · by_cases hyk : y = k
        · subst hyk; exact absurd g4 hed
        · exact Or.inr ⟨g1, by omega, g3, g4⟩
theorem m_r54 (hO : TOk T) {n : Nat} : ∀ (m c fu : Nat) (I : HI) (D : Nat → Nat → Prop), c + m = tC T → m < fu → MTown T I L → RS T N n D I → ∃ I', fX12_layRooms_54 fu (nI c) I L = some I' ∧ (∀ b, b ≠ 105 → I' b = I b) ∧ RS T N n (fun x y => D x y ∨ (c ≤ x ∧ y < x ∧ grd T x ∧ grd T y ∧ nbr T x y = true)) I' := by
  obtain ⟨mf, hmf⟩ := fuel_at 1000 (by decide)
  have hC := tC_le hO.1
  intro m
  induction m with
  | zero =>
    intro c fu I D hc hf hM h
    obtain ⟨f, rfl⟩ : ∃ f, fu = f + 1 := ⟨fu - 1, by omega⟩
    rw [fX12_layRooms_54, m_size hM.1, if_pos (nI_le (by omega) (by omega))]
    refine ⟨I, rfl, fun _ _ => rfl, h.weak ?_⟩
    rintro x y (g | ⟨g1, _, g3, _⟩)
    · exact g
    · have := g3.1; omega
  | succ m ih =>
    intro c fu I D hc hf hM h
    obtain ⟨f, rfl⟩ : ∃ f, fu = f + 1 := ⟨fu - 1, by omega⟩
    have hc4 : c < tC T := by omega
    obtain ⟨I1, e1, f1, h1⟩ := m_r69 hO hc4 c 0 FUEL I D (by omega) (by omega) hM h
    rw [fX12_layRooms_54, m_size hM.1, if_neg (nI_ge hc4 (by omega)), nI_1, show fX12_layRooms_69 FUEL (nI c) 0 I L = _ from e1]
    simp only [Option.bind_some]
    obtain ⟨I2, e2, f2, h2⟩ := ih (c + 1) f I1 _ (by omega) (by omega) (hM.f105 f1) h1
    refine ⟨I2, e2, fun b hb => by rw [f2 b hb, f1 b hb], h2.weak ?_⟩
    rintro x y (g | ⟨g1, g2, g3⟩)
    · exact Or.inl (Or.inl g)
    · by_cases hxc : x = c
      · subst hxc; exact Or.inl (Or.inr ⟨rfl, Nat.zero_le _, g2, g3⟩)
      · exact Or.inr ⟨by omega, g2, g3⟩
theorem m_r138 (hO : TOk T) {n d : Nat} (hd : d < tnD T) (hop : opnA T ((N 8 + n) % 24) (N 5) d = true) (hs : MShd T ((N 8 + n) % 24) ((N 8 + n) / 24) (N 6) 0 (decide (N 7 = 1)) (tnD T) L) : ∀ (m c fu : Nat) (I : HI) (D : Nat → Nat → Prop), c + m = tC T → m < fu → MTown T I L → RS T N n D I → ∃ I', fX12_layRooms_138 fu (nI d) (nI c) I L = some I' ∧ (∀ b, b ≠ 105 → I' b = I b) ∧ RS T N n (fun x y => D x y ∨ (x = T 2 d ∧ c ≤ y ∧ shdA T ((N 8 + n) % 24) ((N 8 + n) / 24) (N 6) 0 (decide (N 7 = 1)) d y)) I' := by
  have hC := tC_le hO.1
  have h8 := hO.2.1
  intro m
  induction m with
  | zero =>
    intro c fu I D hc hf hM h
    obtain ⟨f, rfl⟩ : ∃ f, fu = f + 1 := ⟨fu - 1, by omega⟩
    rw [fX12_layRooms_138, m_size hM.1, if_pos (nI_le (by omega) (by omega))]
    refine ⟨I, rfl, fun _ _ => rfl, h.weak ?_⟩
    rintro x y (g | ⟨_, g2, g3⟩)
    · exact g
    · have := (shd_grd g3).1; omega
  | succ m ih =>
    intro c fu I D hc hf hM h
    obtain ⟨f, rfl⟩ : ∃ f, fu = f + 1 := ⟨fu - 1, by omega⟩
    have hc4 : c < tC T := by omega
    have hsh := hs d hd c (by omega)
    rw [fX12_layRooms_138, m_size hM.1, if_neg (nI_ge hc4 (by omega)), nI_1]
    simp only [if_pos (inb_nI (show d < 8 by omega) (show 8 < 2 ^ 31 by decide)), clamp_nI (show d < 2 ^ 31 by omega), has_hb _ (show c < 64 by omega), b2i_eq0, (hM.2.2.2.2.2.2.2.1 d hd).1]
    cases hb1 : hb (L 100 d) c with
    | false =>
      rw [if_pos rfl]
      obtain ⟨I2, e2, f2, h2⟩ := ih (c + 1) f I D (by omega) (by omega) hM h
      refine ⟨I2, e2, f2, h2.weak ?_⟩
      rintro x y (g | ⟨g1, g2, g3⟩)
      · exact Or.inl g
      · by_cases hyc : y = c
        · subst hyc; have := hsh.mpr g3; rw [hb1] at this; cases this
        · exact Or.inr ⟨g1, by omega, g3⟩
    | true =>
      rw [if_neg (by decide)]
      obtain ⟨I1, e1, f1, h1⟩ := h.join hO hM (x := T 2 d) (y := c) (Or.inr ⟨d, hd, hop, rfl, hsh.mp hb1⟩)
      rw [e1]
      simp only [Option.bind_some]
      obtain ⟨I2, e2, f2, h2⟩ := ih (c + 1) f I1 _ (by omega) (by omega) (hM.f105 f1) h1
      refine ⟨I2, e2, fun b hb => by rw [f2 b hb, f1 b hb], h2.weak ?_⟩
      rintro x y (g | ⟨g1, g2, g3⟩)
      · exact Or.inl (Or.inl g)
      · by_cases hyc : y = c
        · exact Or.inl (Or.inr ⟨g1, hyc⟩)
        · exact Or.inr ⟨g1, by omega, g3⟩
theorem m_r117 (hO : TOk T) {n : Nat} (hN : NRng N) (hs : MShd T ((N 8 + n) % 24) ((N 8 + n) / 24) (N 6) 0 (decide (N 7 = 1)) (tnD T) L) : ∀ (m d fu : Nat) (I : HI) (D : Nat → Nat → Prop), d + m = tnD T → m < fu → MTown T I L → MAim ((N 8 + n) % 24) ((N 8 + n) / 24) (N 5) (N 6) 0 (decide (N 7 = 1)) I → RS T N n D I → ∃ I', fX12_layRooms_117 fu (nI d) I L = some I' ∧ (∀ b, b ≠ 105 → I' b = I b) ∧ RS T N n (fun x y => D x y ∨ ∃ k, d ≤ k ∧ k < tnD T ∧ opnA T ((N 8 + n) % 24) (N 5) k = true ∧ x = T 2 k ∧ shdA T ((N 8 + n) % 24) ((N 8 + n) / 24) (N 6) 0 (decide (N 7 = 1)) k y) I' := by
  obtain ⟨mf, hmf⟩ := fuel_at 1000 (by decide)
  have hC := tC_le hO.1
  have h8 := hO.2.1
  obtain ⟨b1, b2, b3⟩ := ShS hN
  intro m
  induction m with
  | zero =>
    intro d fu I D hd hf hM hA h
    obtain ⟨f, rfl⟩ : ∃ f, fu = f + 1 := ⟨fu - 1, by omega⟩
    rw [fX12_layRooms_117, hM.2.2.1, if_pos (nI_le (by omega) (by omega))]
    refine ⟨I, rfl, fun _ _ => rfl, h.weak ?_⟩
    rintro x y (g | ⟨k, g1, g2, _⟩)
    · exact g
    · omega
  | succ m ih =>
    intro d fu I D hd hf hM hA h
    obtain ⟨f, rfl⟩ : ∃ f, fu = f + 1 := ⟨fu - 1, by omega⟩
    have hd4 : d < tnD T := by omega
    rw [fX12_layRooms_117, hM.2.2.1, if_neg (nI_ge hd4 (by omega)), m_isOpen hO hM hA hd4 (Nat.mod_lt _ (by decide)) b2, nI_1]
    simp only [Option.bind_some, b2i_eq0]
    cases hop : opnA T ((N 8 + n) % 24) (N 5) d with
    | false =>
      rw [if_pos rfl]
      obtain ⟨I2, e2, f2, h2⟩ := ih (d + 1) f I D (by omega) (by omega) hM hA h
      refine ⟨I2, e2, f2, h2.weak ?_⟩
      rintro x y (g | ⟨k, g1, g2, g3⟩)
      · exact Or.inl g
      · by_cases hkd : k = d
        · subst hkd; rw [hop] at g3; exact absurd g3.1 (by decide)
        · exact Or.inr ⟨k, by omega, g2, g3⟩
    | true =>
      rw [if_neg (by decide)]
      obtain ⟨I1, e1, f1, h1⟩ := m_r138 hO hd4 hop hs (tC T) 0 FUEL I D (by omega) (by omega) hM h
      rw [show fX12_layRooms_138 FUEL (nI d) 0 I L = _ from e1]
      simp only [Option.bind_some]
      obtain ⟨I2, e2, f2, h2⟩ := ih (d + 1) f I1 _ (by omega) (by omega) (hM.f105 f1) (FM.aim (L := L) (M := L) hA (f1 73 (by decide))) h1
      refine ⟨I2, e2, fun b hb => by rw [f2 b hb, f1 b hb], h2.weak ?_⟩
      rintro x y (g | ⟨k, g1, g2, g3, g4, g5⟩)
      · exact Or.inl (Or.inl g)
      · by_cases hkd : k = d
        · subst hkd; exact Or.inl (Or.inr ⟨g4, Nat.zero_le _, g5⟩)
        · exact Or.inr ⟨k, by omega, g2, g3, g4, g5⟩
end RO2
