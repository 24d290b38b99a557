/-! both are made, and the law holds -/
theorem m_init_o {I : HI} {L : HL} {a : Nat} (h : a < 73) : (fX12_init I L).1 a = I a ∧ (fX12_init I L).2 a = L a := by
  unfold fX12_init
  simp only
  constructor
  · rw [zr_ne (by omega), zr_ne (by omega), zr_ne (by omega), zr_ne (by omega), zr_ne (by omega), zr_ne (by omega), zr_ne (by omega), zr_ne (by omega), zr_ne (by omega), zr_ne (by omega), zr_ne (by omega), zr_ne (by omega), zr_ne (by omega), zr_ne (by omega), zr_ne (by omega), zr_ne (by omega), zr_ne (by omega), upRow _ _ (by omega), upRow _ _ (by omega), zr_ne (by omega), zr_ne (by omega), zr_ne (by omega), zr_ne (by omega), zr_ne (by omega), zr_ne (by omega), zr_ne (by omega), zr_ne (by omega), zr_ne (by omega), zr_ne (by omega), zr_ne (by omega), zr_ne (by omega), zr_ne (by omega), zr_ne (by omega), zr_ne (by omega), zr_ne (by omega), zr_ne (by omega), zr_ne (by omega), zr_ne (by omega), zr_ne (by omega), zr_ne (by omega), zr_ne (by omega), zr_ne (by omega), zr_ne (by omega), upRow _ _ (by omega), zr_ne (by omega)]
  · rw [zr_ne (by omega), zr_ne (by omega), zr_ne (by omega), zr_ne (by omega), zr_ne (by omega), zr_ne (by omega), zr_ne (by omega), zr_ne (by omega), zr_ne (by omega), zr_ne (by omega), zr_ne (by omega), zr_ne (by omega), zr_ne (by omega), zr_ne (by omega), zr_ne (by omega), zr_ne (by omega), zr_ne (by omega), zr_ne (by omega), zr_ne (by omega), zr_ne (by omega), zr_ne (by omega), zr_ne (by omega), zr_ne (by omega), zr_ne (by omega), zr_ne (by omega), zr_ne (by omega), zr_ne (by omega), zr_ne (by omega), zr_ne (by omega), zr_ne (by omega), zr_ne (by omega), zr_ne (by omega), zr_ne (by omega), zr_ne (by omega), zr_ne (by omega), zr_ne (by omega), zr_ne (by omega), zr_ne (by omega), zr_ne (by omega), zr_ne (by omega), zr_ne (by omega), zr_ne (by omega)]
theorem m_init_73 {I : HI} {L : HL} (j : Nat) : (fX12_init I L).1 73 j = (if j = 53 then 6 else if j = 52 then 6 else if j = 3 then -1 else I 73 j) ∧ (fX12_init I L).2 73 = L 73 := by
  unfold fX12_init
  simp only
  constructor
  · rw [zr_ne (by decide), zr_ne (by decide), zr_ne (by decide), zr_ne (by decide), zr_ne (by decide), zr_ne (by decide), zr_ne (by decide), zr_ne (by decide), zr_ne (by decide), zr_ne (by decide), zr_ne (by decide), zr_ne (by decide), zr_ne (by decide), zr_ne (by decide), zr_ne (by decide), zr_ne (by decide), zr_ne (by decide), up2_at]
    by_cases c1 : j = 53
    · rw [if_pos ⟨rfl, c1⟩, if_pos c1]
    · rw [if_neg (fun g => c1 g.2), if_neg c1, up2_at]
      by_cases c2 : j = 52
      · rw [if_pos ⟨rfl, c2⟩, if_pos c2]
      · rw [if_neg (fun g => c2 g.2), if_neg c2, zr_ne (by decide), zr_ne (by decide), zr_ne (by decide), zr_ne (by decide), zr_ne (by decide), zr_ne (by decide), zr_ne (by decide), zr_ne (by decide), zr_ne (by decide), zr_ne (by decide), zr_ne (by decide), zr_ne (by decide), zr_ne (by decide), zr_ne (by decide), zr_ne (by decide), zr_ne (by decide), zr_ne (by decide), zr_ne (by decide), zr_ne (by decide), zr_ne (by decide), zr_ne (by decide), zr_ne (by decide), zr_ne (by decide), zr_ne (by decide), up2_at]
        by_cases c3 : j = 3
        · rw [if_pos ⟨rfl, c3⟩, if_pos c3]
        · rw [if_neg (fun g => c3 g.2), if_neg c3, zr_ne (by decide)]
  · rw [zr_ne (by decide), zr_ne (by decide), zr_ne (by decide), zr_ne (by decide), zr_ne (by decide), zr_ne (by decide), zr_ne (by decide), zr_ne (by decide), zr_ne (by decide), zr_ne (by decide), zr_ne (by decide), zr_ne (by decide), zr_ne (by decide), zr_ne (by decide), zr_ne (by decide), zr_ne (by decide), zr_ne (by decide), zr_ne (by decide), zr_ne (by decide), zr_ne (by decide), zr_ne (by decide), zr_ne (by decide), zr_ne (by decide), zr_ne (by decide), zr_ne (by decide), zr_ne (by decide), zr_ne (by decide), zr_ne (by decide), zr_ne (by decide), zr_ne (by decide), zr_ne (by decide), zr_ne (by decide), zr_ne (by decide), zr_ne (by decide), zr_ne (by decide), zr_ne (by decide), zr_ne (by decide), zr_ne (by decide), zr_ne (by decide), zr_ne (by decide), zr_ne (by decide), zr_ne (by decide)]
theorem m_init_99 {I : HI} {L : HL} (j : Nat) : (fX12_init I L).1 99 j = 0 ∧ (fX12_init I L).1 114 j = 0 := by
  unfold fX12_init
  simp only
  constructor
  · rw [zr_ne (by decide), zr_ne (by decide), zr_ne (by decide), zr_ne (by decide), zr_ne (by decide), zr_ne (by decide), zr_ne (by decide), zr_ne (by decide), zr_ne (by decide), zr_ne (by decide), zr_ne (by decide), zr_ne (by decide), zr_ne (by decide), zr_ne (by decide), zr_ne (by decide), zr_ne (by decide), zr_eq]
  · rw [zr_ne (by decide), zr_eq]
set_option maxHeartbeats 4000000 in
theorem start_inv : ∃ x, fX11_init I00 L00 = some x ∧ Inv T00 2 (fun _ => nw0 T00) 0 0 (fX12_init (zr0 0 x.1 73) (zr0 0 x.2 73)).1 (fX12_init (zr0 0 x.1 73) (zr0 0 x.2 73)).2 := by
  obtain ⟨x, e1, e2, e3, e4, e5, e6, e7, e8, e9, e10, e11, e12, e13, e14⟩ := start_x
  refine ⟨x, e1, ?_⟩
  obtain ⟨J, hJ⟩ : ∃ y : HI, y = (fX12_init (zr0 0 x.1 73) (zr0 0 x.2 73)).1 := ⟨_, rfl⟩
  obtain ⟨M, hM⟩ : ∃ y : HL, y = (fX12_init (zr0 0 x.1 73) (zr0 0 x.2 73)).2 := ⟨_, rfl⟩
  rw [← hJ, ← hM]
  have oI : ∀ a, a < 73 → J a = x.1 a := fun a ha => by rw [hJ, (m_init_o ha).1, zr_ne (by omega)]
  have oL : ∀ a, a < 73 → M a = x.2 a := fun a ha => by rw [hM, (m_init_o ha).2, zr_ne (by omega)]
  have j73 : ∀ j, J 73 j = if j = 53 then 6 else if j = 52 then 6 else if j = 3 then -1 else 0 := fun j => by rw [hJ, (m_init_73 j).1, zr_eq]
  have m73 : ∀ j, M 73 j = 0 := fun j => by rw [hM, (m_init_73 j).2, zr_eq]
  have z73 : ∀ j, j ≠ 53 → j ≠ 52 → j ≠ 3 → J 73 j = 0 := fun j h1 h2 h3 => by rw [j73, if_neg h1, if_neg h2, if_neg h3]
  have j99 : ∀ j, J 99 j = 0 ∧ J 114 j = 0 := fun j => by rw [hJ]; exact m_init_99 j
  have nz : ∀ k, nw0 T00 k = 0 := fun k => by unfold nw0; rw [if_neg (show ¬ k < tnP T00 from Nat.not_lt_zero k)]
  refine ⟨T00_ok, Or.inl rfl, e2.fr (fun a h1 h2 => oI a (by omega)) ⟨oL 2 (by decide), oL 24 (by decide)⟩, ?_, ⟨⟨by decide, ?_, ?_, ?_⟩, ⟨z73 73 (by decide) (by decide) (by decide), z73 74 (by decide) (by decide) (by decide), fun i hi => absurd hi (Nat.not_lt_zero i), fun i hi => absurd hi (Nat.not_lt_zero i)⟩, ?_, ?_⟩, ?_, ?_, ?_, ?_, ?_, ?_, ?_, ?_⟩
  · refine ⟨⟨by rw [j73]; rfl, by rw [j73]; rfl, fun c _ => by rw [m73, hb_0]; rfl⟩, ?_, z73 55 (by decide) (by decide) (by decide), z73 56 (by decide) (by decide) (by decide), z73 57 (by decide) (by decide) (by decide), z73 58 (by decide) (by decide) (by decide), z73 21 (by decide) (by decide) (by decide), fun d hd => absurd hd (Nat.not_lt_zero d), fun d hd => absurd hd (Nat.not_lt_zero d), fun d hd => absurd hd (Nat.not_lt_zero d), z73 18 (by decide) (by decide) (by decide), fun d hd => absurd hd (Nat.not_lt_zero d)⟩
    rw [T00_ct]
    exact z73 54 (by decide) (by decide) (by decide)
  · rw [oI 54 (by decide), e4]; rfl
  · rw [oI 54 (by decide), e5]; rfl
  · intro i hi
    have hi0 : i = 0 := by omega
    rw [hi0, oL 55 (by decide), e6]
    exact ⟨rfl, nw0_rng T00_ok⟩
  · unfold XNow at *
    rw [oI 53 (by decide), oI 52 (by decide)]
    exact e3
  · intro k hk
    show J 99 k = nI (nw0 T00 k)
    rw [(j99 k).1, nz]; rfl
  · intro i hi p hp
    exact absurd hp (Nat.not_lt_zero p)
  · refine ⟨0, 0, 0, 0, false, ⟨?_, ?_, ?_, ?_, ?_, ?_⟩, by decide, by decide, by decide⟩
    · rw [oI 57 (by decide), e10]; rfl
    · rw [oI 57 (by decide), e10]; rfl
    · rw [oI 57 (by decide), e10]; rfl
    · rw [oI 57 (by decide), e10]; rfl
    · rw [oI 57 (by decide), e10]; rfl
    · intro m hm hbit
      rw [oL 57 (by decide), e11, hb_0] at hbit
      cases hbit
  · refine ⟨0, by decide, ?_, z73 1 (by decide) (by decide) (by decide), fun i hi => absurd hi (Nat.not_lt_zero i)⟩
    rw [oI 0 (by decide), e7]; rfl
  · refine ⟨?_, ?_⟩
    · rw [oI 48 (by decide), e8 8 (by decide), z73 2 (by decide) (by decide) (by decide)]
    · rw [oI 48 (by decide), e9, j73]; rfl
  · refine ⟨fun _ _ => 0, 0, by decide, ?_, fun b hb' => ⟨?_, fun g => ?_⟩⟩
    · rw [oI 0 (by decide), e7]; rfl
    · rw [(j99 b).2, Nat.zero_testBit]; rfl
    · rw [Nat.zero_testBit] at g; cases g
  · refine ⟨0, by decide, ?_, z73 76 (by decide) (by decide) (by decide), fun i hi => absurd hi (Nat.not_lt_zero i)⟩
    rw [oI 61 (by decide), e12]; rfl
  · refine ⟨fun _ _ => 0, 0, 0, by decide, by decide, ?_, z73 86 (by decide) (by decide) (by decide), ?_, z73 87 (by decide) (by decide) (by decide), fun i hi => absurd hi (Nat.not_lt_zero i), fun i _ _ => ?_⟩
    · rw [oI 66 (by decide), e13]; rfl
    · rw [oI 66 (by decide), e13]; rfl
    · rw [oI 66 (by decide), e13, e13, b_0]; exact ⟨rfl, rfl⟩
  · intro i hi
    rw [oL 50 (by decide)]
    exact e14 i hi
theorem pure_law (L : Nat) (xs : Nat → Int32) (hL : L ≤ 3072) : PureLaw L xs := by
  obtain ⟨x, h1, h2⟩ := start_inv
  exact ⟨x, L + 2, h1, law_all hL (L + 1) 0 (L + 2) T00 2 25 25 44 _ 0 0 _ _ (by omega) (by omega) (by omega) h2 (Or.inr rfl) (by decide) (Or.inr rfl)⟩
