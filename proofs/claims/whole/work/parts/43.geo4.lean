/-- the walk from the lamp to the door -/
theorem m_lampL {T : Nat → Nat → Nat} {I : HI} {L : HL} {di m door : Nat} {p : Nat → Nat} {rt dn : Int32} (hm : MSize T I L) (hdi : di < 8) (hdoor : I 91 di = nI door) (hd64 : door < 64) (hp : ∀ i, i < m → p i ≠ door ∧ p i < 64 ∧ nI (p i) + (rt + dn * nI (tW T)) = nI (p (i + 1))) (hpm : p m = door) : ∀ (d i fu : Nat), i + d = m → d < fu → ((∀ j, i ≤ j → j < m → isW T (p j) = false) → fX12_byLamp_117 fu (nI di) rt dn (nI (p i)) I L = fX12_row (nI door) rt dn (I 92 di) I L) ∧ ((∃ j, i ≤ j ∧ j < m ∧ isW T (p j) = true) → fX12_byLamp_117 fu (nI di) rt dn (nI (p i)) I L = some 0) := by
  intro d
  induction d with
  | zero =>
    intro i fu hi hf
    obtain ⟨f, rfl⟩ : ∃ f, fu = f + 1 := ⟨fu - 1, by omega⟩
    have him : i = m := by omega
    subst him
    constructor
    · intro _
      rw [fX12_byLamp_117, if_pos (inb_nI hdi (by decide)), clamp_nI (by omega), hdoor, hpm, if_pos rfl, if_pos (inb_nI hdi (by decide)), if_pos (inb_nI hdi (by decide))]
      cases fX12_row (nI door) rt dn (I 92 di) I L <;> rfl
    · rintro ⟨j, h1, h2, _⟩; omega
  | succ d ih =>
    intro i fu hi hf
    obtain ⟨f, rfl⟩ : ∃ f, fu = f + 1 := ⟨fu - 1, by omega⟩
    obtain ⟨p1, p2, p3⟩ := hp i (by omega)
    have hne : ¬ nI (p i) = nI door := fun h => p1 (by have := congrArg Int32.toNatClampNeg h; rwa [clamp_nI (by omega), clamp_nI (by omega)] at this)
    have key : fX12_byLamp_117 (f + 1) (nI di) rt dn (nI (p i)) I L = if isW T (p i) = false then fX12_byLamp_117 f (nI di) rt dn (nI (p (i + 1))) I L else some 0 := by
      rw [fX12_byLamp_117, if_pos (inb_nI hdi (by decide)), clamp_nI (by omega), hdoor, if_neg hne, has_hb _ p2, hm.2.2 _ p2, hm.1]
      simp only [b2i_eq0, p3]
    rw [key]
    obtain ⟨ih1, ih2⟩ := ih (i + 1) f (by omega) (by omega)
    constructor
    · intro h
      rw [if_pos (h i (Nat.le_refl _) (by omega))]
      exact ih1 (fun j h1 h2 => h j (by omega) h2)
    · rintro ⟨j, h1, h2, h3⟩
      by_cases hw : isW T (p i) = false
      · rw [if_pos hw]
        refine ih2 ⟨j, ?_, h2, h3⟩
        by_cases hji : j = i
        · subst hji; rw [hw] at h3; cases h3
        · omega
      · rw [if_neg hw]
/-- cell i of the walk -/
def stp (T : Nat → Nat → Nat) (dir lamp i : Nat) : Nat := if dir = 0 then lamp + i else if dir = 1 then lamp - i else if dir = 2 then lamp + i * tW T else lamp - i * tW T
def mny (T : Nat → Nat → Nat) (dir lamp door : Nat) : Nat := if dir = 0 then door - lamp else if dir = 1 then lamp - door else if dir = 2 then door / tW T - lamp / tW T else lamp / tW T - door / tW T
theorem stp_ok {T : Nat → Nat → Nat} {lamp door : Nat} (hT : TSize T) (hl : lamp < tC T) (hd : door < tC T) (hne : lamp ≠ door) (hon : lamp / tW T = door / tW T ∨ lamp % tW T = door % tW T) : stp T (dirOf T lamp door) lamp (mny T (dirOf T lamp door) lamp door) = door ∧ 1 ≤ mny T (dirOf T lamp door) lamp door ∧ mny T (dirOf T lamp door) lamp door ≤ 8 ∧ (∀ i, i < mny T (dirOf T lamp door) lamp door → stp T (dirOf T lamp door) lamp i ≠ door ∧ stp T (dirOf T lamp door) lamp i < 64 ∧ ((stp T (dirOf T lamp door) lamp i : Nat) : Int) + (dX (dirOf T lamp door) + dY (dirOf T lamp door) * tW T) = ((stp T (dirOf T lamp door) lamp (i + 1) : Nat) : Int)) ∧ ∀ c, btw T lamp door c ↔ ∃ j, 1 ≤ j ∧ j < mny T (dirOf T lamp door) lamp door ∧ stp T (dirOf T lamp door) lamp j = c := by
  have hw8 := tW8 hT
  have hC := tC_le hT
  have hD := hT.2.2.2
  unfold tC at hl hd hC
  unfold dirOf btw
  by_cases hrow : lamp / tW T = door / tW T
  · by_cases hlt : lamp < door
    · simp only [if_pos hrow, if_pos hlt, stp, mny, dX, dY, if_true, if_neg (show ¬ (0 : Nat) = 2 by decide), if_neg (show ¬ (0 : Nat) = 3 by decide)]
      generalize tW T = W at *
      generalize tD T = D at *
      refine ⟨by omega, by omega, ?_, ?_, ?_⟩
      · rcases hw8 with h | h | h | h | h | h | h | h <;> subst h <;> omega
      · intro i hi
        rcases hw8 with h | h | h | h | h | h | h | h <;> subst h <;> omega
      · intro c
        constructor
        · intro h; exact ⟨c - lamp, by omega, by omega, by omega⟩
        · rintro ⟨j, h1, h2, h3⟩; omega
    · simp only [if_pos hrow, if_neg hlt, stp, mny, dX, dY, if_true, if_neg (show ¬ (1 : Nat) = 0 by decide), if_neg (show ¬ (1 : Nat) = 2 by decide), if_neg (show ¬ (1 : Nat) = 3 by decide)]
      generalize tW T = W at *
      generalize tD T = D at *
      refine ⟨by omega, by omega, ?_, ?_, ?_⟩
      · rcases hw8 with h | h | h | h | h | h | h | h <;> subst h <;> omega
      · intro i hi
        rcases hw8 with h | h | h | h | h | h | h | h <;> subst h <;> omega
      · intro c
        constructor
        · intro h; exact ⟨lamp - c, by omega, by omega, by omega⟩
        · rintro ⟨j, h1, h2, h3⟩; omega
  · have hcol : lamp % tW T = door % tW T := by omega
    by_cases hlt : lamp < door
    · simp only [if_neg hrow, if_pos hlt, stp, mny, dX, dY, if_true, if_neg (show ¬ (2 : Nat) = 0 by decide), if_neg (show ¬ (2 : Nat) = 1 by decide)]
      generalize tW T = W at *
      generalize tD T = D at *
      refine ⟨?_, ?_, ?_, ?_, ?_⟩
      · rcases hw8 with h | h | h | h | h | h | h | h <;> subst h <;> omega
      · rcases hw8 with h | h | h | h | h | h | h | h <;> subst h <;> omega
      · rcases hw8 with h | h | h | h | h | h | h | h <;> subst h <;> omega
      · intro i hi
        rcases hw8 with h | h | h | h | h | h | h | h <;> subst h <;> omega
      · intro c
        constructor
        · intro h
          refine ⟨c / W - lamp / W, ?_⟩
          rcases hw8 with h | h | h | h | h | h | h | h <;> subst h <;> omega
        · rintro ⟨j, h1, h2, h3⟩
          rcases hw8 with h | h | h | h | h | h | h | h <;> subst h <;> omega
    · simp only [if_neg hrow, if_neg hlt, stp, mny, dX, dY, if_true, if_neg (show ¬ (3 : Nat) = 0 by decide), if_neg (show ¬ (3 : Nat) = 1 by decide), if_neg (show ¬ (3 : Nat) = 2 by decide)]
      generalize tW T = W at *
      generalize tD T = D at *
      refine ⟨?_, ?_, ?_, ?_, ?_⟩
      · rcases hw8 with h | h | h | h | h | h | h | h <;> subst h <;> omega
      · rcases hw8 with h | h | h | h | h | h | h | h <;> subst h <;> omega
      · rcases hw8 with h | h | h | h | h | h | h | h <;> subst h <;> omega
      · intro i hi
        rcases hw8 with h | h | h | h | h | h | h | h <;> subst h <;> omega
      · intro c
        constructor
        · intro h
          refine ⟨lamp / W - c / W, ?_⟩
          rcases hw8 with h | h | h | h | h | h | h | h <;> subst h <;> omega
        · rintro ⟨j, h1, h2, h3⟩
          rcases hw8 with h | h | h | h | h | h | h | h <;> subst h <;> omega
theorem m_toward {a b : Nat} (ha : a < 1000) (hb : b < 1000) : fX12_toward (nI a) (nI b) = iI (if a < b then 1 else if b < a then -1 else 0) := by
  unfold fX12_toward
  by_cases h1 : b ≤ a
  · have n1 : ¬ a < b := by omega
    rw [if_pos (nI_le h1 (by omega)), if_neg n1]
    by_cases h2 : a ≤ b
    · have n2 : ¬ b < a := by omega
      rw [if_pos (nI_le h2 (by omega)), if_neg n2]; rfl
    · have n2 : b < a := by omega
      rw [if_neg (nI_ge n2 (by omega)), if_pos n2]; rfl
  · have n1 : a < b := by omega
    rw [if_neg (nI_ge n1 (by omega)), if_pos n1]; rfl
theorem dir_tw {T : Nat → Nat → Nat} {lamp door : Nat} (hT : TSize T) (hl : lamp < tC T) (hd : door < tC T) (hne : lamp ≠ door) (hon : lamp / tW T = door / tW T ∨ lamp % tW T = door % tW T) : ((if lamp % tW T < door % tW T then 1 else if door % tW T < lamp % tW T then -1 else 0 : Int) = dX (dirOf T lamp door)) ∧ ((if lamp / tW T < door / tW T then 1 else if door / tW T < lamp / tW T then -1 else 0 : Int) = dY (dirOf T lamp door)) := by
  have hw8 := tW8 hT
  unfold dirOf dX dY
  clear hl hd
  generalize tW T = W at *
  by_cases hrow : lamp / W = door / W
  · have n1 : ¬ lamp / W < door / W := by omega
    have n2 : ¬ door / W < lamp / W := by omega
    by_cases hlt : lamp < door
    · have m1 : lamp % W < door % W := by
        rcases hw8 with h | h | h | h | h | h | h | h <;> subst h <;> omega
      rw [if_pos hrow, if_pos hlt, if_pos m1, if_neg n1, if_neg n2]
      decide
    · have m1 : ¬ lamp % W < door % W := by
        rcases hw8 with h | h | h | h | h | h | h | h <;> subst h <;> omega
      have m2 : door % W < lamp % W := by
        rcases hw8 with h | h | h | h | h | h | h | h <;> subst h <;> omega
      rw [if_pos hrow, if_neg hlt, if_neg m1, if_pos m2, if_neg n1, if_neg n2]
      decide
  · have hcol : lamp % W = door % W := by omega
    have n1 : ¬ lamp % W < door % W := by omega
    have n2 : ¬ door % W < lamp % W := by omega
    by_cases hlt : lamp < door
    · have m1 : lamp / W < door / W := by
        rcases hw8 with h | h | h | h | h | h | h | h <;> subst h <;> omega
      rw [if_neg hrow, if_pos hlt, if_neg n1, if_neg n2, if_pos m1]
      decide
    · have m1 : ¬ lamp / W < door / W := by
        rcases hw8 with h | h | h | h | h | h | h | h <;> subst h <;> omega
      have m2 : door / W < lamp / W := by
        rcases hw8 with h | h | h | h | h | h | h | h <;> subst h <;> omega
      rw [if_neg hrow, if_neg hlt, if_neg n1, if_neg n2, if_neg m1, if_pos m2]
      decide
theorem m_byLamp {T : Nat → Nat → Nat} {I : HI} {L : HL} {di li lamp door high : Nat} (hT : TSize T) (hm : MSize T I L) (hdi : di < 8) (hli : li < 4) (eD : I 91 di = nI door) (eH : I 92 di = nI high) (eL : I 95 li = nI lamp) (hl : lamp < tC T) (hd : door < tC T) (hh : 1 ≤ high ∧ high ≤ 9) : ∃ r, fX12_byLamp (nI di) (nI li) I L = some r ∧ ∀ c, c < 64 → (hb r c = true ↔ thr T lamp door high c) := by
  obtain ⟨mf, hf⟩ := fuel_at 1000 (by decide)
  have hW := hT.1
  have hW2 := hT.2.1
  have hD2 := hT.2.2.2
  obtain ⟨l64, l1, l2⟩ := mod_row hT hl
  obtain ⟨d64, d1, d2⟩ := mod_row hT hd
  have nz : ¬ nI (tW T) = 0 := nI_ne0 hW (by omega)
  unfold fX12_byLamp
  simp only [if_pos (inb_nI hdi (by decide : 8 < 2 ^ 31)), if_pos (inb_nI hli (by decide : 4 < 2 ^ 31)), clamp_nI (show di < 2 ^ 31 by omega), clamp_nI (show li < 2 ^ 31 by omega), eD, eL, hm.1, if_neg nz]
  rw [pk_rem (by omega) hW (by omega), pk_rem (by omega) hW (by omega), pk_div (by omega) hW (by omega), pk_div (by omega) hW (by omega)]
  have inj : ∀ {a b : Nat}, a < 1000 → b < 1000 → ((nI a = nI b) ↔ a = b) := fun ha hb => ⟨fun h => by have := congrArg Int32.toNatClampNeg h; rwa [clamp_nI (by omega), clamp_nI (by omega)] at this, fun h => by rw [h]⟩
  by_cases hno : lamp = door ∨ ¬ (lamp / tW T = door / tW T ∨ lamp % tW T = door % tW T)
  · have e : (if nI lamp = nI door then some true else if nI (lamp % tW T) = nI (door % tW T) then some false else if nI (lamp / tW T) = nI (door / tW T) then some false else some true) = some true := by
      by_cases h : lamp = door
      · rw [if_pos ((inj (by omega) (by omega)).mpr h)]
      · rw [if_neg (fun g => h ((inj (by omega) (by omega)).mp g)), if_neg (fun g => by have := (inj (by omega) (by omega)).mp g; omega), if_neg (fun g => by have := (inj (by omega) (by omega)).mp g; omega)]
    rw [e]
    simp only [Option.bind_some]
    rw [if_pos trivial]
    refine ⟨0, rfl, fun c _ => ?_⟩
    rw [hb_0]
    constructor
    · intro h; cases h
    · intro h
      rcases hno with h2 | h2
      · exact absurd h2 h.1
      · exact absurd h.2.1 h2
  · have hne : lamp ≠ door := fun h => hno (Or.inl h)
    have hon : lamp / tW T = door / tW T ∨ lamp % tW T = door % tW T := by
      by_cases h : lamp / tW T = door / tW T ∨ lamp % tW T = door % tW T
      · exact h
      · exact absurd (Or.inr h) hno
    have e : (if nI lamp = nI door then some true else if nI (lamp % tW T) = nI (door % tW T) then some false else if nI (lamp / tW T) = nI (door / tW T) then some false else some true) = some false := by
      rw [if_neg (fun g => hne ((inj (by omega) (by omega)).mp g))]
      by_cases h : lamp % tW T = door % tW T
      · rw [if_pos ((inj (by omega) (by omega)).mpr h)]
      · rw [if_neg (fun g => h ((inj (by omega) (by omega)).mp g)), if_pos ((inj (by omega) (by omega)).mpr (by omega))]
    rw [e]
    simp only [Option.bind_some]
    rw [if_neg (by decide), m_toward (by omega) (by omega), m_toward (by omega) (by omega)]
    obtain ⟨t1, t2⟩ := dir_tw hT hl hd hne hon
    rw [t1, t2]
    obtain ⟨s1, s2, s3, s4, s5⟩ := stp_ok hT hl hd hne hon
    have hdir : dirOf T lamp door < 4 := by unfold dirOf; split <;> split <;> decide
    generalize hdr : dirOf T lamp door = dir at *
    have hp : ∀ i, i < mny T dir lamp door → stp T dir lamp i ≠ door ∧ stp T dir lamp i < 64 ∧ nI (stp T dir lamp i) + (iI (dX dir) + iI (dY dir) * nI (tW T)) = nI (stp T dir lamp (i + 1)) := by
      intro i hi
      obtain ⟨a, b, c⟩ := s4 i hi
      refine ⟨a, b, ?_⟩
      rw [← iI_n, ← iI_n, ← iI_n, iI_mul, iI_add, iI_add, c]
    have e0 : stp T dir lamp 0 = lamp := by unfold stp; by_cases a : dir = 0 <;> by_cases b : dir = 1 <;> by_cases c : dir = 2 <;> simp [a, b, c]
    have e1 : nI lamp + iI (dX dir) + iI (dY dir) * nI (tW T) = nI (stp T dir lamp 1) := by
      have := (hp 0 (by omega)).2.2
      rw [e0] at this
      rw [← this, Int32.add_assoc]
    rw [e1]
    obtain ⟨g1, g2⟩ := m_lampL (m := mny T dir lamp door) (p := stp T dir lamp) hm hdi eD d64 hp s1 (mny T dir lamp door - 1) 1 FUEL (by omega) (by omega)
    by_cases hcl : clearL T lamp door
    · have g1' := g1 (by
        intro j h1 h2
        exact hcl _ (hp j h2).2.1 ((s5 _).mpr ⟨j, h1, h2, rfl⟩))
      rw [g1', eH]
      obtain ⟨r, er, hr⟩ := m_row (n := high) hT hm hd (by omega) hdir
      rw [er]
      refine ⟨r, rfl, fun c hc => ?_⟩
      rw [hr c hc]
      unfold thr
      rw [hdr]
      simp only [Bool.and_eq_true, Bool.not_eq_true']
      constructor
      · rintro ⟨h1, h2⟩; exact ⟨hne, hon, hcl, h1, h2⟩
      · rintro ⟨_, _, _, h1, h2⟩; exact ⟨h1, h2⟩
    · have g2' := g2 (by
        apply Classical.byContradiction
        intro hh
        apply hcl
        intro c hc hbt
        obtain ⟨j, h1, h2, h3⟩ := (s5 c).mp hbt
        cases hw : isW T c with
        | false => rfl
        | true => exact absurd ⟨j, h1, h2, by rw [h3]; exact hw⟩ hh)
      rw [g2']
      refine ⟨0, rfl, fun c _ => ?_⟩
      rw [hb_0]
      constructor
      · intro h; cases h
      · intro h; exact absurd h.2.2.1 hcl
