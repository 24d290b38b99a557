/-! acts kept: the reference's row of slots against the class's row of longs -/
def shf (k : Nat) (I : HI) : HI := fun a => if a = 102 then (fun j => if k ≤ j ∧ j < 390 then I 102 (j + 10) else I 102 j) else I a
theorem act11 : ∀ (d k fu : Nat) (I : HI), k + d = 390 → d < fu → fX12_act_11 fu (nI k) I = some (shf k I) := by
  intro d
  induction d with
  | zero =>
    intro k fu I hk hf
    obtain ⟨f, rfl⟩ : ∃ f, fu = f + 1 := ⟨fu - 1, by omega⟩
    rw [fX12_act_11, if_pos (by rw [fa_lit 390]; exact nI_le (by omega) (by omega))]
    congr 1
    funext a j
    unfold shf
    by_cases h : a = 102
    · subst h; simp; intro h1 h2; omega
    · simp [h]
  | succ d ih =>
    intro k fu I hk hf
    obtain ⟨f, rfl⟩ : ∃ f, fu = f + 1 := ⟨fu - 1, by omega⟩
    have e10 : (10 : Int32) + nI k = nI (10 + k) := by rw [fa_lit 10, nI_add]
    rw [fX12_act_11, if_neg (by rw [fa_lit 390]; exact nI_ge (by omega) (by omega)), e10, if_pos (inb_nI (by omega) (by decide)), if_pos (inb_nI (by omega) (by decide)), clamp_nI (by omega), clamp_nI (by omega), nI_1]
    dsimp only
    rw [ih (k + 1) f _ (by omega) (by omega)]
    congr 1
    funext a j
    unfold shf
    by_cases h : a = 102
    · subst h
      simp only [if_true, up2_at, true_and]
      by_cases c1 : k + 1 ≤ j ∧ j < 390
      · rw [if_pos c1, if_neg (by omega), if_pos (by omega)]
      · rw [if_neg c1]
        by_cases c2 : j = k
        · subst c2
          rw [if_pos rfl, if_pos (by omega), Nat.add_comm]
        · rw [if_neg c2, if_neg (by omega)]
    · simp [h, up2_at]
/-- nine of row 99 into slot s -/
def slot9 (s k : Nat) (I : HI) : HI := fun a => if a = 102 then (fun j => if 10 * s + k ≤ j ∧ j < 10 * s + 9 then I 99 (j - 10 * s) else I 102 j) else I a
theorem act51 : ∀ (d k fu : Nat) (I : HI) (s : Nat), k + d = 9 → d < fu → s < 40 → I 73 73 = nI s → fX12_act_51 fu (nI k) I = some (up2 (up2 (slot9 s k I) 73 73 (nI (s + 1))) 73 74 0) := by
  intro d
  induction d with
  | zero =>
    intro k fu I s hk hf hs h73
    obtain ⟨f, rfl⟩ : ∃ f, fu = f + 1 := ⟨fu - 1, by omega⟩
    rw [fX12_act_51, if_pos (by rw [fa_lit 9]; exact nI_le (by omega) (by omega))]
    dsimp only
    rw [h73, nI_1]
    have e : slot9 s k I = I := by
      funext a j
      unfold slot9
      by_cases h : a = 102
      · subst h; simp; intro h1 h2; omega
      · simp [h]
    rw [e]
  | succ d ih =>
    intro k fu I s hk hf hs h73
    obtain ⟨f, rfl⟩ : ∃ f, fu = f + 1 := ⟨fu - 1, by omega⟩
    have e10 : (10 : Int32) * nI s + nI k = nI (10 * s + k) := by rw [fa_lit 10, pk_mul, nI_add]
    rw [fX12_act_51, if_neg (by rw [fa_lit 9]; exact nI_ge (by omega) (by omega)), if_pos (inb_nI (by omega) (by decide)), h73, e10, if_pos (inb_nI (by omega) (by decide)), clamp_nI (by omega), clamp_nI (by omega), nI_1]
    dsimp only
    rw [ih (k + 1) f _ s (by omega) (by omega) hs (by simp [up2_at]; exact h73)]
    congr 3
    funext a j
    unfold slot9
    by_cases h : a = 102
    · subst h
      simp only [if_true, up2_at, true_and, show ¬ (99 = 102) by decide, false_and, if_false]
      by_cases c1 : 10 * s + (k + 1) ≤ j ∧ j < 10 * s + 9
      · rw [if_pos c1, if_pos (by omega)]
      · rw [if_neg c1]
        by_cases c2 : j = 10 * s + k
        · subst c2
          rw [if_pos rfl, if_pos (by omega)]
          congr 1
          omega
        · rw [if_neg c2, if_neg (by omega)]
    · simp [h, up2_at]
theorem m_act {I : HI} {a : Nat} (ha : a ≤ 40) (h : I 73 73 = nI a) : fX12_act I = some (if a = 40 then up2 (up2 (slot9 39 0 (up2 (shf 0 I) 73 73 (nI 39))) 73 73 (nI 40)) 73 74 0 else up2 (up2 (slot9 a 0 I) 73 73 (nI (a + 1))) 73 74 0) := by
  obtain ⟨m, hm⟩ := fuel_at 1000 (by decide)
  unfold fX12_act
  by_cases h40 : a = 40
  · subst h40
    rw [if_pos (by rw [h]; rfl), if_pos rfl, hm, show (0 : Int32) = nI 0 from rfl, act11 390 0 _ I (by omega) (by omega)]
    simp only [Option.bind_some]
    have e : shf 0 I 73 73 - (1 : Int32) = nI 39 := by
      have : shf 0 I 73 73 = I 73 73 := by simp [shf]
      rw [this, h]
      rfl
    rw [e, act51 9 0 _ _ 39 (by omega) (by omega) (by omega) (by simp [up2_at])]
    rfl
  · rw [if_neg (by rw [h, fa_lit 40]; exact fun z => h40 ((nI_eq (by omega) (by omega)).mp z)), if_neg h40, hm, show (0 : Int32) = nI 0 from rfl]
    simp only [Option.bind_some]
    rw [act51 9 0 _ _ a (by omega) (by omega) (by omega) h]
    rfl
/-- row 99 and slot s change places, from k on -/
def exch (s k : Nat) (I : HI) : HI := fun a => if a = 102 then (fun j => if 10 * s + k ≤ j ∧ j < 10 * s + 9 then I 99 (j - 10 * s) else I 102 j) else if a = 99 then (fun j => if k ≤ j ∧ j < 9 then I 102 (10 * s + j) else I 99 j) else I a
theorem exch2 : ∀ (d k fu : Nat) (I : HI) (s : Nat), k + d = 9 → d < fu → s < 40 → fX12_exchange_2 fu (nI (10 * s)) (nI k) I = some (exch s k I) := by
  intro d
  induction d with
  | zero =>
    intro k fu I s hk hf hs
    obtain ⟨f, rfl⟩ : ∃ f, fu = f + 1 := ⟨fu - 1, by omega⟩
    rw [fX12_exchange_2, if_pos (by rw [fa_lit 9]; exact nI_le (by omega) (by omega))]
    congr 1
    funext a j
    unfold exch
    by_cases h : a = 102
    · subst h; simp; intro h1 h2; omega
    · by_cases h2 : a = 99
      · subst h2; simp; intro h1 h2; omega
      · simp [h, h2]
  | succ d ih =>
    intro k fu I s hk hf hs
    obtain ⟨f, rfl⟩ : ∃ f, fu = f + 1 := ⟨fu - 1, by omega⟩
    have e10 : nI (10 * s) + nI k = nI (10 * s + k) := nI_add _ _
    have i1 : inb (nI (10 * s + k)) 400 = true := inb_nI (by omega) (by decide)
    have i2 : inb (nI k) 10 = true := inb_nI (by omega) (by decide)
    rw [fX12_exchange_2, if_neg (by rw [fa_lit 9]; exact nI_ge (by omega) (by omega)), e10, if_pos i1]
    dsimp only
    rw [if_pos i2, if_pos i2, if_pos i1, clamp_nI (by omega), clamp_nI (by omega), nI_1, ih (k + 1) f _ s (by omega) (by omega) hs]
    congr 1
    funext a j
    unfold exch
    by_cases h : a = 102
    · subst h
      simp only [if_true, up2_at, true_and, show ¬ (102 = 99) by decide, show ¬ (99 = 102) by decide, false_and, if_false]
      by_cases c1 : 10 * s + (k + 1) ≤ j ∧ j < 10 * s + 9
      · rw [if_pos c1, if_neg (by omega), if_pos (by omega)]
      · rw [if_neg c1]
        by_cases c2 : j = 10 * s + k
        · subst c2
          rw [if_pos rfl, if_pos (by omega)]
          congr 1
          omega
        · rw [if_neg c2, if_neg (by omega)]
    · by_cases h2 : a = 99
      · subst h2
        simp only [if_true, up2_at, true_and, show ¬ (102 = 99) by decide, show ¬ (99 = 102) by decide, false_and, if_false]
        by_cases c1 : k + 1 ≤ j ∧ j < 9
        · rw [if_pos c1, if_neg (by omega), if_pos (by omega)]
        · rw [if_neg c1]
          by_cases c2 : j = k
          · subst c2
            rw [if_pos rfl, if_pos (by omega)]
          · rw [if_neg c2, if_neg (by omega)]
      · simp [h, h2, up2_at]
theorem m_exchange {I : HI} {s : Nat} (hs : s < 40) : fX12_exchange (nI (10 * s)) I = some (exch s 0 I) := by
  obtain ⟨m, hm⟩ := fuel_at 100 (by decide)
  unfold fX12_exchange
  rw [hm, show (0 : Int32) = nI 0 from rfl, exch2 9 0 _ I s (by omega) (by omega) hs]
  rfl
/-- the class's side of an act: its longs -/
theorem x_add {I : HI} {L : HL} {a : Nat} {v : Int64} (ha : a ≤ 40) (h : I 54 1 = nI a) : fX0_add v I L = some (if a = 40 then (up2 (up2 (up2 I 54 1 (nI 39)) 54 1 (nI 40)) 54 2 (nI 40), up2 (cp2 L 55 1 55 0 40) 55 40 v) else (up2 (up2 I 54 1 (nI (a + 1))) 54 2 (nI (a + 1)), up2 L 55 (a + 1) v)) := by
  unfold fX0_add
  by_cases h40 : a = 40
  · subst h40
    rw [if_neg (by rw [h]; decide), if_pos rfl, if_pos (by decide)]
    simp only [Option.bind_some, up2_at, and_self, if_true]
    rw [if_pos (by decide)]
    rfl
  · rw [if_pos (by rw [h, fa_lit 40]; exact nI_lt (by omega) (by omega)), if_neg h40]
    simp only [Option.bind_some, up2_at, and_self, if_true]
    rw [h, nI_1, if_pos (inb_nI (by omega) (by decide)), clamp_nI (by omega)]
