/-! the formula: what the reference asks its stack -/
def hasRel : List Nat → Bool
  | [] => false
  | x :: t => if x = 20 then false else if 4 < tg x then hasRel t else decide (tg x = 4)
def mayN : List Nat → Bool
  | [] => true
  | x :: _ => decide (x = 20) || decide (tg x < 4)
def sgOf (k : Nat) : Nat := if k = 14 then 38 else if k = 13 then 124 else if k = 60 ∨ k = 62 ∨ k = 61 ∨ k = 43 ∨ k = 45 ∨ k = 42 ∨ k = 47 ∨ k = 37 then k else 0
section FR2
variable {B : Nat → Nat} {n p : Nat} {J J' J2 : HI} {M M' M2 : HL} {D : List (Nat × Nat)} {K S R : List Nat} {u : Nat}
theorem m_hasRel7 : ∀ (K : List Nat) (fu : Nat), StkM J K → (∀ x, x ∈ K → vS x) → K.length < 150 → K.length < fu → ∃ y, fX12_hasRelation_7 fu (iI ((K.length : Int) - 1)) J = some y ∧ (Option.bind (if y < 0 then some true else if inb y 160 = true then if (J 80 y.toNatClampNeg) = (20 : Int32) then some true else if inb y 160 = true then if (fX12_tight (J 80 y.toNatClampNeg)) = (4 : Int32) then some false else some true else none else none) fun b6 => if b6 = true then some false else some true) = some (hasRel K) := by
  intro K
  induction K with
  | nil =>
    intro fu hS hv hl hf
    obtain ⟨f, rfl⟩ : ∃ f, fu = f + 1 := ⟨fu - 1, by simp at hf; omega⟩
    refine ⟨iI (-1), ?_, ?_⟩
    · rw [fX12_hasRelation_7]
      rfl
    · rw [if_pos (by decide)]; rfl
  | cons x t ih =>
    intro fu hS hv hl hf
    obtain ⟨f, rfl⟩ : ∃ f, fu = f + 1 := ⟨fu - 1, by omega⟩
    have hx := vS_lt (hv x (by simp))
    have mt : fX12_tight (nI x) = nI (tg x) := m_tight ⟨x, hx⟩
    have t7 := tg_lt x
    simp only [List.length_cons] at hl hf
    have ei : iI (((x :: t).length : Int) - 1) = nI t.length := by
      rw [← iI_n]; congr 1; simp
    rw [ei, fX12_hasRelation_7]
    simp only [if_neg (nI_pos (show t.length < 2 ^ 31 by omega)), clamp_nI (show t.length < 2 ^ 31 by omega), hS.1, mt, inb_nI (show t.length < 160 by omega) (show 160 < 2 ^ 31 by decide), if_true]
    rw [hasRel]
    by_cases c : x = 20
    · refine ⟨nI t.length, ?_, ?_⟩
      · rw [if_pos (show nI x = (20 : Int32) by rw [c]; rfl), Option.bind_some, if_pos rfl]
      · simp only [if_neg (nI_pos (show t.length < 2 ^ 31 by omega)), clamp_nI (show t.length < 2 ^ 31 by omega), hS.1, mt, inb_nI (show t.length < 160 by omega) (show 160 < 2 ^ 31 by decide), if_true]
        rw [if_pos (show nI x = (20 : Int32) by rw [c]; rfl), Option.bind_some, if_pos rfl, if_pos c]
    · have e20 : ¬ nI x = (20 : Int32) := ne_lit (c := 20) hx (by decide) c
      rw [if_neg e20, if_neg c]
      by_cases d : 4 < tg x
      · rw [if_neg (show ¬ nI (tg x) ≤ (4 : Int32) from nI_ge (a := 4) d (by omega)), Option.bind_some, if_neg (by decide), if_pos d]
        have : nI t.length + (-1 : Int32) = iI ((t.length : Int) - 1) := by
          rw [← iI_n, show (-1 : Int32) = iI (-1) from rfl, iI_add]; rfl
        rw [this]
        exact ih f hS.2 (fun y hy => hv y (by simp [hy])) (by omega) (by omega)
      · rw [if_pos (show nI (tg x) ≤ (4 : Int32) from nI_le (b := 4) (by omega) (by decide)), Option.bind_some, if_pos rfl, if_neg d]
        refine ⟨nI t.length, rfl, ?_⟩
        simp only [if_neg (nI_pos (show t.length < 2 ^ 31 by omega)), clamp_nI (show t.length < 2 ^ 31 by omega), hS.1, mt, inb_nI (show t.length < 160 by omega) (show 160 < 2 ^ 31 by decide), if_true]
        rw [if_neg e20]
        by_cases e : tg x = 4
        · rw [if_pos (show nI (tg x) = (4 : Int32) by rw [e]; rfl), Option.bind_some, if_neg (by decide)]; simp [e]
        · rw [if_neg (show ¬ nI (tg x) = (4 : Int32) from ne_lit (c := 4) (by omega) (by decide) e), Option.bind_some, if_pos rfl]; simp [e]
theorem m_hasRel (h : SkM K J) (hv : ∀ x, x ∈ K → vS x) (hl : K.length < 150) : fX12_hasRelation J = some (hasRel K) := by
  obtain ⟨f, hf⟩ := fuel_at 200 (by decide)
  obtain ⟨y, h1, h2⟩ := m_hasRel7 K FUEL h.2 hv hl (by omega)
  unfold fX12_hasRelation
  have e : J 73 19 - (1 : Int32) = iI ((K.length : Int) - 1) := by
    rw [h.1, ← iI_n, show (1 : Int32) = iI 1 from rfl, iI_sub]
  simp only [e, h1, Option.bind_some]
  exact h2
theorem m_mayNot (h : SkM K J) (hv : ∀ x, x ∈ K → vS x) (hl : K.length < 150) : fX12_mayNot J = some (mayN K) := by
  unfold fX12_mayNot
  rw [h.1]
  cases K with
  | nil => rw [if_pos (by decide), Option.bind_some, if_pos rfl]; rfl
  | cons x t =>
    have hx := vS_lt (hv x (by simp))
    have mt : fX12_tight (nI x) = nI (tg x) := m_tight ⟨x, hx⟩
    have t7 := tg_lt x
    simp only [List.length_cons] at hl ⊢
    rw [if_neg (fun g => by have := (nI_eq (b := 0) (by omega) (by decide)).mp g; omega)]
    simp only [nI_m1 (show 1 ≤ t.length + 1 by omega), Nat.add_sub_cancel, clamp_nI (show t.length < 2 ^ 31 by omega), h.2.1, mt, inb_nI (show t.length < 160 by omega) (show 160 < 2 ^ 31 by decide), if_true, mayN]
    by_cases c : x = 20
    · rw [if_pos (show nI x = (20 : Int32) by rw [c]; rfl), Option.bind_some, if_pos rfl]; simp [c]
    · rw [if_neg (show ¬ nI x = (20 : Int32) from ne_lit (c := 20) hx (by decide) c)]
      by_cases d : tg x < 4
      · rw [if_neg (show ¬ (4 : Int32) ≤ nI (tg x) from nI_ge (b := 4) d (by decide)), Option.bind_some, if_pos rfl]; simp [d]
      · rw [if_pos (show (4 : Int32) ≤ nI (tg x) from nI_le (a := 4) (by omega) (by omega)), Option.bind_some, if_neg (by decide)]; simp [c, d]
theorem stk_20 : ∀ K : List Nat, StkM J K → (∀ x, x ∈ K → vS x) → ((∃ j, j < K.length ∧ J 80 j = (20 : Int32)) ↔ 20 ∈ K) := by
  intro K
  induction K with
  | nil => intro _ _; simp
  | cons x t ih =>
    intro h hv
    have hx := vS_lt (hv x (by simp))
    have i := ih h.2 (fun y hy => hv y (by simp [hy]))
    constructor
    · rintro ⟨j, j1, j2⟩
      simp only [List.length_cons] at j1
      by_cases e : j = t.length
      · rw [e, h.1] at j2
        have : x = 20 := (nI_eq (b := 20) (by omega) (by decide)).mp j2
        simp [this]
      · simp [i.mp ⟨j, by omega, j2⟩]
    · intro g
      rcases List.mem_cons.mp g with g | g
      · exact ⟨t.length, by simp, by rw [h.1, ← g]; rfl⟩
      · obtain ⟨j, j1, j2⟩ := i.mpr g
        exact ⟨j, by simp; omega, j2⟩
theorem m_hasBr (h : SkM K J) (hv : ∀ x, x ∈ K → vS x) (hl : K.length < 150) : fX12_hasBracket J = some (decide (20 ∈ K)) := by
  have key : ∀ (d k fu : Nat) (b : Bool), k + d = K.length → d < fu → ∃ r, fX12_hasBracket_4 fu (b2i b) (nI k) J = some r ∧ (r = true ↔ (b = true ∨ ∃ j, k ≤ j ∧ j < K.length ∧ J 80 j = (20 : Int32))) := by
    intro d
    induction d with
    | zero =>
      intro k fu b hk hf
      obtain ⟨f, rfl⟩ : ∃ f, fu = f + 1 := ⟨fu - 1, by omega⟩
      rw [fX12_hasBracket_4, h.1, if_pos (nI_le (by omega) (by omega))]
      refine ⟨b, by cases b <;> rfl, ?_⟩
      constructor
      · exact Or.inl
      · rintro (g | ⟨j, j1, j2, _⟩)
        · exact g
        · omega
    | succ d ih =>
      intro k fu b hk hf
      obtain ⟨f, rfl⟩ : ∃ f, fu = f + 1 := ⟨fu - 1, by omega⟩
      rw [fX12_hasBracket_4, h.1, if_neg (nI_ge (by omega) (by omega))]
      simp only [inb_nI (show k < 160 by omega) (show 160 < 2 ^ 31 by decide), if_true, clamp_nI (show k < 2 ^ 31 by omega), b2i_eq0, nI_1]
      by_cases c : b = true ∨ J 80 k = (20 : Int32)
      · have : (if b = false then if J 80 k = (20 : Int32) then some true else some false else some true) = some true := by
          rcases c with c | c
          · rw [if_neg (by rw [c]; decide)]
          · rw [if_pos c, ite_self]
        rw [this, Option.bind_some, if_pos rfl]
        obtain ⟨r, e1, e2⟩ := ih (k + 1) f true (by omega) (by omega)
        refine ⟨r, e1, e2.trans ⟨fun _ => ?_, fun _ => Or.inl rfl⟩⟩
        rcases c with c | c
        · exact Or.inl c
        · exact Or.inr ⟨k, Nat.le_refl _, by omega, c⟩
      · have c1 : b = false := by cases b with
          | true => exact absurd (Or.inl rfl) c
          | false => rfl
        have c2 : ¬ J 80 k = (20 : Int32) := fun g => c (Or.inr g)
        rw [if_pos c1, if_neg c2, Option.bind_some, if_neg (by decide)]
        obtain ⟨r, e1, e2⟩ := ih (k + 1) f false (by omega) (by omega)
        refine ⟨r, e1, e2.trans ?_⟩
        constructor
        · rintro (g | ⟨j, j1, j2, j3⟩)
          · cases g
          · exact Or.inr ⟨j, by omega, j2, j3⟩
        · rintro (g | ⟨j, j1, j2, j3⟩)
          · rw [c1] at g; cases g
          · by_cases e : j = k
            · rw [e] at j3; exact absurd j3 c2
            · exact Or.inr ⟨j, by omega, j2, j3⟩
  obtain ⟨f, hf⟩ := fuel_at 200 (by decide)
  obtain ⟨r, e1, e2⟩ := key K.length 0 FUEL false (by omega) (by omega)
  unfold fX12_hasBracket
  rw [show (0 : Int32) = b2i false from rfl, show fX12_hasBracket_4 FUEL (b2i false) (b2i false) J = some r from e1, Option.bind_some]
  congr 1
  have : r = true ↔ 20 ∈ K := by
    rw [e2, ← stk_20 K h.2 hv]
    constructor
    · rintro (g | ⟨j, _, j2, j3⟩)
      · cases g
      · exact ⟨j, j2, j3⟩
    · rintro ⟨j, j2, j3⟩
      exact Or.inr ⟨j, Nat.zero_le _, j2, j3⟩
  by_cases c : 20 ∈ K
  · rw [this.mpr c]; simp [c]
  · simp only [c, decide_false]
    cases r with
    | true => exact absurd (this.mp rfl) c
    | false => rfl
theorem m_wordK (hp : p ≤ n) (h : MT B n p J M) (hk : kd B n p ≤ 20) {w : Nat} (hw : w < 19) {v : Int64} (hv : v = lN (wd8 (wL w))) : (M 73 9 = v) ↔ kd B n p = w := by
  obtain ⟨k1, k2⟩ := kd_word hk
  obtain ⟨w1, w2⟩ := ws_in (B := B) hp
  rw [h.2.2.2.2 hk, hv, (nm_lN w1 (wL_lets hw) (by omega) (wL_ok ⟨w, hw⟩).1).2, k1, wIx_19 hw]
theorem m_asked (h : MS B n p J M) : fX12_asked J M = if kd B n p = 16 then nI 0 else if kd B n p = 17 then nI 1 else if kd B n p = 18 then nI 2 else -1 := by
  obtain ⟨hp, hT, hM, _⟩ := h
  have h1 : J 73 6 = (1 : Int32) ↔ kd B n p ≤ 20 := by
    have g := m_sort hT hp hM (s := 1) (by decide)
    rw [sk_1] at g
    exact g
  unfold fX12_asked
  by_cases c : kd B n p ≤ 20
  · rw [if_pos (h1.mpr c)]
    simp only [m_wordK hp hM c (w := 16) (v := 114784769370228) (by decide) (by decide), m_wordK hp hM c (w := 17) (v := 1752135026) (by decide) (by decide), m_wordK hp hM c (w := 18) (v := 1684108389) (by decide) (by decide)]
    rfl
  · rw [if_neg (fun g => c (h1.mp g)), if_neg (by omega), if_neg (by omega), if_neg (by omega)]
theorem m_sign (h : MS B n p J M) : fX12_sign J M = nI (sgOf (kd B n p)) := by
  obtain ⟨hp, hT, hM, _⟩ := h
  have hs : ∀ s : Nat, 24 ≤ s → s < 256 → ((J 73 6 = nI s) ↔ kd B n p = s) := by
    intro s h1 h2
    rw [m_sort hT hp hM h2, sk_s h1]
  have s60 : J 73 6 = (60 : Int32) ↔ kd B n p = 60 := hs 60 (by decide) (by decide)
  have s62 : J 73 6 = (62 : Int32) ↔ kd B n p = 62 := hs 62 (by decide) (by decide)
  have s61 : J 73 6 = (61 : Int32) ↔ kd B n p = 61 := hs 61 (by decide) (by decide)
  have s43 : J 73 6 = (43 : Int32) ↔ kd B n p = 43 := hs 43 (by decide) (by decide)
  have s45 : J 73 6 = (45 : Int32) ↔ kd B n p = 45 := hs 45 (by decide) (by decide)
  have s42 : J 73 6 = (42 : Int32) ↔ kd B n p = 42 := hs 42 (by decide) (by decide)
  have s47 : J 73 6 = (47 : Int32) ↔ kd B n p = 47 := hs 47 (by decide) (by decide)
  have s37 : J 73 6 = (37 : Int32) ↔ kd B n p = 37 := hs 37 (by decide) (by decide)
  unfold fX12_sign tbn
  rw [m_isWord hT hp hM (w := 14) (v := 6385252) (by decide) (by decide), m_isWord hT hp hM (w := 13) (v := 28530) (by decide) (by decide)]
  simp only [b2i_eq0, decide_eq_false_iff_not, s60, s62, s61, s43, s45, s42, s47, s37]
  unfold sgOf
  by_cases c14 : kd B n p = 14
  · rw [if_neg (fun g => g c14), if_pos c14]; rfl
  · rw [if_pos c14, if_neg c14]
    by_cases c13 : kd B n p = 13
    · rw [if_neg (fun g => g c13), if_pos c13]; rfl
    · rw [if_pos c13, if_neg c13]
      by_cases c : kd B n p = 60 ∨ kd B n p = 62 ∨ kd B n p = 61 ∨ kd B n p = 43 ∨ kd B n p = 45 ∨ kd B n p = 42 ∨ kd B n p = 47 ∨ kd B n p = 37
      · rw [if_pos c]
        rcases c with c | c | c | c | c | c | c | c <;> simp only [c, if_true, Nat.reduceEqDiff, if_false]
        · exact s60.mpr c
        · exact s62.mpr c
        · exact s61.mpr c
        · exact s43.mpr c
        · exact s45.mpr c
        · exact s42.mpr c
        · exact s47.mpr c
        · exact s37.mpr c
      · rw [if_neg c]
        simp only [show ¬ kd B n p = 60 by omega, show ¬ kd B n p = 62 by omega, show ¬ kd B n p = 61 by omega, show ¬ kd B n p = 43 by omega, show ¬ kd B n p = 45 by omega, show ¬ kd B n p = 42 by omega, show ¬ kd B n p = 47 by omega, show ¬ kd B n p = 37 by omega, if_false]
        rfl
theorem m_isFull (h1 : J 73 20 = nI u) (h2 : J 73 22 = nI u) (hu : u ≤ 30) : fX12_isFull J = decide (u = 30) := by
  unfold fX12_isFull tbn
  rw [h1, h2, if_neg (show ¬ nI u = (60 : Int32) from ne_lit (c := 60) (by omega) (by decide) (by omega))]
  by_cases c : u = 30
  · rw [if_pos (show nI u = (30 : Int32) by rw [c]; rfl)]; simp [c]
  · rw [if_neg (show ¬ nI u = (30 : Int32) from ne_lit (c := 30) (by omega) (by decide) c)]; simp [c]
end FR2
