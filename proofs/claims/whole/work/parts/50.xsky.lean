/-! the class's sky -/
theorem b_1 (i : Nat) : bt 1 i = decide (i = 0) := by
  unfold bt
  simp [BitVec.getLsbD_one]
theorem and1_32 (y : Int32) : y &&& 1 = if bt y 0 then 1 else 0 := by
  apply b_ext
  intro i hi
  rw [b_and, b_1]
  cases z : bt y 0 with
  | false =>
    simp only [Bool.false_eq_true, if_false, b_0]
    by_cases h : i = 0
    · subst h; rw [z]; rfl
    · simp [h]
  | true =>
    simp only [if_true, b_1]
    by_cases h : i = 0
    · subst h; rw [z]; rfl
    · simp [h]
theorem isBit_bt (x : Int32) {k : Nat} (hk : k < 32) : fX11_isBit x (nI k) = bt x k := by
  unfold fX11_isBit
  rw [and1_32, b_ushr k hk]
  simp only [Nat.add_zero]
  cases bt x k <;> simp
theorem b_shl1 {k : Nat} (hk : k < 32) {i : Nat} (hi : i < 32) : bt ((1 : Int32) <<< (nI k &&& 31)) i = decide (i = k) := by
  rw [b_shl k hk _ hi, b_1]
  by_cases h : k ≤ i
  · simp [h]; omega
  · simp [h]; omega
theorem b_not (x : Int32) {i : Nat} (hi : i < 32) : bt (x ^^^ (-1)) i = !bt x i := by rw [b_xor, b_m1 i hi]; simp
theorem x_inHrs {I : HI} {t i hr b e : Nat} (hi : i < capT t) (e1 : I (t + 4) i = nI b) (e2 : I (t + 5) i = nI e) (hh : hr < 100) (hb : b < 100) (he : e < 100) : fX8_isInHours t (nI i) (nI hr) I = some (decide (b ≤ hr ∧ hr < e)) := by
  have hc : capT t ≤ 8 := by unfold capT; split <;> omega
  unfold fX8_isInHours
  rw [if_pos (inb_nI hi (by omega)), if_pos (inb_nI hi (by omega)), clamp_nI (by omega), e1, e2]
  by_cases a : b ≤ hr
  · rw [if_neg (nI_nlt a (by omega))]
    by_cases c : hr < e
    · rw [if_neg (nI_ge c (by omega)), decide_eq_true ⟨a, c⟩]; rfl
    · rw [if_pos (nI_le (by omega) (by omega)), decide_eq_false (fun h => c h.2)]; rfl
  · rw [if_pos (nI_lt (by omega) (by omega)), decide_eq_false (fun h => a h.1)]; rfl
theorem cap1 {q : Nat} (hq : isQ2 q) : capT (q + 1) = 8 ∧ capT (q + 7) = 4 ∧ capT (q + 13) = 4 := by
  rcases hq with h | h <;> subst h <;> decide
theorem x_litL {T : Nat → Nat → Nat} {q hr O B : Nat} {I : HI} {L : HL} (hO : TOk T) (hX : XTown T q I L) (hq : isQ2 q) (hh : hr < 24) (eO : I 57 3 = nI O) (eB : I 57 4 = nI B) : ∀ (m k fu : Nat) (y : Int32), k + m = tnL T → m < fu → ∃ r, fX7_litIn_4 q fu (nI hr) y (nI k) I = some r ∧ ∀ l, l < 32 → bt r l = (((bt y l || decide (k ≤ l ∧ l < tnL T ∧ T 7 l ≤ hr ∧ hr < T 8 l)) && !O.testBit l) || B.testBit l) := by
  have h4 := hO.2.2.1
  obtain ⟨_, c2, _⟩ := cap1 hq
  intro m
  induction m with
  | zero =>
    intro k fu y hk hf
    obtain ⟨f, rfl⟩ : ∃ f, fu = f + 1 := ⟨fu - 1, by omega⟩
    rw [fX7_litIn_4, hX.2.2.2.2.2.2.1, if_pos (nI_le (by omega) (by omega))]
    refine ⟨_, rfl, fun l hl => ?_⟩
    rw [b_or, b_and, b_not _ hl, eO, eB, bt_nI l hl, bt_nI l hl, decide_eq_false (by omega), Bool.or_false]
  | succ m ih =>
    intro k fu y hk hf
    obtain ⟨f, rfl⟩ : ∃ f, fu = f + 1 := ⟨fu - 1, by omega⟩
    have hk4 : k < tnL T := by omega
    obtain ⟨_, t1, t2⟩ := hO.2.2.2.2.2.2.2.1 k hk4
    obtain ⟨_, e1, e2⟩ := hX.2.2.2.2.2.2.2.1 k hk4
    rw [fX7_litIn_4, hX.2.2.2.2.2.2.1, if_neg (nI_ge hk4 (by omega)), x_inHrs (t := q + 7) (i := k) (b := T 7 k) (e := T 8 k) (by rw [c2]; omega) e1 e2 (by omega) (by omega) (by omega), nI_1]
    simp only [Option.bind_some, b2i_eq0]
    by_cases hin : T 7 k ≤ hr ∧ hr < T 8 k
    · rw [decide_eq_true hin, if_neg (by decide)]
      obtain ⟨r, e, h⟩ := ih (k + 1) f (y ||| (1 : Int32) <<< (nI k &&& 31)) (by omega) (by omega)
      refine ⟨r, e, fun l hl => ?_⟩
      rw [h l hl, b_or, b_shl1 (by omega) hl, Bool.or_assoc, ← Bool.decide_or]
      congr 4
      rw [eq_iff_iff]
      constructor
      · rintro (h | h)
        · subst h; exact ⟨Nat.le_refl _, hk4, hin⟩
        · exact ⟨by omega, h.2⟩
      · intro h
        by_cases hlk : l = k
        · exact Or.inl hlk
        · exact Or.inr ⟨by omega, h.2⟩
    · rw [decide_eq_false hin, if_pos rfl]
      obtain ⟨r, e, h⟩ := ih (k + 1) f y (by omega) (by omega)
      refine ⟨r, e, fun l hl => ?_⟩
      rw [h l hl]
      congr 4
      rw [eq_iff_iff]
      constructor
      · rintro h
        exact ⟨by omega, h.2⟩
      · intro h
        by_cases hlk : l = k
        · subst hlk; exact absurd h.2.2 hin
        · exact ⟨by omega, h.2⟩
theorem x_litIn {T : Nat → Nat → Nat} {q hr O B : Nat} {I : HI} {L : HL} (hO : TOk T) (hX : XTown T q I L) (hq : isQ2 q) (hh : hr < 24) (eO : I 57 3 = nI O) (eB : I 57 4 = nI B) : ∃ r, fX7_litIn q (nI hr) I = some r ∧ ∀ l, l < tnL T → bt r l = litA T hr O B l := by
  obtain ⟨mf, hmf⟩ := fuel_at 1000 (by decide)
  have h4 := hO.2.2.1
  obtain ⟨r, e, h⟩ := x_litL hO hX hq hh eO eB (tnL T) 0 FUEL 0 (by omega) (by omega)
  unfold fX7_litIn
  rw [show (0 : Int32) = nI 0 from rfl] at e ⊢
  rw [e]
  refine ⟨r, rfl, fun l hl => ?_⟩
  rw [h l (by omega), b_0, Bool.false_or]
  unfold litA
  rw [Bool.or_comm]
  congr 2
  rw [decide_eq_decide]
  exact ⟨fun h => h.2.2, fun h => ⟨Nat.zero_le _, hl, h⟩⟩
theorem rayS_lt {T : Nat → Nat → Nat} {cell c : Nat} {v : Int} (h : rayS T cell v c = true) : c < tC T := by
  unfold rayS ray at h
  split at h <;> simp only [Bool.and_eq_true, decide_eq_true_eq] at h <;> exact h.1
theorem x_shByL {T : Nat → Nat → Nat} {q d : Nat} {I : HI} {L : HL} {y : Int32} (P : Nat → Bool) (hO : TOk T) (hX : XTown T q I L) (hd : d < tnD T) (hy : ∀ l, l < tnL T → bt y l = P l) : ∀ (m k fu : Nat) (s : Int64), k + m = tnL T → m < fu → ∃ r, fX5_shadowBy_24 q fu (nI d) y s (nI k) I L = some r ∧ ∀ c, c < 64 → (hb r c = true ↔ (hb s c = true ∨ ∃ l, k ≤ l ∧ l < tnL T ∧ P l = true ∧ thr T (T 6 l) (T 2 d) (T 3 d) c)) := by
  have h4 := hO.2.2.1
  have h8 := hO.2.1
  intro m
  induction m with
  | zero =>
    intro k fu s hk hf
    obtain ⟨f, rfl⟩ : ∃ f, fu = f + 1 := ⟨fu - 1, by omega⟩
    rw [fX5_shadowBy_24, hX.2.2.2.2.2.2.1, if_pos (nI_le (by omega) (by omega))]
    refine ⟨s, rfl, fun c _ => ⟨Or.inl, ?_⟩⟩
    rintro (h | ⟨l, h1, h2, _⟩)
    · exact h
    · omega
  | succ m ih =>
    intro k fu s hk hf
    obtain ⟨f, rfl⟩ : ∃ f, fu = f + 1 := ⟨fu - 1, by omega⟩
    have hk4 : k < tnL T := by omega
    have stp : ∀ c, (∃ l, k ≤ l ∧ l < tnL T ∧ P l = true ∧ thr T (T 6 l) (T 2 d) (T 3 d) c) ↔ ((P k = true ∧ thr T (T 6 k) (T 2 d) (T 3 d) c) ∨ ∃ l, k + 1 ≤ l ∧ l < tnL T ∧ P l = true ∧ thr T (T 6 l) (T 2 d) (T 3 d) c) := by
      intro c
      constructor
      · rintro ⟨x, h1, h2, h3⟩
        by_cases hx : x = k
        · subst hx; exact Or.inl h3
        · exact Or.inr ⟨x, by omega, h2, h3⟩
      · rintro (h | ⟨x, h1, h2, h3⟩)
        · exact ⟨k, Nat.le_refl _, hk4, h⟩
        · exact ⟨x, by omega, h2, h3⟩
    have ix : nI d * (4 : Int32) + nI k = nI (4 * d + k) := by
      rw [show (4 : Int32) = nI 4 from rfl, pk_mul, nI_add, Nat.mul_comm]
    rw [fX5_shadowBy_24, hX.2.2.2.2.2.2.1, if_neg (nI_ge hk4 (by omega)), isBit_bt _ (by omega), hy k hk4, nI_1, ix, if_pos (inb_nI (by omega) (by decide)), clamp_nI (by omega)]
    simp only [b2i_eq0]
    cases hp : P k with
    | false =>
      rw [if_pos rfl]
      obtain ⟨r, e, h⟩ := ih (k + 1) f s (by omega) (by omega)
      refine ⟨r, e, fun c hc => ?_⟩
      rw [h c hc, stp c, hp]
      simp
    | true =>
      rw [if_neg (by decide)]
      obtain ⟨r, e, h⟩ := ih (k + 1) f (s ||| L (q + 22) (4 * d + k)) (by omega) (by omega)
      refine ⟨r, e, fun c hc => ?_⟩
      rw [h c hc, stp c, hp, hb_or, Bool.or_eq_true, hX.2.2.2.2.2.2.2.2.2.2.1 d k hd hk4 c hc]
      simp only [true_and]
      exact or_assoc
theorem x_shadowBy {T : Nat → Nat → Nat} {q d hr dt O B : Nat} {K : Bool} {I : HI} {L : HL} {y : Int32} (hO : TOk T) (hX : XTown T q I L) (hq : isQ2 q) (hd : d < tnD T) (hy : ∀ l, l < tnL T → bt y l = litA T hr O B l) : ∃ r, fX5_shadowBy q (nI d) (iI (shV T hr dt K d)) y I L = some r ∧ ∀ c, c < 64 → (hb r c = true ↔ shdA T hr dt O B K d c) := by
  obtain ⟨mf, hmf⟩ := fuel_at 1000 (by decide)
  have h4 := hO.2.2.1
  have h8 := hO.2.1
  obtain ⟨c1, _, _⟩ := cap1 hq
  have hle := shV_le T hr dt K d
  have k1 := (hO.2.2.2.2.2.2.1 d hd).1
  obtain ⟨r1, e1, h1⟩ := x_rowBits (shV T hr dt K d) (by unfold sml; omega) hO.1 hX.1 k1.1
  obtain ⟨r, e, h⟩ := x_shByL (litA T hr O B) hO hX hd hy (tnL T) 0 FUEL (r1 &&& L q 4) (by omega) (by omega)
  unfold fX5_shadowBy
  rw [c1, if_pos (inb_nI (by omega) (by decide)), clamp_nI (by omega), (hX.2.2.2.2.2.1 d hd).1, e1]
  simp only [Option.bind_some]
  rw [show (0 : Int32) = nI 0 from rfl, e]
  refine ⟨r, rfl, fun c hc => ?_⟩
  rw [h c hc, hb_and, h1 c hc, hX.2.1.2 c hc]
  unfold shdA
  simp only [Bool.and_eq_true, decide_eq_true_eq, Bool.not_eq_true', Nat.zero_le, true_and]
  constructor
  · rintro (h | h)
    · exact Or.inl ⟨h.1, h.2.2⟩
    · exact Or.inr h
  · rintro (h | h)
    · exact Or.inl ⟨h.1, rayS_lt h.1, h.2⟩
    · exact Or.inr h
theorem x_cut (v : Int32) : fX7_cut v = iI (capI v) := by
  unfold fX7_cut capI
  have h1 : (v < (8 : Int32)) ↔ v.toInt < 8 := by rw [fa_lt]; rfl
  have h2 : ((-8 : Int32) < v) ↔ -8 < v.toInt := by rw [fa_lt]; rfl
  by_cases a : v.toInt < 8
  · have a' : ¬ 8 < v.toInt := by omega
    rw [if_pos (h1.mpr a), if_neg a']
    by_cases b : -8 < v.toInt
    · have b' : ¬ v.toInt < -8 := by omega
      rw [if_pos (h2.mpr b), if_neg b']; exact iI_of v
    · rw [if_neg (fun h => b (h2.mp h))]
      by_cases c : v.toInt < -8
      · rw [if_pos c]; rfl
      · rw [if_neg c, show v.toInt = -8 by omega]; rfl
  · rw [if_neg (fun h => a (h1.mp h)), if_pos (show (-8 : Int32) < 8 by decide)]
    by_cases c : 8 < v.toInt
    · rw [if_pos c]; rfl
    · have c' : ¬ v.toInt < -8 := by omega
      rw [if_neg c, if_neg c', show v.toInt = 8 by omega]; rfl
theorem fillI {a N : Nat} {v : Int32} (hN : N < 10000) : ∀ (m k fu : Nat) (I : HI), k + m = N → m < fu → ∃ I', fJ7_fill_53178_5 a N fu v (nI k) (nI N) I = some I' ∧ (∀ b, b ≠ a → I' b = I b) ∧ ∀ j, I' a j = if k ≤ j ∧ j < N then v else I a j := by
  intro m
  induction m with
  | zero =>
    intro k fu I hk hf
    obtain ⟨f, rfl⟩ : ∃ f, fu = f + 1 := ⟨fu - 1, by omega⟩
    rw [fJ7_fill_53178_5, if_pos (nI_le (by omega) (by omega))]
    exact ⟨I, rfl, fun _ _ => rfl, fun j => by rw [if_neg (by omega)]⟩
  | succ m ih =>
    intro k fu I hk hf
    obtain ⟨f, rfl⟩ : ∃ f, fu = f + 1 := ⟨fu - 1, by omega⟩
    rw [fJ7_fill_53178_5, if_neg (nI_ge (by omega) (by omega)), if_pos (inb_nI (by omega) (by omega)), clamp_nI (by omega), nI_1]
    obtain ⟨I', e, f1, h⟩ := ih (k + 1) f (up2 I a k v) (by omega) (by omega)
    refine ⟨I', e, fun b hb => by rw [f1 b hb, upRow I v hb], fun j => ?_⟩
    rw [h j, up2_at]
    by_cases hj : j = k
    · subst hj; rw [if_neg (by omega), if_pos ⟨rfl, rfl⟩, if_pos (by omega)]
    · rw [if_neg (show ¬ (a = a ∧ j = k) from fun h => hj h.2)]
      by_cases hj2 : k + 1 ≤ j ∧ j < N
      · rw [if_pos hj2, if_pos (by omega)]
      · rw [if_neg hj2, if_neg (by omega)]
theorem x_fillI {a N : Nat} {v : Int32} {I : HI} (hN : N < 10000) : ∃ I', fJ7_fill_53178 a N v I = some I' ∧ (∀ b, b ≠ a → I' b = I b) ∧ ∀ j, I' a j = if j < N then v else I a j := by
  obtain ⟨mf, hmf⟩ := fuel_at 20000 (by decide)
  obtain ⟨I', e, f1, h⟩ := fillI (a := a) (v := v) hN N 0 FUEL I (by omega) (by omega)
  unfold fJ7_fill_53178
  rw [show (0 : Int32) = nI 0 from rfl, show Int32.ofNat N = nI N from rfl, e]
  refine ⟨I', rfl, f1, fun j => ?_⟩
  rw [h j]
  simp
