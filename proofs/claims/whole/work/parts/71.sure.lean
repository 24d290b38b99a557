/-! the surest way: numbers first -/
theorem eu_half {x y : Nat} (hy : 0 < y) (hr : 0 < x % y) : y % (x % y) ≤ y / 2 := by
  have h1 : x % y < y := Nat.mod_lt _ hy
  have h2 : y % (x % y) < x % y := Nat.mod_lt _ hr
  by_cases h : x % y ≤ y / 2
  · omega
  · have h3 : y % (x % y) = y - x % y := by
      rw [Nat.mod_eq_sub_mod (by omega), Nat.mod_eq_of_lt (by omega)]
    omega
theorem lN_eq0 {n : Nat} (h : n < 2 ^ 63) : lN n = 0 ↔ n = 0 := pk_lEQ (b := 0) h (by decide)
theorem gcd_step (x y : Nat) : Nat.gcd y (x % y) = Nat.gcd x y := by
  rw [Nat.gcd_comm x y, Nat.gcd_rec y x, Nat.gcd_comm]
theorem x_gcdL : ∀ (k x y i fu : Nat), x < 2 ^ 63 → y < 2 ^ k → k ≤ 63 → i + 2 * k + 1 ≤ 200 → 2 * k + 1 < fu → fX10_commonDivisor_9 fu (lN x) (lN y) (nI i) = some (lN (Nat.gcd x y)) := by
  have one : ∀ (x y i fu : Nat), x < 2 ^ 63 → 0 < y → y < 2 ^ 63 → i < 200 → fX10_commonDivisor_9 (fu + 1) (lN x) (lN y) (nI i) = fX10_commonDivisor_9 fu (lN y) (lN (x % y)) (nI (i + 1)) := by
    intro x y i fu hx h0 hy hi
    have ne : ¬ lN y = 0 := fun g => by have := (lN_eq0 hy).mp g; omega
    rw [fX10_commonDivisor_9, if_neg (show ¬ (200 : Int32) ≤ nI i from nI_ge (b := 200) hi (by decide)), if_neg ne]
    simp only [Option.bind_some, Bool.false_eq_true, if_false, if_neg ne, nI_1]
    rw [pk_lRem hx h0 hy]
  have zero : ∀ (x i fu : Nat), fX10_commonDivisor_9 (fu + 1) (lN x) (lN 0) (nI i) = some (lN x) := by
    intro x i fu
    rw [fX10_commonDivisor_9]
    by_cases h : (200 : Int32) ≤ nI i
    · rw [if_pos h]; rfl
    · rw [if_neg h, if_pos (show lN 0 = 0 from rfl)]; rfl
  intro k
  induction k with
  | zero =>
    intro x y i fu hx hy hk hi hf
    obtain ⟨f, rfl⟩ : ∃ f, fu = f + 1 := ⟨fu - 1, by omega⟩
    have : y = 0 := by have : y < 1 := hy; omega
    subst this
    rw [zero, Nat.gcd_zero_right]
  | succ k ih =>
    intro x y i fu hx hy hk hi hf
    obtain ⟨f, rfl⟩ : ∃ f, fu = f + 2 := ⟨fu - 2, by omega⟩
    have hp : 2 ^ (k + 1) ≤ 2 ^ 63 := Nat.pow_le_pow_right (by decide) (by omega)
    by_cases h0 : y = 0
    · subst h0
      rw [zero, Nat.gcd_zero_right]
    · rw [one x y i (f + 1) hx (by omega) (by omega) (by omega)]
      by_cases h1 : x % y = 0
      · rw [h1, zero, ← gcd_step, h1, Nat.gcd_zero_right]
      · have hm : x % y < y := Nat.mod_lt _ (by omega)
        have hh := eu_half (x := x) (y := y) (by omega) (by omega)
        rw [Nat.pow_succ] at hy
        rw [one y (x % y) (i + 1) f (by omega) (by omega) (by omega) (by omega), ih (x % y) (y % (x % y)) (i + 1 + 1) f (by omega) (by omega) (by omega) (by omega) (by omega), gcd_step, gcd_step]
theorem m_gcdL : ∀ (k x y fu : Nat), x < 2 ^ 63 → y < 2 ^ k → k ≤ 63 → 2 * k + 1 < fu → fX12_common_6 fu (lN x) (lN y) = some (lN (Nat.gcd x y)) := by
  have one : ∀ (x y fu : Nat), x < 2 ^ 63 → 0 < y → y < 2 ^ 63 → fX12_common_6 (fu + 1) (lN x) (lN y) = fX12_common_6 fu (lN y) (lN (x % y)) := by
    intro x y fu hx h0 hy
    have ne : ¬ lN y = 0 := fun g => by have := (lN_eq0 hy).mp g; omega
    have nle : ¬ lN y ≤ 0 := fun g => by have := (pk_lLE (b := 0) hy (by decide)).mp g; omega
    rw [fX12_common_6, if_neg nle, if_neg ne, pk_lRem hx h0 hy]
  have zero : ∀ (x fu : Nat), fX12_common_6 (fu + 1) (lN x) (lN 0) = some (lN x) := by
    intro x fu
    rw [fX12_common_6, if_pos (show lN 0 ≤ 0 by decide)]
  intro k
  induction k with
  | zero =>
    intro x y fu hx hy hk hf
    obtain ⟨f, rfl⟩ : ∃ f, fu = f + 1 := ⟨fu - 1, by omega⟩
    have : y = 0 := by have : y < 1 := hy; omega
    subst this
    rw [zero, Nat.gcd_zero_right]
  | succ k ih =>
    intro x y fu hx hy hk hf
    obtain ⟨f, rfl⟩ : ∃ f, fu = f + 2 := ⟨fu - 2, by omega⟩
    have hp : 2 ^ (k + 1) ≤ 2 ^ 63 := Nat.pow_le_pow_right (by decide) (by omega)
    by_cases h0 : y = 0
    · subst h0
      rw [zero, Nat.gcd_zero_right]
    · rw [one x y (f + 1) hx (by omega) (by omega)]
      by_cases h1 : x % y = 0
      · rw [h1, zero, ← gcd_step, h1, Nat.gcd_zero_right]
      · have hm : x % y < y := Nat.mod_lt _ (by omega)
        have hh := eu_half (x := x) (y := y) (by omega) (by omega)
        rw [Nat.pow_succ] at hy
        rw [one y (x % y) f (by omega) (by omega) (by omega), ih (x % y) (y % (x % y)) f (by omega) (by omega) (by omega) (by omega), gcd_step, gcd_step]
/-- the best of a set -/
def bstN (x : Int64) (o : Nat → Nat) : Nat → Nat
  | 0 => 0
  | e + 1 => if hb x e = true then max (bstN x o e) (o e) else bstN x o e
theorem bst_le {x : Int64} {o : Nat → Nat} {M : Nat} (h : ∀ e, e < 64 → o e ≤ M) : ∀ n, n ≤ 64 → bstN x o n ≤ M := by
  intro n
  induction n with
  | zero => intro _; exact Nat.zero_le _
  | succ n ih =>
    intro hn
    have h1 := ih (by omega)
    have h2 := h n (by omega)
    rw [bstN]
    split <;> omega
theorem bst_gap {x : Int64} {o : Nat → Nat} {p : Nat} : ∀ m, (∀ i, p ≤ i → i < p + m → hb x i = false) → bstN x o (p + m) = bstN x o p := by
  intro m
  induction m with
  | zero => intro _; rfl
  | succ m ih =>
    intro h
    rw [show p + (m + 1) = (p + m) + 1 from rfl, bstN, h (p + m) (by omega) (by omega), ih (fun i h1 h2 => h i h1 (by omega))]
    simp
theorem bst_ge {x : Int64} {o : Nat → Nat} {c : Nat} (h : hb x c = true) : ∀ n, c < n → o c ≤ bstN x o n := by
  intro n
  induction n with
  | zero => intro hn; omega
  | succ n ih =>
    intro hn
    rw [bstN]
    by_cases hc : c = n
    · subst hc
      rw [if_pos h]; omega
    · have := ih (by omega)
      split <;> omega
theorem x_bestL {x : Int64} {o : Nat → Nat} {L : HL} (hL : ∀ e, e < 64 → L 64 e = lN (o e)) (ho : ∀ e, e < 64 → o e < 2 ^ 63) : ∀ (m i fu p : Nat) (y : Int64), i + m = 64 → m < fu → i ≤ p → p ≤ 64 → (∀ j, j < 64 → hb y j = (decide (p ≤ j) && hb x j)) → fX10_bestOf_8 fu (lN (bstN x o p)) y (nI i) L = some (lN (bstN x o 64)) := by
  have hb63 : ∀ n, n ≤ 64 → bstN x o n < 2 ^ 63 := fun n hn => Nat.lt_of_le_of_lt (bst_le (M := 2 ^ 63 - 1) (fun e he => by have := ho e he; omega) n hn) (by decide)
  intro m
  induction m with
  | zero =>
    intro i fu p y hi hf hp hp2 hy
    obtain ⟨f, rfl⟩ : ∃ f, fu = f + 1 := ⟨fu - 1, by omega⟩
    rw [fX10_bestOf_8, if_pos (show (64 : Int32) ≤ nI i from nI_le (a := 64) (by omega) (by omega)), show p = 64 by omega]
    rfl
  | succ m ih =>
    intro i fu p y hi hf hp hp2 hy
    obtain ⟨f, rfl⟩ : ∃ f, fu = f + 1 := ⟨fu - 1, by omega⟩
    rw [fX10_bestOf_8, if_neg (show ¬ (64 : Int32) ≤ nI i from nI_ge (b := 64) (by omega) (by decide))]
    by_cases hz : y = 0
    · rw [if_pos hz]
      simp only [Option.bind_some, if_true]
      have := bst_gap (x := x) (o := o) (p := p) (64 - p) (fun j h1 h2 => by
        have g := hy j (by omega)
        rw [hz, hb_0, decide_eq_true h1, Bool.true_and] at g
        exact g.symm)
      rw [show p + (64 - p) = 64 by omega] at this
      rw [this]
    · rw [if_neg hz]
      have l1 := lowB_lt hz
      have l2 := lowB_yes hz
      have l3 := hy (lowB y) l1
      rw [l2] at l3
      have l4 : p ≤ lowB y ∧ hb x (lowB y) = true := by
        have := l3.symm
        rw [Bool.and_eq_true, decide_eq_true_eq] at this
        exact this
      have gap := bst_gap (x := x) (o := o) (p := p) (lowB y - p) (fun j h1 h2 => by
        have g := hy j (by omega)
        rw [lowB_no (show j < lowB y by omega), decide_eq_true h1, Bool.true_and] at g
        exact g.symm)
      rw [show p + (lowB y - p) = lowB y by omega] at gap
      simp only [Option.bind_some, Bool.false_eq_true, if_false, x_ntz hz, if_pos (inb_nI l1 (show 64 < 2 ^ 31 by decide)), clamp_nI (show lowB y < 2 ^ 31 by omega), hL _ l1, nI_1]
      have emax : (if lN (o (lowB y)) < lN (bstN x o p) then lN (bstN x o p) else lN (o (lowB y))) = lN (bstN x o (lowB y + 1)) := by
        rw [bstN, if_pos l4.2, gap]
        by_cases hlt : o (lowB y) < bstN x o p
        · rw [if_pos ((pk_lLT (ho _ l1) (hb63 p hp2)).mpr hlt), Nat.max_eq_left (by omega)]
        · rw [if_neg (fun g => hlt ((pk_lLT (ho _ l1) (hb63 p hp2)).mp g)), Nat.max_eq_right (by omega)]
      rw [emax]
      refine ih (i + 1) f (lowB y + 1) _ (by omega) (by omega) (by omega) (by omega) (fun j hj => ?_)
      rw [x_clear hz j hj, hy j hj]
      by_cases h1 : j = lowB y
      · rw [h1, decide_eq_false (show ¬ (lowB y + 1 ≤ lowB y) by omega), decide_eq_false (show ¬ (lowB y ≠ lowB y) from fun g => g rfl), Bool.and_false]; rfl
      · by_cases h2 : p ≤ j
        · by_cases h3 : j < lowB y
          · have := lowB_no h3
            rw [hy j hj] at this
            rw [this, decide_eq_false (show ¬ (lowB y + 1 ≤ j) by omega)]; rfl
          · rw [decide_eq_true h2, decide_eq_true (show lowB y + 1 ≤ j by omega), decide_eq_true h1]; simp
        · rw [decide_eq_false h2, decide_eq_false (show ¬ (lowB y + 1 ≤ j) by omega)]; rfl
theorem x_bestOf {x : Int64} {o : Nat → Nat} {L : HL} (hL : ∀ e, e < 64 → L 64 e = lN (o e)) (ho : ∀ e, e < 64 → o e < 2 ^ 63) : fX10_bestOf x L = some (lN (bstN x o 64)) := by
  obtain ⟨mf, hmf⟩ := fuel_at 1000 (by decide)
  unfold fX10_bestOf
  have e := x_bestL (x := x) hL ho 64 0 FUEL 0 x (by omega) (by omega) (Nat.le_refl _) (by omega) (fun j hj => by simp)
  rw [show fX10_bestOf_8 FUEL 0 x 0 L = _ from e]
  rfl
theorem m_bestL {T : Nat → Nat → Nat} {I : HI} {L : HL} {o : Nat → Nat} {c k : Nat} (hO : TOk T) (hM : MTown T I L) (hk : k < 49) (hc : c < 64) (hL : ∀ e, e < 64 → L 106 e = lN (o e)) (ho : ∀ e, e < 64 → o e < 2 ^ 63) : ∀ (m e fu : Nat), e + m = tC T → m < fu → fX12_bestOf_5 fu (nI c) (nI k) (lN (bstN (L 101 (64 * k + c)) o e)) (nI e) I L = some (lN (bstN (L 101 (64 * k + c)) o (tC T))) := by
  have hC := tC_le hO.1
  have hb63 : ∀ n, n ≤ 64 → bstN (L 101 (64 * k + c)) o n < 2 ^ 63 := fun n hn => Nat.lt_of_le_of_lt (bst_le (M := 2 ^ 63 - 1) (fun e he => by have := ho e he; omega) n hn) (by decide)
  have ix : (64 : Int32) * nI k + nI c = nI (64 * k + c) := by
    rw [show (64 : Int32) = nI 64 from rfl, pk_mul, nI_add]
  intro m
  induction m with
  | zero =>
    intro e fu he hf
    obtain ⟨f, rfl⟩ : ∃ f, fu = f + 1 := ⟨fu - 1, by omega⟩
    rw [fX12_bestOf_5, m_size hM.1, if_pos (nI_le (by omega) (by omega)), show e = tC T by omega]
  | succ m ih =>
    intro e fu he hf
    obtain ⟨f, rfl⟩ : ∃ f, fu = f + 1 := ⟨fu - 1, by omega⟩
    have he4 : e < tC T := by omega
    have i1 := ih (e + 1) f (by omega) (by omega)
    rw [bstN] at i1
    rw [fX12_bestOf_5, m_size hM.1, if_neg (nI_ge he4 (by omega)), ix, nI_1]
    simp only [if_pos (inb_nI (show 64 * k + c < 3136 by omega) (show 3136 < 2 ^ 31 by decide)), clamp_nI (show 64 * k + c < 2 ^ 31 by omega), has_hb _ (show e < 64 by omega), b2i_eq0, if_pos (inb_nI (show e < 64 by omega) (show 64 < 2 ^ 31 by decide)), clamp_nI (show e < 2 ^ 31 by omega), hL e (by omega)]
    rw [← i1]
    cases hbe : hb (L 101 (64 * k + c)) e with
    | false => simp only [if_true, Option.bind_some, Bool.false_eq_true, if_false]
    | true =>
      simp only [Bool.true_eq_false, if_false, if_true]
      by_cases hle : o e ≤ bstN (L 101 (64 * k + c)) o e
      · rw [if_pos ((pk_lLE (ho e (by omega)) (hb63 e (by omega))).mpr hle), Nat.max_eq_left hle]
        simp only [Option.bind_some, if_true]
      · rw [if_neg (fun g => hle ((pk_lLE (ho e (by omega)) (hb63 e (by omega))).mp g)), Nat.max_eq_right (by omega)]
        simp only [Option.bind_some, Bool.false_eq_true, if_false]
theorem m_bestOf {T : Nat → Nat → Nat} {I : HI} {L : HL} {o : Nat → Nat} {c k : Nat} (hO : TOk T) (hM : MTown T I L) (hk : k < 49) (hc : c < 64) (hL : ∀ e, e < 64 → L 106 e = lN (o e)) (ho : ∀ e, e < 64 → o e < 2 ^ 63) : fX12_bestOf (nI c) (nI k) I L = some (lN (bstN (L 101 (64 * k + c)) o (tC T))) := by
  obtain ⟨mf, hmf⟩ := fuel_at 1000 (by decide)
  have hC := tC_le hO.1
  unfold fX12_bestOf
  rw [show fX12_bestOf_5 FUEL (nI c) (nI k) 0 0 I L = _ from m_bestL hO hM hk hc hL ho (tC T) 0 FUEL (by omega) (by omega)]
  rfl
