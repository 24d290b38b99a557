/-! signs on the tape -/
def isSp (b : Nat) : Bool := decide (b = 32) || decide (b = 10)
def isL (b : Nat) : Bool := decide (97 ≤ b) && decide (b ≤ 122)
def isDg (b : Nat) : Bool := decide (48 ≤ b) && decide (b ≤ 57)
def sgL : List Nat := [59, 40, 41, 60, 62, 61, 43, 45, 42, 47, 37]
def isSg (b : Nat) : Bool := sgL.contains b
def run (P : Nat → Bool) (B : Nat → Nat) : Nat → Nat → Nat
  | 0, p => p
  | m + 1, p => if P (B p) = true then run P B m (p + 1) else p
theorem run_le {P : Nat → Bool} {B : Nat → Nat} : ∀ (m p : Nat), p ≤ run P B m p ∧ run P B m p ≤ p + m := by
  intro m
  induction m with
  | zero => intro p; exact ⟨Nat.le_refl _, Nat.le_refl _⟩
  | succ m ih =>
    intro p
    rw [run]
    split
    · have := ih (p + 1); omega
    · omega
theorem run_in {P : Nat → Bool} {B : Nat → Nat} : ∀ (m p i : Nat), p ≤ i → i < run P B m p → P (B i) = true := by
  intro m
  induction m with
  | zero => intro p i h1 h2; rw [run] at h2; omega
  | succ m ih =>
    intro p i h1 h2
    rw [run] at h2
    by_cases h : P (B p) = true
    · rw [if_pos h] at h2
      by_cases hi : i = p
      · subst hi; exact h
      · exact ih (p + 1) i (by omega) h2
    · rw [if_neg h] at h2; omega
theorem run_out {P : Nat → Bool} {B : Nat → Nat} : ∀ (m p : Nat), run P B m p < p + m → P (B (run P B m p)) = false := by
  intro m
  induction m with
  | zero => intro p h; rw [run] at h; omega
  | succ m ih =>
    intro p h
    rw [run] at h ⊢
    by_cases hp : P (B p) = true
    · rw [if_pos hp] at h ⊢
      exact ih (p + 1) (by omega)
    · rw [if_neg hp]
      cases hh : P (B p) with
      | false => rfl
      | true => exact absurd hh hp
/-- words as numbers: the last letter stands first -/
def nm5 : List Nat → Nat
  | [] => 0
  | b :: t => nm5 t * 32 + (b - 96)
def wd8 : List Nat → Nat
  | [] => 0
  | b :: t => wd8 t * 256 + b
def lets (ls : List Nat) : Prop := ∀ b, b ∈ ls → 97 ≤ b ∧ b ≤ 122
theorem nm5_inj : ∀ (a b : List Nat), lets a → lets b → nm5 a = nm5 b → a = b := by
  intro a
  induction a with
  | nil =>
    intro b _ hb h
    cases b with
    | nil => rfl
    | cons x t =>
      have := hb x (by simp)
      simp only [nm5] at h
      omega
  | cons x t ih =>
    intro b ha hb h
    have hx := ha x (by simp)
    cases b with
    | nil => simp only [nm5] at h; omega
    | cons y s =>
      have hy := hb y (by simp)
      simp only [nm5] at h
      have h1 : x = y := by omega
      have h2 : nm5 t = nm5 s := by omega
      rw [h1, ih s (fun z hz => ha z (by simp [hz])) (fun z hz => hb z (by simp [hz])) h2]
theorem wd8_inj : ∀ (a b : List Nat), lets a → lets b → wd8 a = wd8 b → a = b := by
  intro a
  induction a with
  | nil =>
    intro b _ hb h
    cases b with
    | nil => rfl
    | cons x t =>
      have := hb x (by simp)
      simp only [wd8] at h
      omega
  | cons x t ih =>
    intro b ha hb h
    have hx := ha x (by simp)
    cases b with
    | nil => simp only [wd8] at h; omega
    | cons y s =>
      have hy := hb y (by simp)
      simp only [wd8] at h
      have h1 : x = y := by omega
      have h2 : wd8 t = wd8 s := by omega
      rw [h1, ih s (fun z hz => ha z (by simp [hz])) (fun z hz => hb z (by simp [hz])) h2]
theorem nm5_lt : ∀ (a : List Nat), lets a → nm5 a < 32 ^ a.length := by
  intro a
  induction a with
  | nil => intro _; decide
  | cons x t ih =>
    intro ha
    have hx := ha x (by simp)
    have := ih (fun z hz => ha z (by simp [hz]))
    simp only [nm5, List.length_cons, Nat.pow_succ]
    omega
theorem wd8_lt : ∀ (a : List Nat), lets a → 2 * wd8 a < 256 ^ a.length := by
  intro a
  induction a with
  | nil => intro _; decide
  | cons x t ih =>
    intro ha
    have hx := ha x (by simp)
    have := ih (fun z hz => ha z (by simp [hz]))
    simp only [wd8, List.length_cons, Nat.pow_succ]
    omega
theorem nm_lN {a b : List Nat} (ha : lets a) (hb' : lets b) (la : a.length ≤ 8) (lb : b.length ≤ 8) : (lN (nm5 a) = lN (nm5 b) ↔ a = b) ∧ (lN (wd8 a) = lN (wd8 b) ↔ a = b) := by
  have n1 := nm5_lt a ha
  have n2 := nm5_lt b hb'
  have w1 := wd8_lt a ha
  have w2 := wd8_lt b hb'
  have p1 : 32 ^ a.length ≤ 32 ^ 8 := Nat.pow_le_pow_right (by decide) la
  have p2 : 32 ^ b.length ≤ 32 ^ 8 := Nat.pow_le_pow_right (by decide) lb
  have q1 : 256 ^ a.length ≤ 256 ^ 8 := Nat.pow_le_pow_right (by decide) la
  have q2 : 256 ^ b.length ≤ 256 ^ 8 := Nat.pow_le_pow_right (by decide) lb
  constructor
  · rw [pk_lEQ (by omega) (by omega)]
    exact ⟨nm5_inj a b ha hb', fun h => by rw [h]⟩
  · rw [pk_lEQ (by omega) (by omega)]
    exact ⟨wd8_inj a b ha hb', fun h => by rw [h]⟩
/-- the letters from p on, m of them, the last one first -/
def ltr (B : Nat → Nat) (p : Nat) : Nat → List Nat
  | 0 => []
  | m + 1 => B (p + m) :: ltr B p m
theorem ltr_len (B : Nat → Nat) (p : Nat) : ∀ m, (ltr B p m).length = m
  | 0 => rfl
  | m + 1 => by rw [ltr, List.length_cons, ltr_len B p m]
theorem ltr_in {B : Nat → Nat} {p : Nat} : ∀ m, (∀ i, p ≤ i → i < p + m → isL (B i) = true) → lets (ltr B p m) := by
  intro m
  induction m with
  | zero => intro _ b hb; cases hb
  | succ m ih =>
    intro h b hb
    rw [ltr] at hb
    rcases List.mem_cons.mp hb with g | g
    · have := h (p + m) (by omega) (by omega)
      rw [← g] at this
      unfold isL at this
      simp only [Bool.and_eq_true, decide_eq_true_eq] at this
      exact this
    · exact ih (fun i h1 h2 => h i h1 (by omega)) b g
def num10 (B : Nat → Nat) (p : Nat) : Nat → Nat
  | 0 => 0
  | m + 1 => num10 B p m * 10 + (B (p + m) - 48)
def wLs : List (List Nat) := [[101, 122, 105, 115], [121, 98], [108, 108, 97, 119], [114, 111, 111, 100], [116, 97], [104, 103, 105, 104], [110, 101, 112, 111], [111, 116], [112, 109, 97, 108], [116, 105, 108], [110, 111, 115, 114, 101, 112], [101, 100, 97, 104, 115], [100, 117, 111, 108, 99], [114, 111], [100, 110, 97], [116, 111, 110], [116, 104, 103, 105, 101, 104], [114, 117, 111, 104], [101, 116, 97, 100]]
def wL (w : Nat) : List Nat := wLs.getD w []
theorem wL_ok : ∀ w : Fin 19, (wL w.1).length ≤ 8 ∧ 1 ≤ (wL w.1).length ∧ nm5 (wL w.1) = wds.getD w.1 0 ∧ ((wL w.1).all fun b => decide (97 ≤ b) && decide (b ≤ 122)) = true := by decide +kernel
theorem wL_lets {w : Nat} (h : w < 19) : lets (wL w) := by
  have := (wL_ok ⟨w, h⟩).2.2.2
  intro b hb
  have := List.all_eq_true.mp this b hb
  simpa using this
theorem wL_ne : ∀ w v : Fin 19, wL w.1 = wL v.1 → w = v := by decide +kernel
/-! what a byte is -/
theorem sB_L : ∀ b : Fin 256, fX9_isLetter (sB b.1) = isL b.1 ∧ fX9_isDigit (sB b.1) = isDg b.1 ∧ ((sB b.1 = 32) ↔ b.1 = 32) ∧ ((sB b.1 = 10) ↔ b.1 = 10) := by
  intro b
  have : ∀ b : Fin 256, fX9_isLetter (sB b.1) = isL b.1 ∧ fX9_isDigit (sB b.1) = isDg b.1 ∧ (decide (sB b.1 = 32) = decide (b.1 = 32)) ∧ (decide (sB b.1 = 10) = decide (b.1 = 10)) := by
    unfold fX9_isLetter fX9_isDigit tbn
    decide +kernel
  obtain ⟨h1, h2, h3, h4⟩ := this b
  exact ⟨h1, h2, decide_eq_decide.mp h3, decide_eq_decide.mp h4⟩
theorem nB_L : ∀ b : Fin 256, fX12_isLetter (nI b.1) = isL b.1 ∧ fX12_isDigit (nI b.1) = isDg b.1 ∧ fX12_isSign (nI b.1) = isSg b.1 := by
  unfold fX12_isLetter fX12_isDigit fX12_isSign tbn
  decide +kernel
