/-! Long.bitCount counts the bits -/
def pcM (c : Nat) : Nat → Nat
  | 0 => 0
  | k + 1 => c + 256 * pcM c k
def pc1 (k n : Nat) : Nat := n - ((n / 2) &&& pcM 85 k)
def pc2 (k n : Nat) : Nat := (pc1 k n &&& pcM 51 k) + ((pc1 k n / 4) &&& pcM 51 k)
def pc3 (k n : Nat) : Nat := (pc2 k n + pc2 k n / 16) &&& pcM 15 k
theorem and_lane {a c : Nat} (x y : Nat) (ha : a < 256) (hc : c < 256) : (a + 256 * x) &&& (c + 256 * y) = (a &&& c) + 256 * (x &&& y) := by
  apply Nat.eq_of_testBit_eq
  intro i
  have e : ∀ {a x : Nat}, a < 256 → (a + 256 * x).testBit i = if i < 8 then a.testBit i else x.testBit (i - 8) := by
    intro a x h
    rw [Nat.add_comm, show (256 : Nat) = 2 ^ 8 from rfl]
    exact Nat.testBit_two_pow_mul_add x h i
  rw [Nat.testBit_and, e ha, e hc, e (Nat.lt_of_le_of_lt Nat.and_le_left ha)]
  by_cases h : i < 8
  · simp [h]
  · simp [h]
theorem pc_a : ∀ lo : Fin 256, ∀ b : Fin 2, (lo.1 / 2 + 128 * b.1) &&& 85 = (lo.1 / 2) &&& 85 := by decide +kernel
theorem pc_b : ∀ lo : Fin 256, ∀ b : Fin 4, (lo.1 / 4 + 64 * b.1) &&& 51 = (lo.1 / 4) &&& 51 := by decide +kernel
theorem pc_c : ∀ lo : Fin 137, ∀ b : Fin 5, (lo.1 + lo.1 / 16 + 16 * b.1) &&& 15 = (lo.1 + lo.1 / 16) &&& 15 := by decide +kernel
def pcA (lo : Nat) : Nat := lo - ((lo / 2) &&& 85)
def pcB (lo : Nat) : Nat := (pcA lo &&& 51) + ((pcA lo / 4) &&& 51)
def pcC (lo : Nat) : Nat := (pcB lo + pcB lo / 16) &&& 15
theorem pcA_lt {lo : Nat} (h : lo < 256) : pcA lo < 256 := by unfold pcA; omega
theorem pcB_lt : ∀ lo : Fin 256, pcB lo.1 ≤ 68 ∧ pcB lo.1 % 16 ≤ 4 := by decide +kernel
theorem pcC_ct : ∀ lo : Fin 256, pcC lo.1 = fb_ct (fun i => lo.1.testBit i) 8 := by decide +kernel
theorem pc1_step {lo : Nat} (k hi : Nat) (h : lo < 256) : pc1 (k + 1) (lo + 256 * hi) = pcA lo + 256 * pc1 k hi := by
  unfold pc1 pcA
  have e : (lo + 256 * hi) / 2 = (lo / 2 + 128 * (hi % 2)) + 256 * (hi / 2) := by omega
  rw [e, pcM, and_lane _ _ (by omega) (by decide), pc_a ⟨lo, h⟩ ⟨hi % 2, by omega⟩]
  have h1 : (lo / 2) &&& 85 ≤ lo / 2 := Nat.and_le_left
  have h2 : (hi / 2) &&& pcM 85 k ≤ hi / 2 := Nat.and_le_left
  simp only
  omega
theorem pc2_step {lo : Nat} (k hi : Nat) (h : lo < 256) : pc2 (k + 1) (lo + 256 * hi) = pcB lo + 256 * pc2 k hi := by
  unfold pc2 pcB
  rw [pc1_step k hi h]
  have e : (pcA lo + 256 * pc1 k hi) / 4 = (pcA lo / 4 + 64 * (pc1 k hi % 4)) + 256 * (pc1 k hi / 4) := by omega
  have ha := pcA_lt h
  rw [e, pcM, and_lane _ _ ha (by decide), and_lane _ _ (by omega) (by decide), pc_b ⟨pcA lo, ha⟩ ⟨pc1 k hi % 4, by omega⟩]
  simp only
  omega
theorem pc2_mod : ∀ (k n : Nat), n < 256 ^ k → pc2 k n % 16 ≤ 4 := by
  intro k n h
  cases k with
  | zero =>
    have : n = 0 := by omega
    subst this
    decide
  | succ k =>
    have e : n = n % 256 + 256 * (n / 256) := by omega
    rw [e, pc2_step k (n / 256) (by omega)]
    have := (pcB_lt ⟨n % 256, by omega⟩).2
    simp only at this
    omega
theorem pc3_step {lo : Nat} (k hi : Nat) (h : lo < 256) (hh : hi < 256 ^ k) : pc3 (k + 1) (lo + 256 * hi) = pcC lo + 256 * pc3 k hi := by
  unfold pc3 pcC
  rw [pc2_step k hi h]
  have hb := (pcB_lt ⟨lo, h⟩).1
  have hm := pc2_mod k hi hh
  simp only at hb
  have e : (pcB lo + 256 * pc2 k hi) + (pcB lo + 256 * pc2 k hi) / 16 = (pcB lo + pcB lo / 16 + 16 * (pc2 k hi % 16)) + 256 * (pc2 k hi + pc2 k hi / 16) := by omega
  rw [e, pcM, and_lane _ _ (by omega) (by decide), pc_c ⟨pcB lo, by omega⟩ ⟨pc2 k hi % 16, by omega⟩]
def pcS : Nat → Nat → Nat
  | 0, _ => 0
  | k + 1, n => pcC (n % 256) + 256 * pcS k (n / 256)
theorem pc3_S : ∀ (k n : Nat), n < 256 ^ k → pc3 k n = pcS k n := by
  intro k
  induction k with
  | zero =>
    intro n h
    have : n = 0 := by omega
    subst this
    decide
  | succ k ih =>
    intro n h
    have e : n = n % 256 + 256 * (n / 256) := by omega
    have hh : n / 256 < 256 ^ k := by rw [Nat.pow_succ] at h; omega
    rw [pcS, ← ih _ hh, ← pc3_step k _ (by omega) hh, ← e]
theorem pcC_le {lo : Nat} (h : lo < 256) : pcC lo ≤ 8 := by
  rw [pcC_ct ⟨lo, h⟩]
  exact fb_ct_le _ 8
def pcT : Nat → Nat → Nat
  | 0, _ => 0
  | k + 1, n => pcC (n % 256) + pcT k (n / 256)
theorem pcT_ct : ∀ (k n : Nat), pcT k n = fb_ct (fun i => n.testBit i) (8 * k) := by
  intro k
  induction k with
  | zero => intro n; rfl
  | succ k ih =>
    intro n
    rw [pcT, ih, pcC_ct ⟨n % 256, by omega⟩, show 8 * (k + 1) = 8 + 8 * k by omega, fb_ct_split]
    congr 1
    · apply fb_ct_cong
      intro i hi
      simp only
      rw [show (256 : Nat) = 2 ^ 8 from rfl, Nat.testBit_mod_two_pow]
      simp [hi]
    · apply fb_ct_cong
      intro i hi
      rw [show (256 : Nat) = 2 ^ 8 from rfl, Nat.testBit_div_two_pow, Nat.add_comm]
