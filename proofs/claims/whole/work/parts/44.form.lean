/-! the formula, told once for both sides -/
def tNS (T : Nat → Nat → Nat) : Nat := T 0 7
def opv (a : Nat) (x y : Int32) : Int32 :=
  if a = 37 then (if y = 0 then 0 else x - x / y * y) else if a = 38 then (if x = 0 ∨ y = 0 then 0 else 1) else if a = 42 then x * y else if a = 43 then x + y else if a = 45 then x - y else if a = 47 then (if y = 0 then 0 else x / y) else if a = 60 then (if y ≤ x then 0 else 1) else if a = 61 then (if x = y then 1 else 0) else if a = 62 then (if x ≤ y then 0 else 1) else (if x = 0 ∧ y = 0 then 0 else 1)
def okOp (a : Nat) : Prop := a = 37 ∨ a = 38 ∨ a = 42 ∨ a = 43 ∨ a = 45 ∨ a = 47 ∨ a = 60 ∨ a = 61 ∨ a = 62 ∨ a = 124
def kdOf (a : Nat) : Nat := if a = 38 then 14 else if a = 124 then 13 else a
theorem m_done {a : Nat} (ha : okOp a) (x y : Int32) : fX12_done (nI a) x y = some (opv a x y) := by
  have n1 : ∀ {k l : Nat}, k < 2 ^ 31 → l < 2 ^ 31 → k ≠ l → ¬ nI k = nI l := fun h1 h2 h3 h => h3 ((nI_eq h1 h2).mp h)
  have tr : ∀ b : Bool, fX12_truth (b2i b) = if b then 1 else 0 := by decide
  unfold fX12_done opv
  rcases ha with h | h | h | h | h | h | h | h | h | h <;> subst h <;>
    simp only [show (37 : Int32) = nI 37 from rfl, show (38 : Int32) = nI 38 from rfl, show (42 : Int32) = nI 42 from rfl, show (43 : Int32) = nI 43 from rfl, show (45 : Int32) = nI 45 from rfl, show (47 : Int32) = nI 47 from rfl, show (60 : Int32) = nI 60 from rfl, show (61 : Int32) = nI 61 from rfl, show (62 : Int32) = nI 62 from rfl] <;>
    simp [nI_eq, tr] <;> (repeat' split) <;> simp_all
theorem x_outc {a : Nat} (ha : okOp a) (x y : Int32) : fX1_outcome (nI (kdOf a)) x y = some (opv a x y) := by
  unfold fX1_outcome opv
  rcases ha with h | h | h | h | h | h | h | h | h | h <;> subst h <;>
    simp only [kdOf, show (14 : Int32) = nI 14 from rfl, show (37 : Int32) = nI 37 from rfl, show (42 : Int32) = nI 42 from rfl, show (43 : Int32) = nI 43 from rfl, show (45 : Int32) = nI 45 from rfl, show (47 : Int32) = nI 47 from rfl, show (60 : Int32) = nI 60 from rfl, show (61 : Int32) = nI 61 from rfl, show (62 : Int32) = nI 62 from rfl] <;>
    simp [nI_eq] <;> (repeat' split) <;> simp_all
/-- how many values lie after k steps, and which -/
def evD (T : Nat → Nat → Nat) : Nat → Nat
  | 0 => 0
  | k + 1 => if T 10 k = 0 ∨ T 10 k = 1 then evD T k + 1 else if T 10 k = 2 then evD T k else evD T k - 1
def evT (T : Nat → Nat → Nat) (h r t : Int32) : Nat → Nat → Int32
  | 0 => fun _ => 0
  | k + 1 => fun i => if T 10 k = 0 ∨ T 10 k = 1 then (if i = evD T k then (if T 10 k = 0 then nI (T 11 k) else if T 11 k = 0 then h else if T 11 k = 1 then r else t) else evT T h r t k i) else if T 10 k = 2 then (if i = evD T k - 1 then (if evT T h r t k i = 0 then 1 else 0) else evT T h r t k i) else (if i = evD T k - 2 then opv (T 11 k) (evT T h r t k (evD T k - 2)) (evT T h r t k (evD T k - 1)) else evT T h r t k i)
theorem evD_push {T : Nat → Nat → Nat} {k : Nat} (h : T 10 k = 0 ∨ T 10 k = 1) : evD T (k + 1) = evD T k + 1 := by rw [evD, if_pos h]
theorem evD_not {T : Nat → Nat → Nat} {k : Nat} (h : T 10 k = 2) : evD T (k + 1) = evD T k := by
  have n : ¬ (T 10 k = 0 ∨ T 10 k = 1) := by omega
  rw [evD, if_neg n, if_pos h]
theorem evD_do {T : Nat → Nat → Nat} {k : Nat} (h : T 10 k = 3) : evD T (k + 1) = evD T k - 1 := by
  have n : ¬ (T 10 k = 0 ∨ T 10 k = 1) := by omega
  have n2 : ¬ T 10 k = 2 := by omega
  rw [evD, if_neg n, if_neg n2]
theorem evT_push {T : Nat → Nat → Nat} {k : Nat} {h r t : Int32} (h0 : T 10 k = 0 ∨ T 10 k = 1) (i : Nat) : evT T h r t (k + 1) i = if i = evD T k then (if T 10 k = 0 then nI (T 11 k) else if T 11 k = 0 then h else if T 11 k = 1 then r else t) else evT T h r t k i := by simp only [evT, if_pos h0]
theorem evT_not {T : Nat → Nat → Nat} {k : Nat} {h r t : Int32} (h0 : T 10 k = 2) (i : Nat) : evT T h r t (k + 1) i = if i = evD T k - 1 then (if evT T h r t k i = 0 then 1 else 0) else evT T h r t k i := by
  have n : ¬ (T 10 k = 0 ∨ T 10 k = 1) := by omega
  simp only [evT, if_neg n, if_pos h0]
theorem evT_do {T : Nat → Nat → Nat} {k : Nat} {h r t : Int32} (h0 : T 10 k = 3) (i : Nat) : evT T h r t (k + 1) i = if i = evD T k - 2 then opv (T 11 k) (evT T h r t k (evD T k - 2)) (evT T h r t k (evD T k - 1)) else evT T h r t k i := by
  have n : ¬ (T 10 k = 0 ∨ T 10 k = 1) := by omega
  have n2 : ¬ T 10 k = 2 := by omega
  simp only [evT, if_neg n, if_neg n2]
def StOk (T : Nat → Nat → Nat) (k : Nat) : Prop := (T 10 k = 0 ∧ T 11 k ≤ 9999 ∧ evD T k < 30) ∨ (T 10 k = 1 ∧ T 11 k ≤ 2 ∧ evD T k < 30) ∨ (T 10 k = 2 ∧ 1 ≤ evD T k ∧ evD T k ≤ 30) ∨ (T 10 k = 3 ∧ okOp (T 11 k) ∧ 2 ≤ evD T k ∧ evD T k ≤ 30)
def FOk (T : Nat → Nat → Nat) : Prop := tNS T ≤ 270 ∧ (∀ k, k < tNS T → StOk T k) ∧ (tNS T = 0 ∨ 1 ≤ evD T (tNS T))
def evF (T : Nat → Nat → Nat) (h r t : Int32) : Int32 := if tNS T = 0 then 0 else evT T h r t (tNS T) 0
def cdOf (T : Nat → Nat → Nat) (k : Nat) : Int32 := if T 10 k = 0 then nI (T 11 k) else if T 10 k = 1 then iI (-116 - (T 11 k : Int)) else if T 10 k = 2 then iI (-115) else iI (-100 - (kdOf (T 11 k) : Int))
def XForm (T : Nat → Nat → Nat) (u : Nat) (I : HI) : Prop := I u 2 = nI (tNS T) ∧ ∀ k, k < tNS T → I (u + 1) k = cdOf T k
def MForm (T : Nat → Nat → Nat) (I : HI) : Prop := I 73 18 = nI (tNS T) ∧ ∀ k, k < tNS T → I 78 k = nI (T 10 k) ∧ I 79 k = nI (T 11 k)
theorem iI_lit0 {z : Int} (h : sml z) : (iI z < 0 ↔ z < 0) ∧ ((0 : Int32) ≤ iI z ↔ 0 ≤ z) := by
  rw [show (0 : Int32) = iI 0 from rfl, iI_lt h (by unfold sml; omega), iI_le (by unfold sml; omega) h]
  exact ⟨Iff.rfl, Iff.rfl⟩
theorem x_val1 {T : Nat → Nat → Nat} {u k f : Nat} {I : HI} {h r t : Int32} (hS : StOk T k) (hk : k < tNS T) (h270 : tNS T ≤ 270) (hX : XForm T u I) (hs : ∀ i, i < evD T k → I (u + 2) i = evT T h r t k i) : ∃ I1, fX1_valueFor_6 u (f + 1) h r t (nI (evD T k)) (nI k) I = fX1_valueFor_6 u f h r t (nI (evD T (k + 1))) (nI (k + 1)) I1 ∧ (∀ a, a ≠ u + 2 → I1 a = I a) ∧ ∀ i, i < evD T (k + 1) → I1 (u + 2) i = evT T h r t (k + 1) i := by
  have hcd := hX.2 k hk
  have hst : ∀ {b j : Nat} {v : Int32}, b ≠ u + 2 → up2 I (u + 2) j v b = I b := by
    intro b j v hb
    funext i
    rw [up2_at, if_neg (by omega)]
  rw [fX1_valueFor_6, hX.1, if_neg (nI_ge hk (by omega)), show Int32.ofNat 30 = nI 30 from rfl]
  simp only [if_pos (inb_nI (show k < 270 by omega) (by decide)), clamp_nI (show k < 2 ^ 31 by omega), hcd, nI_1]
  rcases hS with ⟨s0, s1, s2⟩ | ⟨s0, s1, s2⟩ | ⟨s0, s1, s2⟩ | ⟨s0, s1, s2, s3⟩
  · -- a number
    have ec : cdOf T k = nI (T 11 k) := by unfold cdOf; rw [if_pos s0]
    rw [ec]
    have hx2 : (-100 : Int32) - nI (T 11 k) = iI (-100 - (T 11 k : Int)) := by
      rw [show (-100 : Int32) = iI (-100) from rfl, ← iI_n, iI_sub]
    rw [hx2, if_neg (by rw [show (15 : Int32) = iI 15 from rfl, iI_eq (by unfold sml; omega) (by unfold sml; omega)]; omega), if_pos (nI_pos' (by omega))]
    simp only [Option.bind_some]
    rw [if_pos trivial, if_neg (nI_ge (b := 30) s2 (by decide)), if_neg (nI_pos (by omega)), if_pos (inb_nI s2 (by decide)), clamp_nI (by omega)]
    refine ⟨_, by rw [evD_push (Or.inl s0)], fun a ha => hst ha, ?_⟩
    intro i hi
    rw [evD_push (Or.inl s0)] at hi
    rw [up2_at, evT_push (Or.inl s0)]
    by_cases hie : i = evD T k
    · rw [if_pos ⟨rfl, hie⟩, if_pos hie, if_pos s0]
    · rw [if_neg (fun hh => hie hh.2), if_neg hie]
      exact hs i (by omega)
  · -- height, hour, date
    have ec : cdOf T k = iI (-116 - (T 11 k : Int)) := by unfold cdOf; rw [if_neg (by omega), if_pos s0]
    rw [ec]
    have hx2 : (-100 : Int32) - iI (-116 - (T 11 k : Int)) = nI (16 + T 11 k) := by
      rw [show (-100 : Int32) = iI (-100) from rfl, iI_sub, ← iI_n]; congr 1; omega
    obtain ⟨l1, l2⟩ := iI_lit0 (z := -116 - (T 11 k : Int)) (by unfold sml; omega)
    have e16 : ¬ nI (16 + T 11 k) < (16 : Int32) := nI_nlt (b := 16) (by omega) (by omega)
    have e18 : ¬ (18 : Int32) < nI (16 + T 11 k) := nI_nlt (a := 18) (by omega) (by omega)
    rw [hx2, if_neg (by rw [show (15 : Int32) = nI 15 from rfl, nI_eq (by omega) (by omega)]; omega), if_neg (by rw [l2]; omega), if_neg e16, if_neg e18]
    simp only [Option.bind_some]
    rw [if_pos trivial, if_neg (nI_ge (b := 30) s2 (by decide)), if_pos (by rw [l1]; omega)]
    simp only [if_pos (inb_nI s2 (show 30 < 2 ^ 31 by decide)), clamp_nI (show evD T k < 2 ^ 31 by omega)]
    have hv : ∀ v : Int32, v = (if T 11 k = 0 then h else if T 11 k = 1 then r else t) → ∃ I1, fX1_valueFor_6 u f h r t (nI (evD T k + 1)) (nI (k + 1)) (up2 I (u + 2) (evD T k) v) = fX1_valueFor_6 u f h r t (nI (evD T (k + 1))) (nI (k + 1)) I1 ∧ (∀ a, a ≠ u + 2 → I1 a = I a) ∧ ∀ i, i < evD T (k + 1) → I1 (u + 2) i = evT T h r t (k + 1) i := by
      intro v hv
      refine ⟨up2 I (u + 2) (evD T k) v, by rw [evD_push (Or.inr s0)], fun a ha => hst ha, ?_⟩
      intro i hi
      rw [evD_push (Or.inr s0)] at hi
      rw [up2_at, evT_push (Or.inr s0)]
      by_cases hie : i = evD T k
      · rw [if_pos ⟨rfl, hie⟩, if_pos hie, if_neg (by omega)]
        exact hv
      · rw [if_neg (fun hh => hie hh.2), if_neg hie]
        exact hs i (by omega)
    by_cases h0 : T 11 k = 0
    · rw [h0, if_pos (show nI (16 + 0) = 16 from rfl)]
      exact hv h (by rw [if_pos h0])
    · rw [if_neg (by rw [show (16 : Int32) = nI 16 from rfl, nI_eq (by omega) (by omega)]; omega)]
      by_cases h1 : T 11 k = 1
      · rw [h1, if_pos (show nI (16 + 1) = 17 from rfl)]
        exact hv r (by rw [if_neg h0, if_pos h1])
      · rw [if_neg (by rw [show (17 : Int32) = nI 17 from rfl, nI_eq (by omega) (by omega)]; omega)]
        exact hv t (by rw [if_neg h0, if_neg h1])
  · -- not
    have ec : cdOf T k = iI (-115) := by unfold cdOf; rw [if_neg (by omega), if_neg (by omega), if_pos s0]
    rw [ec, show (-100 : Int32) - iI (-115) = 15 from by decide, if_pos rfl]
    have ed : evD T (k + 1) = evD T k := evD_not s0
    have e1 : nI (evD T k) - 1 = nI (evD T k - 1) := pk_sub (b := 1) s1
    rw [if_neg (nI_nle (by omega) (by omega)), e1, if_pos (inb_nI (by omega) (by decide)), clamp_nI (by omega), hs _ (by omega), ed]
    have hv : ∀ v : Int32, v = (if evT T h r t k (evD T k - 1) = 0 then 1 else 0) → ∃ I1, fX1_valueFor_6 u f h r t (nI (evD T k)) (nI (k + 1)) (up2 I (u + 2) (evD T k - 1) v) = fX1_valueFor_6 u f h r t (nI (evD T k)) (nI (k + 1)) I1 ∧ (∀ a, a ≠ u + 2 → I1 a = I a) ∧ ∀ i, i < evD T k → I1 (u + 2) i = evT T h r t (k + 1) i := by
      intro v hv
      refine ⟨up2 I (u + 2) (evD T k - 1) v, rfl, fun a ha => hst ha, ?_⟩
      intro i hi
      rw [up2_at, evT_not s0]
      by_cases hie : i = evD T k - 1
      · rw [if_pos ⟨rfl, hie⟩, if_pos hie, hie]
        exact hv
      · rw [if_neg (fun hh => hie hh.2), if_neg hie]
        exact hs i (by omega)
    by_cases hz : evT T h r t k (evD T k - 1) = 0
    · rw [if_pos hz, if_pos (inb_nI (show evD T k - 1 < 30 by omega) (by decide))]
      exact hv 1 (by rw [if_pos hz])
    · rw [if_neg hz, if_pos (inb_nI (show evD T k - 1 < 30 by omega) (by decide))]
      exact hv 0 (by rw [if_neg hz])
  · -- a deed
    have ec : cdOf T k = iI (-100 - (kdOf (T 11 k) : Int)) := by unfold cdOf; rw [if_neg (by omega), if_neg (by omega), if_neg (by omega)]
    have hkd : kdOf (T 11 k) < 200 ∧ kdOf (T 11 k) ≠ 15 ∧ ¬ (16 ≤ kdOf (T 11 k) ∧ kdOf (T 11 k) ≤ 18) := by
      rcases s1 with h | h | h | h | h | h | h | h | h | h <;> rw [h] <;> decide
    have hx2 : (-100 : Int32) - iI (-100 - (kdOf (T 11 k) : Int)) = nI (kdOf (T 11 k)) := by
      rw [show (-100 : Int32) = iI (-100) from rfl, iI_sub, ← iI_n]; congr 1; omega
    obtain ⟨l1, l2⟩ := iI_lit0 (z := -100 - (kdOf (T 11 k) : Int)) (by unfold sml; omega)
    have eb : (if (0 : Int32) ≤ iI (-100 - (kdOf (T 11 k) : Int)) then some true else if nI (kdOf (T 11 k)) < (16 : Int32) then some false else if (18 : Int32) < nI (kdOf (T 11 k)) then some false else some true) = some false := by
      rw [if_neg (by rw [l2]; omega)]
      by_cases h16 : kdOf (T 11 k) < 16
      · rw [if_pos (show nI (kdOf (T 11 k)) < 16 from nI_lt (b := 16) h16 (by decide))]
      · rw [if_neg (show ¬ nI (kdOf (T 11 k)) < 16 from nI_nlt (b := 16) (by omega) (by omega)), if_pos (show (18 : Int32) < nI (kdOf (T 11 k)) from nI_lt (a := 18) (by omega) (by omega))]
    rw [ec, hx2, if_neg (by rw [show (15 : Int32) = nI 15 from rfl, nI_eq (by omega) (by omega)]; omega), eb]
    simp only [Option.bind_some, Bool.false_eq_true, if_false]
    obtain ⟨n, hn⟩ : ∃ n, evD T k = n + 2 := ⟨evD T k - 2, by omega⟩
    have ed : evD T (k + 1) = n + 1 := by rw [evD_do s0, hn]; rfl
    rw [hn, pk_m1, nI_pred, if_neg (show ¬ nI (n + 2) ≤ 1 from nI_ge (a := 1) (by omega) (by omega)), if_pos (inb_nI (by omega) (by decide)), if_pos (inb_nI (by omega) (by decide)), clamp_nI (by omega), clamp_nI (by omega), hs _ (by omega), hs _ (by omega), x_outc s1]
    simp only [Option.bind_some]
    rw [if_pos (inb_nI (show n < 30 by omega) (by decide))]
    refine ⟨up2 I (u + 2) n (opv (T 11 k) (evT T h r t k n) (evT T h r t k (n + 1))), by rw [ed], fun a ha => hst ha, ?_⟩
    intro i hi
    rw [ed] at hi
    rw [up2_at, evT_do s0, hn]
    by_cases hie : i = n
    · rw [if_pos ⟨rfl, hie⟩, if_pos (by omega)]
      rfl
    · rw [if_neg (fun hh => hie hh.2), if_neg (by omega)]
      exact hs i (by omega)
theorem evD_le {T : Nat → Nat → Nat} (hF : FOk T) : ∀ k, k ≤ tNS T → evD T k ≤ 30 := by
  intro k
  induction k with
  | zero => intro _; exact Nat.zero_le _
  | succ k ih =>
    intro hk
    have h1 := ih (by omega)
    have h2 := hF.2.1 k (by omega)
    rcases h2 with ⟨s0, s1, s2⟩ | ⟨s0, s1, s2⟩ | ⟨s0, s1, s2⟩ | ⟨s0, s1, s2, s3⟩
    · rw [evD_push (Or.inl s0)]; omega
    · rw [evD_push (Or.inr s0)]; omega
    · rw [evD_not s0]; omega
    · rw [evD_do s0]; omega
theorem XForm.of {T : Nat → Nat → Nat} {u : Nat} {I J : HI} (hX : XForm T u I) (hf : ∀ a, a ≠ u + 2 → J a = I a) : XForm T u J := by
  refine ⟨by rw [hf u (by omega)]; exact hX.1, fun k hk => by rw [hf (u + 1) (by omega)]; exact hX.2 k hk⟩
theorem x_valL {T : Nat → Nat → Nat} {u : Nat} {h r t : Int32} (hF : FOk T) : ∀ (d k fu : Nat) (I : HI), k + d = tNS T → d < fu → XForm T u I → (∀ i, i < evD T k → I (u + 2) i = evT T h r t k i) → ∃ I1, fX1_valueFor_6 u fu h r t (nI (evD T k)) (nI k) I = some (nI (evD T (tNS T)), I1) ∧ (∀ a, a ≠ u + 2 → I1 a = I a) ∧ ∀ i, i < evD T (tNS T) → I1 (u + 2) i = evT T h r t (tNS T) i := by
  intro d
  induction d with
  | zero =>
    intro k fu I hk hf hX hs
    obtain ⟨f, rfl⟩ : ∃ f, fu = f + 1 := ⟨fu - 1, by omega⟩
    have : k = tNS T := by omega
    subst this
    have h270 := hF.1
    rw [fX1_valueFor_6, hX.1, if_pos (nI_le (Nat.le_refl _) (by omega))]
    exact ⟨I, rfl, fun _ _ => rfl, hs⟩
  | succ d ih =>
    intro k fu I hk hf hX hs
    obtain ⟨f, rfl⟩ : ∃ f, fu = f + 1 := ⟨fu - 1, by omega⟩
    obtain ⟨I1, e1, f1, s1⟩ := x_val1 (f := f) (hF.2.1 k (by omega)) (by omega) hF.1 hX hs
    obtain ⟨I2, e2, f2, s2⟩ := ih (k + 1) f I1 (by omega) (by omega) (hX.of f1) s1
    refine ⟨I2, by rw [e1, e2], fun a ha => by rw [f2 a ha, f1 a ha], s2⟩
theorem x_val {T : Nat → Nat → Nat} {u : Nat} {I : HI} (h r t : Int32) (hF : FOk T) (hX : XForm T u I) : ∃ I1, fX1_valueFor u h r t I = some (evF T h r t, I1) ∧ ∀ a, a ≠ u + 2 → I1 a = I a := by
  obtain ⟨m, hm⟩ := fuel_at 1000 (by decide)
  have h270 := hF.1
  have h30 := evD_le hF (tNS T) (Nat.le_refl _)
  obtain ⟨I1, e1, f1, s1⟩ := x_valL (h := h) (r := r) (t := t) hF (tNS T) 0 FUEL I (by omega) (by omega) hX (fun i hi => absurd hi (Nat.not_lt_zero i))
  unfold fX1_valueFor
  rw [show evD T 0 = 0 from rfl] at e1
  rw [show (0 : Int32) = nI 0 from rfl, e1]
  simp only [Option.bind_some]
  unfold evF
  rcases hF.2.2 with h0 | h0
  · rw [h0, if_pos rfl, show evD T 0 = 0 from rfl, if_pos (nI_le (Nat.le_refl 0) (by decide))]
    exact ⟨I1, rfl, f1⟩
  · have hn : tNS T ≠ 0 := by
      intro hh; rw [hh] at h0; simp [evD] at h0
    rw [if_neg (nI_ge (by omega) (by omega)), if_pos (inb_nI (by decide) (by decide)), clamp_nI (by decide), if_neg hn, s1 0 (by omega)]
    exact ⟨I1, rfl, f1⟩
theorem m_shd1a {T : Nat → Nat → Nat} {k f : Nat} {I : HI} {h r t : Int32} (s0 : T 10 k = 0) (s1 : T 11 k ≤ 9999) (s2 : evD T k < 30) (hk : k < tNS T) (h270 : tNS T ≤ 270) (hX : MForm T I) (hq : I 82 0 = h ∧ I 82 1 = r ∧ I 82 2 = t) (hs : ∀ i, i < evD T k → I 81 i = evT T h r t k i) : ∃ I1, fX12_shadeOf_34 (f + 1) (nI (evD T k)) (nI k) I = fX12_shadeOf_34 f (nI (evD T (k + 1))) (nI (k + 1)) I1 ∧ (∀ a, a ≠ 81 → I1 a = I a) ∧ ∀ i, i < evD T (k + 1) → I1 81 i = evT T h r t (k + 1) i := by
  obtain ⟨hcs, hca⟩ := hX.2 k hk
  have hst : ∀ {b j : Nat} {v : Int32}, b ≠ 81 → up2 I 81 j v b = I b := by
    intro b j v hb
    funext i
    rw [up2_at, if_neg (by omega)]
  rw [fX12_shadeOf_34, hX.1, if_neg (nI_ge hk (by omega))]
  simp only [if_pos (inb_nI (show k < 320 by omega) (by decide)), clamp_nI (show k < 2 ^ 31 by omega), hcs, hca, nI_1]
  rw [s0, if_pos (show nI 0 = 0 from rfl)]
  simp only [Option.bind_some]
  rw [if_pos trivial, if_pos (show nI 0 = 0 from rfl), if_pos (inb_nI (by omega) (by decide)), clamp_nI (by omega)]
  refine ⟨_, by rw [evD_push (Or.inl s0)], fun a ha => hst ha, ?_⟩
  intro i hi
  rw [evD_push (Or.inl s0)] at hi
  rw [up2_at, evT_push (Or.inl s0)]
  by_cases hie : i = evD T k
  · rw [if_pos ⟨rfl, hie⟩, if_pos hie, if_pos s0]
  · rw [if_neg (fun hh => hie hh.2), if_neg hie]
    exact hs i (by omega)
theorem m_shd1b {T : Nat → Nat → Nat} {k f : Nat} {I : HI} {h r t : Int32} (s0 : T 10 k = 1) (s1 : T 11 k ≤ 2) (s2 : evD T k < 30) (hk : k < tNS T) (h270 : tNS T ≤ 270) (hX : MForm T I) (hq : I 82 0 = h ∧ I 82 1 = r ∧ I 82 2 = t) (hs : ∀ i, i < evD T k → I 81 i = evT T h r t k i) : ∃ I1, fX12_shadeOf_34 (f + 1) (nI (evD T k)) (nI k) I = fX12_shadeOf_34 f (nI (evD T (k + 1))) (nI (k + 1)) I1 ∧ (∀ a, a ≠ 81 → I1 a = I a) ∧ ∀ i, i < evD T (k + 1) → I1 81 i = evT T h r t (k + 1) i := by
  obtain ⟨hcs, hca⟩ := hX.2 k hk
  have hst : ∀ {b j : Nat} {v : Int32}, b ≠ 81 → up2 I 81 j v b = I b := by
    intro b j v hb
    funext i
    rw [up2_at, if_neg (by omega)]
  rw [fX12_shadeOf_34, hX.1, if_neg (nI_ge hk (by omega))]
  simp only [if_pos (inb_nI (show k < 320 by omega) (by decide)), clamp_nI (show k < 2 ^ 31 by omega), hcs, hca, nI_1]
  rw [s0, if_neg (show ¬ nI 1 = 0 by decide), if_pos (show nI 1 = 1 from rfl)]
  simp only [Option.bind_some]
  rw [if_pos trivial, if_neg (show ¬ nI 1 = 0 by decide), if_pos (inb_nI (by omega) (by decide)), if_pos (inb_nI (by omega) (by decide)), clamp_nI (by omega), clamp_nI (by omega)]
  refine ⟨_, by rw [evD_push (Or.inr s0)], fun a ha => hst ha, ?_⟩
  intro i hi
  rw [evD_push (Or.inr s0)] at hi
  rw [up2_at, evT_push (Or.inr s0)]
  by_cases hie : i = evD T k
  · rw [if_pos ⟨rfl, hie⟩, if_pos hie, if_neg (by omega)]
    have h3 : T 11 k = 0 ∨ T 11 k = 1 ∨ T 11 k = 2 := by omega
    rcases h3 with h | h | h <;> rw [h]
    · rw [if_pos rfl]; exact hq.1
    · rw [if_neg (by decide), if_pos rfl]; exact hq.2.1
    · rw [if_neg (by decide), if_neg (by decide)]; exact hq.2.2
  · rw [if_neg (fun hh => hie hh.2), if_neg hie]
    exact hs i (by omega)
theorem m_shd1c {T : Nat → Nat → Nat} {k f : Nat} {I : HI} {h r t : Int32} (s0 : T 10 k = 2) (s1 : 1 ≤ evD T k) (s2 : evD T k ≤ 30) (hk : k < tNS T) (h270 : tNS T ≤ 270) (hX : MForm T I) (hq : I 82 0 = h ∧ I 82 1 = r ∧ I 82 2 = t) (hs : ∀ i, i < evD T k → I 81 i = evT T h r t k i) : ∃ I1, fX12_shadeOf_34 (f + 1) (nI (evD T k)) (nI k) I = fX12_shadeOf_34 f (nI (evD T (k + 1))) (nI (k + 1)) I1 ∧ (∀ a, a ≠ 81 → I1 a = I a) ∧ ∀ i, i < evD T (k + 1) → I1 81 i = evT T h r t (k + 1) i := by
  obtain ⟨hcs, hca⟩ := hX.2 k hk
  have hst : ∀ {b j : Nat} {v : Int32}, b ≠ 81 → up2 I 81 j v b = I b := by
    intro b j v hb
    funext i
    rw [up2_at, if_neg (by omega)]
  rw [fX12_shadeOf_34, hX.1, if_neg (nI_ge hk (by omega))]
  simp only [if_pos (inb_nI (show k < 320 by omega) (by decide)), clamp_nI (show k < 2 ^ 31 by omega), hcs, hca, nI_1]
  have e1 : nI (evD T k) - 1 = nI (evD T k - 1) := pk_sub (b := 1) s1
  have ed : evD T (k + 1) = evD T k := evD_not s0
  rw [s0, if_neg (show ¬ nI 2 = 0 by decide), if_neg (show ¬ nI 2 = 1 by decide)]
  simp only [Option.bind_some]
  rw [if_neg (by decide), if_pos (show nI 2 = 2 from rfl), e1, if_pos (inb_nI (by omega) (by decide)), clamp_nI (by omega), hs _ (by omega), ed]
  have tr : ∀ b : Bool, fX12_truth (b2i b) = if b then 1 else 0 := by decide
  have hz : (if evT T h r t k (evD T k - 1) = 0 then some true else some false) = some (decide (evT T h r t k (evD T k - 1) = 0)) := by
    by_cases hz : evT T h r t k (evD T k - 1) = 0
    · rw [if_pos hz, decide_eq_true hz]
    · rw [if_neg hz, decide_eq_false hz]
  rw [hz]
  simp only [Option.bind_some]
  rw [if_pos (inb_nI (by omega) (by decide)), tr]
  refine ⟨_, rfl, fun a ha => hst ha, ?_⟩
  intro i hi
  rw [up2_at, evT_not s0]
  by_cases hie : i = evD T k - 1
  · rw [if_pos ⟨rfl, hie⟩, if_pos hie, hie]
    simp
  · rw [if_neg (fun hh => hie hh.2), if_neg hie]
    exact hs i (by omega)
theorem m_shd1e {k f n a : Nat} {I : HI} {x y : Int32} (hn : n < 40) (ha : okOp a) (hk : k < 320) (h18 : ¬ I 73 18 ≤ nI k) (e1 : I 78 k = nI 3) (e2 : I 79 k = nI a) (hx : I 81 n = x) (hy : I 81 (n + 1) = y) : fX12_shadeOf_34 (f + 1) (nI (n + 2)) (nI k) I = fX12_shadeOf_34 f (nI (n + 1)) (nI (k + 1)) (up2 I 81 n (opv a x y)) := by
  have b0 : inb (nI k) 320 = true := inb_nI hk (by decide)
  have b1 : inb (nI n) 64 = true := inb_nI (by omega) (by decide)
  have b2 : inb (nI (n + 1)) 64 = true := inb_nI (by omega) (by decide)
  have c0 : (nI k).toNatClampNeg = k := clamp_nI (by omega)
  have c1 : (nI n).toNatClampNeg = n := clamp_nI (by omega)
  have c2 : (nI (n + 1)).toNatClampNeg = n + 1 := clamp_nI (by omega)
  have d0 : ¬ nI 3 = 0 := by decide
  have d1 : ¬ nI 3 = 1 := by decide
  have d2 : ¬ nI 3 = 2 := by decide
  have p1 : nI (n + 2) + -1 = nI (n + 1) := pk_m1 (n + 1)
  have p2 : nI (n + 1) - 1 = nI n := nI_pred n
  rw [fX12_shadeOf_34, if_neg h18]
  simp only [b0, c0, e1, e2, d0, d1, d2, p1, p2, b1, b2, c1, c2, hx, hy, m_done ha, Option.bind_some, if_true, if_false, Bool.false_eq_true, nI_1]
theorem m_shd1d {T : Nat → Nat → Nat} {k f : Nat} {I : HI} {h r t : Int32} (s0 : T 10 k = 3) (s1 : okOp (T 11 k)) (s2 : 2 ≤ evD T k) (s3 : evD T k ≤ 30) (hk : k < tNS T) (h270 : tNS T ≤ 270) (hX : MForm T I) (hq : I 82 0 = h ∧ I 82 1 = r ∧ I 82 2 = t) (hs : ∀ i, i < evD T k → I 81 i = evT T h r t k i) : ∃ I1, fX12_shadeOf_34 (f + 1) (nI (evD T k)) (nI k) I = fX12_shadeOf_34 f (nI (evD T (k + 1))) (nI (k + 1)) I1 ∧ (∀ a, a ≠ 81 → I1 a = I a) ∧ ∀ i, i < evD T (k + 1) → I1 81 i = evT T h r t (k + 1) i := by
  obtain ⟨hcs, hca⟩ := hX.2 k hk
  have hst : ∀ {b j : Nat} {v : Int32}, b ≠ 81 → up2 I 81 j v b = I b := by
    intro b j v hb
    funext i
    rw [up2_at, if_neg (by omega)]
  obtain ⟨n, hn⟩ : ∃ n, evD T k = n + 2 := ⟨evD T k - 2, by omega⟩
  have ed : evD T (k + 1) = n + 1 := by rw [evD_do s0, hn]; rfl
  refine ⟨up2 I 81 n (opv (T 11 k) (evT T h r t k n) (evT T h r t k (n + 1))), ?_, fun a ha => hst ha, ?_⟩
  · rw [hn, ed]
    exact m_shd1e (by omega) s1 (by omega) (by rw [hX.1]; exact nI_ge hk (by omega)) (by rw [hcs, s0]) hca (hs n (by omega)) (hs (n + 1) (by omega))
  · intro i hi
    rw [ed] at hi
    rw [up2_at, evT_do s0, hn, show n + 2 - 2 = n from rfl, show n + 2 - 1 = n + 1 from rfl]
    by_cases hie : i = n
    · rw [if_pos ⟨rfl, hie⟩, if_pos hie]
    · rw [if_neg (fun hh => hie hh.2), if_neg hie]
      exact hs i (by omega)
theorem m_shd1 {T : Nat → Nat → Nat} {k f : Nat} {I : HI} {h r t : Int32} (hS : StOk T k) (hk : k < tNS T) (h270 : tNS T ≤ 270) (hX : MForm T I) (hq : I 82 0 = h ∧ I 82 1 = r ∧ I 82 2 = t) (hs : ∀ i, i < evD T k → I 81 i = evT T h r t k i) : ∃ I1, fX12_shadeOf_34 (f + 1) (nI (evD T k)) (nI k) I = fX12_shadeOf_34 f (nI (evD T (k + 1))) (nI (k + 1)) I1 ∧ (∀ a, a ≠ 81 → I1 a = I a) ∧ ∀ i, i < evD T (k + 1) → I1 81 i = evT T h r t (k + 1) i := by
  rcases hS with ⟨s0, s1, s2⟩ | ⟨s0, s1, s2⟩ | ⟨s0, s1, s2⟩ | ⟨s0, s1, s2, s3⟩
  · exact m_shd1a s0 s1 s2 hk h270 hX hq hs
  · exact m_shd1b s0 s1 s2 hk h270 hX hq hs
  · exact m_shd1c s0 s1 s2 hk h270 hX hq hs
  · exact m_shd1d s0 s1 s2 s3 hk h270 hX hq hs
theorem MForm.of {T : Nat → Nat → Nat} {I J : HI} (hX : MForm T I) (hf : ∀ a, a ≠ 81 → a ≠ 82 → J a = I a) : MForm T J := by
  refine ⟨by rw [hf 73 (by omega) (by omega)]; exact hX.1, fun k hk => by rw [hf 78 (by omega) (by omega), hf 79 (by omega) (by omega)]; exact hX.2 k hk⟩
theorem m_shdL {T : Nat → Nat → Nat} {h r t : Int32} (hF : FOk T) : ∀ (d k fu : Nat) (I : HI), k + d = tNS T → d < fu → MForm T I → (I 82 0 = h ∧ I 82 1 = r ∧ I 82 2 = t) → (∀ i, i < evD T k → I 81 i = evT T h r t k i) → (tNS T = 0 → I 81 0 = 0) → ∃ I1, fX12_shadeOf_34 fu (nI (evD T k)) (nI k) I = some (evF T h r t, I1) ∧ (∀ a, a ≠ 81 → I1 a = I a) := by
  intro d
  induction d with
  | zero =>
    intro k fu I hk hf hX hq hs h0
    obtain ⟨f, rfl⟩ : ∃ f, fu = f + 1 := ⟨fu - 1, by omega⟩
    have : k = tNS T := by omega
    subst this
    have h270 := hF.1
    rw [fX12_shadeOf_34, hX.1, if_pos (nI_le (Nat.le_refl _) (by omega)), show (0 : Int32) = nI 0 from rfl, if_pos (inb_nI (by decide) (by decide)), clamp_nI (by decide)]
    refine ⟨I, ?_, fun _ _ => rfl⟩
    unfold evF
    rcases hF.2.2 with hz | hz
    · rw [if_pos hz, h0 hz]
    · have hn : tNS T ≠ 0 := by
        intro hh; rw [hh] at hz; simp [evD] at hz
      rw [if_neg hn, hs 0 (by omega)]
  | succ d ih =>
    intro k fu I hk hf hX hq hs h0
    obtain ⟨f, rfl⟩ : ∃ f, fu = f + 1 := ⟨fu - 1, by omega⟩
    obtain ⟨I1, e1, f1, s1⟩ := m_shd1 (f := f) (hF.2.1 k (by omega)) (by omega) hF.1 hX hq hs
    obtain ⟨I2, e2, f2⟩ := ih (k + 1) f I1 (by omega) (by omega) (hX.of (fun a ha _ => f1 a ha)) (by rw [f1 82 (by decide)]; exact hq) s1 (fun hz => absurd hz (by omega))
    exact ⟨I2, by rw [e1, e2], fun a ha => by rw [f2 a ha, f1 a ha]⟩
theorem m_shade {T : Nat → Nat → Nat} {I : HI} (h r t : Int32) (hF : FOk T) (hX : MForm T I) : ∃ I1, fX12_shadeOf h r t I = some (evF T h r t, I1) ∧ ∀ a, a ≠ 81 → a ≠ 82 → I1 a = I a := by
  obtain ⟨m, hm⟩ := fuel_at 1000 (by decide)
  have h270 := hF.1
  unfold fX12_shadeOf
  simp only [show (0 : Int32) = nI 0 from rfl, show (1 : Int32) = nI 1 from rfl, show (2 : Int32) = nI 2 from rfl]
  rw [if_pos (inb_nI (by decide) (by decide)), if_pos (inb_nI (by decide) (by decide)), if_pos (inb_nI (by decide) (by decide)), if_pos (inb_nI (by decide) (by decide)), clamp_nI (by decide), clamp_nI (by decide), clamp_nI (by decide)]
  have hfr : ∀ a, a ≠ 81 → a ≠ 82 → up2 (up2 (up2 (up2 I 82 0 h) 82 1 r) 82 2 t) 81 0 (nI 0) a = I a := by
    intro a h1 h2
    funext i
    simp [up2_at, h1, h2]
  obtain ⟨I1, e1, f1⟩ := m_shdL (h := h) (r := r) (t := t) hF (tNS T) 0 FUEL (up2 (up2 (up2 (up2 I 82 0 h) 82 1 r) 82 2 t) 81 0 (nI 0)) (by omega) (by omega) (hX.of hfr) (by simp [up2_at]) (fun i hi => absurd hi (Nat.not_lt_zero i)) (fun _ => by simp [up2_at]; rfl)
  rw [show evD T 0 = 0 from rfl] at e1
  rw [e1]
  exact ⟨I1, rfl, fun a h1 h2 => by rw [f1 a h1, hfr a h1 h2]⟩
