/-! what follows from the text alone -/
section STL
variable {tl : Nat} {T : Nat → Nat → Nat} {N : Nat → Nat → List Nat} {I : HI} {L : HL}
theorem x_set43 (hT : TSize T) (hx : XSize T tl I) : ∀ (m k fu : Nat) (s : Int64) (L : HL), k + m = tD T → m < fu → (∀ c, c < 64 → (hb s c = true ↔ ∃ r, r < k ∧ c = r * tW T)) → ∃ s', fX5_settle_43 tl fu (nI k) I (up2 L tl 5 s) = some (up2 L tl 5 s') ∧ ∀ c, c < 64 → (hb s' c = true ↔ ∃ r, r < tD T ∧ c = r * tW T) := by
  obtain ⟨x0, x1, x2⟩ := hx
  obtain ⟨w1, w2, d1, d2⟩ := hT
  intro m
  induction m with
  | zero =>
    intro k fu s L hk hf hs
    obtain ⟨f, rfl⟩ : ∃ f, fu = f + 1 := ⟨fu - 1, by omega⟩
    refine ⟨s, ?_, by rw [show tD T = k by omega]; exact hs⟩
    rw [fX5_settle_43, x1, if_pos (nI_le (by omega) (by omega))]
  | succ m ih =>
    intro k fu s L hk hf hs
    obtain ⟨f, rfl⟩ : ∃ f, fu = f + 1 := ⟨fu - 1, by omega⟩
    have hkw : k * tW T < 64 := by
      have : k * tW T ≤ 7 * 8 := Nat.mul_le_mul (by omega) (by omega)
      omega
    rw [fX5_settle_43, x1, if_neg (nI_ge (by omega) (by omega)), x0, pk_mul, nI_1]
    simp only [up2_eq, up2_up2]
    refine ih (k + 1) f _ L (by omega) (by omega) (fun c hc => ?_)
    rw [hb_or, hb_one hkw c hc, Bool.or_eq_true, hs c hc, decide_eq_true_eq]
    constructor
    · rintro (⟨r, r1, r2⟩ | g)
      · exact ⟨r, by omega, r2⟩
      · exact ⟨k, by omega, g⟩
    · rintro ⟨r, r1, r2⟩
      by_cases e : r = k
      · rw [e] at r2; exact Or.inr r2
      · exact Or.inl ⟨r, by omega, r2⟩
theorem fst_iff (hT : TSize T) {c : Nat} : (∃ r, r < tD T ∧ c = r * tW T) ↔ fstCol T c = true := by
  obtain ⟨w1, w2, d1, d2⟩ := hT
  unfold fstCol tC
  rw [decide_eq_true_eq]
  constructor
  · rintro ⟨r, r1, r2⟩
    refine ⟨?_, by rw [r2]; exact Nat.mul_mod_left r (tW T)⟩
    rw [r2, Nat.mul_comm (tW T)]
    exact Nat.mul_lt_mul_of_pos_right r1 (by omega)
  · rintro ⟨h1, h2⟩
    refine ⟨c / tW T, ?_, ?_⟩
    · exact Nat.div_lt_of_lt_mul h1
    · have := Nat.div_add_mod c (tW T)
      rw [h2, Nat.mul_comm] at this
      omega
theorem x_set89 (ht : isQ2 tl) (hO : TOk T) (hx : XSize T tl I) (hI1 : I (tl + 1) 0 = nI (tnD T)) (hID : ∀ d, d < tnD T → I (tl + 3) d = nI (T 2 d) ∧ I (tl + 4) d = nI (T 3 d)) (hI7 : I (tl + 7) 0 = nI (tnL T)) (hIL : ∀ l, l < tnL T → I (tl + 9) l = nI (T 6 l)) {d : Nat} (hd : d < tnD T) : ∀ (m l fu : Nat) (L : HL), l + m = tnL T → m < fu → XWalls T tl L → ∃ L', fX5_settle_89 tl fu (nI d) (nI l) I L = some L' ∧ (∀ a, a ≠ tl + 22 → L' a = L a) ∧ (∀ i, ¬ (4 * d + l ≤ i ∧ i < 4 * d + 4) → L' (tl + 22) i = L (tl + 22) i) ∧ ∀ l', l ≤ l' → l' < tnL T → ∀ c, c < 64 → (hb (L' (tl + 22) (4 * d + l')) c = true ↔ thr T (T 6 l') (T 2 d) (T 3 d) c) := by
  obtain ⟨c1, c2, c3⟩ := cap_of ht
  have t2 := hO.2.1
  have t3 := hO.2.2.1
  intro m
  induction m with
  | zero =>
    intro l fu L hl hf hW
    obtain ⟨f, rfl⟩ : ∃ f, fu = f + 1 := ⟨fu - 1, by omega⟩
    refine ⟨L, ?_, fun _ _ => rfl, fun _ _ => rfl, fun l' h1 h2 => by omega⟩
    rw [fX5_settle_89, hI7, if_pos (nI_le (by omega) (by omega))]
  | succ m ih =>
    intro l fu L hl hf hW
    obtain ⟨f, rfl⟩ : ∃ f, fu = f + 1 := ⟨fu - 1, by omega⟩
    obtain ⟨g1, g2, g3, _⟩ := hO.2.2.2.2.2.2.1 d hd
    obtain ⟨g4, _⟩ := hO.2.2.2.2.2.2.2.1 l (by omega)
    obtain ⟨r, e1, e2⟩ := x_castBy (q := tl) (lamp := T 6 l) (door := T 2 d) (high := T 3 d) (I := I) (L := L) hO.1 hx hW g4.1 g1.1 g4.2 ⟨g2, g3⟩
    rw [fX5_settle_89, hI7, if_neg (nI_ge (by omega) (by omega)), c1, c2, if_pos (inb_nI (show l < 4 by omega) (by decide)), if_pos (inb_nI (show d < 8 by omega) (by decide)), if_pos (inb_nI (show d < 8 by omega) (by decide)), clamp_nI (by omega), clamp_nI (by omega), show tl + 7 + 2 = tl + 9 by omega, show tl + 1 + 2 = tl + 3 by omega, show tl + 1 + 3 = tl + 4 by omega, hIL l (by omega), (hID d hd).1, (hID d hd).2, e1, Option.bind_some, show (4 : Int32) = nI 4 from rfl, pk_mul, nI_add, show d * 4 + l = 4 * d + l by omega, if_pos (inb_nI (show 4 * d + l < 32 by omega) (by decide)), clamp_nI (by omega), nI_1]
    have hW' : XWalls T tl (up2 L (tl + 22) (4 * d + l) r) := by
      unfold XWalls at *
      rw [upRow _ _ (show tl ≠ tl + 22 by omega)]
      exact hW
    obtain ⟨L', w1, w2, w3, w4⟩ := ih (l + 1) f (up2 L (tl + 22) (4 * d + l) r) (by omega) (by omega) hW'
    refine ⟨L', w1, fun a ha => by rw [w2 a ha, upRow _ _ ha], fun i hi => by rw [w3 i (by omega), up2_at, if_neg (by omega)], fun l' h1 h2 c hc => ?_⟩
    by_cases e : l' = l
    · rw [e, w3 (4 * d + l) (by omega), up2_eq]; exact e2 c hc
    · exact w4 l' (by omega) h2 c hc
theorem x_set76 (ht : isQ2 tl) (hO : TOk T) (hx : XSize T tl I) (hI1 : I (tl + 1) 0 = nI (tnD T)) (hID : ∀ d, d < tnD T → I (tl + 3) d = nI (T 2 d) ∧ I (tl + 4) d = nI (T 3 d)) (hI7 : I (tl + 7) 0 = nI (tnL T)) (hIL : ∀ l, l < tnL T → I (tl + 9) l = nI (T 6 l)) : ∀ (m d fu : Nat) (L : HL), d + m = tnD T → m < fu → XWalls T tl L → ∃ L', fX5_settle_76 tl fu (nI d) I L = some L' ∧ (∀ a, a ≠ tl + 22 → L' a = L a) ∧ (∀ i, i < 4 * d → L' (tl + 22) i = L (tl + 22) i) ∧ ∀ d', d ≤ d' → d' < tnD T → ∀ l', l' < tnL T → ∀ c, c < 64 → (hb (L' (tl + 22) (4 * d' + l')) c = true ↔ thr T (T 6 l') (T 2 d') (T 3 d') c) := by
  have t2 := hO.2.1
  have t3 := hO.2.2.1
  intro m
  induction m with
  | zero =>
    intro d fu L hd hf hW
    obtain ⟨f, rfl⟩ : ∃ f, fu = f + 1 := ⟨fu - 1, by omega⟩
    refine ⟨L, ?_, fun _ _ => rfl, fun _ _ => rfl, fun d' h1 h2 => by omega⟩
    rw [fX5_settle_76, hI1, if_pos (nI_le (by omega) (by omega))]
  | succ m ih =>
    intro d fu L hd hf hW
    obtain ⟨f, rfl⟩ : ∃ f, fu = f + 1 := ⟨fu - 1, by omega⟩
    obtain ⟨f0, hf0⟩ := fuel_at 10 (by decide)
    obtain ⟨L1, v1, v2, v3, v4⟩ := x_set89 ht hO hx hI1 hID hI7 hIL (show d < tnD T by omega) (tnL T) 0 FUEL L (by omega) (by omega) hW
    have hW' : XWalls T tl L1 := by
      unfold XWalls at *
      rw [v2 tl (by omega)]
      exact hW
    obtain ⟨L', w1, w2, w3, w4⟩ := ih (d + 1) f L1 (by omega) (by omega) hW'
    refine ⟨L', ?_, fun a ha => by rw [w2 a ha, v2 a ha], fun i hi => by rw [w3 i (by omega), v3 i (by omega)], fun d' h1 h2 l' h3 c hc => ?_⟩
    · rw [fX5_settle_76, hI1, if_neg (nI_ge (by omega) (by omega)), show (0 : Int32) = nI 0 from rfl, v1, Option.bind_some, nI_1, w1]
    · by_cases e : d' = d
      · rw [e, w3 (4 * d + l') (by omega)]; exact v4 l' (by omega) h3 c hc
      · exact w4 d' (by omega) h2 l' h3 c hc
theorem x_settle (ht : isQ2 tl) (hO : TOk T) (hD : DX T N tl I L) : ∃ L', fX5_settle tl I L = some L' ∧ XTown T tl I L' ∧ ∀ a, a ≠ tl → a ≠ tl + 22 → L' a = L a := by
  obtain ⟨a1, a2, a3, a4, a5, a6, a7, a8, a9, a10, a11, a12⟩ := hD
  have h64 := tC_le hO.1
  obtain ⟨f0, hf0⟩ := fuel_at 20 (by decide)
  obtain ⟨s1, hs1, hs2⟩ : ∃ s1 : Int64, (if (I tl 2) < (64 : Int32) then some (((1 : Int64) <<< ((I tl 2).toInt64 &&& 63)) - (1 : Int64)) else some (-1 : Int64)) = some s1 ∧ ∀ c, c < 64 → hb s1 c = decide (c < tC T) := by
    rw [a1.2.2]
    by_cases c : tC T < 64
    · rw [if_pos (show nI (tC T) < (64 : Int32) from nI_lt (b := 64) c (by decide))]
      exact ⟨_, rfl, fun x hx => ones (a := 0) c x hx⟩
    · rw [if_neg (show ¬ nI (tC T) < (64 : Int32) from nI_nlt (b := 64) (by omega) (by omega))]
      refine ⟨_, rfl, fun x hx => ?_⟩
      rw [hb_m1 hx]
      have : x < tC T := by omega
      simp [this]
  obtain ⟨s2, b1, b2⟩ := x_set43 (tl := tl) (I := I) hO.1 a1 (tD T) 0 FUEL 0 (up2 L tl 4 (s1 &&& ((L tl 3) ^^^ (-1 : Int64)))) (by omega) (by have := hO.1.2.2.2; omega) (fun c _ => ⟨fun g => (by rw [hb_0] at g; cases g), fun ⟨r, r1, _⟩ => by omega⟩)
  have hW : XWalls T tl (up2 (up2 L tl 4 (s1 &&& ((L tl 3) ^^^ (-1 : Int64)))) tl 5 s2) := by
    refine ⟨fun c hc => ?_, fun c hc => ?_⟩
    · rw [up2_at, if_neg (by omega), up2_at, if_neg (by omega)]; exact a2 c hc
    · rw [up2_at, if_neg (by omega), up2_eq, hb_and, hb_not _ hc, hs2 c hc, a2 c hc]
  obtain ⟨L', w1, w2, w3, w4⟩ := x_set76 ht hO a1 a4 (fun d hd => ⟨(a5 d hd).1, (a5 d hd).2.1⟩) a6 (fun l hl => (a7 l hl).1) (tnD T) 0 FUEL _ (by omega) (by have := hO.2.1; omega) hW
  refine ⟨L', ?_, ?_, fun a h1 h2 => by rw [w2 a h2, upRow _ _ h1, upRow _ _ h1]⟩
  · unfold fX5_settle
    rw [hs1, Option.bind_some]
    simp only
    rw [show (0 : Int32) = nI 0 from rfl, b1, Option.bind_some, w1, Option.bind_some]
  · refine ⟨a1, ?_, ?_, a3, a4, fun d hd => ⟨(a5 d hd).1, (a5 d hd).2.1, (a5 d hd).2.2.1, (a5 d hd).2.2.2.1⟩, a6, fun l hl => ⟨(a7 l hl).1, (a7 l hl).2.1, (a7 l hl).2.2.1⟩, a8, fun p hp => (a9 p hp).1, fun d l hd hl c hc => w4 d (by omega) hd l hl c hc, a10, a11, a12⟩
    · unfold XWalls at *
      rw [w2 tl (by omega)]
      exact hW
    · intro c hc
      rw [w2 tl (by omega), up2_eq, Bool.eq_iff_iff, b2 c hc, fst_iff hO.1]
end STL
