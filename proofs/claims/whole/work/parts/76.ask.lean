section AK
variable {T : Nat → Nat → Nat} {q : Nat} {st : Nat → Nat → Nat} {a u : Nat} {I : HI} {L : HL}
theorem Inv.fk {J : HI} {M : HL} (h : Inv T q st a u I L) (f : ∀ b, b ≠ q + 21 → b ≠ 72 → b ≠ 66 → J b = I b) (f66 : ∀ j, j ≠ 2 → j ≠ 3 → J 66 j = I 66 j) (hL : ∀ b, b ≠ 71 → M b = L b) : Inv T q st a u J M := by
  have r : ∀ b, b ≠ 72 → b ≠ 66 → (b < 23 ∨ 47 ≤ b) → J b = I b := fun b h1 h2 h3 => f b (by rcases h.2.1 with h | h <;> omega) h1 h2
  exact h.gen (fun b hb => f b (by unfold base at hb; rcases h.2.1 with h | h <;> omega) (by unfold base at hb; rcases h.2.1 with h | h <;> omega) (by unfold base at hb; rcases h.2.1 with h | h <;> omega)) (by rw [r 0 (by decide) (by decide) (by decide)]) (fun j _ => by rw [r 73 (by decide) (by decide) (by decide)]) (fun b hb => hL b (by rcases h.2.1 with h | h <;> omega)) (h.sky.fr (r 57 (by decide) (by decide) (by decide)) (r 59 (by decide) (by decide) (by decide)) (hL 57 (by decide)) (hL 58 (by decide))) (h.box.fr (by rw [r 0 (by decide) (by decide) (by decide)]) (r 114 (by decide) (by decide) (by decide)) (r 115 (by decide) (by decide) (by decide)) (hL 56 (by decide))) (h.way.fr (by rw [r 61 (by decide) (by decide) (by decide)]) (r 62 (by decide) (by decide) (by decide)) (r 103 (by decide) (by decide) (by decide)) (by rw [r 73 (by decide) (by decide) (by decide)])) (h.look.fr (fun j hj => f66 j (by omega) (by omega)) (fun b _ _ => r b (by omega) (by omega) (by omega)) (fun b _ _ => r b (by omega) (by omega) (by omega)) (by rw [r 73 (by decide) (by decide) (by decide)]) (by rw [r 73 (by decide) (by decide) (by decide)]))
theorem Inv.ff {J : HI} {M : HL} (h : Inv T q st a u I L) (f : FF I J L M) : Inv T q st a u J M := by
  exact h.gen (fun b hb => f.1 b (by unfold base at hb; rcases h.2.1 with h | h <;> omega) (by unfold base at hb; rcases h.2.1 with h | h <;> omega) (by unfold base at hb; rcases h.2.1 with h | h <;> omega)) (by rw [f.1 0 (by decide) (by decide) (by decide)]) (fun j hj => f.2.1 j (by unfold base73 at hj; omega)) (fun b hb => f.2.2 b (by rcases h.2.1 with h | h <;> omega)) (h.sky.fr (f.1 57 (by decide) (by decide) (by decide)) (f.1 59 (by decide) (by decide) (by decide)) (f.2.2 57 (by decide)) (f.2.2 58 (by decide))) (h.box.fr (by rw [f.1 0 (by decide) (by decide) (by decide)]) (f.1 114 (by decide) (by decide) (by decide)) (f.1 115 (by decide) (by decide) (by decide)) (f.2.2 56 (by decide))) (h.way.fr (by rw [f.1 61 (by decide) (by decide) (by decide)]) (f.1 62 (by decide) (by decide) (by decide)) (f.1 103 (by decide) (by decide) (by decide)) (f.2.1 76 (by decide))) (h.look.fr (fun j _ => by rw [f.1 66 (by decide) (by decide) (by decide)]) (fun b _ _ => f.1 b (by omega) (by omega) (by omega)) (fun b _ _ => f.1 b (by omega) (by omega) (by omega)) (f.2.1 86 (by decide)) (f.2.1 87 (by decide)))
/-- both have found what fits -/
theorem Inv.both (h : Inv T q st a u I L) (k : Int32) : ∃ (lk : Nat → Nat → Nat) (n : Nat) (F : Nat → Nat → Bool) (ct : Nat) (I1 : HI) (L1 : HL), fX3_findFitting q k I L = some (nI ct, I1, L1) ∧ Inv T q st a u I1 L1 ∧ ct = fb_ct (F 1) 64 + fb_ct (F 2) 64 + fb_ct (F 3) 64 + fb_ct (F 4) 64 ∧ (∀ l, l < 4 → ∀ c, c < 64 → hb (L1 71 l) c = F (l + 1) c) ∧ (∀ l c, F l c = true → grd T c) ∧ F = FitS T I lk k n ∧ ∀ (J : HI) (M : HL), Inv T q st a u J M → J 66 8 = I 66 8 → J 66 9 = I 66 9 → (∀ b, (67 ≤ b ∧ b ≤ 70) ∨ (108 ≤ b ∧ b ≤ 112) → J b = I b) → J 66 0 = I 66 0 → J 66 1 = I 66 1 → J 73 86 = I 73 86 → J 73 87 = I 73 87 → ∃ I2 L2, fX12_layFits k J M = some (I2, L2) ∧ FF J I2 M L2 ∧ I2 73 89 = nI ct ∧ ∀ l, 1 ≤ l → l ≤ 4 → ∀ e, e < 64 → hb (L2 113 l) e = F l e := by
  obtain ⟨lk, n, t, hK⟩ := h.look
  obtain ⟨I1, L1, e1, f1, g1, v1⟩ := x_ff h.1 h.2.1 k h.2.2.1 hK
  refine ⟨lk, n, FitS T I lk k n, fitC T I lk k n, I1, L1, e1, h.fk (fun b h1 h2 _ => f1 b h1 h2) (fun j _ _ => by rw [f1 66 (by rcases h.2.1 with h | h <;> omega) (by decide)]) g1, rfl, v1, fun l c hc => ?_, rfl, fun J M hJ e8 e9 er e0 e1' e86 e87 => ?_⟩
  · unfold FitS at hc
    simp only [Bool.and_eq_true, decide_eq_true_eq, Bool.not_eq_true'] at hc
    exact ⟨hc.1.1, hc.1.2⟩
  · have hKJ : LookAt T lk n t J := hK.fr (fun j hj => by
      rcases hj with g | g | g | g <;> subst g <;> assumption) (fun b b1 b2 => er b (Or.inl ⟨b1, b2⟩)) (fun b b1 b2 => er b (Or.inr ⟨b1, b2⟩)) e86 e87
    obtain ⟨I2, L2, e2, f2, v2, w2⟩ := m_layFits (k := k) h.1 hJ.2.2.2.1 hKJ
    have eF : ∀ l, FitS T J lk k n l = FitS T I lk k n l := fun l => by
      funext c
      unfold FitS
      rw [fitR_same e8 e9 n]
    refine ⟨I2, L2, e2, f2, ?_, fun l l1 l4 e he => ?_⟩
    · rw [v2]
      unfold fitC
      rw [eF, eF, eF, eF]
    · rw [w2 l l1 l4 e he, eF]
/-- after the class's search -/
theorem Inv.both' (h : Inv T q st a u I L) (k : Int32) : ∃ (F : Nat → Nat → Bool) (ct : Nat) (I1 : HI) (L1 : HL) (I2 : HI) (L2 : HL), fX3_findFitting q k I L = some (nI ct, I1, L1) ∧ fX12_layFits k I1 L1 = some (I2, L2) ∧ I2 73 89 = nI ct ∧ ct = fb_ct (F 1) 64 + fb_ct (F 2) 64 + fb_ct (F 3) 64 + fb_ct (F 4) 64 ∧ (∀ l, l < 4 → ∀ c, c < 64 → hb (L1 71 l) c = F (l + 1) c) ∧ (∀ l, 1 ≤ l → l ≤ 4 → ∀ e, e < 64 → hb (L2 113 l) e = F l e) ∧ Inv T q st a u I2 L2 := by
  obtain ⟨lk, n, t, hK⟩ := h.look
  obtain ⟨I1, L1, e1, f1, g1, v1⟩ := x_ff h.1 h.2.1 k h.2.2.1 hK
  have i1 : Inv T q st a u I1 L1 := h.fk (fun b h1 h2 _ => f1 b h1 h2) (fun j _ _ => by rw [f1 66 (by rcases h.2.1 with h | h <;> omega) (by decide)]) g1
  have r66 : I1 66 = I 66 := f1 66 (by rcases h.2.1 with h | h <;> omega) (by decide)
  have hK1 := hK.fk h.2.1 f1
  obtain ⟨I2, L2, e2, f2, v2, w2⟩ := m_layFits (k := k) h.1 i1.2.2.2.1 hK1
  have eF : ∀ l, FitS T I1 lk k n l = FitS T I lk k n l := fun l => by
    funext c
    unfold FitS
    rw [fitR_same (by rw [r66]) (by rw [r66]) n]
  refine ⟨FitS T I lk k n, fitC T I lk k n, I1, L1, I2, L2, e1, e2, ?_, rfl, v1, fun l l1 l4 e he => by rw [w2 l l1 l4 e he, eF], i1.ff f2⟩
  rw [v2]
  unfold fitC
  rw [eF, eF, eF, eF]
theorem c_fit (h : Inv T q st a u I L) (k : Int32) : ∃ r I1 L1 I2 L2, fX11_fit q k I L = some (r, I1, L1) ∧ fX12_fit k I1 L1 = some (r, I2, L2) ∧ Inv T q st a u I2 L2 := by
  obtain ⟨F, ct, I1, L1, I2, L2, e1, e2, v, _, _, _, i2⟩ := h.both' k
  refine ⟨nI ct, I1, L1, I2, L2, ?_, ?_, i2⟩
  · unfold fX11_fit; rw [e1]; rfl
  · unfold fX12_fit; rw [e2]; simp only [Option.bind_some, v]
theorem c_places (h : Inv T q st a u I L) (k : Int32) : ∃ r I1 L1 I2 L2, fX11_places q k I L = some (r, I1, L1) ∧ fX12_places k I1 L1 = some (r, I2, L2) ∧ Inv T q st a u I2 L2 := by
  obtain ⟨mf, hmf⟩ := fuel_at 10 (by decide)
  obtain ⟨F, ct, I1, L1, I2, L2, e1, e2, v, _, w1, w2, i2⟩ := h.both' k
  have ee : ∀ l, l < 4 → L2 113 (l + 1) = L1 71 l := fun l hl => hb_ext (fun c hc => by rw [w2 (l + 1) (by omega) (by omega) c hc, w1 l hl c hc])
  have stp : ∀ (j f : Nat) (x : Int64), j < 4 → fX3_fittingCells_4 (f + 1) x (nI j) L1 = fX3_fittingCells_4 f (x ||| L1 71 j) (nI (j + 1)) L1 := by
    intro j f x hj
    rw [fX3_fittingCells_4, if_neg (show ¬ (4 : Int32) ≤ nI j from nI_ge (b := 4) hj (by decide)), nI_1]
    simp only [if_pos (inb_nI hj (show 4 < 2 ^ 31 by decide)), clamp_nI (show j < 2 ^ 31 by omega)]
  refine ⟨L1 71 0 ||| L1 71 1 ||| L1 71 2 ||| L1 71 3, I1, L1, I2, L2, ?_, ?_, i2⟩
  · unfold fX11_places
    rw [e1]
    simp only [Option.bind_some]
    unfold fX3_fittingCells
    rw [hmf, show (0 : Int32) = nI 0 from rfl, show mf + 10 = mf + 5 + 1 + 1 + 1 + 1 + 1 from rfl, stp 0 _ _ (by decide), stp 1 _ _ (by decide), stp 2 _ _ (by decide), stp 3 _ _ (by decide), fX3_fittingCells_4, if_pos (show (4 : Int32) ≤ nI (3 + 1) by decide)]
    simp only [Option.bind_some]
    rw [show (0 : Int64) ||| L1 71 0 = L1 71 0 from hb_ext (fun c _ => by rw [hb_or, hb_0, Bool.false_or])]
  · unfold fX12_places
    rw [e2]
    simp only [Option.bind_some]
    rw [if_pos (by decide), if_pos (by decide), if_pos (by decide), if_pos (by decide)]
    rw [show L2 113 (1 : Int32).toNatClampNeg = L1 71 0 from ee 0 (by decide), show L2 113 (2 : Int32).toNatClampNeg = L1 71 1 from ee 1 (by decide), show L2 113 (3 : Int32).toNatClampNeg = L1 71 2 from ee 2 (by decide), show L2 113 (4 : Int32).toNatClampNeg = L1 71 3 from ee 3 (by decide)]
theorem c_heights (h : Inv T q st a u I L) (k : Int32) : ∃ r I1 L1 I2 L2, fX11_heights q k I L = some (r, I1, L1) ∧ fX12_heights k I1 L1 = some (r, I2, L2) ∧ Inv T q st a u I2 L2 := by
  obtain ⟨mf, hmf⟩ := fuel_at 10 (by decide)
  obtain ⟨F, ct, I1, L1, I2, L2, e1, e2, v, _, w1, w2, i2⟩ := h.both' k
  have ee : ∀ l, l < 4 → L2 113 (l + 1) = L1 71 l := fun l hl => hb_ext (fun c hc => by rw [w2 (l + 1) (by omega) (by omega) c hc, w1 l hl c hc])
  have or0 : ∀ x : Int32, x ||| 0 = x := fun x => b_ext (fun i _ => by rw [b_or, b_0, Bool.or_false])
  have sx : ∀ (j f : Nat) (x : Int32), j < 4 → fX3_fittingHeights_4 (f + 1) x (nI j) L1 = fX3_fittingHeights_4 f (if L1 71 j = 0 then x else x ||| (1 : Int32) <<< (nI j &&& 31)) (nI (j + 1)) L1 := by
    intro j f x hj
    rw [fX3_fittingHeights_4, if_neg (show ¬ (4 : Int32) ≤ nI j from nI_ge (b := 4) hj (by decide)), nI_1]
    simp only [if_pos (inb_nI hj (show 4 < 2 ^ 31 by decide)), clamp_nI (show j < 2 ^ 31 by omega)]
    by_cases hz : L1 71 j = 0
    · rw [if_pos hz, if_pos hz]
    · rw [if_neg hz, if_neg hz]
  have sm : ∀ (j f : Nat) (x : Int32), j < 4 → fX12_heights_9 (f + 1) x (nI (j + 1)) I2 L2 = fX12_heights_9 f (if L1 71 j = 0 then x else x ||| (1 : Int32) <<< (nI j &&& 31)) (nI (j + 1 + 1)) I2 L2 := by
    intro j f x hj
    rw [fX12_heights_9, if_neg (show ¬ (4 : Int32) < nI (j + 1) from nI_nlt (a := 4) (by omega) (by omega)), nI_1, nI_pred]
    simp only [if_pos (inb_nI (show j + 1 < 5 by omega) (show 5 < 2 ^ 31 by decide)), clamp_nI (show j + 1 < 2 ^ 31 by omega), ee j hj, or0]
    by_cases hz : L1 71 j = 0
    · rw [if_pos hz, if_pos hz]
    · rw [if_neg hz, if_neg hz]
  obtain ⟨g, hg⟩ : ∃ g : Nat → Int32 → Int32, ∀ j x, g j x = if L1 71 j = 0 then x else x ||| (1 : Int32) <<< (nI j &&& 31) := ⟨_, fun _ _ => rfl⟩
  simp only [← hg] at sx sm
  refine ⟨g 3 (g 2 (g 1 (g 0 (nI 0)))), I1, L1, I2, L2, ?_, ?_, i2⟩
  · unfold fX11_heights
    rw [e1]
    simp only [Option.bind_some]
    unfold fX3_fittingHeights
    rw [hmf, show (0 : Int32) = nI 0 from rfl, show mf + 10 = mf + 5 + 1 + 1 + 1 + 1 + 1 from rfl, sx 0 _ _ (by decide), sx 1 _ _ (by decide), sx 2 _ _ (by decide), sx 3 _ _ (by decide), fX3_fittingHeights_4, if_pos (show (4 : Int32) ≤ nI (3 + 1) by decide)]
    rfl
  · unfold fX12_heights
    rw [e2]
    simp only [Option.bind_some]
    rw [hmf, show (0 : Int32) = nI 0 from rfl, show (1 : Int32) = nI (0 + 1) from rfl, show mf + 10 = mf + 5 + 1 + 1 + 1 + 1 + 1 from rfl, sm 0 _ _ (by decide), sm 1 _ _ (by decide), sm 2 _ _ (by decide), sm 3 _ _ (by decide), fX12_heights_9, if_pos (show (4 : Int32) < nI (3 + 1 + 1) by decide)]
    rfl
/-! ask -/
noncomputable def yesC (T : Nat → Nat → Nat) (F : Nat → Nat → Bool) (hr e : Nat) : Nat := fb_ct (fun c => F 1 c && rayS T c (lnV T 1 hr) e) 64 + fb_ct (fun c => F 2 c && rayS T c (lnV T 2 hr) e) 64 + fb_ct (fun c => F 3 c && rayS T c (lnV T 3 hr) e) 64 + fb_ct (fun c => F 4 c && rayS T c (lnV T 4 hr) e) 64
theorem fb_and (p r : Nat → Bool) : ∀ n, fb_ct (fun c => p c && r c) n ≤ fb_ct p n := by
  intro n
  induction n with
  | zero => exact Nat.le_refl _
  | succ n ih =>
    rw [fb_ct_succ, fb_ct_succ]
    cases p n <;> cases r n <;> simp <;> omega
theorem x_shC (hO : TOk T) {F : Nat → Nat → Bool} {hr e : Nat} (hX : XTown T q I L) (he : grd T e) (hv : ∀ j, j < 4 → I 72 j = iI (lnV T (j + 1) hr)) (hF : ∀ l, l < 4 → ∀ c, c < 64 → hb (L 71 l) c = F (l + 1) c) (hg : ∀ l c, F l c = true → grd T c) : fX3_countShading q (nI e) I L = some (nI (yesC T F hr e)) := by
  obtain ⟨mf, hmf⟩ := fuel_at 10 (by decide)
  have stp : ∀ (j f a : Nat), j < 4 → fX3_countShading_5 q (f + 1) (nI e) (nI a) (nI j) I L = fX3_countShading_5 q f (nI e) (nI (a + fb_ct (fun c => F (j + 1) c && rayS T c (lnV T (j + 1) hr) e) 64)) (nI (j + 1)) I L := by
    intro j f a hj
    obtain ⟨r, er, hr'⟩ := x_doors (j := j) hO hX hj he (hv j hj)
    rw [fX3_countShading_5, if_neg (show ¬ (4 : Int32) ≤ nI j from nI_ge (b := 4) hj (by decide)), nI_1]
    simp only [if_pos (inb_nI hj (show 4 < 2 ^ 31 by decide)), clamp_nI (show j < 2 ^ 31 by omega), er, Option.bind_some, x_bits, nI_add]
    have ec : fb_ct (hb (L 71 j &&& r)) 64 = fb_ct (fun c => F (j + 1) c && rayS T c (lnV T (j + 1) hr) e) 64 := fb_ct_cong (fun c hc => by
      rw [hb_and, hF j hj c hc, hr' c hc]
      cases hf : F (j + 1) c with
      | false => rfl
      | true => rw [decide_eq_true (hg _ _ hf).1]; rfl)
    rw [ec]
  unfold fX3_countShading
  rw [hmf, show (0 : Int32) = nI 0 from rfl, show mf + 10 = mf + 5 + 1 + 1 + 1 + 1 + 1 from rfl, stp 0 _ _ (by decide), stp 1 _ _ (by decide), stp 2 _ _ (by decide), stp 3 _ _ (by decide), fX3_countShading_5, if_pos (show (4 : Int32) ≤ nI (3 + 1) by decide)]
  simp only [Option.bind_some, Nat.zero_add]
  rfl
/-- the best question so far -/
def qst (T : Nat → Nat → Nat) (Y : Nat → Nat) (ct hr c : Nat) (s : Option (Nat × Nat)) : Option (Nat × Nat) := if c < tC T ∧ isW T c = false then (match s with | none => some (100 * hr + c, max (Y c) (ct - Y c)) | some (x, l) => if max (Y c) (ct - Y c) < l then some (100 * hr + c, max (Y c) (ct - Y c)) else some (x, l)) else s
def qsC (T : Nat → Nat → Nat) (Y : Nat → Nat) (ct hr : Nat) : Nat → Nat → Option (Nat × Nat) → Option (Nat × Nat)
  | 0, _, s => s
  | m + 1, c, s => qsC T Y ct hr m (c + 1) (qst T Y ct hr c s)
def qsH (T : Nat → Nat → Nat) (Y : Nat → Nat → Nat) (ct : Nat) : Nat → Nat → Option (Nat × Nat) → Option (Nat × Nat)
  | 0, _, s => s
  | m + 1, hr, s => qsH T Y ct m (hr + 1) (qsC T (Y hr) ct hr (tC T) 0 s)
def qok (ct : Nat) (s : Option (Nat × Nat)) : Prop := ∀ x l, s = some (x, l) → x < 10000 ∧ l ≤ ct
theorem qst_ok {Y : Nat → Nat} {ct hr c : Nat} {s : Option (Nat × Nat)} (hY : Y c ≤ ct) (hh : hr < 24) (hc : c < 64) (h : qok ct s) : qok ct (qst T Y ct hr c s) := by
  unfold qst
  split
  · cases s with
    | none =>
      intro x l e
      cases e
      exact ⟨by omega, by omega⟩
    | some p =>
      obtain ⟨x0, l0⟩ := p
      intro x l e
      simp only at e
      by_cases hl : max (Y c) (ct - Y c) < l0
      · rw [if_pos hl] at e; cases e; exact ⟨by omega, by omega⟩
      · rw [if_neg hl] at e; exact h x l e
  · exact h
def xq (ct : Nat) (s : Option (Nat × Nat)) (I : HI) : Prop := match s with | none => I 66 3 = nI (ct + 1) | some (x, l) => I 66 2 = nI x ∧ I 66 3 = nI l
theorem x_q29 (hO : TOk T) {F : Nat → Nat → Bool} {hr ct : Nat} (hct : ct ≤ 256) (hh : hr < 24) (hF : ∀ l, l < 4 → ∀ c, c < 64 → hb (L 71 l) c = F (l + 1) c) (hg : ∀ l c, F l c = true → grd T c) (hYc : ∀ e, yesC T F hr e ≤ ct) : ∀ (m c fu : Nat) (s : Option (Nat × Nat)) (I : HI), c + m = tC T → m < fu → XTown T q I L → isQ2 q → (∀ j, j < 4 → I 72 j = iI (lnV T (j + 1) hr)) → xq ct s I → qok ct s → ∃ I', fX3_findQuestion_29 q fu (nI ct) (nI hr) (nI c) I L = some I' ∧ (∀ b, b ≠ 66 → I' b = I b) ∧ (∀ j, j ≠ 2 → j ≠ 3 → I' 66 j = I 66 j) ∧ xq ct (qsC T (yesC T F hr) ct hr m c s) I' ∧ qok ct (qsC T (yesC T F hr) ct hr m c s) := by
  have hC := tC_le hO.1
  intro m
  induction m with
  | zero =>
    intro c fu s I hc hf hX hq hv hs hk
    obtain ⟨f, rfl⟩ : ∃ f, fu = f + 1 := ⟨fu - 1, by omega⟩
    rw [fX3_findQuestion_29, hX.1.2.2, if_pos (nI_le (by omega) (by omega))]
    exact ⟨I, rfl, fun _ _ => rfl, fun _ _ _ => rfl, hs, hk⟩
  | succ m ih =>
    intro c fu s I hc hf hX hq hv hs hk
    obtain ⟨f, rfl⟩ : ∃ f, fu = f + 1 := ⟨fu - 1, by omega⟩
    have hc4 : c < tC T := by omega
    have hY := hYc c
    have hk' : qok ct (qst T (yesC T F hr) ct hr c s) := qst_ok hY hh (by omega) hk
    rw [fX3_findQuestion_29, hX.1.2.2, if_neg (nI_ge hc4 (by omega)), x_canSt hO hX hc4, nI_1, qsC]
    simp only [b2i_eq0]
    cases hw : isW T c with
    | true =>
      simp only [Bool.not_true, if_true]
      have e0 : qst T (yesC T F hr) ct hr c s = s := by unfold qst; rw [if_neg (by rw [hw]; simp)]
      rw [e0] at hk' ⊢
      exact ih (c + 1) f s I (by omega) (by omega) hX hq hv hs hk
    | false =>
      have hgc : grd T c := ⟨hc4, hw⟩
      simp only [Bool.not_false, Bool.true_eq_false, if_false, x_shC hO hX hgc hv hF hg, Option.bind_some]
      have hmax : (if nI (yesC T F hr c) < nI ct - nI (yesC T F hr c) then nI ct - nI (yesC T F hr c) else nI (yesC T F hr c)) = nI (max (yesC T F hr c) (ct - yesC T F hr c)) := by
        rw [pk_sub hY]
        by_cases hlt : yesC T F hr c < ct - yesC T F hr c
        · rw [if_pos (nI_lt hlt (by omega)), Nat.max_eq_right (by omega)]
        · rw [if_neg (nI_nlt (by omega) (by omega)), Nat.max_eq_left (by omega)]
      rw [hmax]
      have upd : ∀ I' : HI, (∀ b, b ≠ 66 → I' b = I b) → (∀ j, j ≠ 2 → j ≠ 3 → I' 66 j = I 66 j) → xq ct (qst T (yesC T F hr) ct hr c s) I' → ∃ I'', fX3_findQuestion_29 q f (nI ct) (nI hr) (nI (c + 1)) I' L = some I'' ∧ (∀ b, b ≠ 66 → I'' b = I b) ∧ (∀ j, j ≠ 2 → j ≠ 3 → I'' 66 j = I 66 j) ∧ xq ct (qsC T (yesC T F hr) ct hr m (c + 1) (qst T (yesC T F hr) ct hr c s)) I'' ∧ qok ct (qsC T (yesC T F hr) ct hr m (c + 1) (qst T (yesC T F hr) ct hr c s)) := by
        intro I' f1 f2 hx'
        obtain ⟨I2, e2, g1, g2, g3, g4⟩ := ih (c + 1) f _ I' (by omega) (by omega) (hX.fr (fun b b1 b2 => f1 b (by rcases hq with h | h <;> omega)) ⟨rfl, rfl⟩) hq (fun j hj => by rw [f1 72 (by decide)]; exact hv j hj) hx' hk'
        exact ⟨I2, e2, fun b hb => by rw [g1 b hb, f1 b hb], fun j j1 j2 => by rw [g2 j j1 j2, f2 j j1 j2], g3, g4⟩
      have take : xq ct (some (100 * hr + c, max (yesC T F hr c) (ct - yesC T F hr c))) (up2 (up2 I 66 3 (nI (max (yesC T F hr c) (ct - yesC T F hr c)))) 66 2 ((100 : Int32) * nI hr + nI c)) := by
        unfold xq
        simp only [up2_at, Nat.reduceEqDiff, and_false, if_false, and_self, if_true]
        exact ⟨by rw [show (100 : Int32) = nI 100 from rfl, pk_mul, nI_add], trivial⟩
      have f1' : ∀ b, b ≠ 66 → up2 (up2 I 66 3 (nI (max (yesC T F hr c) (ct - yesC T F hr c)))) 66 2 ((100 : Int32) * nI hr + nI c) b = I b := fun b hb => by rw [upRow _ _ hb, upRow _ _ hb]
      have f2' : ∀ j, j ≠ 2 → j ≠ 3 → up2 (up2 I 66 3 (nI (max (yesC T F hr c) (ct - yesC T F hr c)))) 66 2 ((100 : Int32) * nI hr + nI c) 66 j = I 66 j := fun j j1 j2 => by rw [up2_at, if_neg (fun g => j1 g.2), up2_at, if_neg (fun g => j2 g.2)]
      cases s with
      | none =>
        have e0 : qst T (yesC T F hr) ct hr c none = some (100 * hr + c, max (yesC T F hr c) (ct - yesC T F hr c)) := by unfold qst; rw [if_pos (show c < tC T ∧ isW T c = false from hgc)]
        have h3 : I 66 3 = nI (ct + 1) := hs
        rw [h3, if_neg (nI_ge (by omega) (by omega))]
        rw [e0] at upd ⊢
        exact upd _ f1' f2' take
      | some p =>
        obtain ⟨x0, l0⟩ := p
        have h3 : I 66 2 = nI x0 ∧ I 66 3 = nI l0 := hs
        have hkl := hk x0 l0 rfl
        have e0 : qst T (yesC T F hr) ct hr c (some (x0, l0)) = if max (yesC T F hr c) (ct - yesC T F hr c) < l0 then some (100 * hr + c, max (yesC T F hr c) (ct - yesC T F hr c)) else some (x0, l0) := by unfold qst; rw [if_pos (show c < tC T ∧ isW T c = false from hgc)]
        rw [h3.2]
        rw [e0] at upd ⊢
        by_cases hl : max (yesC T F hr c) (ct - yesC T F hr c) < l0
        · rw [if_neg (nI_ge hl (by omega))]
          rw [if_pos hl] at upd ⊢
          exact upd _ f1' f2' take
        · rw [if_pos (nI_le (by omega) (by omega))]
          rw [if_neg hl] at upd ⊢
          exact upd I (fun _ _ => rfl) (fun _ _ _ => rfl) hs
theorem x_q14 (hO : TOk T) (hq : isQ2 q) {F : Nat → Nat → Bool} {ct : Nat} (hct : ct ≤ 256) (hF : ∀ l, l < 4 → ∀ c, c < 64 → hb (L 71 l) c = F (l + 1) c) (hg : ∀ l c, F l c = true → grd T c) (hYc : ∀ hr e, yesC T F hr e ≤ ct) : ∀ (m hr fu : Nat) (s : Option (Nat × Nat)) (I : HI), hr + m = 24 → m < fu → XTown T q I L → xq ct s I → qok ct s → ∃ I', fX3_findQuestion_14 q fu (nI ct) (nI hr) I L = some I' ∧ (∀ b, b ≠ q + 21 → b ≠ 72 → b ≠ 66 → I' b = I b) ∧ (∀ j, j ≠ 2 → j ≠ 3 → I' 66 j = I 66 j) ∧ xq ct (qsH T (yesC T F) ct m hr s) I' ∧ qok ct (qsH T (yesC T F) ct m hr s) := by
  obtain ⟨mf, hmf⟩ := fuel_at 1000 (by decide)
  have hC := tC_le hO.1
  intro m
  induction m with
  | zero =>
    intro hr fu s I hh hf hX hs hk
    obtain ⟨f, rfl⟩ : ∃ f, fu = f + 1 := ⟨fu - 1, by omega⟩
    rw [fX3_findQuestion_14, if_pos (show (24 : Int32) ≤ nI hr from nI_le (a := 24) (by omega) (by omega))]
    exact ⟨I, rfl, fun _ _ _ _ => rfl, fun _ _ _ => rfl, hs, hk⟩
  | succ m ih =>
    intro hr fu s I hh hf hX hs hk
    obtain ⟨f, rfl⟩ : ∃ f, fu = f + 1 := ⟨fu - 1, by omega⟩
    obtain ⟨I1, e1, f1, v1⟩ := x_lens (hr := hr) hO hq hX
    have r66 : I1 66 = I 66 := f1 66 (by rcases hq with h | h <;> omega) (by decide)
    have hs1 : xq ct s I1 := by
      unfold xq at *
      rw [r66]; exact hs
    obtain ⟨I2, e2, f2, g2, s2, k2⟩ := x_q29 (hr := hr) (ct := ct) hO hct (by omega) hF hg (hYc hr) (tC T) 0 FUEL s I1 (by omega) (by omega) (hX.fk hq f1 (fun _ _ => rfl)) hq v1 hs1 hk
    rw [fX3_findQuestion_14, if_neg (show ¬ (24 : Int32) ≤ nI hr from nI_ge (b := 24) (by omega) (by decide)), e1]
    simp only [Option.bind_some]
    rw [show fX3_findQuestion_29 q FUEL (nI ct) (nI hr) 0 I1 L = _ from e2]
    simp only [Option.bind_some, nI_1]
    have fI : ∀ b, b ≠ q + 21 → b ≠ 72 → b ≠ 66 → I2 b = I b := fun b h1 h2 h3 => by rw [f2 b h3, f1 b h1 h2]
    obtain ⟨I3, e3, f3, g3, s3, k3⟩ := ih (hr + 1) f _ I2 (by omega) (by omega) (hX.fr (fun b b1 b2 => fI b (by omega) (by rcases hq with h | h <;> omega) (by rcases hq with h | h <;> omega)) ⟨rfl, rfl⟩) s2 k2
    exact ⟨I3, e3, fun b h1 h2 h3 => by rw [f3 b h1 h2 h3, fI b h1 h2 h3], fun j j1 j2 => by rw [g3 j j1 j2, g2 j j1 j2, r66], s3, k3⟩
end AK
