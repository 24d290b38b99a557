/-! soonest -/
section SO
variable {T : Nat → Nat → Nat} {q : Nat} {N : Nat → Nat} {I : HI} {L : HL}
def XS (T : Nat → Nat → Nat) (q : Nat) (N : Nat → Nat) (I : HI) (L : HL) : Prop := XTown T q I L ∧ SkyNow T N I L
theorem XS.st (hO : TOk T) (hq : isQ2 q) (hN : NRng N) (h : XS T q N I L) {n : Nat} {x : Int64} (hn : n ≤ 48) (hx : GS T x) : ∃ I' L', fX7_stepFrom q x (nI n) 0 I L = some (stN T N n x, I', L') ∧ XS T q N I' L' ∧ FX q I I' L L' := by
  obtain ⟨I', L', e, f, sk, _⟩ := x_stp (S2 := 0) hO hq h.1 (ShS hN).1 hn h.2 hx
  rw [Nat.or_zero] at e
  exact ⟨I', L', e, ⟨h.1.fx hq f, sk⟩, f⟩
theorem m_hours_raw (hO : TOk T) (hN : NRng N) (hM : MTown T I L) (hm : MNow I N) {n : Nat} (hn : n ≤ 48) : ∃ I1 I2 L2, fX12_load 0 I = some I1 ∧ I1 99 8 = nI (N 8) ∧ fX12_layHours (nI (N 8)) (nI n) I1 L = some (I2, L2) ∧ MHrs T (N 8) (N 5) (N 6) 0 (decide (N 7 = 1)) n L2 ∧ FM I I2 L L2 := by
  obtain ⟨b1, b2, b3⟩ := ShS hN
  obtain ⟨I1, e1, a1, f1⟩ := m_load (n := 0) hN (by decide) hm
  obtain ⟨I2, L2, hr', dt', e2, f2, a2, h2⟩ := m_layHours hO (hM.fm (f1 L)) a1 b2 b3 (by decide) b1 hn
  exact ⟨I1, I2, L2, e1, by rw [(f1 L).1 99 (by decide) (by decide) (by decide)]; exact hm 8 (by decide), e2, h2, (f1 L).trans f2⟩
theorem stN_GS {n : Nat} {x : Int64} (hO : TOk T) (hx : GS T x) : GS T (stN T N n x) := stp_GS hO hx
theorem stN_iff {n e : Nat} {x : Int64} (hO : TOk T) (hx : GS T x) : hb (stN T N n x) e = true ↔ ∃ c, hb x c = true ∧ mvN T (N 8) (N 5) (N 6) 0 (decide (N 7 = 1)) n c e := stp_iff hO hx
/-- forward until there -/
noncomputable def fwS (T : Nat → Nat → Nat) (N : Nat → Nat) (to : Nat) : Nat → Nat → Int64 → Nat × Int64
  | 0, k, x => (k, x)
  | m + 1, k, x => if hb x to = true then (k, x) else fwS T N to m (k + 1) (stN T N k x)
theorem fw_ok (hO : TOk T) (to : Nat) : ∀ (m k : Nat) (x y : Int64), k + m = 48 → x = itS T (N 8) (N 5) (N 6) 0 (decide (N 7 = 1)) k 0 y → (fwS T N to m k x).1 ≤ 48 ∧ (fwS T N to m k x).2 = itS T (N 8) (N 5) (N 6) 0 (decide (N 7 = 1)) (fwS T N to m k x).1 0 y := by
  intro m
  induction m with
  | zero => intro k x y hk hx; exact ⟨by unfold fwS; omega, hx⟩
  | succ m ih =>
    intro k x y hk hx
    rw [fwS]
    by_cases h : hb x to = true
    · rw [if_pos h]; exact ⟨by simp only; omega, hx⟩
    · rw [if_neg h]
      refine ih (k + 1) _ y (by omega) ?_
      rw [it_snoc, ← hx, Nat.zero_add]
      rfl
theorem x_fwL (hO : TOk T) (hq : isQ2 q) (hN : NRng N) {to : Nat} {v : Int32} (ht : to < 64) : ∀ (m k fu : Nat) (x : Int64) (I : HI) (L : HL), k + m = 48 → m < fu → GS T x → XS T q N I L → ∃ I' L', fX10_layWay_7 q fu v (nI to) x (nI k) I L = some ((fwS T N to m k x).2, nI (fwS T N to m k x).1, I', L') ∧ XS T q N I' L' ∧ FX q I I' L L' := by
  intro m
  induction m with
  | zero =>
    intro k fu x I L hk hf hx h
    obtain ⟨f, rfl⟩ : ∃ f, fu = f + 1 := ⟨fu - 1, by omega⟩
    have : k = 48 := by omega
    subst this
    rw [fX10_layWay_7, if_pos (show (48 : Int32) ≤ nI 48 from nI_le (a := 48) (Nat.le_refl _) (by decide))]
    exact ⟨I, L, rfl, h, FX.refl q I L⟩
  | succ m ih =>
    intro k fu x I L hk hf hx h
    obtain ⟨f, rfl⟩ : ∃ f, fu = f + 1 := ⟨fu - 1, by omega⟩
    rw [fX10_layWay_7, if_neg (show ¬ (48 : Int32) ≤ nI k from nI_ge (b := 48) (by omega) (by decide)), fwS]
    simp only [ushr1_0 _ ht]
    cases hb1 : hb x to with
    | true =>
      simp only [Bool.true_eq_false, if_false, Option.bind_some, if_true]
      exact ⟨I, L, rfl, h, FX.refl q I L⟩
    | false =>
      simp only [Bool.false_eq_true, if_false, Option.bind_some, if_true]
      obtain ⟨I1, L1, e1, x1, f1⟩ := h.st hO hq hN (n := k) (by omega) hx
      rw [e1]
      simp only [Option.bind_some, nI_1]
      obtain ⟨I2, L2, e2, x2, f2⟩ := ih (k + 1) f _ I1 L1 (by omega) (by omega) (stN_GS hO hx) x1
      exact ⟨I2, L2, e2, x2, f1.trans f2⟩
theorem m_fwL (hO : TOk T) {to : Nat} {v : Int32} (ht : to < 64) (hM : MTown T I L) (hH : MHrs T (N 8) (N 5) (N 6) 0 (decide (N 7 = 1)) 48 L) : ∀ (m k fu : Nat) (x : Int64), k + m = 48 → m < fu → fX12_soonest_48 fu v (nI to) x (nI k) I L = some ((fwS T N to m k x).2, nI (fwS T N to m k x).1) := by
  intro m
  induction m with
  | zero =>
    intro k fu x hk hf
    obtain ⟨f, rfl⟩ : ∃ f, fu = f + 1 := ⟨fu - 1, by omega⟩
    have : k = 48 := by omega
    subst this
    rw [fX12_soonest_48, if_pos (show (48 : Int32) ≤ nI 48 from nI_le (a := 48) (Nat.le_refl _) (by decide))]
    cases fX12_has x (nI to) <;> rfl
  | succ m ih =>
    intro k fu x hk hf
    obtain ⟨f, rfl⟩ : ∃ f, fu = f + 1 := ⟨fu - 1, by omega⟩
    rw [fX12_soonest_48, if_neg (show ¬ (48 : Int32) ≤ nI k from nI_ge (b := 48) (by omega) (by decide)), fwS, has_hb _ ht, m_stp hO hM (by omega) (Nat.le_refl _) hH]
    simp only [b2i_eq0]
    cases hb1 : hb x to with
    | true => simp only [Bool.true_eq_false, if_false, Option.bind_some, if_true]
    | false =>
      simp only [Bool.false_eq_true, if_false, Option.bind_some, if_true, nI_1]
      exact ih (k + 1) f _ (by omega) (by omega)
/-- backward from there -/
noncomputable def bkW (T : Nat → Nat → Nat) (N : Nat → Nat) (h to : Nat) : Nat → Int64
  | 0 => oneI to
  | j + 1 => stN T N (h - j - 1) (bkW T N h to j)
theorem bk_GS (hO : TOk T) {h to : Nat} (ht : grd T to) : ∀ j, GS T (bkW T N h to j)
  | 0 => one_GS hO ht
  | j + 1 => stN_GS hO (bk_GS hO ht j)
def FW (q : Nat) (I I' : HI) (L L' : HL) : Prop := (∀ b, b ≠ q + 21 → b ≠ 57 → b ≠ 59 → b ≠ 60 → b ≠ 61 → b ≠ 62 → I' b = I b) ∧ (∀ j, j ≠ 2 → I' 61 j = I 61 j) ∧ ∀ b, b ≠ 57 → b ≠ 58 → b ≠ 63 → L' b = L b
theorem FX.fw {I I' : HI} {L L' : HL} (hq : isQ2 q) (f : FX q I I' L L') : FW q I I' L L' := ⟨fun b h1 h2 h3 h4 _ _ => f.1 b h1 h2 h3 h4, fun j _ => by rw [f.1 61 (by rcases hq with h | h <;> omega) (by decide) (by decide) (by decide)], fun b h1 h2 _ => f.2 b h1 h2⟩
theorem FW.trans {I J K : HI} {L M P : HL} (h : FW q I J L M) (g : FW q J K M P) : FW q I K L P := ⟨fun b h1 h2 h3 h4 h5 h6 => by rw [g.1 b h1 h2 h3 h4 h5 h6, h.1 b h1 h2 h3 h4 h5 h6], fun j hj => by rw [g.2.1 j hj, h.2.1 j hj], fun b h1 h2 h3 => by rw [g.2.2 b h1 h2 h3, h.2.2 b h1 h2 h3]⟩
theorem XS.fr {J : HI} {M : HL} (hq : isQ2 q) (h : XS T q N I L) (hI : ∀ b, b ≠ 61 → b ≠ 62 → J b = I b) (hL : ∀ b, b ≠ 63 → M b = L b) : XS T q N J M := by
  refine ⟨h.1.fr (fun b b1 b2 => hI b (by rcases hq with h | h <;> omega) (by rcases hq with h | h <;> omega)) ⟨hL q (by rcases hq with h | h <;> omega), hL (q + 22) (by rcases hq with h | h <;> omega)⟩, ?_⟩
  have h2 := h.2
  unfold SkyNow SkyAt SkyN at *
  rw [hI 57 (by decide) (by decide), hI 59 (by decide) (by decide), hL 57 (by decide), hL 58 (by decide)]
  exact h2
theorem x_bkL (hO : TOk T) (hq : isQ2 q) (hN : NRng N) {h to : Nat} {v w : Int32} (hh : h ≤ 48) (ht : grd T to) : ∀ (i fu : Nat) (I : HI) (L : HL), i < h → i < fu → XS T q N I L → (∀ k, i < k → k ≤ h → L 63 k = bkW T N h to (h - k)) → ∃ I' L', fX10_layWay_70 q fu v w (nI i) I L = some (I', L') ∧ XS T q N I' L' ∧ FW q I I' L L' ∧ ∀ k, 0 < k → k ≤ h → L' 63 k = bkW T N h to (h - k) := by
  intro i
  induction i with
  | zero =>
    intro fu I L hi hf hx hb
    obtain ⟨f, rfl⟩ : ∃ f, fu = f + 1 := ⟨fu - 1, by omega⟩
    rw [fX10_layWay_70, if_pos (show nI 0 ≤ 0 by decide)]
    exact ⟨I, L, rfl, hx, (FX.refl q I L).fw hq, hb⟩
  | succ i ih =>
    intro fu I L hi hf hx hb
    obtain ⟨f, rfl⟩ : ∃ f, fu = f + 1 := ⟨fu - 1, by omega⟩
    have e0 := hb (i + 1 + 1) (by omega) (by omega)
    obtain ⟨I1, L1, e1, x1, f1⟩ := hx.st hO hq hN (n := i + 1) (x := bkW T N h to (h - (i + 1 + 1))) (by omega) (bk_GS hO ht _)
    rw [fX10_layWay_70, if_neg (nI_nle (by omega) (by omega)), nI_1, pk_m1]
    simp only [if_pos (inb_nI (show i + 1 + 1 < 49 by omega) (show 49 < 2 ^ 31 by decide)), if_pos (inb_nI (show i + 1 < 49 by omega) (show 49 < 2 ^ 31 by decide)), clamp_nI (show i + 1 + 1 < 2 ^ 31 by omega), clamp_nI (show i + 1 < 2 ^ 31 by omega), e0]
    rw [e1]
    simp only [Option.bind_some]
    have r63 : L1 63 = L 63 := f1.2 63 (by decide) (by decide)
    obtain ⟨I2, L2, e2, x2, f2, b2⟩ := ih f I1 (up2 L1 63 (i + 1) (stN T N (i + 1) (bkW T N h to (h - (i + 1 + 1))))) (by omega) (by omega) (x1.fr hq (fun _ _ _ => rfl) (fun b hb => upRow _ _ hb)) (by
      intro k k1 k2
      rw [up2_at]
      by_cases hk : k = i + 1
      · rw [if_pos ⟨rfl, hk⟩, hk, show h - (i + 1) = (h - (i + 1 + 1)) + 1 by omega, bkW, show h - (h - (i + 1 + 1)) - 1 = i + 1 by omega]
      · rw [if_neg (fun g => hk g.2), r63]; exact hb k (by omega) k2)
    refine ⟨I2, L2, e2, x2, ?_, b2⟩
    have fu2 : FW q I1 I1 L1 (up2 L1 63 (i + 1) (stN T N (i + 1) (bkW T N h to (h - (i + 1 + 1))))) := ⟨fun _ _ _ _ _ _ _ => rfl, fun _ _ => rfl, fun b _ _ h3 => upRow _ _ h3⟩
    exact ((f1.fw hq).trans fu2).trans f2
/-- the way -/
noncomputable def wyS (T : Nat → Nat → Nat) (N : Nat → Nat) (h to c : Nat) : Nat → Nat
  | 0 => c
  | k + 1 => lowB (stN T N k (oneI (wyS T N h to c k)) &&& bkW T N h to (h - (k + 1)))
theorem wy_ok (hO : TOk T) {h to c : Nat} (ht : grd T to) (hc : hb (bkW T N h to h) c = true) : ∀ k, k ≤ h → hb (bkW T N h to (h - k)) (wyS T N h to c k) = true ∧ grd T (wyS T N h to c k) ∧ (k < h → stN T N k (oneI (wyS T N h to c k)) &&& bkW T N h to (h - (k + 1)) ≠ 0) := by
  have nz : ∀ k, k < h → ∀ c, hb (bkW T N h to (h - k)) c = true → stN T N k (oneI c) &&& bkW T N h to (h - (k + 1)) ≠ 0 := by
    intro k hk c hc hz
    have hg := bk_GS hO ht _ c hc
    rw [show h - k = (h - (k + 1)) + 1 by omega, bkW, show h - (h - (k + 1)) - 1 = k by omega, stN_iff hO (bk_GS hO ht _)] at hc
    obtain ⟨e, h1, h2⟩ := hc
    have he := bk_GS hO ht _ e h1
    have hm := mv_symm hO he h2
    refine and_ne0.mp hz ⟨e, grd_64 hO he, ?_, h1⟩
    exact (stN_iff hO (one_GS hO hg)).mpr ⟨c, (one_iff (grd_64 hO hg)).mpr rfl, hm⟩
  intro k
  induction k with
  | zero =>
    intro _
    exact ⟨hc, bk_GS hO ht _ c hc, fun h0 => nz 0 h0 c hc⟩
  | succ k ih =>
    intro hk
    obtain ⟨i1, i2, i3⟩ := ih (by omega)
    have hl := lowB_yes (i3 (by omega))
    rw [hb_and, Bool.and_eq_true] at hl
    exact ⟨hl.2, bk_GS hO ht _ _ hl.2, fun h0 => nz (k + 1) h0 _ hl.2⟩
theorem x_wyL (hO : TOk T) (hq : isQ2 q) (hN : NRng N) {h to c : Nat} (hh : h ≤ 48) (ht : grd T to) (hc : hb (bkW T N h to h) c = true) : ∀ (m k fu : Nat) (I : HI) (L : HL), k + m = h → m < fu → XS T q N I L → (∀ k, 0 < k → k ≤ h → L 63 k = bkW T N h to (h - k)) → (∀ i, i < k → I 62 i = nI (wyS T N h to c (i + 1))) → ∃ I' L', fX10_layWay_113 q fu (nI h) (nI (wyS T N h to c k)) (nI k) I L = some (nI h, I', L') ∧ XS T q N I' L' ∧ FW q I I' L L' ∧ I' 61 2 = nI h ∧ ∀ i, i < h → I' 62 i = nI (wyS T N h to c (i + 1)) := by
  intro m
  induction m with
  | zero =>
    intro k fu I L hk hf hx hb hw
    obtain ⟨f, rfl⟩ : ∃ f, fu = f + 1 := ⟨fu - 1, by omega⟩
    have : k = h := by omega
    subst this
    rw [fX10_layWay_113, if_pos (nI_le (Nat.le_refl _) (by omega))]
    refine ⟨up2 I 61 2 (nI k), L, rfl, hx.fr hq (fun b h1 _ => upRow _ _ h1) (fun _ _ => rfl), ⟨fun b _ _ _ _ h5 _ => upRow _ _ h5, fun j hj => by rw [up2_at, if_neg (fun g => hj g.2)], fun _ _ _ _ => rfl⟩, by simp [up2_at], fun i hi => ?_⟩
    rw [upRow _ _ (by decide)]; exact hw i hi
  | succ m ih =>
    intro k fu I L hk hf hx hb hw
    obtain ⟨f, rfl⟩ : ∃ f, fu = f + 1 := ⟨fu - 1, by omega⟩
    obtain ⟨w1, w2, w3⟩ := wy_ok hO ht hc k (by omega)
    obtain ⟨I1, L1, e1, x1, f1⟩ := hx.st hO hq hN (n := k) (x := oneI (wyS T N h to c k)) (by omega) (one_GS hO w2)
    have r63 : L1 63 = L 63 := f1.2 63 (by decide) (by decide)
    rw [fX10_layWay_113, if_neg (nI_ge (by omega) (by omega)), show (1 : Int64) <<< ((nI (wyS T N h to c k)).toInt64 &&& 63) = oneI (wyS T N h to c k) from rfl, e1]
    simp only [Option.bind_some, nI_1, if_pos (inb_nI (show k + 1 < 49 by omega) (show 49 < 2 ^ 31 by decide)), if_pos (inb_nI (show k < 48 by omega) (show 48 < 2 ^ 31 by decide)), clamp_nI (show k + 1 < 2 ^ 31 by omega), clamp_nI (show k < 2 ^ 31 by omega), r63, hb (k + 1) (by omega) (by omega), x_ntz (w3 (by omega))]
    rw [show lowB (stN T N k (oneI (wyS T N h to c k)) &&& bkW T N h to (h - (k + 1))) = wyS T N h to c (k + 1) from rfl]
    have fu1 : FW q I1 (up2 I1 62 k (nI (wyS T N h to c (k + 1)))) L1 L1 := ⟨fun b _ _ _ _ _ h6 => upRow _ _ h6, fun j _ => by rw [upRow _ _ (by decide)], fun _ _ _ _ => rfl⟩
    obtain ⟨I2, L2, e2, x2, f2, g2, v2⟩ := ih (k + 1) f (up2 I1 62 k (nI (wyS T N h to c (k + 1)))) L1 (by omega) (by omega) (x1.fr hq (fun b _ h2 => upRow _ _ h2) (fun _ _ => rfl)) (fun j j1 j2 => by rw [r63]; exact hb j j1 j2) (by
      intro i hi
      rw [up2_at]
      by_cases hik : i = k
      · rw [if_pos ⟨rfl, hik⟩, hik]
      · rw [if_neg (fun g => hik g.2), f1.1 62 (by rcases hq with h | h <;> omega) (by decide) (by decide) (by decide)]
        exact hw i (by omega))
    exact ⟨I2, L2, e2, x2, ((f1.fw hq).trans fu1).trans f2, g2, v2⟩
end SO
