section SO2
variable {T : Nat → Nat → Nat} {q : Nat} {N : Nat → Nat} {I : HI} {L : HL}
theorem m_mrow (hO : TOk T) {k c : Nat} (hk : k < 48) (hc : grd T c) (hH : MHrs T (N 8) (N 5) (N 6) 0 (decide (N 7 = 1)) 48 L) : L 101 (64 * k + c) = stN T N k (oneI c) := by
  apply hb_ext
  intro e he
  have h1 := hH k hk c hc.1 e he
  have h2 := stN_iff (N := N) (n := k) (e := e) hO (one_GS hO hc)
  have h3 : (∃ x, hb (oneI c) x = true ∧ mvN T (N 8) (N 5) (N 6) 0 (decide (N 7 = 1)) k x e) ↔ mvN T (N 8) (N 5) (N 6) 0 (decide (N 7 = 1)) k c e := by
    constructor
    · rintro ⟨x, g1, g2⟩
      rw [one_iff (grd_64 hO hc)] at g1
      subst g1; exact g2
    · intro g; exact ⟨c, (one_iff (grd_64 hO hc)).mpr rfl, g⟩
  rw [h3] at h2
  have h4 : hb (L 101 (64 * k + c)) e = true ↔ hb (stN T N k (oneI c)) e = true := by
    rw [h1, h2]
    exact ⟨fun g => g.2, fun g => ⟨hc, g⟩⟩
  cases x : hb (L 101 (64 * k + c)) e <;> cases y : hb (stN T N k (oneI c)) e <;> simp_all
theorem MHrs.fr {w S O B n : Nat} {K : Bool} {M : HL} (h : MHrs T w S O B K n L) (e : M 101 = L 101) : MHrs T w S O B K n M := by
  unfold MHrs MMov at *; rw [e]; exact h
theorem m_b119 (hO : TOk T) {k : Nat} {v w : Int32} {B1 : Int64} (hk : k < 48) : ∀ (m c fu : Nat) (L : HL), c + m = tC T → m < fu → MTown T I L → L 104 (k + 1) = B1 → ∃ L', fX12_soonest_119 fu v w (nI k) (nI c) I L = some L' ∧ (∀ b, b ≠ 104 → L' b = L b) ∧ (∀ j, j ≠ k → L' 104 j = L 104 j) ∧ ∀ e, e < 64 → (hb (L' 104 k) e = true ↔ (hb (L 104 k) e = true ∨ (c ≤ e ∧ e < tC T ∧ ¬ L 101 (64 * k + e) &&& B1 = 0))) := by
  have hC := tC_le hO.1
  intro m
  induction m with
  | zero =>
    intro c fu L hc hf hM hB
    obtain ⟨f, rfl⟩ : ∃ f, fu = f + 1 := ⟨fu - 1, by omega⟩
    rw [fX12_soonest_119, m_size hM.1, if_pos (nI_le (by omega) (by omega))]
    refine ⟨L, rfl, fun _ _ => rfl, fun _ _ => rfl, fun e _ => ⟨Or.inl, ?_⟩⟩
    rintro (h | ⟨h1, h2, _⟩)
    · exact h
    · omega
  | succ m ih =>
    intro c fu L hc hf hM hB
    obtain ⟨f, rfl⟩ : ∃ f, fu = f + 1 := ⟨fu - 1, by omega⟩
    have hc4 : c < tC T := by omega
    have ix : (64 : Int32) * nI k + nI c = nI (64 * k + c) := by
      rw [show (64 : Int32) = nI 64 from rfl, pk_mul, nI_add]
    rw [fX12_soonest_119, m_size hM.1, if_neg (nI_ge hc4 (by omega)), ix, nI_1, nI_1]
    simp only [if_pos (inb_nI (show 64 * k + c < 3136 by omega) (show 3136 < 2 ^ 31 by decide)), if_pos (inb_nI (show k + 1 < 49 by omega) (show 49 < 2 ^ 31 by decide)), if_pos (inb_nI (show k < 49 by omega) (show 49 < 2 ^ 31 by decide)), clamp_nI (show 64 * k + c < 2 ^ 31 by omega), clamp_nI (show k + 1 < 2 ^ 31 by omega), clamp_nI (show k < 2 ^ 31 by omega), hB]
    by_cases hz : L 101 (64 * k + c) &&& B1 = 0
    · rw [if_pos hz]
      obtain ⟨L', e1, f1, g1, b1⟩ := ih (c + 1) f L (by omega) (by omega) hM hB
      refine ⟨L', e1, f1, g1, fun e he => ?_⟩
      rw [b1 e he]
      constructor
      · rintro (h | ⟨h1, h2⟩)
        · exact Or.inl h
        · exact Or.inr ⟨by omega, h2⟩
      · rintro (h | ⟨h1, h2, h3⟩)
        · exact Or.inl h
        · by_cases hec : e = c
          · subst hec; exact absurd hz h3
          · exact Or.inr ⟨by omega, h2, h3⟩
    · rw [if_neg hz]
      have fL : ∀ b, b ≠ 104 → up2 L 104 k (L 104 k ||| (1 : Int64) <<< ((nI c).toInt64 &&& 63)) b = L b := fun b hb => upRow _ _ hb
      obtain ⟨L', e1, f1, g1, b1⟩ := ih (c + 1) f (up2 L 104 k (L 104 k ||| (1 : Int64) <<< ((nI c).toInt64 &&& 63))) (by omega) (by omega) (hM.fr (fun _ _ => rfl) (fun _ _ => rfl) (fL 73 (by decide))) (by rw [up2_at, if_neg (by omega)]; exact hB)
      refine ⟨L', e1, fun b hb => by rw [f1 b hb, fL b hb], fun j hj => by rw [g1 j hj, up2_at, if_neg (fun g => hj g.2)], fun e he => ?_⟩
      rw [b1 e he, up2_at, if_pos ⟨rfl, rfl⟩, hb_or, Bool.or_eq_true, hb_cell (by omega), fL 101 (by decide)]
      constructor
      · rintro ((h | h) | ⟨h1, h2⟩)
        · exact Or.inl h
        · subst h; exact Or.inr ⟨Nat.le_refl _, hc4, hz⟩
        · exact Or.inr ⟨by omega, h2⟩
      · rintro (h | ⟨h1, h2, h3⟩)
        · exact Or.inl (Or.inl h)
        · by_cases hec : e = c
          · exact Or.inl (Or.inr hec)
          · exact Or.inr ⟨by omega, h2, h3⟩
theorem m_b103 (hO : TOk T) {h to : Nat} {v w : Int32} (hh : h ≤ 48) (ht : grd T to) : ∀ (r fu : Nat) (L : HL), r ≤ h → r < fu → MTown T I L → MHrs T (N 8) (N 5) (N 6) 0 (decide (N 7 = 1)) 48 L → (∀ k, r ≤ k → k ≤ h → L 104 k = bkW T N h to (h - k)) → ∃ L', fX12_soonest_103 fu v w (nI r - 1) I L = some L' ∧ (∀ b, b ≠ 104 → L' b = L b) ∧ ∀ k, k ≤ h → L' 104 k = bkW T N h to (h - k) := by
  obtain ⟨mf, hmf⟩ := fuel_at 1000 (by decide)
  have hC := tC_le hO.1
  intro r
  induction r with
  | zero =>
    intro fu L hr hf hM hH hB0
    obtain ⟨f, rfl⟩ : ∃ f, fu = f + 1 := ⟨fu - 1, by omega⟩
    rw [fX12_soonest_103, if_pos (by decide)]
    exact ⟨L, rfl, fun _ _ => rfl, fun k hk => hB0 k (Nat.zero_le _) hk⟩
  | succ r ih =>
    intro fu L hr hf hM hH hB0
    obtain ⟨f, rfl⟩ : ∃ f, fu = f + 1 := ⟨fu - 1, by omega⟩
    have fL : ∀ b, b ≠ 104 → up2 L 104 r 0 b = L b := fun b hb => upRow _ _ hb
    have hM1 : MTown T I (up2 L 104 r 0) := hM.fr (fun _ _ => rfl) (fun _ _ => rfl) (fL 73 (by decide))
    obtain ⟨L', e1, f1, g1, b1⟩ := m_b119 (B1 := bkW T N h to (h - (r + 1))) (v := v) (w := w) hO (k := r) (by omega) (tC T) 0 FUEL (up2 L 104 r 0) (by omega) (by omega) hM1 (by rw [up2_at, if_neg (by omega)]; exact hB0 (r + 1) (Nat.le_refl _) hr)
    rw [nI_pred, fX12_soonest_103, if_neg (nI_pos (by omega))]
    simp only [if_pos (inb_nI (show r < 49 by omega) (show 49 < 2 ^ 31 by decide)), clamp_nI (show r < 2 ^ 31 by omega)]
    rw [show (0 : Int32) = nI 0 from rfl, e1]
    simp only [Option.bind_some]
    rw [show nI r + (-1 : Int32) = nI r - 1 from (Int32.sub_eq_add_neg _ _).symm]
    have hL' : ∀ b, b ≠ 104 → L' b = L b := fun b hb => by rw [f1 b hb, fL b hb]
    have hr' : L' 104 r = bkW T N h to (h - r) := by
      apply hb_same (P := fun e => hb (bkW T N h to (h - r)) e = true)
      · intro e he
        rw [b1 e he, up2_at, if_pos ⟨rfl, rfl⟩, hb_0, show h - r = (h - (r + 1)) + 1 by omega, bkW, show h - (h - (r + 1)) - 1 = r by omega, stN_iff hO (bk_GS hO ht _), fL 101 (by decide)]
        constructor
        · rintro (g | ⟨_, g2, g3⟩)
          · cases g
          · by_cases hgr : grd T e
            · rw [m_mrow hO (by omega) hgr hH] at g3
              apply Classical.byContradiction
              intro hno
              apply g3
              rw [and_ne0]
              rintro ⟨x, x1, x2, x3⟩
              obtain ⟨y, y1, y2⟩ := (stN_iff hO (one_GS hO hgr)).mp x2
              rw [one_iff (grd_64 hO hgr)] at y1
              subst y1
              exact hno ⟨x, x3, mv_symm hO hgr y2⟩
            · refine absurd ?_ g3
              rw [and_ne0]
              rintro ⟨x, x1, x2, _⟩
              exact hgr ((hH r (by omega) e g2 x x1).mp x2).1
        · rintro ⟨x, x1, x2⟩
          have gx := bk_GS hO ht _ x x1
          have ge := mv_grd hO gx x2
          refine Or.inr ⟨Nat.zero_le _, ge.1, fun hz => ?_⟩
          rw [m_mrow hO (by omega) ge hH] at hz
          refine and_ne0.mp hz ⟨x, grd_64 hO gx, ?_, x1⟩
          exact (stN_iff hO (one_GS hO ge)).mpr ⟨e, (one_iff (grd_64 hO ge)).mpr rfl, mv_symm hO gx x2⟩
      · intro e _; exact Iff.rfl
    obtain ⟨L2, e2, f2, b2⟩ := ih f L' (by omega) (by omega) (hM.fr (fun _ _ => rfl) (fun _ _ => rfl) (hL' 73 (by decide))) (hH.fr (hL' 101 (by decide))) (by
      intro k k1 k2
      by_cases hk : k = r
      · subst hk; exact hr'
      · rw [g1 k hk, up2_at, if_neg (fun g => hk g.2)]; exact hB0 k (by omega) k2)
    exact ⟨L2, e2, fun b hb => by rw [f2 b hb, hL' b hb], b2⟩
theorem m_wyL (hO : TOk T) {h to c : Nat} (hh : h ≤ 48) (ht : grd T to) (hc : hb (bkW T N h to h) c = true) (hH : MHrs T (N 8) (N 5) (N 6) 0 (decide (N 7 = 1)) 48 L) (hb : ∀ k, k ≤ h → L 104 k = bkW T N h to (h - k)) : ∀ (m k fu : Nat) (I : HI), k + m = h → m < fu → (∀ i, i < k → I 103 i = nI (wyS T N h to c (i + 1))) → ∃ I', fX12_soonest_193 fu (nI h) (nI (wyS T N h to c k)) (nI k) I L = some (nI h, I') ∧ (∀ b, b ≠ 103 → b ≠ 73 → I' b = I b) ∧ (∀ j, j ≠ 76 → I' 73 j = I 73 j) ∧ I' 73 76 = nI h ∧ ∀ i, i < h → I' 103 i = nI (wyS T N h to c (i + 1)) := by
  intro m
  induction m with
  | zero =>
    intro k fu I hk hf hw
    obtain ⟨f, rfl⟩ : ∃ f, fu = f + 1 := ⟨fu - 1, by omega⟩
    have : k = h := by omega
    subst this
    rw [fX12_soonest_193, if_pos (nI_le (Nat.le_refl _) (by omega))]
    refine ⟨up2 I 73 76 (nI k), rfl, fun b _ h2 => upRow _ _ h2, fun j hj => by rw [up2_at, if_neg (fun g => hj g.2)], by simp [up2_at], fun i hi => ?_⟩
    rw [upRow _ _ (by decide)]; exact hw i hi
  | succ m ih =>
    intro k fu I hk hf hw
    obtain ⟨f, rfl⟩ : ∃ f, fu = f + 1 := ⟨fu - 1, by omega⟩
    obtain ⟨w1, w2, w3⟩ := wy_ok hO ht hc k (by omega)
    have w64 := grd_64 hO w2
    have ix : (64 : Int32) * nI k + nI (wyS T N h to c k) = nI (64 * k + wyS T N h to c k) := by
      rw [show (64 : Int32) = nI 64 from rfl, pk_mul, nI_add]
    rw [fX12_soonest_193, if_neg (nI_ge (by omega) (by omega)), ix, nI_1]
    simp only [if_pos (inb_nI (show 64 * k + wyS T N h to c k < 3136 by omega) (show 3136 < 2 ^ 31 by decide)), if_pos (inb_nI (show k + 1 < 49 by omega) (show 49 < 2 ^ 31 by decide)), if_pos (inb_nI (show k < 48 by omega) (show 48 < 2 ^ 31 by decide)), clamp_nI (show 64 * k + wyS T N h to c k < 2 ^ 31 by omega), clamp_nI (show k + 1 < 2 ^ 31 by omega), clamp_nI (show k < 2 ^ 31 by omega), hb (k + 1) (by omega), m_mrow hO (show k < 48 by omega) w2 hH, m_least (w3 (by omega)), Option.bind_some]
    rw [show lowB (stN T N k (oneI (wyS T N h to c k)) &&& bkW T N h to (h - (k + 1))) = wyS T N h to c (k + 1) from rfl]
    obtain ⟨I2, e2, f2, g2, t2, v2⟩ := ih (k + 1) f (up2 I 103 k (nI (wyS T N h to c (k + 1)))) (by omega) (by omega) (by
      intro i hi
      rw [up2_at]
      by_cases hik : i = k
      · rw [if_pos ⟨rfl, hik⟩, hik]
      · rw [if_neg (fun g => hik g.2)]; exact hw i (by omega))
    exact ⟨I2, e2, fun b h1 h2 => by rw [f2 b h1 h2, upRow _ _ h1], fun j hj => by rw [g2 j hj, upRow _ _ (by decide)], t2, v2⟩
/-- there, forward, is here, backward -/
theorem bk_it (hO : TOk T) {h to : Nat} (ht : grd T to) : ∀ j, j ≤ h → ∀ c, grd T c → (hb (bkW T N h to j) c = true ↔ rel T (N 8) (N 5) (N 6) 0 (decide (N 7 = 1)) j (h - j) c to) := by
  intro j
  induction j with
  | zero =>
    intro _ c hc
    rw [bkW, one_iff (grd_64 hO ht)]
    rfl
  | succ j ih =>
    intro hj c hc
    rw [bkW, stN_iff hO (bk_GS hO ht j), show h - j - 1 = h - (j + 1) by omega]
    constructor
    · rintro ⟨x, h1, h2⟩
      have gx := bk_GS hO ht j x h1
      refine ⟨x, mv_symm hO gx h2, ?_⟩
      rw [show h - (j + 1) + 1 = h - j by omega]
      exact (ih (by omega) x gx).mp h1
    · rintro ⟨x, h1, h2⟩
      have gx := mv_grd hO hc h1
      rw [show h - (j + 1) + 1 = h - j by omega] at h2
      exact ⟨x, (ih (by omega) x gx).mpr h2, mv_symm hO hc h1⟩
end SO2
section SO3
variable {T : Nat → Nat → Nat} {q : Nat} {st : Nat → Nat → Nat} {a u : Nat} {I : HI} {L : HL}
/-- after soonest -/
theorem Inv.soon {J : HI} {M : HL} {h' : Nat} (h : Inv T q st a u I L) (hI : ∀ b, b ≠ q + 21 → b ≠ 57 → b ≠ 59 → b ≠ 60 → b ≠ 61 → b ≠ 62 → b ≠ 73 → b ≠ 81 → b ≠ 82 → b ≠ 103 → J b = I b) (h73 : ∀ j, j ≠ 76 → ¬ (64 ≤ j ∧ j ≤ 69) → J 73 j = I 73 j) (hL : ∀ b, b ≠ 57 → b ≠ 58 → b ≠ 63 → b ≠ 100 → b ≠ 101 → b ≠ 104 → M b = L b) (hS : SkyOk T J M) (hh : h' ≤ 48) (w1 : J 61 2 = nI h') (w2 : J 73 76 = nI h') (w3 : ∀ i, i < h' → J 62 i = J 103 i) : Inv T q st a u J M := by
  have r : ∀ b, b ≠ 57 → b ≠ 59 → b ≠ 60 → b ≠ 61 → b ≠ 62 → b ≠ 73 → b ≠ 81 → b ≠ 82 → b ≠ 103 → (b < 23 ∨ 47 ≤ b) → J b = I b := fun b b1 b2 b3 b4 b5 b6 b7 b8 b9 b10 => hI b (by rcases h.2.1 with h | h <;> omega) b1 b2 b3 b4 b5 b6 b7 b8 b9
  refine h.gen (fun b hb => hI b (by unfold base at hb; rcases h.2.1 with h | h <;> omega) (by unfold base at hb; rcases h.2.1 with h | h <;> omega) (by unfold base at hb; rcases h.2.1 with h | h <;> omega) (by unfold base at hb; rcases h.2.1 with h | h <;> omega) (by unfold base at hb; rcases h.2.1 with h | h <;> omega) (by unfold base at hb; rcases h.2.1 with h | h <;> omega) (by unfold base at hb; rcases h.2.1 with h | h <;> omega) (by unfold base at hb; rcases h.2.1 with h | h <;> omega) (by unfold base at hb; rcases h.2.1 with h | h <;> omega) (by unfold base at hb; rcases h.2.1 with h | h <;> omega)) ?_ (fun j hj => h73 j (by unfold base73 at hj; omega) (by unfold base73 at hj; omega)) (fun b hb => hL b (by rcases h.2.1 with h | h <;> omega) (by rcases h.2.1 with h | h <;> omega) (by rcases h.2.1 with h | h <;> omega) (by rcases h.2.1 with h | h <;> omega) (by rcases h.2.1 with h | h <;> omega) (by rcases h.2.1 with h | h <;> omega)) hS (h.box.fr ?_ (r 114 (by decide) (by decide) (by decide) (by decide) (by decide) (by decide) (by decide) (by decide) (by decide) (by decide)) (r 115 (by decide) (by decide) (by decide) (by decide) (by decide) (by decide) (by decide) (by decide) (by decide) (by decide)) (hL 56 (by decide) (by decide) (by decide) (by decide) (by decide) (by decide))) ⟨h', hh, w1, w2, w3⟩ (h.look.fr (fun j _ => by rw [r 66 (by decide) (by decide) (by decide) (by decide) (by decide) (by decide) (by decide) (by decide) (by decide) (by decide)]) (fun b _ _ => r b (by omega) (by omega) (by omega) (by omega) (by omega) (by omega) (by omega) (by omega) (by omega) (by omega)) (fun b _ _ => r b (by omega) (by omega) (by omega) (by omega) (by omega) (by omega) (by omega) (by omega) (by omega) (by omega)) (h73 86 (by decide) (by decide)) (h73 87 (by decide) (by decide)))
  · rw [r 0 (by decide) (by decide) (by decide) (by decide) (by decide) (by decide) (by decide) (by decide) (by decide) (by decide)]
  · rw [r 0 (by decide) (by decide) (by decide) (by decide) (by decide) (by decide) (by decide) (by decide) (by decide) (by decide)]
theorem c_soonest (h : Inv T q st a u I L) (v w : Int32) : ∃ r I1 L1 I2 L2, fX11_soonest q q v w I L = some (r, I1, L1) ∧ fX12_soonest v w I1 L1 = some (r, I2, L2) ∧ Inv T q st a u I2 L2 := by
  obtain ⟨mf, hmf⟩ := fuel_at 1000 (by decide)
  have hO := h.1
  have hq := h.2.1
  have hR := h.rng
  unfold fX11_soonest fX12_soonest
  rw [obn_eq]
  have hf0 : fX10_forget I = up2 I 61 2 0 := rfl
  rw [hf0]
  -- refused
  have hX0 : XTown T q (up2 I 61 2 0) L := h.2.2.1.fr (fun b _ _ => upRow _ _ (by rcases hq with h | h <;> omega)) ⟨rfl, rfl⟩
  have hM0 : ∀ J : HI, (∀ b, b ≠ 73 → b ≠ 61 → J b = I b) → (∀ j, j ≠ 76 → J 73 j = I 73 j) → MTown T J L := fun J h1 h2 => h.2.2.2.1.fr (fun b hb => h1 b (by omega) (by omega)) (fun j hj => h2 j (by omega)) rfl
  have hMr : MTown T (up2 (up2 I 61 2 0) 73 76 0) L := hM0 _ (fun b h1 h2 => by rw [upRow _ _ h1, upRow _ _ h2]) (fun j hj => by rw [up2_at, if_neg (fun g => hj g.2), upRow _ _ (by decide)])
  have refuse : Inv T q st a u (up2 (up2 I 61 2 0) 73 76 0) L := h.soon (h' := 0) (fun b _ _ _ _ h5 _ h7 _ _ _ => by rw [upRow _ _ h7, upRow _ _ h5]) (fun j hj _ => by rw [up2_at, if_neg (fun g => hj g.2), upRow _ _ (by decide)]) (fun _ _ _ _ _ _ _ => rfl) (h.sky.fr (by rw [upRow _ _ (by decide), upRow _ _ (by decide)]) (by rw [upRow _ _ (by decide), upRow _ _ (by decide)]) rfl rfl) (by decide) (by simp [up2_at]; rfl) (by simp [up2_at]; rfl) (fun i hi => absurd hi (Nat.not_lt_zero i))
  rcases g_free hO.1 hX0.1 hX0.2.1.2 hMr.1 v with ⟨c, c1, c2, c3, c4⟩ | ⟨c1, c2⟩
  · rcases g_free hO.1 hX0.1 hX0.2.1.2 hMr.1 w with ⟨d, d1, d2, d3, d4⟩ | ⟨d1, d2⟩
    · subst c2
      subst d2
      have d64 := grd_64 hO d1
      have c64 := grd_64 hO c1
      -- the class looks up
      have xn0 : XNow (up2 I 61 2 0) (st a) := h.xnow.of (upRow _ _ (by decide)) (upRow _ _ (by decide))
      have sk0 : SkyOk T (up2 I 61 2 0) L := h.sky.fr (upRow _ _ (by decide)) (upRow _ _ (by decide)) rfl rfl
      obtain ⟨I1, L1, e1, s1, fa, fb⟩ := x_aim sk0 hR xn0
      have fx1 : FX q (up2 I 61 2 0) I1 L L1 := ⟨fun b _ h2 _ _ => fa b h2, fun b h2 _ => fb b h2⟩
      have xs1 : XS T q (st a) I1 L1 := ⟨hX0.fx hq fx1, s1⟩
      obtain ⟨I2, L2, e2, xs2, fx2⟩ := x_fwL (v := nI c) hO hq hR d64 48 0 FUEL (oneI c) I1 L1 (by omega) (by omega) (one_GS hO c1) xs1
      obtain ⟨hh, hX⟩ := fw_ok (N := st a) hO d 48 0 (oneI c) (oneI c) (by omega) rfl
      generalize hfw : fwS T (st a) d 48 0 (oneI c) = fw at *
      obtain ⟨hn, X⟩ := fw
      simp only at hh hX e2
      have f0 : FW q I (up2 I 61 2 0) L L := ⟨fun b _ _ _ _ h5 _ => upRow _ _ h5, fun j hj => by rw [up2_at, if_neg (fun g => hj g.2)], fun _ _ _ _ => rfl⟩
      have fw2 : FW q I I2 L L2 := (f0.trans (fx1.fw hq)).trans (fx2.fw hq)
      have m61 : I2 61 2 = 0 := by
        rw [fx2.1 61 (by rcases hq with h | h <;> omega) (by decide) (by decide) (by decide), fx1.1 61 (by rcases hq with h | h <;> omega) (by decide) (by decide) (by decide)]
        simp [up2_at]
      have x1 : fX10_layWay_7 q FUEL (nI c) (nI d) ((1 : Int64) <<< ((nI c).toInt64 &&& 63)) 0 I1 L1 = some (X, nI hn, I2, L2) := e2
      -- what the reference finds on a heap that the class left
      have mside : ∀ (J : HI) (M : HL), FW q I J L M → ∃ J1 J2 M2, fX12_load 0 (up2 J 73 76 0) = some J1 ∧ J1 99 8 = nI (st a 8) ∧ fX12_layHours (nI (st a 8)) (nI 48) J1 M = some (J2, M2) ∧ MHrs T (st a 8) (st a 5) (st a 6) 0 (decide (st a 7 = 1)) 48 M2 ∧ FM (up2 J 73 76 0) J2 M M2 ∧ MTown T J2 M2 ∧ fX12_isFree (nI c) (up2 J 73 76 0) M = true ∧ fX12_isFree (nI d) (up2 J 73 76 0) M = true ∧ fX12_soonest_48 FUEL (nI c) (nI d) ((1 : Int64) <<< ((nI c).toInt64 &&& 63)) 0 J2 M2 = some (X, nI hn) := by
        intro J M fw
        have rows : ∀ b, (78 ≤ b ∧ b ≤ 102) → up2 J 73 76 0 b = I b := fun b hb => by rw [upRow _ _ (by omega), fw.1 b (by rcases hq with h | h <;> omega) (by omega) (by omega) (by omega) (by omega) (by omega)]
        have hM1 : MTown T (up2 J 73 76 0) M := h.2.2.2.1.fr (fun b hb => rows b (by omega)) (fun j hj => by rw [up2_at, if_neg (by omega), fw.1 73 (by rcases hq with h | h <;> omega) (by decide) (by decide) (by decide) (by decide) (by decide)]) (fw.2.2 73 (by decide) (by decide) (by decide))
        have hmn : MNow (up2 J 73 76 0) (st a) := by
          unfold MNow
          rw [rows 99 (by decide)]
          exact h.mnow
        obtain ⟨J1, J2, M2, g1, g2, g3, g4, g5⟩ := m_hours_raw hO hR hM1 hmn (n := 48) (Nat.le_refl _)
        have hM2 := hM1.fm g5
        have e5 := m_fwL (v := nI c) hO d64 hM2 g4 48 0 FUEL (oneI c) (by omega) (by omega)
        rw [hfw] at e5
        have fr : ∀ x, grd T x → fX12_isFree (nI x) (up2 J 73 76 0) M = true := by
          intro x hx
          rcases g_free hO.1 h.2.2.1.1 h.2.2.1.2.1.2 hM1.1 (nI x) with ⟨_, _, _, _, g⟩ | ⟨g, _⟩
          · exact g
          · rcases g_free hO.1 h.2.2.1.1 h.2.2.1.2.1.2 h.2.2.2.1.1 (nI x) with ⟨_, _, _, g', _⟩ | ⟨_, g'⟩
            · rw [g'] at g; cases g
            · exfalso
              unfold fX12_isFree tbn at g'
              rw [m_size h.2.2.2.1.1, has_hb _ (grd_64 hO hx), h.2.2.2.1.1.2.2 x (grd_64 hO hx), hx.2] at g'
              rcases isIn_0 (n := tC T) (by have := tC_le hO.1; omega) (nI x) with ⟨_, _, _, k4⟩ | ⟨k1, _⟩
              · rw [k4] at g'; exact absurd g' (by decide)
              · rcases k1 with k1 | k1
                · exact nI_pos (by have := grd_64 hO hx; omega) k1
                · exact nI_ge hx.1 (by have := tC_le hO.1; omega) k1
        exact ⟨J1, J2, M2, g1, g2, g3, g4, g5, hM2, fr c c1, fr d d1, e5⟩
      cases hbX : hb X d with
      | false =>
        obtain ⟨J1, J2, M2, g1, g2, g3, g4, g5, g6, g7, g8, g9⟩ := mside I2 L2 fw2
        refine ⟨-1, I2, L2, J2, M2, ?_, ?_, ?_⟩
        · rw [c3, d3]
          simp only [b2i_eq0, Bool.true_eq_false, if_false, Option.bind_some, Bool.false_eq_true, e1]
          unfold fX10_layWay
          simp only [x1, Option.bind_some, ushr1_0 _ d64, hbX, if_true]
        · simp only [g7, g8, b2i_eq0, Bool.true_eq_false, if_false, Option.bind_some, Bool.false_eq_true, g1, show (8 : Int32) = nI 8 from rfl, if_pos (inb_nI (show 8 < 10 by decide) (show 10 < 2 ^ 31 by decide)), clamp_nI (show 8 < 2 ^ 31 by decide), g2, show (48 : Int32) = nI 48 from rfl, g3, g9, has_hb _ d64, hbX, if_true]
        · refine h.soon (h' := 0) (fun b a1 a2 a3 a4 a5 a6 a7 a8 a9 _ => ?_) (fun j j1 j2 => ?_) (fun b a1 a2 a3 a4 a5 _ => ?_) ((SkyNow.ok xs2.2 hR).fr ?_ ?_ ?_ ?_) (by decide) ?_ ?_ (fun i hi => absurd hi (Nat.not_lt_zero i))
          · rw [g5.1 b a7 a8 a9, upRow _ _ a7, fw2.1 b a1 a2 a3 a4 a5 a6]
          · rw [g5.2.1 j j2, up2_at, if_neg (fun g => j1 g.2), fw2.1 73 (by rcases hq with h | h <;> omega) (by decide) (by decide) (by decide) (by decide) (by decide)]
          · rw [g5.2.2 b a4 a5, fw2.2.2 b a1 a2 a3]
          · rw [g5.1 57 (by decide) (by decide) (by decide), upRow _ _ (by decide)]
          · rw [g5.1 59 (by decide) (by decide) (by decide), upRow _ _ (by decide)]
          · rw [g5.2.2 57 (by decide) (by decide)]
          · rw [g5.2.2 58 (by decide) (by decide)]
          · rw [g5.1 61 (by decide) (by decide) (by decide), upRow _ _ (by decide), m61]; rfl
          · rw [g5.2.1 76 (by decide)]; simp [up2_at]; rfl
      | true =>
        have hrel : hb (bkW T (st a) hn d hn) c = true := by
          rw [bk_it hO d1 hn (Nat.le_refl _) c c1, Nat.sub_self]
          rw [hX] at hbX
          obtain ⟨x, x1, x2⟩ := (it_iff hO hn 0 (oneI c) d (one_GS hO c1)).mp hbX
          rw [one_iff c64] at x1
          subst x1; exact x2
        -- backward
        have hbk : ∃ I3 L3, fX10_layWay_70 q FUEL (nI c) (nI hn) (nI hn - 1) I2 (up2 L2 63 hn ((1 : Int64) <<< ((nI d).toInt64 &&& 63))) = some (I3, L3) ∧ XS T q (st a) I3 L3 ∧ FW q I2 I3 L2 L3 ∧ ∀ k, 0 < k → k ≤ hn → L3 63 k = bkW T (st a) hn d (hn - k) := by
          have fu : FW q I2 I2 L2 (up2 L2 63 hn ((1 : Int64) <<< ((nI d).toInt64 &&& 63))) := ⟨fun _ _ _ _ _ _ _ => rfl, fun _ _ => rfl, fun b _ _ h3 => upRow _ _ h3⟩
          have xsu := xs2.fr (J := I2) (M := up2 L2 63 hn ((1 : Int64) <<< ((nI d).toInt64 &&& 63))) hq (fun _ _ _ => rfl) (fun b hb => upRow _ _ hb)
          have top : up2 L2 63 hn ((1 : Int64) <<< ((nI d).toInt64 &&& 63)) 63 hn = bkW T (st a) hn d (hn - hn) := by
            rw [up2_at, if_pos ⟨rfl, rfl⟩, Nat.sub_self]; rfl
          cases hn with
          | zero =>
            refine ⟨I2, _, ?_, xsu, fu, fun k k1 k2 => by omega⟩
            rw [hmf, show mf + 1000 = (mf + 999) + 1 from rfl, fX10_layWay_70, if_pos (by decide)]
          | succ hn =>
            obtain ⟨I3, L3, e3, x3, f3, b3⟩ := x_bkL (v := nI c) (w := nI (hn + 1)) hO hq hR hh d1 hn FUEL I2 _ (by omega) (by omega) xsu (fun k k1 k2 => by
              have : k = hn + 1 := by omega
              subst this; exact top)
            rw [nI_pred]
            exact ⟨I3, L3, e3, x3, fu.trans f3, b3⟩
        obtain ⟨I3, L3, e3, xs3, fw3, b3⟩ := hbk
        obtain ⟨I4, L4, e4, xs4, fw4, t4, v4⟩ := x_wyL (c := c) hO hq hR hh d1 hrel hn 0 FUEL I3 L3 (by omega) (by omega) xs3 b3 (fun i hi => absurd hi (Nat.not_lt_zero i))
        have fw5 : FW q I I4 L L4 := (fw2.trans fw3).trans fw4
        obtain ⟨J1, J2, M2, g1, g2, g3, g4, g5, g6, g7, g8, g9⟩ := mside I4 L4 fw5
        have fLu : ∀ b, b ≠ 104 → up2 M2 104 hn ((1 : Int64) <<< ((nI d).toInt64 &&& 63)) b = M2 b := fun b hb => upRow _ _ hb
        obtain ⟨M3, k3, l3, o3⟩ := m_b103 (N := st a) (v := nI c) (w := nI hn) hO hh d1 hn FUEL (up2 M2 104 hn ((1 : Int64) <<< ((nI d).toInt64 &&& 63))) (Nat.le_refl _) (by omega) (g6.fr (fun _ _ => rfl) (fun _ _ => rfl) (fLu 73 (by decide))) (g4.fr (fLu 101 (by decide))) (fun k k1 k2 => by
          have : k = hn := by omega
          subst this
          rw [up2_at, if_pos ⟨rfl, rfl⟩, Nat.sub_self]; rfl)
        have hM3 : ∀ b, b ≠ 104 → M3 b = M2 b := fun b hb => by rw [l3 b hb, fLu b hb]
        obtain ⟨J3, n3, p3, q3, r3, s3⟩ := m_wyL (N := st a) (c := c) hO hh d1 hrel (g4.fr (hM3 101 (by decide))) o3 hn 0 FUEL J2 (by omega) (by omega) (fun i hi => absurd hi (Nat.not_lt_zero i))
        refine ⟨nI hn, I4, L4, J3, M3, ?_, ?_, ?_⟩
        · rw [c3, d3]
          simp only [b2i_eq0, Bool.true_eq_false, if_false, Option.bind_some, Bool.false_eq_true, e1]
          unfold fX10_layWay
          simp only [x1, Option.bind_some, ushr1_0 _ d64, hbX, Bool.true_eq_false, if_false, if_pos (inb_nI (show hn < 49 by omega) (show 49 < 2 ^ 31 by decide)), clamp_nI (show hn < 2 ^ 31 by omega), e3]
          rw [show fX10_layWay_113 q FUEL (nI hn) (nI c) 0 I3 L3 = some (nI hn, I4, L4) from e4]
          rfl
        · simp only [g7, g8, b2i_eq0, Bool.true_eq_false, if_false, Option.bind_some, Bool.false_eq_true, g1, show (8 : Int32) = nI 8 from rfl, if_pos (inb_nI (show 8 < 10 by decide) (show 10 < 2 ^ 31 by decide)), clamp_nI (show 8 < 2 ^ 31 by decide), g2, show (48 : Int32) = nI 48 from rfl, g3, g9, has_hb _ d64, hbX, if_pos (inb_nI (show hn < 49 by omega) (show 49 < 2 ^ 31 by decide)), clamp_nI (show hn < 2 ^ 31 by omega), k3]
          rw [show fX12_soonest_193 FUEL (nI hn) (nI c) 0 J2 M3 = some (nI hn, J3) from n3]
          rfl
        · refine h.soon (h' := hn) (fun b a1 a2 a3 a4 a5 a6 a7 a8 a9 a10 => ?_) (fun j j1 j2 => ?_) (fun b a1 a2 a3 a4 a5 a6 => ?_) ((SkyNow.ok xs4.2 hR).fr ?_ ?_ ?_ ?_) hh ?_ r3 (fun i hi => ?_)
          · rw [p3 b a10 a7, g5.1 b a7 a8 a9, upRow _ _ a7, fw5.1 b a1 a2 a3 a4 a5 a6]
          · rw [q3 j j1, g5.2.1 j j2, up2_at, if_neg (fun g => j1 g.2), fw5.1 73 (by rcases hq with h | h <;> omega) (by decide) (by decide) (by decide) (by decide) (by decide)]
          · rw [hM3 b a6, g5.2.2 b a4 a5, fw5.2.2 b a1 a2 a3]
          · rw [p3 57 (by decide) (by decide), g5.1 57 (by decide) (by decide) (by decide), upRow _ _ (by decide)]
          · rw [p3 59 (by decide) (by decide), g5.1 59 (by decide) (by decide) (by decide), upRow _ _ (by decide)]
          · rw [hM3 57 (by decide), g5.2.2 57 (by decide) (by decide)]
          · rw [hM3 58 (by decide), g5.2.2 58 (by decide) (by decide)]
          · rw [p3 61 (by decide) (by decide), g5.1 61 (by decide) (by decide) (by decide), upRow _ _ (by decide), t4]
          · rw [s3 i hi, p3 62 (by decide) (by decide), g5.1 62 (by decide) (by decide) (by decide), upRow _ _ (by decide), v4 i hi]
    · refine ⟨-1, up2 I 61 2 0, L, up2 (up2 I 61 2 0) 73 76 0, L, ?_, ?_, refuse⟩
      · rw [c3, d1]; rfl
      · simp only [c4, d2]; rfl
  · refine ⟨-1, up2 I 61 2 0, L, up2 (up2 I 61 2 0) 73 76 0, L, ?_, ?_, refuse⟩
    · rw [c1]; rfl
    · simp only [c2]; rfl
end SO3
