/-! the fewest lamps to be lit; the dates -/
section FR
variable {T : Nat → Nat → Nat} {q : Nat} {N : Nat → Nat} {I : HI} {L : HL} {s S O B : Nat} {K : Bool}
theorem XA.found0 {J : HI} {s' B' : Nat} (hq : isQ2 q) (h : XA T q s S O B K I L) (hr : ∀ r, r ≠ 57 → J r = I r) (e1 : J 57 1 = nI s') (e2 : J 57 2 = I 57 2) (e3 : J 57 3 = I 57 3) (e4 : J 57 4 = nI B') (e5 : J 57 5 = I 57 5) : XA T q s' S O B' K J (up2 L 57 6 0) := by
  refine ⟨h.1.fr (fun b _ _ => hr b (by rcases hq with h | h <;> omega)) ⟨upRow _ _ (by rcases hq with h | h <;> omega), upRow _ _ (by rcases hq with h | h <;> omega)⟩, e1, by rw [e2]; exact h.2.2.1, by rw [e3]; exact h.2.2.2.1, e4, by rw [e5]; exact h.2.2.2.2.2.1, fun n _ hb' => ?_⟩
  rw [up2_at, if_pos ⟨rfl, rfl⟩, hb_0] at hb'
  cases hb'
theorem FX.f57 {J : HI} {M : HL} (h1 : ∀ r, r ≠ 57 → J r = I r) (h2 : ∀ r, r ≠ 57 → M r = L r) : FX q I J L M := ⟨fun b _ h _ _ => h1 b h, fun b h _ => h2 b h⟩
theorem x_frI (hO : TOk T) (hq : isQ2 q) (hs : s < 10000) {n c d k : Nat} (hn : n ≤ 48) (hc : grd T c) (hd : d < 64) (hk : k ≤ 8) : ∀ (m b fu : Nat) (I : HI) (L : HL), b + m = 2 ^ tnL T → m < fu → (∃ B, B < 256 ∧ XA T q s S O B K I L) → ∃ I' L', fX10_fewestLit_28 q fu (nI c) (nI d) (nI n) (nI (tnL T)) (nI k) (nI b) I L = some (match srch (fun b => cbI T s S O b K n c d) k m b with | none => .inl (I', L') | some x => .inr (nI x, I', L')) ∧ (∃ B, B < 256 ∧ XA T q s S O B K I' L') ∧ FX q I I' L L' := by
  have h4 := hO.2.2.1
  have h16 : 2 ^ tnL T ≤ 16 := Nat.pow_le_pow_right (n := 2) (by decide) h4
  intro m
  induction m with
  | zero =>
    intro b fu I L hb hf h
    obtain ⟨f, rfl⟩ : ∃ f, fu = f + 1 := ⟨fu - 1, by omega⟩
    rw [fX10_fewestLit_28, shl1N (by omega), if_pos (nI_le (by omega) (by omega))]
    exact ⟨I, L, rfl, h, FX.refl q I L⟩
  | succ m ih =>
    intro b fu I L hb hf h
    obtain ⟨f, rfl⟩ : ∃ f, fu = f + 1 := ⟨fu - 1, by omega⟩
    have p8 := pc8_le b
    rw [fX10_fewestLit_28, shl1N (by omega), if_neg (nI_ge (by omega) (by omega)), x_bc8 (by omega), nI_1, srch]
    by_cases h1 : pc8 b = k
    · rw [if_pos (by rw [h1]), if_pos h1, obn_eq]
      obtain ⟨B, hB, hx⟩ := h
      have hbn : fX7_burn (nI b) I L = (up2 I 57 4 (nI b), up2 L 57 6 0) := rfl
      rw [hbn]
      have x0 : XA T q s S O b K (up2 I 57 4 (nI b)) (up2 L 57 6 0) := hx.found0 hq (fun r hr => upRow _ _ hr) (by simp [up2_at]; exact hx.2.1) (by simp [up2_at]) (by simp [up2_at]) (by simp [up2_at]) (by simp [up2_at])
      have f0 : FX q I (up2 I 57 4 (nI b)) L (up2 L 57 6 0) := FX.f57 (fun r hr => upRow _ _ hr) (fun r hr => upRow _ _ hr)
      obtain ⟨I1, L1, e1, x1, f1⟩ := x_canBe (S2 := 0) hO hq hs hn hc hd x0
      rw [Nat.or_zero] at e1
      rw [show fX10_canBe q (nI c) (nI d) (nI n) 0 (up2 I 57 4 (nI b)) (up2 L 57 6 0) = _ from e1]
      simp only [Option.bind_some, b2i_eq0]
      cases hcb : cbI T s S O b K n c d with
      | true =>
        simp only [Bool.true_eq_false, if_false, if_true]
        exact ⟨I1, L1, rfl, ⟨b, by omega, x1⟩, f0.trans f1⟩
      | false =>
        simp only [Bool.false_eq_true, if_false, if_true]
        obtain ⟨I2, L2, e2, x2, f2⟩ := ih (b + 1) f I1 L1 (by omega) (by omega) ⟨b, by omega, x1⟩
        exact ⟨I2, L2, e2, x2, (f0.trans f1).trans f2⟩
    · rw [if_neg (fun g => h1 ((nI_eq (by omega) (by omega)).mp g)), if_neg h1]
      exact ih (b + 1) f I L (by omega) (by omega) h
theorem x_frO (hO : TOk T) (hq : isQ2 q) (hs : s < 10000) {n c d : Nat} (hn : n ≤ 48) (hc : grd T c) (hd : d < 64) : ∀ (m k fu : Nat) (I : HI) (L : HL), k + m = tnL T + 1 → m < fu → (∃ B, B < 256 ∧ XA T q s S O B K I L) → ∃ I' L', fX10_fewestLit_18 q fu (nI c) (nI d) (nI n) (nI (tnL T)) (nI k) I L = some (ansB (srch2 (fun b => cbI T s S O b K n c d) (2 ^ tnL T) m k), I', L') ∧ (∃ B, B < 256 ∧ XA T q s S O B K I' L') ∧ FX q I I' L L' := by
  obtain ⟨mf, hmf⟩ := fuel_at 1000 (by decide)
  have h4 := hO.2.2.1
  have h16 : 2 ^ tnL T ≤ 16 := Nat.pow_le_pow_right (n := 2) (by decide) h4
  intro m
  induction m with
  | zero =>
    intro k fu I L hk hf h
    obtain ⟨f, rfl⟩ : ∃ f, fu = f + 1 := ⟨fu - 1, by omega⟩
    rw [fX10_fewestLit_18, if_pos (nI_lt (by omega) (by omega))]
    exact ⟨I, L, rfl, h, FX.refl q I L⟩
  | succ m ih =>
    intro k fu I L hk hf h
    obtain ⟨f, rfl⟩ : ∃ f, fu = f + 1 := ⟨fu - 1, by omega⟩
    obtain ⟨I1, L1, e1, x1, f1⟩ := x_frI (k := k) hO hq hs hn hc hd (by omega) (2 ^ tnL T) 0 FUEL I L (by omega) (by omega) h
    rw [fX10_fewestLit_18, if_neg (nI_nlt (by omega) (by omega)), show fX10_fewestLit_28 q FUEL (nI c) (nI d) (nI n) (nI (tnL T)) (nI k) 0 I L = _ from e1, srch2, nI_1]
    cases hsr : srch (fun b => cbI T s S O b K n c d) k (2 ^ tnL T) 0 with
    | none =>
      simp only [Option.bind_some]
      obtain ⟨I2, L2, e2, x2, f2⟩ := ih (k + 1) f I1 L1 (by omega) (by omega) x1
      exact ⟨I2, L2, e2, x2, f1.trans f2⟩
    | some x =>
      simp only [Option.bind_some]
      exact ⟨I1, L1, rfl, x1, f1⟩
theorem m_frees (hO : TOk T) (hN : NRng N) {n c d b : Nat} (hn : n ≤ 48) (hd : d < 64) (hb : b < 256) (hM : MTown T I L) (hm : MNow I N) : ∃ I' L', fX12_frees (nI c) (nI d) (nI n) (nI b) I L = some (cbI T (N 8) (N 5) (N 6) b (decide (N 7 = 1)) n c d, I', L') ∧ FM I I' L L' := by
  obtain ⟨b1, b2, b3⟩ := ShS hN
  obtain ⟨I1, e1, a1, f1⟩ := m_load (n := 0) hN (by decide) hm
  have fu : FM I1 (up2 I1 73 68 (nI b)) L L := ⟨fun r h1 _ _ => upRow _ _ h1, fun j hj => by rw [up2_at, if_neg (by omega)], fun _ _ _ => rfl⟩
  have a2 : MAim ((N 8 + 0) % 24) ((N 8 + 0) / 24) (N 5) (N 6) b (decide (N 7 = 1)) (up2 I1 73 68 (nI b)) := by
    unfold MAim at *
    simp only [up2_at, Nat.reduceEqDiff, and_false, if_false, and_self, if_true]
    exact ⟨a1.1, a1.2.1, a1.2.2.1, a1.2.2.2.1, trivial, a1.2.2.2.2.2⟩
  obtain ⟨I2, L2, e2, f2⟩ := m_comes (c := c) (w := N 8) hO hn hd ((hM.fm (f1 L)).fm fu) a2 b2 b3 (by omega) b1
  have e8 : up2 I1 73 68 (nI b) 99 8 = nI (N 8) := by
    rw [upRow _ _ (by decide), (f1 L).1 99 (by decide) (by decide) (by decide)]; exact hm 8 (by decide)
  unfold fX12_frees
  rw [show fX12_load 0 I = some I1 from e1]
  simp only [Option.bind_some, show (8 : Int32) = nI 8 from rfl, if_pos (inb_nI (show 8 < 10 by decide) (show 10 < 2 ^ 31 by decide)), clamp_nI (show 8 < 2 ^ 31 by decide), e8, e2]
  exact ⟨I2, L2, rfl, ((f1 L).trans fu).trans f2⟩
theorem m_frI (hO : TOk T) (hN : NRng N) {n c d k : Nat} {w : Int32} (hn : n ≤ 48) (hd : d < 64) (hk : k ≤ 8) : ∀ (m b fu : Nat) (I : HI) (L : HL), b + m = 2 ^ tnL T → m < fu → MTown T I L → MNow I N → ∃ I' L', fX12_free_37 fu (nI c) (nI d) (nI n) w (nI k) (nI b) I L = some (match srch (fun b => cbI T (N 8) (N 5) (N 6) b (decide (N 7 = 1)) n c d) k m b with | none => .inl (I', L') | some x => .inr (if w = 0 then nI k else nI x, I', L')) ∧ FM I I' L L' := by
  have h4 := hO.2.2.1
  have h16 : 2 ^ tnL T ≤ 16 := Nat.pow_le_pow_right (n := 2) (by decide) h4
  intro m
  induction m with
  | zero =>
    intro b fu I L hb hf hM hm
    obtain ⟨f, rfl⟩ : ∃ f, fu = f + 1 := ⟨fu - 1, by omega⟩
    rw [fX12_free_37, hM.2.2.2.1, shl1N (by omega), if_pos (nI_le (by omega) (by omega))]
    exact ⟨I, L, rfl, FM.refl I L⟩
  | succ m ih =>
    intro b fu I L hb hf hM hm
    obtain ⟨f, rfl⟩ : ∃ f, fu = f + 1 := ⟨fu - 1, by omega⟩
    have p8 := pc8_le b
    rw [fX12_free_37, hM.2.2.2.1, shl1N (by omega), if_neg (nI_ge (by omega) (by omega)), m_mem8 (by omega), nI_1, srch]
    simp only [Option.bind_some]
    by_cases h1 : pc8 b = k
    · rw [if_pos (by rw [h1]), if_pos h1]
      obtain ⟨I1, L1, e1, f1⟩ := m_frees (c := c) (b := b) hO hN hn hd (by omega) hM hm
      rw [e1]
      simp only [Option.bind_some, b2i_eq0]
      cases hcb : cbI T (N 8) (N 5) (N 6) b (decide (N 7 = 1)) n c d with
      | true =>
        simp only [Bool.true_eq_false, if_false, if_true]
        refine ⟨I1, L1, ?_, f1⟩
        by_cases hw : w = 0
        · rw [if_pos hw, if_pos hw]
        · rw [if_neg hw, if_neg hw]
      | false =>
        simp only [Bool.false_eq_true, if_false, if_true]
        obtain ⟨I2, L2, e2, f2⟩ := ih (b + 1) f I1 L1 (by omega) (by omega) (hM.fm f1) (hm.fm f1)
        exact ⟨I2, L2, e2, f1.trans f2⟩
    · rw [if_neg (fun g => h1 ((nI_eq (by omega) (by omega)).mp g)), if_neg h1]
      exact ih (b + 1) f I L (by omega) (by omega) hM hm
theorem m_frO (hO : TOk T) (hN : NRng N) {n c d : Nat} {w : Int32} (hn : n ≤ 48) (hd : d < 64) : ∀ (m k fu : Nat) (I : HI) (L : HL), k + m = tnL T + 1 → m < fu → MTown T I L → MNow I N → ∃ I' L', fX12_free_25 fu (nI c) (nI d) (nI n) w (nI k) I L = some (.inr (ansW w (srch2 (fun b => cbI T (N 8) (N 5) (N 6) b (decide (N 7 = 1)) n c d) (2 ^ tnL T) m k), I', L')) ∧ FM I I' L L' := by
  obtain ⟨mf, hmf⟩ := fuel_at 1000 (by decide)
  have h4 := hO.2.2.1
  have h16 : 2 ^ tnL T ≤ 16 := Nat.pow_le_pow_right (n := 2) (by decide) h4
  intro m
  induction m with
  | zero =>
    intro k fu I L hk hf hM hm
    obtain ⟨f, rfl⟩ : ∃ f, fu = f + 1 := ⟨fu - 1, by omega⟩
    rw [fX12_free_25, hM.2.2.2.1, if_pos (nI_lt (by omega) (by omega))]
    exact ⟨I, L, rfl, FM.refl I L⟩
  | succ m ih =>
    intro k fu I L hk hf hM hm
    obtain ⟨f, rfl⟩ : ∃ f, fu = f + 1 := ⟨fu - 1, by omega⟩
    obtain ⟨I1, L1, e1, f1⟩ := m_frI (c := c) (k := k) (w := w) hO hN hn hd (by omega) (2 ^ tnL T) 0 FUEL I L (by omega) (by omega) hM hm
    rw [fX12_free_25, hM.2.2.2.1, if_neg (nI_nlt (by omega) (by omega)), show fX12_free_37 FUEL (nI c) (nI d) (nI n) w (nI k) 0 I L = _ from e1, srch2, nI_1]
    cases hsr : srch (fun b => cbI T (N 8) (N 5) (N 6) b (decide (N 7 = 1)) n c d) k (2 ^ tnL T) 0 with
    | none =>
      simp only [Option.bind_some]
      obtain ⟨I2, L2, e2, f2⟩ := ih (k + 1) f I1 L1 (by omega) (by omega) (hM.fm f1) (hm.fm f1)
      exact ⟨I2, L2, e2, f1.trans f2⟩
    | some x =>
      simp only [Option.bind_some]
      rw [show ansW w (some x) = if w = 0 then nI (pc8 x) else nI x from rfl, (srch_ok _ _ _ hsr).1]
      exact ⟨I1, L1, rfl, f1⟩
/-! without a date in it, the formula knows none -/
theorem evT_nodate (hF : FOk T) (hd : datd T = false) {h r t t' : Int32} : ∀ k, k ≤ tNS T → ∀ i, evT T h r t k i = evT T h r t' k i := by
  intro k
  induction k with
  | zero => intro _ _; rfl
  | succ k ih =>
    intro hk i
    have ihk := ih (by omega)
    have hnd : ¬ (T 10 k = 1 ∧ T 11 k = 2) := by
      intro g
      unfold datd at hd
      rw [List.any_eq_false] at hd
      exact hd k (List.mem_range.mpr (by omega)) (by rw [g.1, g.2]; rfl)
    simp only [evT, ihk]
    by_cases h1 : T 10 k = 0 ∨ T 10 k = 1
    · rw [if_pos h1, if_pos h1]
      by_cases h2 : i = evD T k
      · rw [if_pos h2, if_pos h2]
        by_cases h3 : T 10 k = 0
        · rw [if_pos h3, if_pos h3]
        · rw [if_neg h3, if_neg h3]
          by_cases h4 : T 11 k = 0
          · rw [if_pos h4, if_pos h4]
          · rw [if_neg h4, if_neg h4]
            by_cases h5 : T 11 k = 1
            · rw [if_pos h5, if_pos h5]
            · exfalso
              rcases hF.2.1 k (by omega) with g | g | g | g
              · exact h3 g.1
              · exact hnd ⟨g.1, by omega⟩
              · omega
              · omega
      · rw [if_neg h2, if_neg h2]
    · rw [if_neg h1, if_neg h1]
end FR
