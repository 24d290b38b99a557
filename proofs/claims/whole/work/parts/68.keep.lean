/-! can it be; the fewest doors to be shut -/
section KE
variable {T : Nat → Nat → Nat} {q : Nat} {N : Nat → Nat} {I : HI} {L : HL} {s S O B : Nat} {K : Bool}
theorem rel_refl : ∀ (m k c : Nat), rel T s S O B K m k c c
  | 0, _, _ => rfl
  | m + 1, k, c => ⟨c, mv_refl, rel_refl m (k + 1) c⟩
theorem it_mono (hO : TOk T) {m k e : Nat} {x : Int64} (hx : GS T x) (h : hb x e = true) : hb (itS T s S O B K m k x) e = true := (it_iff hO m k x e hx).mpr ⟨e, h, rel_refl m k e⟩
noncomputable def cbI (T : Nat → Nat → Nat) (s S O B : Nat) (K : Bool) (n c d : Nat) : Bool := hb (itS T s S O B K n 0 (oneI c)) d
def XA (T : Nat → Nat → Nat) (q s S O B : Nat) (K : Bool) (I : HI) (L : HL) : Prop := XTown T q I L ∧ SkyAt T s S O B K I L
theorem x_cbL (hO : TOk T) (hq : isQ2 q) (hs : s < 10000) {S2 n d : Nat} (hn : n ≤ 48) (hd : d < 64) : ∀ (m k fu : Nat) (x : Int64) (I : HI) (L : HL), k + m = n → m < fu → GS T x → XA T q s S O B K I L → ∃ r I' L', fX10_canBe_8 q fu (nI d) (nI n) (nI S2) x (nI k) I L = some (r, I', L') ∧ hb r d = hb (itS T s (S ||| S2) O B K m k x) d ∧ XA T q s S O B K I' L' ∧ FX q I I' L L' := by
  intro m
  induction m with
  | zero =>
    intro k fu x I L hk hf hx h
    obtain ⟨f, rfl⟩ : ∃ f, fu = f + 1 := ⟨fu - 1, by omega⟩
    rw [fX10_canBe_8, if_pos (nI_le (by omega) (by omega))]
    exact ⟨x, I, L, rfl, rfl, h, FX.refl q I L⟩
  | succ m ih =>
    intro k fu x I L hk hf hx h
    obtain ⟨f, rfl⟩ : ∃ f, fu = f + 1 := ⟨fu - 1, by omega⟩
    rw [fX10_canBe_8, if_neg (nI_ge (by omega) (by omega))]
    simp only [ushr1_0 _ hd]
    cases hb1 : hb x d with
    | true =>
      simp only [Bool.true_eq_false, if_false, Option.bind_some, if_true]
      exact ⟨x, I, L, rfl, by rw [hb1, it_mono hO hx hb1], h, FX.refl q I L⟩
    | false =>
      simp only [Bool.false_eq_true, if_false, Option.bind_some, if_true]
      obtain ⟨I1, L1, e1, f1, s1, _⟩ := x_stp (S2 := S2) (n := k) hO hq h.1 hs (by omega) h.2 hx
      rw [e1]
      simp only [Option.bind_some, nI_1]
      obtain ⟨r, I2, L2, e2, r2, x2, f2⟩ := ih (k + 1) f _ I1 L1 (by omega) (by omega) (stp_GS hO hx) ⟨h.1.fx hq f1, s1⟩
      exact ⟨r, I2, L2, e2, r2, x2, f1.trans f2⟩
theorem x_canBe (hO : TOk T) (hq : isQ2 q) (hs : s < 10000) {S2 n c d : Nat} (hn : n ≤ 48) (hc : grd T c) (hd : d < 64) (h : XA T q s S O B K I L) : ∃ I' L', fX10_canBe q (nI c) (nI d) (nI n) (nI S2) I L = some (cbI T s (S ||| S2) O B K n c d, I', L') ∧ XA T q s S O B K I' L' ∧ FX q I I' L L' := by
  obtain ⟨mf, hmf⟩ := fuel_at 1000 (by decide)
  obtain ⟨r, I1, L1, e1, r1, x1, f1⟩ := x_cbL (S2 := S2) hO hq hs hn hd n 0 FUEL (oneI c) I L (by omega) (by omega) (one_GS hO hc) h
  unfold fX10_canBe
  have e2 : fX10_canBe_8 q FUEL (nI d) (nI n) (nI S2) ((1 : Int64) <<< ((nI c).toInt64 &&& 63)) 0 I L = some (r, I1, L1) := e1
  simp only [e2, Option.bind_some, ushr1_0 _ hd, r1]
  unfold cbI
  cases hb (itS T s (S ||| S2) O B K n 0 (oneI c)) d with
  | false => exact ⟨I1, L1, rfl, x1, f1⟩
  | true => exact ⟨I1, L1, rfl, x1, f1⟩
theorem m_comes (hO : TOk T) {w n c d hr dt : Nat} (hn : n ≤ 48) (hd : d < 64) (hM : MTown T I L) (hA : MAim hr dt S O B K I) (hS : S < 2 ^ 31) (hO2 : O < 2 ^ 31) (hB : B < 2 ^ 31) (hw : w < 10000) : ∃ I' L', fX12_comes (nI c) (nI d) (nI w) (nI n) I L = some (cbI T w S O B K n c d, I', L') ∧ FM I I' L L' := by
  obtain ⟨I1, L1, hr', dt', e1, f1, a1, h1⟩ := m_layHours hO hM hA hS hO2 hB hw hn
  unfold fX12_comes
  rw [e1]
  simp only [Option.bind_some, m_reach hO (hM.fm f1) hn h1, has_hb _ hd]
  exact ⟨I1, L1, rfl, f1⟩
/-! counts of small sets -/
def pc8 (b : Nat) : Nat := fb_ct (fun i => b.testBit i) 8
theorem fb_more {p : Nat → Bool} {n : Nat} : ∀ m, (∀ i, n ≤ i → i < n + m → p i = false) → fb_ct p (n + m) = fb_ct p n := by
  intro m
  induction m with
  | zero => intro _; rfl
  | succ m ih =>
    intro h
    rw [show n + (m + 1) = (n + m) + 1 from rfl, fb_ct_succ, h (n + m) (by omega) (by omega), ih (fun i h1 h2 => h i h1 (by omega))]
    simp
theorem m_mem8 {b : Nat} (hb : b < 256) : fX12_members (nI b).toInt64 = some (nI (pc8 b)) := by
  rw [nI_l (by omega), m_members]
  congr 2
  have e : fb_ct (_root_.Jvm.Pilot.CShadowDoorsLaw_law_r6347_e715ec.hb (lN b)) 64 = fb_ct (fun i => b.testBit i) 64 := fb_ct_cong (fun i hi => hb_lN i hi)
  rw [e]
  unfold pc8
  exact fb_more (n := 8) 56 (fun i h1 h2 => Nat.testBit_lt_two_pow (Nat.lt_of_lt_of_le hb (show 256 ≤ 2 ^ i from Nat.pow_le_pow_right (n := 2) (by decide) h1)))
theorem x_bc8 {b : Nat} (hb : b < 256) : fJ6_bitCount_0f7a4 (nI b) = nI (pc8 b) := x_bits8 ⟨b, hb⟩
theorem pc8_le (b : Nat) : pc8 b ≤ 8 := fb_ct_le _ _
theorem shl1N {k : Nat} (hk : k < 31) : (1 : Int32) <<< (nI k &&& 31) = nI (2 ^ k) := by
  apply b_ext
  intro i hi
  rw [b_shl1 (by omega) hi, bt_nI i hi, Nat.testBit_two_pow, decide_eq_decide]
  exact ⟨fun h => h.symm, fun h => h.symm⟩
/-- the first set of so many that will do -/
def srch (P : Nat → Bool) (k : Nat) : Nat → Nat → Option Nat
  | 0, _ => none
  | m + 1, b => if pc8 b = k then (if P b = true then some b else srch P k m (b + 1)) else srch P k m (b + 1)
def srch2 (P : Nat → Bool) (tot : Nat) : Nat → Nat → Option Nat
  | 0, _ => none
  | m + 1, k => match srch P k tot 0 with
    | some b => some b
    | none => srch2 P tot m (k + 1)
theorem srch_ok {P : Nat → Bool} {k : Nat} : ∀ (m b x : Nat), srch P k m b = some x → pc8 x = k ∧ x < b + m := by
  intro m
  induction m with
  | zero => intro b x h; cases h
  | succ m ih =>
    intro b x h
    rw [srch] at h
    by_cases h1 : pc8 b = k
    · rw [if_pos h1] at h
      by_cases h2 : P b = true
      · rw [if_pos h2] at h; cases h; exact ⟨h1, by omega⟩
      · rw [if_neg h2] at h; have := ih (b + 1) x h; exact ⟨this.1, by omega⟩
    · rw [if_neg h1] at h; have := ih (b + 1) x h; exact ⟨this.1, by omega⟩
theorem srch2_ok {P : Nat → Bool} {tot : Nat} : ∀ (m k x : Nat), srch2 P tot m k = some x → x < tot := by
  intro m
  induction m with
  | zero => intro k x h; cases h
  | succ m ih =>
    intro k x h
    rw [srch2] at h
    cases hs : srch P k tot 0 with
    | none => rw [hs] at h; exact ih (k + 1) x h
    | some b => rw [hs] at h; cases h; have := srch_ok tot 0 x hs; omega
def ansB (x : Option Nat) : Int32 := match x with | none => -1 | some b => nI b
def ansW (w : Int32) (x : Option Nat) : Int32 := match x with | none => -1 | some b => if w = 0 then nI (pc8 b) else nI b
/-! keep, the class -/
theorem x_kpI (hO : TOk T) (hq : isQ2 q) (hs : s < 10000) {n c d k tot : Nat} (hn : n ≤ 48) (hc : grd T c) (hd : d < 64) (hk : k ≤ 8) (ht : tot ≤ 256) : ∀ (m b fu : Nat) (I : HI) (L : HL), b + m = tot → m < fu → XA T q s S O B K I L → ∃ I' L', fX10_fewestShut_29 q fu (nI c) (nI d) (nI n) (nI tot) (nI k) (nI b) I L = some (match srch (fun b => !cbI T s (S ||| b) O B K n c d) k m b with | none => .inl (I', L') | some x => .inr (nI x, I', L')) ∧ XA T q s S O B K I' L' ∧ FX q I I' L L' := by
  intro m
  induction m with
  | zero =>
    intro b fu I L hb hf h
    obtain ⟨f, rfl⟩ : ∃ f, fu = f + 1 := ⟨fu - 1, by omega⟩
    rw [fX10_fewestShut_29, if_pos (nI_le (by omega) (by omega))]
    exact ⟨I, L, rfl, h, FX.refl q I L⟩
  | succ m ih =>
    intro b fu I L hb hf h
    obtain ⟨f, rfl⟩ : ∃ f, fu = f + 1 := ⟨fu - 1, by omega⟩
    have p8 := pc8_le b
    rw [fX10_fewestShut_29, if_neg (nI_ge (by omega) (by omega)), x_bc8 (by omega), nI_1, srch]
    by_cases h1 : pc8 b = k
    · rw [if_pos (by rw [h1]), if_pos h1]
      obtain ⟨I1, L1, e1, x1, f1⟩ := x_canBe (S2 := b) hO hq hs hn hc hd h
      rw [e1]
      simp only [Option.bind_some, b2i_eq0]
      cases hcb : cbI T s (S ||| b) O B K n c d with
      | false =>
        simp only [Bool.not_false, if_true]
        exact ⟨I1, L1, rfl, x1, f1⟩
      | true =>
        simp only [Bool.not_true, Bool.false_eq_true, Bool.true_eq_false, if_false]
        obtain ⟨I2, L2, e2, x2, f2⟩ := ih (b + 1) f I1 L1 (by omega) (by omega) x1
        exact ⟨I2, L2, e2, x2, f1.trans f2⟩
    · rw [if_neg (fun g => h1 ((nI_eq (by omega) (by omega)).mp g)), if_neg h1]
      exact ih (b + 1) f I L (by omega) (by omega) h
theorem x_kpO (hO : TOk T) (hq : isQ2 q) (hs : s < 10000) {n c d tot : Nat} (hn : n ≤ 48) (hc : grd T c) (hd : d < 64) (ht : tot ≤ 256) : ∀ (m k fu : Nat) (I : HI) (L : HL), k + m = 4 → m < fu → XA T q s S O B K I L → ∃ I' L', fX10_fewestShut_20 q fu (nI c) (nI d) (nI n) (nI tot) (nI k) I L = some (ansB (srch2 (fun b => !cbI T s (S ||| b) O B K n c d) tot m k), I', L') ∧ XA T q s S O B K I' L' ∧ FX q I I' L L' := by
  obtain ⟨mf, hmf⟩ := fuel_at 1000 (by decide)
  intro m
  induction m with
  | zero =>
    intro k fu I L hk hf h
    obtain ⟨f, rfl⟩ : ∃ f, fu = f + 1 := ⟨fu - 1, by omega⟩
    rw [fX10_fewestShut_20, if_pos (show (3 : Int32) < nI k from nI_lt (a := 3) (by omega) (by omega))]
    exact ⟨I, L, rfl, h, FX.refl q I L⟩
  | succ m ih =>
    intro k fu I L hk hf h
    obtain ⟨f, rfl⟩ : ∃ f, fu = f + 1 := ⟨fu - 1, by omega⟩
    obtain ⟨I1, L1, e1, x1, f1⟩ := x_kpI (k := k) (tot := tot) hO hq hs hn hc hd (by omega) ht tot 0 FUEL I L (by omega) (by omega) h
    rw [fX10_fewestShut_20, if_neg (show ¬ (3 : Int32) < nI k from nI_nlt (a := 3) (by omega) (by omega)), show fX10_fewestShut_29 q FUEL (nI c) (nI d) (nI n) (nI tot) (nI k) 0 I L = _ from e1, srch2, nI_1]
    cases hsr : srch (fun b => !cbI T s (S ||| b) O B K n c d) k tot 0 with
    | none =>
      simp only [Option.bind_some]
      obtain ⟨I2, L2, e2, x2, f2⟩ := ih (k + 1) f I1 L1 (by omega) (by omega) x1
      exact ⟨I2, L2, e2, x2, f1.trans f2⟩
    | some x =>
      simp only [Option.bind_some]
      exact ⟨I1, L1, rfl, x1, f1⟩
/-! keep, the reference -/
theorem m_keeps (hO : TOk T) (hN : NRng N) {n c d b : Nat} (hn : n ≤ 48) (hd : d < 64) (hb : b < 256) (hM : MTown T I L) (hm : MNow I N) : ∃ I' L', fX12_keeps (nI c) (nI d) (nI n) (nI b) I L = some (!cbI T (N 8) (N 5 ||| b) (N 6) 0 (decide (N 7 = 1)) n c d, I', L') ∧ FM I I' L L' := by
  obtain ⟨b1, b2, b3⟩ := ShS hN
  have b5 := hN.2.2.2.2.2.1
  obtain ⟨I1, e1, a1, f1⟩ := m_load (n := 0) hN (by decide) hm
  have fu : FM I1 (up2 I1 73 66 (nI (N 5 ||| b))) L L := ⟨fun r h1 _ _ => upRow _ _ h1, fun j hj => by rw [up2_at, if_neg (by omega)], fun _ _ _ => rfl⟩
  have a2 : MAim ((N 8 + 0) % 24) ((N 8 + 0) / 24) (N 5 ||| b) (N 6) 0 (decide (N 7 = 1)) (up2 I1 73 66 (nI (N 5 ||| b))) := by
    unfold MAim at *
    simp only [up2_at, Nat.reduceEqDiff, and_false, if_false, and_self, if_true]
    exact ⟨a1.1, a1.2.1, trivial, a1.2.2.2⟩
  have hor : N 5 ||| b < 256 := Nat.or_lt_two_pow (n := 8) b5 hb
  obtain ⟨I2, L2, e2, f2⟩ := m_comes (c := c) (w := N 8) hO hn hd ((hM.fm (f1 L)).fm fu) a2 (by omega) b3 (by decide) b1
  have e8 : up2 I1 73 66 (nI (N 5 ||| b)) 99 8 = nI (N 8) := by
    rw [upRow _ _ (by decide), (f1 L).1 99 (by decide) (by decide) (by decide)]; exact hm 8 (by decide)
  unfold fX12_keeps
  rw [show fX12_load 0 I = some I1 from e1]
  simp only [Option.bind_some, a1.2.2.1, fa_or, show (8 : Int32) = nI 8 from rfl, if_pos (inb_nI (show 8 < 10 by decide) (show 10 < 2 ^ 31 by decide)), clamp_nI (show 8 < 2 ^ 31 by decide), e8, e2, b2i_eq0]
  have fm := ((f1 L).trans fu).trans f2
  cases cbI T (N 8) (N 5 ||| b) (N 6) 0 (decide (N 7 = 1)) n c d with
  | false => exact ⟨I2, L2, rfl, fm⟩
  | true => exact ⟨I2, L2, rfl, fm⟩
theorem MNow.fm {J : HI} {M : HL} (h : MNow I N) (f : FM I J L M) : MNow J N := by
  unfold MNow at *
  rw [f.1 99 (by decide) (by decide) (by decide)]; exact h
theorem m_kpI (hO : TOk T) (hN : NRng N) {n c d k : Nat} {w : Int32} (hn : n ≤ 48) (hd : d < 64) (hk : k ≤ 8) : ∀ (m b fu : Nat) (I : HI) (L : HL), b + m = 2 ^ tnD T → m < fu → MTown T I L → MNow I N → ∃ I' L', fX12_keep_34 fu (nI c) (nI d) (nI n) w (nI k) (nI b) I L = some (match srch (fun b => !cbI T (N 8) (N 5 ||| b) (N 6) 0 (decide (N 7 = 1)) n c d) k m b with | none => .inl (I', L') | some x => .inr (if w = 0 then nI k else nI x, I', L')) ∧ FM I I' L L' := by
  have h8 := hO.2.1
  have h256 : 2 ^ tnD T ≤ 256 := Nat.pow_le_pow_right (n := 2) (by decide) h8
  intro m
  induction m with
  | zero =>
    intro b fu I L hb hf hM hm
    obtain ⟨f, rfl⟩ : ∃ f, fu = f + 1 := ⟨fu - 1, by omega⟩
    rw [fX12_keep_34, hM.2.2.1, shl1N (by omega), if_pos (nI_le (by omega) (by omega))]
    exact ⟨I, L, rfl, FM.refl I L⟩
  | succ m ih =>
    intro b fu I L hb hf hM hm
    obtain ⟨f, rfl⟩ : ∃ f, fu = f + 1 := ⟨fu - 1, by omega⟩
    have p8 := pc8_le b
    rw [fX12_keep_34, hM.2.2.1, shl1N (by omega), if_neg (nI_ge (by omega) (by omega)), m_mem8 (by omega), nI_1, srch]
    simp only [Option.bind_some]
    by_cases h1 : pc8 b = k
    · rw [if_pos (by rw [h1]), if_pos h1]
      obtain ⟨I1, L1, e1, f1⟩ := m_keeps (c := c) (b := b) hO hN hn hd (by omega) hM hm
      rw [e1]
      simp only [Option.bind_some, b2i_eq0]
      cases hcb : cbI T (N 8) (N 5 ||| b) (N 6) 0 (decide (N 7 = 1)) n c d with
      | false =>
        simp only [Bool.not_false, Bool.true_eq_false, if_false, if_true]
        refine ⟨I1, L1, ?_, f1⟩
        by_cases hw : w = 0
        · rw [if_pos hw, if_pos hw]
        · rw [if_neg hw, if_neg hw]
      | true =>
        simp only [Bool.not_true, Bool.false_eq_true, if_false, if_true]
        obtain ⟨I2, L2, e2, f2⟩ := ih (b + 1) f I1 L1 (by omega) (by omega) (hM.fm f1) (hm.fm f1)
        exact ⟨I2, L2, e2, f1.trans f2⟩
    · rw [if_neg (fun g => h1 ((nI_eq (by omega) (by omega)).mp g)), if_neg h1]
      exact ih (b + 1) f I L (by omega) (by omega) hM hm
theorem m_kpO (hO : TOk T) (hN : NRng N) {n c d : Nat} {w : Int32} (hn : n ≤ 48) (hd : d < 64) : ∀ (m k fu : Nat) (I : HI) (L : HL), k + m = 4 → m < fu → MTown T I L → MNow I N → ∃ I' L', fX12_keep_25 fu (nI c) (nI d) (nI n) w (nI k) I L = some (.inr (ansW w (srch2 (fun b => !cbI T (N 8) (N 5 ||| b) (N 6) 0 (decide (N 7 = 1)) n c d) (2 ^ tnD T) m k), I', L')) ∧ FM I I' L L' := by
  obtain ⟨mf, hmf⟩ := fuel_at 1000 (by decide)
  have h8 := hO.2.1
  have h256 : 2 ^ tnD T ≤ 256 := Nat.pow_le_pow_right (n := 2) (by decide) h8
  intro m
  induction m with
  | zero =>
    intro k fu I L hk hf hM hm
    obtain ⟨f, rfl⟩ : ∃ f, fu = f + 1 := ⟨fu - 1, by omega⟩
    rw [fX12_keep_25, if_pos (show (3 : Int32) < nI k from nI_lt (a := 3) (by omega) (by omega))]
    exact ⟨I, L, rfl, FM.refl I L⟩
  | succ m ih =>
    intro k fu I L hk hf hM hm
    obtain ⟨f, rfl⟩ : ∃ f, fu = f + 1 := ⟨fu - 1, by omega⟩
    obtain ⟨I1, L1, e1, f1⟩ := m_kpI (c := c) (k := k) (w := w) hO hN hn hd (by omega) (2 ^ tnD T) 0 FUEL I L (by omega) (by omega) hM hm
    rw [fX12_keep_25, if_neg (show ¬ (3 : Int32) < nI k from nI_nlt (a := 3) (by omega) (by omega)), show fX12_keep_34 FUEL (nI c) (nI d) (nI n) w (nI k) 0 I L = _ from e1, srch2, nI_1]
    cases hsr : srch (fun b => !cbI T (N 8) (N 5 ||| b) (N 6) 0 (decide (N 7 = 1)) n c d) k (2 ^ tnD T) 0 with
    | none =>
      simp only [Option.bind_some]
      obtain ⟨I2, L2, e2, f2⟩ := ih (k + 1) f I1 L1 (by omega) (by omega) (hM.fm f1) (hm.fm f1)
      exact ⟨I2, L2, e2, f1.trans f2⟩
    | some x =>
      simp only [Option.bind_some]
      rw [show ansW w (some x) = if w = 0 then nI (pc8 x) else nI x from rfl, (srch_ok _ _ _ hsr).1]
      exact ⟨I1, L1, rfl, f1⟩
theorem told_as {x : Option Nat} {w : Int32} (hx : ∀ b, x = some b → b < 256) : fX11_toldAs (ansB x) w = ansW w x := by
  unfold fX11_toldAs ansB ansW
  cases x with
  | none => rfl
  | some b =>
    have hb := hx b rfl
    have hne : ¬ nI b = (-1 : Int32) := by
      intro g
      have := congrArg Int32.toInt g
      rw [nI_toInt (by omega)] at this
      have e : (-1 : Int32).toInt = -1 := rfl
      omega
    simp only [if_neg hne, x_bc8 hb]
theorem isIn_1 {m : Nat} (hm : m < 1000) (v : Int32) : (∃ j, 1 ≤ j ∧ j ≤ m ∧ v = nI j ∧ fX12_isIn v 1 (nI m) = true ∧ ¬ v < 1 ∧ ¬ nI m < v) ∨ ((v < 1 ∨ nI m < v) ∧ fX12_isIn v 1 (nI m) = false) := by
  unfold fX12_isIn tbn
  by_cases h1 : v < 1
  · right; rw [if_pos h1]; exact ⟨Or.inl h1, rfl⟩
  · by_cases h2 : nI m < v
    · right; rw [if_neg h1, if_pos h2]; exact ⟨Or.inr h2, rfl⟩
    · left
      have e1 : (1 : Int32).toInt = 1 := rfl
      have h1' := h1
      have h2' := h2
      rw [fa_lt] at h1' h2'
      rw [nI_toInt (by omega)] at h2'
      refine ⟨v.toInt.toNat, by omega, by omega, ?_, ?_, h1, h2⟩
      · rw [← iI_n, show ((v.toInt.toNat : Nat) : Int) = v.toInt by omega]; exact iI_of v
      · rw [if_neg h1, if_neg h2]; rfl
theorem g_jour {J : HI} {M : HL} {m : Nat} (hm : m < 1000) (hT : TSize T) (hx : XSize T q I) (hg : ∀ c, c < 64 → hb (L q 4) c = (decide (c < tC T) && !isW T c)) (hM : MSize T J M) (v w x : Int32) : (∃ c d n, grd T c ∧ grd T d ∧ 1 ≤ n ∧ n ≤ m ∧ v = nI c ∧ w = nI d ∧ x = nI n ∧ fX11_isJourney q v w x (nI m) I L = true ∧ fX12_isFree v J M = true ∧ fX12_isFree w J M = true ∧ fX12_isIn x 1 (nI m) = true) ∨ (fX11_isJourney q v w x (nI m) I L = false ∧ (fX12_isFree v J M = false ∨ fX12_isFree w J M = false ∨ fX12_isIn x 1 (nI m) = false)) := by
  unfold fX11_isJourney tbn
  rcases g_free hT hx hg hM v with ⟨c, c1, c2, c3, c4⟩ | ⟨c1, c2⟩
  · rcases g_free hT hx hg hM w with ⟨d, d1, d2, d3, d4⟩ | ⟨d1, d2⟩
    · rcases isIn_1 hm x with ⟨j, j1, j2, j3, j4, j5, j6⟩ | ⟨j1, j2⟩
      · left
        refine ⟨c, d, j, c1, d1, j1, j2, c2, d2, j3, ?_, c4, d4, j4⟩
        rw [c3, d3, if_neg (by decide), if_neg (by decide), if_neg j5, if_neg j6]; rfl
      · right
        refine ⟨?_, Or.inr (Or.inr j2)⟩
        rw [c3, d3, if_neg (by decide), if_neg (by decide)]
        by_cases h1 : x < 1
        · rw [if_pos h1]; rfl
        · rw [if_neg h1, if_pos (j1.resolve_left h1)]; rfl
    · right
      refine ⟨?_, Or.inr (Or.inl d2)⟩
      rw [c3, d1]; rfl
  · right
    refine ⟨?_, Or.inl c2⟩
    rw [c1]; rfl
theorem asked_no {v w x : Int32} {J : HI} {M : HL} (h : fX12_isFree v J M = false ∨ fX12_isFree w J M = false ∨ fX12_isIn x 1 24 = false) : fX12_isAsked v w x J M = false := by
  unfold fX12_isAsked tbn
  rcases h with h | h | h
  · rw [h]; rfl
  · rw [h]; cases fX12_isFree v J M <;> rfl
  · rw [h]; cases fX12_isFree v J M <;> cases fX12_isFree w J M <;> rfl
theorem asked_yes {v w x : Int32} {J : HI} {M : HL} (h1 : fX12_isFree v J M = true) (h2 : fX12_isFree w J M = true) (h3 : fX12_isIn x 1 24 = true) : fX12_isAsked v w x J M = true := by
  unfold fX12_isAsked tbn
  rw [h1, h2, h3]; rfl
end KE
section KE2
variable {T : Nat → Nat → Nat} {q : Nat} {st : Nat → Nat → Nat} {a u : Nat} {I : HI} {L : HL}
theorem isFree_same {J : HI} {M : HL} (hM : MSize T I L) (hM2 : MSize T J M) (v : Int32) : fX12_isFree v J M = fX12_isFree v I L := by
  have e : M 73 44 = L 73 44 := hb_ext (fun c hc => by rw [hM2.2.2 c hc, hM.2.2 c hc])
  unfold fX12_isFree
  rw [m_size hM, m_size hM2, e]
theorem XA.sky {s S O B : Nat} {K : Bool} (h : XA T q s S O B K I L) (h1 : s < 2 ^ 31) (h2 : O < 2 ^ 31) (h3 : B < 2 ^ 31) : SkyOk T I L := ⟨s, S, O, B, K, h.2, h1, h2, h3⟩
theorem c_keep (h : Inv T q st a u I L) (v w x y : Int32) : ∃ r I1 L1 I2 L2, fX11_keep q q v w x y I L = some (r, I1, L1) ∧ fX12_keep v w x y I1 L1 = some (r, I2, L2) ∧ Inv T q st a u I2 L2 := by
  obtain ⟨mf, hmf⟩ := fuel_at 1000 (by decide)
  have hO := h.1
  have hq := h.2.1
  have hR := h.rng
  obtain ⟨b1, b2, b3⟩ := ShS hR
  have h8 := hO.2.1
  have h256 : 2 ^ tnD T ≤ 256 := Nat.pow_le_pow_right (n := 2) (by decide) h8
  unfold fX11_keep fX12_keep
  rcases g_jour (m := 24) (by decide) hO.1 h.2.2.1.1 h.2.2.1.2.1.2 h.2.2.2.1.1 v w x with ⟨c, d, n, c1, d1, n1, n2, e1, e2, e3, j1, j2, j3, j4⟩ | ⟨j1, j2⟩
  · rcases g_choice y with ⟨w1, w2, w3⟩ | ⟨w1, w2⟩
    · subst e1
      subst e2
      subst e3
      have d64 := grd_64 hO d1
      obtain ⟨I1, L1, a1, s1, f1, i1⟩ := h.aim
      obtain ⟨I2, L2, a2, x2, f2⟩ := x_kpO (c := c) (d := d) (n := n) (tot := 2 ^ tnD T) hO hq b1 (by omega) c1 d64 h256 4 0 FUEL I1 L1 (by omega) (by omega) ⟨i1.2.2.1, s1⟩
      have i2 := i1.fx f2 (x2.sky (by omega) b3 (by decide))
      obtain ⟨I3, L3, a3, f3⟩ := m_kpO (c := c) (d := d) (n := n) (w := y) hO hR (by omega) d64 4 0 FUEL I2 L2 (by omega) (by omega) i2.2.2.2.1 i2.mnow
      have i3 := i2.fm f3
      have ask : fX12_isAsked (nI c) (nI d) (nI n) I2 L2 = true := asked_yes (by rw [isFree_same h.2.2.2.1.1 i2.2.2.2.1.1]; exact j2) (by rw [isFree_same h.2.2.2.1.1 i2.2.2.2.1.1]; exact j3) j4
      refine ⟨ansW y (srch2 (fun b => !cbI T (st a 8) (st a 5 ||| b) (st a 6) 0 (decide (st a 7 = 1)) n c d) (2 ^ tnD T) 4 0), I2, L2, I3, L3, ?_, ?_, i3⟩
      · rw [show fX11_isJourney q (nI c) (nI d) (nI n) 24 I L = true from j1, w2, a1]
        simp only [b2i_eq0, Bool.true_eq_false, if_false, Option.bind_some, Bool.false_eq_true]
        unfold fX10_fewestShut
        rw [i1.2.2.1.2.2.2.2.1, shl1N (by omega)]
        simp only [show fX10_fewestShut_20 q FUEL (nI c) (nI d) (nI n) (nI (2 ^ tnD T)) 0 I1 L1 = _ from a2, Option.bind_some]
        rw [told_as (x := srch2 (fun b => !cbI T (st a 8) (st a 5 ||| b) (st a 6) 0 (decide (st a 7 = 1)) n c d) (2 ^ tnD T) 4 0) (fun b hb => Nat.lt_of_lt_of_le (srch2_ok _ _ _ hb) h256)]
      · rw [ask, w3]
        simp only [b2i_eq0, Bool.true_eq_false, if_false, Option.bind_some, Bool.false_eq_true]
        simp only [show fX12_keep_25 FUEL (nI c) (nI d) (nI n) y 0 I2 L2 = _ from a3, Option.bind_some]
    · rw [show fX11_isJourney q v w x 24 I L = true from j1, w1]
      exact ⟨_, I, L, I, L, rfl, by rw [asked_yes j2 j3 j4, w2]; rfl, h⟩
  · rw [show fX11_isJourney q v w x 24 I L = false from j1]
    exact ⟨_, I, L, I, L, rfl, by rw [asked_no j2]; rfl, h⟩
end KE2
