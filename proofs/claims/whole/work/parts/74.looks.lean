/-! fit, places, heights -/
section LK
variable {T : Nat → Nat → Nat} {q : Nat} {I : HI} {L : HL} {lk : Nat → Nat → Nat} {n t : Nat}
noncomputable def lnV (T : Nat → Nat → Nat) (h hr : Nat) : Int := capI (evF T (nI h) (nI hr) (nI 0))
theorem lnV_le (T : Nat → Nat → Nat) (h hr : Nat) : -8 ≤ lnV T h hr ∧ lnV T h hr ≤ 8 := capI_le _
theorem rayS_flip {c e : Nat} {v : Int} (hc : c < tC T) (he : e < tC T) : rayS T c v e = rayS T e (-v) c := by
  unfold rayS ray
  by_cases h : 0 < v
  · have hn : ¬ 0 < -v := by omega
    rw [if_pos h, if_neg hn]
    simp only [if_true, if_neg (show ¬ (1 : Nat) = 0 by decide), decide_eq_true hc, decide_eq_true he, Bool.true_and, decide_eq_decide]
    omega
  · by_cases h0 : 0 < -v
    · rw [if_neg h, if_pos h0]
      simp only [if_true, if_neg (show ¬ (1 : Nat) = 0 by decide), decide_eq_true hc, decide_eq_true he, Bool.true_and, decide_eq_decide]
      omega
    · rw [if_neg h, if_neg h0]
      simp only [if_true, if_neg (show ¬ (1 : Nat) = 0 by decide), decide_eq_true hc, decide_eq_true he, Bool.true_and, decide_eq_decide]
      omega
def cntL (I : HI) (lk : Nat → Nat → Nat) (i : Nat) (k : Int32) : Bool := !decide (k < nI (lk 2 i)) && !(bt (I 66 9) i && decide (nI (lk 3 i) ≤ k))
theorem x_counts (h : LookAt T lk n t I) {i : Nat} (hi : i < n) (k : Int32) : fX3_counts (nI i) k I = some (cntL I lk i k) := by
  obtain ⟨l1, l2, l3, l4, l5, l6, l7, l8⟩ := h
  obtain ⟨m0, m1, m2, m3, m4, m5, m6, m7, m8, m9, m10, m11, m12⟩ := l7 i hi
  unfold fX3_counts cntL
  simp only [if_pos (inb_nI (show i < 30 by omega) (show 30 < 2 ^ 31 by decide)), clamp_nI (show i < 2 ^ 31 by omega), m8, isBit_bt _ (show i < 32 by omega), b2i_eq0]
  by_cases h1 : k < nI (lk 2 i)
  · rw [if_pos h1, decide_eq_true h1]; rfl
  · rw [if_neg h1, decide_eq_false h1]
    cases hu : bt (I 66 9) i with
    | false => simp
    | true =>
      rw [(m12 hu).1]
      by_cases h2 : nI (lk 3 i) ≤ k
      · simp [h2]
      · simp [h2]
theorem m_counts (h : LookAt T lk n t I) {i : Nat} (hi : i < n) (k : Int32) : fX12_counts (nI i) k I = some (cntL I lk i k) := by
  obtain ⟨l1, l2, l3, l4, l5, l6, l7, l8⟩ := h
  obtain ⟨m0, m1, m2, m3, m4, m5, m6, m7, m8, m9, m10, m11, m12⟩ := l7 i hi
  unfold fX12_counts cntL
  simp only [if_pos (inb_nI (show i < 30 by omega) (show 30 < 2 ^ 31 by decide)), clamp_nI (show i < 2 ^ 31 by omega), m9]
  by_cases h1 : k < nI (lk 2 i)
  · rw [if_pos h1, decide_eq_true h1]; rfl
  · rw [if_neg h1, decide_eq_false h1]
    cases hu : bt (I 66 9) i with
    | false =>
      rw [m11 hu, if_pos (show (-1 : Int32) < 0 by decide)]; rfl
    | true =>
      rw [(m12 hu).2, if_neg (nI_pos (by omega))]
      by_cases h2 : nI (lk 3 i) ≤ k
      · simp [h2]
      · simp [h2]
/-- does a door there, so high, agree with the looks i, i + 1 .. -/
noncomputable def fitR (T : Nat → Nat → Nat) (I : HI) (lk : Nat → Nat → Nat) (k : Int32) (h c : Nat) : Nat → Bool
  | 0 => true
  | i + 1 => fitR T I lk k h c i && (!cntL I lk i k || (rayS T c (lnV T h (lk 0 i)) (lk 1 i) == bt (I 66 8) i))
def FK (q : Nat) (I I' : HI) : Prop := ∀ b, b ≠ q + 21 → b ≠ 72 → I' b = I b
theorem FK.trans {I J K : HI} (h : FK q I J) (g : FK q J K) : FK q I K := fun b h1 h2 => by rw [g b h1 h2, h b h1 h2]
theorem XTown.fk {J : HI} {M : HL} (h : XTown T q I L) (hq : isQ2 q) (f : FK q I J) (hL : ∀ b, b ≠ 71 → M b = L b) : XTown T q J M :=
  h.fr (fun b b1 b2 => f b (by omega) (by rcases hq with h | h <;> omega)) ⟨hL q (by rcases hq with h | h <;> omega), hL (q + 22) (by rcases hq with h | h <;> omega)⟩
theorem x_lenL (hO : TOk T) (hq : isQ2 q) {hr : Nat} : ∀ (m j fu : Nat) (I : HI), j + m = 4 → m < fu → XTown T q I L → (∀ i, i < j → I 72 i = iI (lnV T (i + 1) hr)) → ∃ I', fX3_findLengths_2 q fu (nI hr) (nI j) I = some I' ∧ FK q I I' ∧ ∀ i, i < 4 → I' 72 i = iI (lnV T (i + 1) hr) := by
  have hF := hO.2.2.2.2.2.2.2.2.2.1
  intro m
  induction m with
  | zero =>
    intro j fu I hj hf hX h
    obtain ⟨f, rfl⟩ : ∃ f, fu = f + 1 := ⟨fu - 1, by omega⟩
    rw [fX3_findLengths_2, if_pos (show (4 : Int32) ≤ nI j from nI_le (a := 4) (by omega) (by omega))]
    exact ⟨I, rfl, fun _ _ _ => rfl, fun i hi => h i (by omega)⟩
  | succ m ih =>
    intro j fu I hj hf hX h
    obtain ⟨f, rfl⟩ : ∃ f, fu = f + 1 := ⟨fu - 1, by omega⟩
    obtain ⟨I1, e1, f1⟩ := x_val (u := q + 19) (nI (j + 1)) (nI hr) (nI 0) hF hX.2.2.2.2.2.2.2.2.2.2.2.1
    rw [fX3_findLengths_2, if_neg (show ¬ (4 : Int32) ≤ nI j from nI_ge (b := 4) (by omega) (by decide)), nI_1, show fX1_valueFor (q + 19) (nI (j + 1)) (nI hr) 0 I = _ from e1]
    simp only [Option.bind_some, if_pos (inb_nI (show j < 4 by omega) (show 4 < 2 ^ 31 by decide)), clamp_nI (show j < 2 ^ 31 by omega), x_cut]
    have fk1 : FK q I (up2 I1 72 j (iI (capI (evF T (nI (j + 1)) (nI hr) (nI 0))))) := fun b h1 h2 => by rw [upRow _ _ h2, f1 b (by omega)]
    obtain ⟨I2, e2, f2, v2⟩ := ih (j + 1) f (up2 I1 72 j (iI (capI (evF T (nI (j + 1)) (nI hr) (nI 0))))) (by omega) (by omega) (hX.fk hq fk1 (fun _ _ => rfl)) (fun i hi => by
      rw [up2_at]
      by_cases hij : i = j
      · rw [if_pos ⟨rfl, hij⟩, hij]; rfl
      · rw [if_neg (fun g => hij g.2), f1 72 (by rcases hq with h | h <;> omega)]; exact h i (by omega))
    exact ⟨I2, e2, fk1.trans f2, v2⟩
theorem x_lens (hO : TOk T) (hq : isQ2 q) {hr : Nat} (hX : XTown T q I L) : ∃ I', fX3_findLengths q (nI hr) I = some I' ∧ FK q I I' ∧ ∀ i, i < 4 → I' 72 i = iI (lnV T (i + 1) hr) := by
  obtain ⟨mf, hmf⟩ := fuel_at 1000 (by decide)
  obtain ⟨I1, e1, f1, v1⟩ := x_lenL (hr := hr) hO hq 4 0 FUEL I (by omega) (by omega) hX (fun i hi => absurd hi (Nat.not_lt_zero i))
  unfold fX3_findLengths
  rw [show fX3_findLengths_2 q FUEL (nI hr) 0 I = _ from e1]
  exact ⟨I1, rfl, f1, v1⟩
theorem x_doors (hO : TOk T) {hr j e : Nat} (hX : XTown T q I L) (hj : j < 4) (he : grd T e) (hv : I 72 j = iI (lnV T (j + 1) hr)) : ∃ r, fX3_doorsShading q (nI e) (nI j) I = some r ∧ ∀ c, c < 64 → hb r c = (decide (c < tC T) && rayS T c (lnV T (j + 1) hr) e) := by
  have hle := lnV_le T (j + 1) hr
  obtain ⟨r, e1, h1⟩ := x_rowBits (-(lnV T (j + 1) hr)) (by unfold sml; omega) hO.1 hX.1 he.1
  unfold fX3_doorsShading
  simp only [if_pos (inb_nI hj (show 4 < 2 ^ 31 by decide)), clamp_nI (show j < 2 ^ 31 by omega), hv, iI_neg, e1, Option.bind_some]
  refine ⟨r, rfl, fun c hc => ?_⟩
  rw [h1 c hc]
  by_cases hcc : c < tC T
  · rw [decide_eq_true hcc, Bool.true_and, rayS_flip hcc he.1]
  · rw [decide_eq_false hcc, Bool.false_and]
    cases hh : rayS T e (-(lnV T (j + 1) hr)) c with
    | false => rfl
    | true => exact absurd (rayS_lt hh) hcc
theorem LookAt.fk {J : HI} (hq : isQ2 q) (h : LookAt T lk n t I) (f : FK q I J) : LookAt T lk n t J :=
  h.fr (fun j _ => by rw [f 66 (by rcases hq with h | h <;> omega) (by decide)]) (fun b _ _ => f b (by rcases hq with h | h <;> omega) (by omega)) (fun b _ _ => f b (by rcases hq with h | h <;> omega) (by omega)) (by rw [f 73 (by rcases hq with h | h <;> omega) (by decide)]) (by rw [f 73 (by rcases hq with h | h <;> omega) (by decide)])
theorem x_keepL (hO : TOk T) {i : Nat} (hX : XTown T q I L) (hK : LookAt T lk n t I) (hi : i < n) (hv : ∀ j, j < 4 → I 72 j = iI (lnV T (j + 1) (lk 0 i))) : ∀ (m j fu : Nat) (M : HL), j + m = 4 → m < fu → ∃ M', fX3_keepFitting_2 q fu (nI i) (nI j) I M = some M' ∧ (∀ b, b ≠ 71 → M' b = M b) ∧ ∀ l, l < 4 → ∀ c, c < 64 → hb (M' 71 l) c = if j ≤ l then (hb (M 71 l) c && ((decide (c < tC T) && rayS T c (lnV T (l + 1) (lk 0 i)) (lk 1 i)) == bt (I 66 8) i)) else hb (M 71 l) c := by
  obtain ⟨l1, l2, l3, l4, l5, l6, l7, l8⟩ := hK
  obtain ⟨m0, m1, m2, m3, m4, m5, m6, m7, m8, m9, m10, m11, m12⟩ := l7 i hi
  intro m
  induction m with
  | zero =>
    intro j fu M hj hf
    obtain ⟨f, rfl⟩ : ∃ f, fu = f + 1 := ⟨fu - 1, by omega⟩
    rw [fX3_keepFitting_2, if_pos (show (4 : Int32) ≤ nI j from nI_le (a := 4) (by omega) (by omega))]
    exact ⟨M, rfl, fun _ _ => rfl, fun l hl c _ => by rw [if_neg (by omega)]⟩
  | succ m ih =>
    intro j fu M hj hf
    obtain ⟨f, rfl⟩ : ∃ f, fu = f + 1 := ⟨fu - 1, by omega⟩
    obtain ⟨r, er, hr⟩ := x_doors (e := lk 1 i) (hr := lk 0 i) (j := j) hO hX (by omega) m1 (hv j (by omega))
    rw [fX3_keepFitting_2, if_neg (show ¬ (4 : Int32) ≤ nI j from nI_ge (b := 4) (by omega) (by decide)), nI_1]
    simp only [if_pos (inb_nI (show i < 30 by omega) (show 30 < 2 ^ 31 by decide)), clamp_nI (show i < 2 ^ 31 by omega), m6, er, Option.bind_some, if_pos (inb_nI (show j < 4 by omega) (show 4 < 2 ^ 31 by decide)), clamp_nI (show j < 2 ^ 31 by omega), isBit_bt _ (show i < 32 by omega), b2i_eq0]
    have go : ∀ x : Int64, (∀ c, c < 64 → hb x c = (hb (M 71 j) c && ((decide (c < tC T) && rayS T c (lnV T (j + 1) (lk 0 i)) (lk 1 i)) == bt (I 66 8) i))) → ∃ M', fX3_keepFitting_2 q f (nI i) (nI (j + 1)) I (up2 M 71 j x) = some M' ∧ (∀ b, b ≠ 71 → M' b = M b) ∧ ∀ l, l < 4 → ∀ c, c < 64 → hb (M' 71 l) c = if j ≤ l then (hb (M 71 l) c && ((decide (c < tC T) && rayS T c (lnV T (l + 1) (lk 0 i)) (lk 1 i)) == bt (I 66 8) i)) else hb (M 71 l) c := by
      intro x hx
      obtain ⟨M', e1, f1, v1⟩ := ih (j + 1) f (up2 M 71 j x) (by omega) (by omega)
      refine ⟨M', e1, fun b hb => by rw [f1 b hb, upRow _ _ hb], fun l hl c hc => ?_⟩
      rw [v1 l hl c hc, up2_at]
      by_cases hlj : l = j
      · subst hlj
        rw [if_neg (by omega), if_pos ⟨rfl, rfl⟩, if_pos (Nat.le_refl _), hx c hc]
      · rw [if_neg (show ¬ (71 = 71 ∧ l = j) from fun g => hlj g.2)]
        by_cases h1 : j + 1 ≤ l
        · rw [if_pos h1, if_pos (by omega)]
        · rw [if_neg h1, if_neg (by omega)]
    cases hs : bt (I 66 8) i with
    | false =>
      rw [if_pos rfl]
      rw [hs] at go
      refine go _ (fun c hc => ?_)
      rw [hb_and, hb_not _ hc, hr c hc]
      cases (decide (c < tC T) && rayS T c (lnV T (j + 1) (lk 0 i)) (lk 1 i)) <;> rfl
    | true =>
      rw [if_neg (by decide)]
      rw [hs] at go
      refine go _ (fun c hc => ?_)
      rw [hb_and, hr c hc]
      cases (decide (c < tC T) && rayS T c (lnV T (j + 1) (lk 0 i)) (lk 1 i)) <;> rfl
/-- a set for each height -/
noncomputable def FitS (T : Nat → Nat → Nat) (I : HI) (lk : Nat → Nat → Nat) (k : Int32) (n h c : Nat) : Bool := decide (c < tC T) && !isW T c && fitR T I lk k h c n
theorem fitR_same {J : HI} {k : Int32} {h c : Nat} (e8 : J 66 8 = I 66 8) (e9 : J 66 9 = I 66 9) : ∀ i, fitR T J lk k h c i = fitR T I lk k h c i
  | 0 => rfl
  | i + 1 => by
    rw [fitR, fitR, fitR_same e8 e9 i]
    unfold cntL
    rw [e8, e9]
theorem x_cntF {M : HL} {p : Nat → Nat → Bool} (hp : ∀ l, l < 4 → ∀ c, c < 64 → hb (M 71 l) c = p l c) : fX3_countFitting M = some (nI (fb_ct (p 0) 64 + fb_ct (p 1) 64 + fb_ct (p 2) 64 + fb_ct (p 3) 64)) := by
  obtain ⟨mf, hmf⟩ := fuel_at 10 (by decide)
  have e : ∀ l, l < 4 → fb_ct (hb (M 71 l)) 64 = fb_ct (p l) 64 := fun l hl => fb_ct_cong (fun c hc => hp l hl c hc)
  have stp : ∀ (j a f : Nat), j < 4 → fX3_countFitting_4 (f + 1) (nI a) (nI j) M = fX3_countFitting_4 f (nI (a + fb_ct (p j) 64)) (nI (j + 1)) M := by
    intro j a f hj
    rw [fX3_countFitting_4, if_neg (show ¬ (4 : Int32) ≤ nI j from nI_ge (b := 4) hj (by decide)), nI_1]
    simp only [if_pos (inb_nI hj (show 4 < 2 ^ 31 by decide)), clamp_nI (show j < 2 ^ 31 by omega), x_bits, e j hj, nI_add]
  unfold fX3_countFitting
  rw [hmf, show (0 : Int32) = nI 0 from rfl, show mf + 10 = mf + 5 + 1 + 1 + 1 + 1 + 1 from rfl, stp 0 _ _ (by decide), stp 1 _ _ (by decide), stp 2 _ _ (by decide), stp 3 _ _ (by decide), fX3_countFitting_4, if_pos (show (4 : Int32) ≤ nI (3 + 1) by decide)]
  simp only [Option.bind_some, Nat.zero_add]
noncomputable def fitC (T : Nat → Nat → Nat) (I : HI) (lk : Nat → Nat → Nat) (k : Int32) (n : Nat) : Nat := fb_ct (FitS T I lk k n 1) 64 + fb_ct (FitS T I lk k n 2) 64 + fb_ct (FitS T I lk k n 3) 64 + fb_ct (FitS T I lk k n 4) 64
theorem x_ffL (hO : TOk T) (hq : isQ2 q) {k : Int32} {I0 : HI} : ∀ (m i fu : Nat) (I : HI) (L M : HL), i + m = n → m < fu → XTown T q I L → (∀ b, b ≠ 71 → M b = L b) → LookAt T lk n t I → I 66 8 = I0 66 8 → I 66 9 = I0 66 9 → (∀ l, l < 4 → ∀ c, c < 64 → hb (M 71 l) c = FitS T I0 lk k i (l + 1) c) → ∃ I' M', fX3_findFitting_13 q fu k (nI i) I M = some (nI (fitC T I0 lk k n), I', M') ∧ FK q I I' ∧ (∀ b, b ≠ 71 → M' b = M b) ∧ ∀ l, l < 4 → ∀ c, c < 64 → hb (M' 71 l) c = FitS T I0 lk k n (l + 1) c := by
  obtain ⟨mf, hmf⟩ := fuel_at 1000 (by decide)
  intro m
  induction m with
  | zero =>
    intro i fu I L M hi hf hX hM hK e8 e9 hp
    obtain ⟨f, rfl⟩ : ∃ f, fu = f + 1 := ⟨fu - 1, by omega⟩
    have : i = n := by omega
    subst this
    have l1 := hK.1
    rw [fX3_findFitting_13, hK.2.2.1, if_pos (nI_le (Nat.le_refl _) (by omega)), x_cntF (p := fun l => FitS T I0 lk k i (l + 1)) hp]
    exact ⟨I, M, rfl, fun _ _ _ => rfl, fun _ _ => rfl, hp⟩
  | succ m ih =>
    intro i fu I L M hi hf hX hM hK e8 e9 hp
    obtain ⟨f, rfl⟩ : ∃ f, fu = f + 1 := ⟨fu - 1, by omega⟩
    have l1 := hK.1
    have hin : i < n := by omega
    have ecnt : cntL I lk i k = cntL I0 lk i k := by unfold cntL; rw [e9]
    rw [fX3_findFitting_13, hK.2.2.1, if_neg (nI_ge hin (by omega)), x_counts hK hin k, nI_1, ecnt]
    simp only [Option.bind_some, b2i_eq0]
    cases hc : cntL I0 lk i k with
    | false =>
      rw [if_pos rfl]
      refine ih (i + 1) f I L M (by omega) (by omega) hX hM hK e8 e9 (fun l hl c hcc => ?_)
      rw [hp l hl c hcc]
      unfold FitS
      rw [fitR, hc]
      simp
    | true =>
      have m4 := (hK.2.2.2.2.2.2.1 i hin).2.2.2.2.1
      simp only [Bool.true_eq_false, if_false, if_pos (inb_nI (show i < 30 by omega) (show 30 < 2 ^ 31 by decide)), clamp_nI (show i < 2 ^ 31 by omega), m4]
      obtain ⟨I1, e1, f1, v1⟩ := x_lens (hr := lk 0 i) hO hq hX
      rw [e1]
      simp only [Option.bind_some]
      have hX1 : XTown T q I1 L := hX.fk hq f1 (fun _ _ => rfl)
      have hK1 := hK.fk hq f1
      obtain ⟨M1, e2, f2, v2⟩ := x_keepL hO hX1 hK1 hin v1 4 0 FUEL M (by omega) (by omega)
      unfold fX3_keepFitting
      rw [show fX3_keepFitting_2 q FUEL (nI i) 0 I1 M = _ from e2]
      simp only [Option.bind_some]
      have r66 : I1 66 = I 66 := f1 66 (by rcases hq with h | h <;> omega) (by decide)
      obtain ⟨I2, M2, e3, f3, g3, v3⟩ := ih (i + 1) f I1 L M1 (by omega) (by omega) hX1 (fun b hb => by rw [f2 b hb, hM b hb]) hK1 (by rw [r66]; exact e8) (by rw [r66]; exact e9) (fun l hl c hcc => by
        rw [v2 l hl c hcc, if_pos (Nat.zero_le _), hp l hl c hcc, r66, e8]
        unfold FitS
        rw [fitR, hc]
        cases hd : decide (c < tC T) <;> cases isW T c <;> cases fitR T I0 lk k (l + 1) c i <;> simp)
      exact ⟨I2, M2, e3, f1.trans f3, fun b hb => by rw [g3 b hb, f2 b hb], v3⟩
theorem x_ff (hO : TOk T) (hq : isQ2 q) (k : Int32) (hX : XTown T q I L) (hK : LookAt T lk n t I) : ∃ I' M', fX3_findFitting q k I L = some (nI (fitC T I lk k n), I', M') ∧ FK q I I' ∧ (∀ b, b ≠ 71 → M' b = L b) ∧ ∀ l, l < 4 → ∀ c, c < 64 → hb (M' 71 l) c = FitS T I lk k n (l + 1) c := by
  obtain ⟨mf, hmf⟩ := fuel_at 1000 (by decide)
  have l1 := hK.1
  obtain ⟨M0, e0, f0, v0⟩ := x_fillL (a := 71) (N := 4) (v := L q 4) (L := L) (by decide)
  obtain ⟨I1, M1, e1, f1, g1, v1⟩ := x_ffL (I0 := I) (k := k) hO hq n 0 FUEL I L M0 (by omega) (by omega) hX f0 hK rfl rfl (fun l hl c hc => by
    rw [v0 l, if_pos hl, hX.2.1.2 c hc]
    unfold FitS
    rw [fitR, Bool.and_true])
  unfold fX3_findFitting
  rw [e0]
  simp only [Option.bind_some]
  rw [show fX3_findFitting_13 q FUEL k 0 I M0 = _ from e1]
  exact ⟨I1, M1, rfl, f1, fun b hb => by rw [g1 b hb, f0 b hb], v1⟩
end LK
