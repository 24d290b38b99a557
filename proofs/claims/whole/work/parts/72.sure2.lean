/-! the surest way: the class -/
section SU
variable {T : Nat → Nat → Nat} {q : Nat} {N : Nat → Nat} {I : HI} {L : HL} {s S O B : Nat} {K : Bool}
noncomputable def stD (T : Nat → Nat → Nat) (N : Nat → Nat) (k : Nat) (K : Bool) (c : Nat) : Int64 := stpI T (N 8) (N 5) (N 6) 0 K k (oneI c)
noncomputable def bsD (T : Nat → Nat → Nat) (N : Nat → Nat) (k : Nat) (K : Bool) (o : Nat → Nat) (c : Nat) : Nat := if c < tC T ∧ isW T c = false then bstN (stD T N k K c) o 64 else 0
noncomputable def nxO (T : Nat → Nat → Nat) (N : Nat → Nat) (k : Nat) (o : Nat → Nat) (c : Nat) : Nat := T 0 5 * bsD T N k true o c + (100 - T 0 5) * bsD T N k (decide (N 7 = 1)) o c
noncomputable def odS (T : Nat → Nat → Nat) (N : Nat → Nat) : Nat → (Nat → Nat) → Nat → Nat
  | 0, o => o
  | r + 1, o => odS T N r (nxO T N r o)
def OI (T : Nat → Nat → Nat) (to t : Nat) (o : Nat → Nat) : Prop := (∀ c, c < 64 → o c ≤ 100 ^ t) ∧ o to = 100 ^ t ∧ ∀ c, tC T ≤ c → o c = 0
theorem p100 {t : Nat} (h : t ≤ 8) : 100 ^ t ≤ 10000000000000000 := Nat.le_trans (Nat.pow_le_pow_right (n := 100) (by decide) h) (by decide)
theorem nx_OI (hO : TOk T) {to t k : Nat} {o : Nat → Nat} (ht : grd T to) (h : OI T to t o) : OI T to (t + 1) (nxO T N k o) := by
  have hcl := hO.2.2.2.2.1
  have t64 := grd_64 hO ht
  have bd : ∀ K c, bsD T N k K o c ≤ 100 ^ t := by
    intro K c
    unfold bsD
    split
    · exact bst_le h.1 64 (Nat.le_refl _)
    · exact Nat.zero_le _
  refine ⟨fun c hc => ?_, ?_, fun c hc => ?_⟩
  · unfold nxO
    have h1 := Nat.mul_le_mul_left (T 0 5) (bd true c)
    have h2 := Nat.mul_le_mul_left (100 - T 0 5) (bd (decide (N 7 = 1)) c)
    have h3 : T 0 5 * 100 ^ t + (100 - T 0 5) * 100 ^ t = 100 * 100 ^ t := by rw [← Nat.add_mul]; congr 1; omega
    rw [Nat.pow_succ]
    omega
  · have eq : ∀ K, bsD T N k K o to = 100 ^ t := by
      intro K
      apply Nat.le_antisymm (bd K to)
      unfold bsD
      rw [if_pos (show to < tC T ∧ isW T to = false from ht), ← h.2.1]
      exact bst_ge ((stp_iff hO (one_GS hO ht)).mpr ⟨to, (one_iff t64).mpr rfl, mv_refl⟩) 64 t64
    unfold nxO
    rw [eq, eq, ← Nat.add_mul, show T 0 5 + (100 - T 0 5) = 100 by omega, Nat.pow_succ, Nat.mul_comm]
  · unfold nxO bsD
    rw [if_neg (by omega), if_neg (by omega)]
    simp
theorem fillL {a N : Nat} {v : Int64} (hN : N < 10000) : ∀ (m k fu : Nat) (L : HL), k + m = N → m < fu → ∃ L', fJ7_fill_d0a16_6 a N fu v (nI k) (nI N) L = some L' ∧ (∀ b, b ≠ a → L' b = L b) ∧ ∀ j, L' a j = if k ≤ j ∧ j < N then v else L a j := by
  intro m
  induction m with
  | zero =>
    intro k fu L hk hf
    obtain ⟨f, rfl⟩ : ∃ f, fu = f + 1 := ⟨fu - 1, by omega⟩
    rw [fJ7_fill_d0a16_6, if_pos (nI_le (by omega) (by omega))]
    exact ⟨L, rfl, fun _ _ => rfl, fun j => by rw [if_neg (by omega)]⟩
  | succ m ih =>
    intro k fu L hk hf
    obtain ⟨f, rfl⟩ : ∃ f, fu = f + 1 := ⟨fu - 1, by omega⟩
    rw [fJ7_fill_d0a16_6, if_neg (nI_ge (by omega) (by omega)), if_pos (inb_nI (by omega) (by omega)), clamp_nI (by omega), nI_1]
    obtain ⟨L', e, f1, h⟩ := ih (k + 1) f (up2 L a k v) (by omega) (by omega)
    refine ⟨L', e, fun b hb => by rw [f1 b hb, upRow L v hb], fun j => ?_⟩
    rw [h j, up2_at]
    by_cases hj : j = k
    · subst hj; rw [if_neg (by omega), if_pos ⟨rfl, rfl⟩, if_pos (by omega)]
    · rw [if_neg (show ¬ (a = a ∧ j = k) from fun h => hj h.2)]
      by_cases hj2 : k + 1 ≤ j ∧ j < N
      · rw [if_pos hj2, if_pos (by omega)]
      · rw [if_neg hj2, if_neg (by omega)]
theorem x_fillL {a N : Nat} {v : Int64} {L : HL} (hN : N < 10000) : ∃ L', fJ7_fill_d0a16 a N v L = some L' ∧ (∀ b, b ≠ a → L' b = L b) ∧ ∀ j, L' a j = if j < N then v else L a j := by
  obtain ⟨mf, hmf⟩ := fuel_at 20000 (by decide)
  obtain ⟨L', e, f1, h⟩ := fillL (a := a) (v := v) hN N 0 FUEL L (by omega) (by omega)
  unfold fJ7_fill_d0a16
  rw [show (0 : Int32) = nI 0 from rfl, show Int32.ofNat N = nI N from rfl, e]
  refine ⟨L', rfl, f1, fun j => ?_⟩
  rw [h j]
  simp
def FS (q : Nat) (I I' : HI) (L L' : HL) : Prop := (∀ b, b ≠ q + 21 → b ≠ 57 → b ≠ 59 → b ≠ 60 → I' b = I b) ∧ ∀ b, b ≠ 57 → b ≠ 58 → b ≠ 61 → b ≠ 64 → b ≠ 65 → L' b = L b
theorem FS.trans {I J K : HI} {L M P : HL} (h : FS q I J L M) (g : FS q J K M P) : FS q I K L P := ⟨fun b h1 h2 h3 h4 => by rw [g.1 b h1 h2 h3 h4, h.1 b h1 h2 h3 h4], fun b h1 h2 h3 h4 h5 => by rw [g.2 b h1 h2 h3 h4 h5, h.2 b h1 h2 h3 h4 h5]⟩
theorem FX.fs {I I' : HI} {L L' : HL} (f : FX q I I' L L') : FS q I I' L L' := ⟨f.1, fun b h1 h2 _ _ _ => f.2 b h1 h2⟩
theorem XA.frL {M : HL} (hq : isQ2 q) (h : XA T q s S O B K I L) (hL : ∀ b, b ≠ 61 → b ≠ 64 → b ≠ 65 → M b = L b) : XA T q s S O B K I M := by
  refine ⟨h.1.fr (fun _ _ _ => rfl) ⟨hL q (by rcases hq with h | h <;> omega) (by rcases hq with h | h <;> omega) (by rcases hq with h | h <;> omega), hL (q + 22) (by rcases hq with h | h <;> omega) (by rcases hq with h | h <;> omega) (by rcases hq with h | h <;> omega)⟩, ?_⟩
  have h2 := h.2
  unfold SkyAt SkyN at *
  rw [hL 57 (by decide) (by decide) (by decide), hL 58 (by decide) (by decide) (by decide)]
  exact h2
/-- dark or not -/
theorem XA.dark (hq : isQ2 q) (h : XA T q s S O B K I L) (K' : Bool) : ∃ I' L', fX7_darken (b2i K') I L = some (I', L') ∧ XA T q s S O B K' I' L' ∧ FX q I I' L L' := by
  have e : fX7_darken (b2i K') I L = some (up2 I 57 5 (b2i K'), up2 L 57 6 0) := by
    unfold fX7_darken
    cases K' <;> rfl
  refine ⟨_, _, e, ⟨h.1.fr (fun b _ _ => upRow _ _ (by rcases hq with h | h <;> omega)) ⟨upRow _ _ (by rcases hq with h | h <;> omega), upRow _ _ (by rcases hq with h | h <;> omega)⟩, ?_, ?_, ?_, ?_, ?_, fun n _ hb' => ?_⟩, FX.f57 (fun r hr => upRow _ _ hr) (fun r hr => upRow _ _ hr)⟩
  · simp [up2_at]; exact h.2.1
  · simp [up2_at]; exact h.2.2.1
  · simp [up2_at]; exact h.2.2.2.1
  · simp [up2_at]; exact h.2.2.2.2.1
  · simp [up2_at]
  · rw [up2_at, if_pos ⟨rfl, rfl⟩, hb_0] at hb'
    cases hb'
theorem x_canSt (hO : TOk T) (hX : XTown T q I L) {c : Nat} (hc : c < tC T) : fX5_canStand q (nI c) I L = !isW T c := by
  have hC := tC_le hO.1
  unfold fX5_canStand tbn
  rw [if_neg (nI_pos (by omega)), hX.1.2.2, if_neg (nI_ge hc (by omega))]
  simp only [ushr1_0 _ (show c < 64 by omega), hX.2.1.2 c (by omega), decide_eq_true hc, Bool.true_and]
  cases isW T c <;> rfl
def FA (q : Nat) (I I' : HI) (L L' : HL) : Prop := (∀ b, b ≠ q + 21 → b ≠ 57 → b ≠ 59 → b ≠ 60 → I' b = I b) ∧ ∀ b, b ≠ 57 → b ≠ 58 → b ≠ 65 → L' b = L b
theorem x_addL (hO : TOk T) (hq : isQ2 q) (hN : NRng N) {r w : Nat} {o a : Nat → Nat} (hr : r ≤ 48) (hw : w ≤ 100) (ho : ∀ e, e < 64 → o e < 2 ^ 63) : ∀ (m c fu : Nat) (I : HI) (L : HL), c + m = tC T → m < fu → XA T q (N 8) (N 5) (N 6) 0 K I L → (∀ e, e < 64 → L 64 e = lN (o e)) → (∀ e, e < 64 → L 65 e = lN (if e < c then a e + w * bsD T N r K o e else a e)) → ∃ I' L', fX10_addBest_7 q fu (nI r) (nI w) (nI c) I L = some (I', L') ∧ XA T q (N 8) (N 5) (N 6) 0 K I' L' ∧ FA q I I' L L' ∧ ∀ e, e < 64 → L' 65 e = lN (if e < tC T then a e + w * bsD T N r K o e else a e) := by
  have hC := tC_le hO.1
  intro m
  induction m with
  | zero =>
    intro c fu I L hc hf h h64 h65
    obtain ⟨f, rfl⟩ : ∃ f, fu = f + 1 := ⟨fu - 1, by omega⟩
    rw [fX10_addBest_7, h.1.1.2.2, if_pos (nI_le (by omega) (by omega))]
    rw [show c = tC T by omega] at h65
    exact ⟨I, L, rfl, h, ⟨fun _ _ _ _ _ => rfl, fun _ _ _ _ => rfl⟩, h65⟩
  | succ m ih =>
    intro c fu I L hc hf h h64 h65
    obtain ⟨f, rfl⟩ : ∃ f, fu = f + 1 := ⟨fu - 1, by omega⟩
    have hc4 : c < tC T := by omega
    rw [fX10_addBest_7, h.1.1.2.2, if_neg (nI_ge hc4 (by omega)), x_canSt hO h.1 hc4, nI_1]
    simp only [b2i_eq0]
    cases hw' : isW T c with
    | true =>
      simp only [Bool.not_true, if_true]
      refine ih (c + 1) f I L (by omega) (by omega) h h64 (fun e he => ?_)
      rw [h65 e he]
      by_cases hec : e = c
      · subst hec
        rw [if_neg (Nat.lt_irrefl _), if_pos (Nat.lt_succ_self _)]
        unfold bsD
        rw [if_neg (by rw [hw']; simp), Nat.mul_zero, Nat.add_zero]
      · by_cases h1 : e < c
        · rw [if_pos h1, if_pos (by omega)]
        · rw [if_neg h1, if_neg (by omega)]
    | false =>
      have hg : grd T c := ⟨hc4, hw'⟩
      simp only [Bool.not_false, Bool.true_eq_false, if_false, if_pos (inb_nI (show c < 64 by omega) (show 64 < 2 ^ 31 by decide)), clamp_nI (show c < 2 ^ 31 by omega)]
      obtain ⟨I1, L1, e1, f1, s1, _⟩ := x_stp (S2 := 0) (n := r) (x := oneI c) hO hq h.1 (ShS hN).1 hr h.2 (one_GS hO hg)
      rw [Nat.or_zero] at e1
      rw [show fX7_stepFrom q ((1 : Int64) <<< ((nI c).toInt64 &&& 63)) (nI r) 0 I L = _ from e1]
      have r64 : L1 64 = L 64 := f1.2 64 (by decide) (by decide)
      have r65 : L1 65 = L 65 := f1.2 65 (by decide) (by decide)
      simp only [Option.bind_some, x_bestOf (L := L1) (fun e he => by rw [r64]; exact h64 e he) ho]
      have hval : L 65 c + (nI w).toInt64 * lN (bstN (stpI T (N 8) (N 5) (N 6) 0 K r (oneI c)) o 64) = lN (a c + w * bsD T N r K o c) := by
        rw [h65 c (by omega), if_neg (Nat.lt_irrefl _), nI_l (by omega), lN_mul, lN_addn]
        unfold bsD
        rw [if_pos (show c < tC T ∧ isW T c = false from hg)]
        rfl
      rw [hval]
      obtain ⟨I2, L2, e2, x2, f2, v2⟩ := ih (c + 1) f I1 (up2 L1 65 c (lN (a c + w * bsD T N r K o c))) (by omega) (by omega) (XA.frL hq ⟨h.1.fx hq f1, s1⟩ (fun b _ _ h3 => upRow _ _ h3)) (fun e he => by rw [upRow _ _ (by decide), r64]; exact h64 e he) (fun e he => by
        rw [up2_at]
        by_cases hec : e = c
        · subst hec
          rw [if_pos ⟨rfl, rfl⟩, if_pos (Nat.lt_succ_self _)]
        · rw [if_neg (fun g => hec g.2), r65, h65 e he]
          by_cases h1 : e < c
          · rw [if_pos h1, if_pos (by omega)]
          · rw [if_neg h1, if_neg (by omega)])
      refine ⟨I2, L2, e2, x2, ⟨fun b h1 h2 h3 h4 => by rw [f2.1 b h1 h2 h3 h4, f1.1 b h1 h2 h3 h4], fun b h1 h2 h3 => by rw [f2.2 b h1 h2 h3, upRow _ _ h3, f1.2 b h1 h2]⟩, v2⟩
theorem bsD_out {r e : Nat} {o : Nat → Nat} (h : ¬ e < tC T) : bsD T N r K o e = 0 := by
  unfold bsD
  rw [if_neg (fun g => h g.1)]
theorem x_addB (hO : TOk T) (hq : isQ2 q) (hN : NRng N) {r w : Nat} {o a : Nat → Nat} (hr : r ≤ 48) (hw : w ≤ 100) (ho : ∀ e, e < 64 → o e < 2 ^ 63) (h : XA T q (N 8) (N 5) (N 6) 0 K I L) (h64 : ∀ e, e < 64 → L 64 e = lN (o e)) (h65 : ∀ e, e < 64 → L 65 e = lN (a e)) : ∃ I' L', fX10_addBest q (nI r) (nI w) I L = some (I', L') ∧ XA T q (N 8) (N 5) (N 6) 0 K I' L' ∧ FA q I I' L L' ∧ ∀ e, e < 64 → L' 65 e = lN (a e + w * bsD T N r K o e) := by
  obtain ⟨mf, hmf⟩ := fuel_at 1000 (by decide)
  have hC := tC_le hO.1
  unfold fX10_addBest
  by_cases hw0 : w = 0
  · rw [if_pos (by rw [hw0]; rfl)]
    refine ⟨I, L, rfl, h, ⟨fun _ _ _ _ _ => rfl, fun _ _ _ _ => rfl⟩, fun e he => ?_⟩
    rw [h65 e he, hw0, Nat.zero_mul, Nat.add_zero]
  · rw [if_neg (nI_ne0 (by omega) (by omega))]
    obtain ⟨I1, L1, e1, x1, f1, v1⟩ := x_addL (r := r) (w := w) (a := a) hO hq hN hr hw ho (tC T) 0 FUEL I L (by omega) (by omega) h h64 (fun e he => by rw [if_neg (Nat.not_lt_zero _)]; exact h65 e he)
    rw [show fX10_addBest_7 q FUEL (nI r) (nI w) 0 I L = _ from e1]
    refine ⟨I1, L1, rfl, x1, f1, fun e he => ?_⟩
    rw [v1 e he]
    by_cases hec : e < tC T
    · rw [if_pos hec]
    · rw [if_neg hec, bsD_out hec, Nat.mul_zero, Nat.add_zero]
theorem x_wgL (hO : TOk T) (hq : isQ2 q) (hN : NRng N) {v : Int32} {to : Nat} (ht : grd T to) : ∀ (r t fu : Nat) (o : Nat → Nat) (I : HI) (L : HL), r + t ≤ 8 → r < fu → XA T q (N 8) (N 5) (N 6) 0 (decide (N 7 = 1)) I L → OI T to t o → (∀ e, e < 64 → L 64 e = lN (o e)) → L 61 6 = lN (100 ^ t) → ∃ I' L', fX10_weighOdds_46 q fu v (nI (T 0 5)) (b2i (decide (N 7 = 1))) (nI r - 1) I L = some (I', L') ∧ XA T q (N 8) (N 5) (N 6) 0 (decide (N 7 = 1)) I' L' ∧ FS q I I' L L' ∧ (∀ e, e < 64 → L' 64 e = lN (odS T N r o e)) ∧ L' 61 6 = lN (100 ^ (t + r)) ∧ OI T to (t + r) (odS T N r o) := by
  have hcl := hO.2.2.2.2.1
  intro r
  induction r with
  | zero =>
    intro t fu o I L hr hf h hoi h64 h61
    obtain ⟨f, rfl⟩ : ∃ f, fu = f + 1 := ⟨fu - 1, by omega⟩
    rw [fX10_weighOdds_46, if_pos (by decide)]
    exact ⟨I, L, rfl, h, ⟨fun _ _ _ _ _ => rfl, fun _ _ _ _ _ _ => rfl⟩, h64, h61, hoi⟩
  | succ r ih =>
    intro t fu o I L hr hf h hoi h64 h61
    obtain ⟨f, rfl⟩ : ∃ f, fu = f + 1 := ⟨fu - 1, by omega⟩
    have hp := p100 (t := t) (by omega)
    have ho : ∀ e, e < 64 → o e < 2 ^ 63 := fun e he => by have := hoi.1 e he; omega
    obtain ⟨L1, e1, g1, v1⟩ := x_fillL (a := 65) (N := 64) (v := (0 : Int64)) (L := L) (by decide)
    have x1 : XA T q (N 8) (N 5) (N 6) 0 (decide (N 7 = 1)) I L1 := h.frL hq (fun b _ _ h3 => g1 b h3)
    obtain ⟨I2, L2, e2, x2, f2⟩ := x1.dark hq true
    have a64 : ∀ e, e < 64 → L2 64 e = lN (o e) := fun e he => by rw [f2.2 64 (by decide) (by decide), g1 64 (by decide)]; exact h64 e he
    obtain ⟨I3, L3, e3, x3, f3, v3⟩ := x_addB (r := r) (w := T 0 5) (a := fun _ => 0) hO hq hN (by omega) hcl ho x2 a64 (fun e he => by rw [f2.2 65 (by decide) (by decide), v1 e, if_pos he]; rfl)
    obtain ⟨I4, L4, e4, x4, f4⟩ := x3.dark hq (decide (N 7 = 1))
    have b64 : ∀ e, e < 64 → L4 64 e = lN (o e) := fun e he => by rw [f4.2 64 (by decide) (by decide), f3.2 64 (by decide) (by decide) (by decide)]; exact a64 e he
    obtain ⟨I5, L5, e5, x5, f5, v5⟩ := x_addB (r := r) (w := 100 - T 0 5) (a := fun e => 0 + T 0 5 * bsD T N r true o e) hO hq hN (by omega) (by omega) ho x4 b64 (fun e he => by rw [f4.2 65 (by decide) (by decide)]; exact v3 e he)
    have r61 : L5 61 6 = lN (100 ^ t) := by
      rw [f5.2 61 (by decide) (by decide) (by decide), f4.2 61 (by decide) (by decide), f3.2 61 (by decide) (by decide) (by decide), f2.2 61 (by decide) (by decide), g1 61 (by decide)]; exact h61
    -- the sums become the odds
    have hcp : ∀ b j, cp2 L5 65 0 64 0 64 b j = if b = 64 then (if j < 64 then L5 65 j else L5 64 j) else L5 b j := by
      intro b j
      unfold cp2
      by_cases hb : b = 64
      · rw [if_pos hb, if_pos hb]
        by_cases hj : j < 64
        · rw [if_pos hj, pk_cpy_in (Nat.zero_le _) (by omega)]; congr 1; omega
        · rw [if_neg hj, pk_cpy_out (Or.inr (by omega))]
      · rw [if_neg hb, if_neg hb]
    have hcpr : ∀ b, b ≠ 64 → cp2 L5 65 0 64 0 64 b = L5 b := fun b hb => by
      funext j; rw [hcp b j, if_neg hb]
    rw [nI_pred, fX10_weighOdds_46, if_neg (nI_pos (by omega)), e1]
    simp only [Option.bind_some]
    rw [show fX7_darken 1 I L1 = some (I2, L2) from e2]
    simp only [Option.bind_some, e3, e4]
    rw [show (100 : Int32) - nI (T 0 5) = nI (100 - T 0 5) from pk_sub (a := 100) hcl]
    simp only [e5, Option.bind_some]
    rw [if_pos (by decide), show nI r + (-1 : Int32) = nI r - 1 from (Int32.sub_eq_add_neg _ _).symm]
    rw [show ((0 : Int32).toNatClampNeg) = 0 from rfl, show ((64 : Int32).toNatClampNeg) = 64 from rfl]
    have hmul : cp2 L5 65 0 64 0 64 61 6 * (100 : Int64) = lN (100 ^ (t + 1)) := by
      rw [hcpr 61 (by decide), r61, show (100 : Int64) = lN 100 from rfl, lN_mul, Nat.pow_succ]
    rw [hmul]
    have xl : XA T q (N 8) (N 5) (N 6) 0 (decide (N 7 = 1)) I5 (up2 (cp2 L5 65 0 64 0 64) 61 6 (lN (100 ^ (t + 1)))) := x5.frL hq (fun b h1 h2 _ => by rw [upRow _ _ h1, hcpr b h2])
    obtain ⟨I6, L6, e6, x6, f6, v6, w6, o6⟩ := ih (t + 1) f (nxO T N r o) I5 (up2 (cp2 L5 65 0 64 0 64) 61 6 (lN (100 ^ (t + 1)))) (by omega) (by omega) xl (nx_OI hO ht hoi) (fun e he => by
      rw [upRow _ _ (by decide), hcp 64 e, if_pos rfl, if_pos he, v5 e he]
      unfold nxO
      rw [Nat.zero_add]) (by simp [up2_at])
    refine ⟨I6, L6, e6, x6, FS.trans ⟨fun b h1 h2 h3 h4 => ?_, fun b h1 h2 h3 h4 h5 => ?_⟩ f6, v6, by rw [w6]; congr 2; omega, by rw [show t + (r + 1) = t + 1 + r by omega]; exact o6⟩
    · rw [f5.1 b h1 h2 h3 h4, f4.1 b h1 h2 h3 h4, f3.1 b h1 h2 h3 h4, f2.1 b h1 h2 h3 h4]
    · rw [upRow _ _ h3, hcpr b h4, f5.2 b h1 h2 h5, f4.2 b h1 h2, f3.2 b h1 h2 h5, f2.2 b h1 h2, g1 b h5]
end SU
