/-! what has been told so far, on both sides -/
def stand (T : Nat → Nat → Nat) (c : Nat) : Prop := (∃ d, d < tnD T ∧ T 2 d = c) ∨ (∃ l, l < tnL T ∧ T 6 l = c) ∨ (∃ p, p < tnP T ∧ T 9 p = c)
def dstand (T : Nat → Nat → Nat) (c : Nat) : Prop := ∃ d, d < tnD T ∧ T 2 d = c
def taken (T : Nat → Nat → Nat) (k c : Nat) : Prop := isW T c = true ∨ (k = 2 ∧ stand T c) ∨ (k = 3 ∧ dstand T c)
def NmOk (T : Nat → Nat → Nat) (N : Nat → Nat → List Nat) : Prop := (∀ d, d < tnD T → lets (N 0 d) ∧ (N 0 d).length ≤ 8) ∧ (∀ d, d < tnL T → lets (N 1 d) ∧ (N 1 d).length ≤ 8) ∧ (∀ d, d < tnP T → lets (N 2 d) ∧ (N 2 d).length ≤ 8)
def DX (T : Nat → Nat → Nat) (N : Nat → Nat → List Nat) (tl : Nat) (I : HI) (L : HL) : Prop := XSize T tl I ∧ (∀ c, c < 64 → hb (L tl 3) c = isW T c) ∧ I tl 10 = nI (T 0 5) ∧ I (tl + 1) 0 = nI (tnD T) ∧ (∀ d, d < tnD T → I (tl + 3) d = nI (T 2 d) ∧ I (tl + 4) d = nI (T 3 d) ∧ I (tl + 5) d = nI (T 4 d) ∧ I (tl + 6) d = nI (T 5 d) ∧ L (tl + 2) d = lN (nm5 (N 0 d))) ∧ I (tl + 7) 0 = nI (tnL T) ∧ (∀ l, l < tnL T → I (tl + 9) l = nI (T 6 l) ∧ I (tl + 11) l = nI (T 7 l) ∧ I (tl + 12) l = nI (T 8 l) ∧ L (tl + 8) l = lN (nm5 (N 1 l))) ∧ I (tl + 13) 0 = nI (tnP T) ∧ (∀ p, p < tnP T → I (tl + 15) p = nI (T 9 p) ∧ L (tl + 14) p = lN (nm5 (N 2 p))) ∧ XForm T (tl + 19) I ∧ I (tl + 19) 3 = nI (T 0 6) ∧ I (tl + 19) 4 = b2i (datd T)
def DM (T : Nat → Nat → Nat) (N : Nat → Nat → List Nat) (J : HI) (M : HL) : Prop := J 73 45 = nI (tW T) ∧ J 73 46 = nI (tD T) ∧ (∀ c, c < 64 → hb (M 73 41) c = isW T c) ∧ (∀ c, c < 64 → (hb (M 73 42) c = true ↔ stand T c)) ∧ (∀ c, c < 64 → (hb (M 73 43) c = true ↔ dstand T c)) ∧ J 73 47 = nI (fb_ct (isW T) 64) ∧ J 73 48 = nI (tnD T) ∧ J 73 49 = nI (tnL T) ∧ J 73 50 = nI (tnP T) ∧ J 73 51 = nI (T 0 5) ∧ J 73 20 = nI (T 0 6) ∧ (∀ d, d < tnD T → J 83 d = nI (T 2 d) ∧ J 84 d = nI (T 3 d) ∧ J 85 d = nI (T 4 d) ∧ J 86 d = nI (T 5 d) ∧ M 75 d = lN (wd8 (N 0 d))) ∧ (∀ l, l < tnL T → J 87 l = nI (T 6 l) ∧ J 88 l = nI (T 7 l) ∧ J 89 l = nI (T 8 l) ∧ M 75 (8 + l) = lN (wd8 (N 1 l))) ∧ (∀ p, p < tnP T → J 90 p = nI (T 9 p) ∧ M 75 (12 + p) = lN (wd8 (N 2 p))) ∧ J 73 17 = nI (tNS T) ∧ ∀ k, k < tNS T → J 76 k = nI (T 10 k) ∧ J 77 k = nI (T 11 k)
section DR
variable {B : Nat → Nat} {n p tl : Nat} {T : Nat → Nat → Nat} {N : Nat → Nat → List Nat} {I I' I2 : HI} {L L' L2 : HL} {J J' J2 : HI} {M M' M2 : HL}
theorem DX.fr (h : DX T N tl I L) (hI : ∀ a, tl ≤ a → a ≤ tl + 20 → I' a = I a) (hL : ∀ a, tl ≤ a → a ≤ tl + 20 → L' a = L a) : DX T N tl I' L' := by
  unfold DX XSize XForm at *
  rw [hI tl (by omega) (by omega), hI (tl + 1) (by omega) (by omega), hI (tl + 3) (by omega) (by omega), hI (tl + 4) (by omega) (by omega), hI (tl + 5) (by omega) (by omega), hI (tl + 6) (by omega) (by omega), hI (tl + 7) (by omega) (by omega), hI (tl + 9) (by omega) (by omega), hI (tl + 11) (by omega) (by omega), hI (tl + 12) (by omega) (by omega), hI (tl + 13) (by omega) (by omega), hI (tl + 15) (by omega) (by omega), hI (tl + 19) (by omega) (by omega), hI (tl + 19 + 1) (by omega) (by omega), hL tl (by omega) (by omega), hL (tl + 2) (by omega) (by omega), hL (tl + 8) (by omega) (by omega), hL (tl + 14) (by omega) (by omega)]
  exact h
theorem DX.fa (h : DX T N tl I L) (ht : isQ2 tl) (f : XA2 I I' L L') : DX T N tl I' L' := by
  refine h.fr (fun a h1 h2 => f.1 a ?_ ?_) (fun a h1 h2 => f.2.2.2 a ?_) <;> rcases ht with e | e <;> omega
theorem DM.fr (h : DM T N J M) (h73 : ∀ j, j = 17 ∨ j = 20 ∨ (45 ≤ j ∧ j ≤ 51) → J' 73 j = J 73 j) (hJ : ∀ a, a = 76 ∨ a = 77 ∨ (83 ≤ a ∧ a ≤ 90) → J' a = J a) (hM : ∀ j, 41 ≤ j ∧ j ≤ 43 → M' 73 j = M 73 j) (h75 : ∀ i, (i < tnD T) ∨ (8 ≤ i ∧ i < 8 + tnL T) ∨ (12 ≤ i ∧ i < 12 + tnP T) → M' 75 i = M 75 i) : DM T N J' M' := by
  unfold DM at *
  rw [h73 17 (by omega), h73 20 (by omega), h73 45 (by omega), h73 46 (by omega), h73 47 (by omega), h73 48 (by omega), h73 49 (by omega), h73 50 (by omega), h73 51 (by omega), hJ 76 (by omega), hJ 77 (by omega), hJ 83 (by omega), hJ 84 (by omega), hJ 85 (by omega), hJ 86 (by omega), hJ 87 (by omega), hJ 88 (by omega), hJ 89 (by omega), hJ 90 (by omega), hM 41 (by omega), hM 42 (by omega), hM 43 (by omega)]
  obtain ⟨a1, a2, a3, a4, a5, a6, a7, a8, a9, a10, a11, a12, a13, a14, a15⟩ := h
  refine ⟨a1, a2, a3, a4, a5, a6, a7, a8, a9, a10, a11, fun d hd => ?_, fun d hd => ?_, fun d hd => ?_, a15⟩
  · rw [h75 d (by omega)]; exact a12 d hd
  · rw [h75 (8 + d) (by omega)]; exact a13 d hd
  · rw [h75 (12 + d) (by omega)]; exact a14 d hd
theorem DM.fb (h : DM T N J M) (f : XB2 J J' M M') : DM T N J' M' := h.fr (fun j hj => f.2.1 j (by omega)) (fun a ha => f.1 a (by omega)) (fun j hj => f.2.2.2 j (by omega)) (fun i _ => by rw [f.2.2.1 75 (by decide)])
theorem cap_of (ht : isQ2 tl) : capT (tl + 1) = 8 ∧ capT (tl + 7) = 4 ∧ capT (tl + 13) = 4 := by
  unfold capT
  rcases ht with e | e <;> subst e <;> decide
theorem x_stand {tt m c : Nat} {f : Nat → Nat} (hm : I tt 0 = nI m) (hcap : m ≤ capT tt) (h8 : capT tt ≤ 8) (hf : ∀ i, i < m → I (tt + 2) i = nI (f i)) (hf64 : ∀ i, i < m → f i < 64) (hc : c < 64) : ∃ b, fX8_standAt tt (nI c) I = some b ∧ (b = true ↔ ∃ i, i < m ∧ f i = c) := by
  have key : ∀ (d k fu : Nat), k + d = m → d < fu → (∀ i, i < k → f i ≠ c) → ∃ b, fX8_standAt_2 tt fu (nI c) (nI k) I = some b ∧ (b = true ↔ ∃ i, i < m ∧ f i = c) := by
    intro d
    induction d with
    | zero =>
      intro k fu hk hf' hno
      obtain ⟨f', rfl⟩ : ∃ f', fu = f' + 1 := ⟨fu - 1, by omega⟩
      rw [fX8_standAt_2, hm, if_pos (nI_le (by omega) (by omega))]
      refine ⟨false, rfl, ⟨fun h => (by cases h), fun ⟨i, h1, h2⟩ => absurd h2 (hno i (by omega))⟩⟩
    | succ d ih =>
      intro k fu hk hf' hno
      obtain ⟨f', rfl⟩ : ∃ f', fu = f' + 1 := ⟨fu - 1, by omega⟩
      have := hf64 k (by omega)
      rw [fX8_standAt_2, hm, if_neg (nI_ge (by omega) (by omega)), if_pos (inb_nI (by omega) (by omega)), clamp_nI (by omega), hf k (by omega)]
      by_cases e : f k = c
      · rw [if_pos (by rw [e])]
        exact ⟨true, rfl, ⟨fun _ => ⟨k, by omega, e⟩, fun _ => rfl⟩⟩
      · rw [if_neg (fun g => e ((nI_eq (by omega) (by omega)).mp g)), nI_1]
        refine ih (k + 1) f' (by omega) (by omega) (fun i hi => ?_)
        rcases Nat.lt_or_ge i k with g | g
        · exact hno i g
        · rw [show i = k by omega]; exact e
  obtain ⟨fu, hfu⟩ := fuel_at 20 (by decide)
  obtain ⟨b, h1, h2⟩ := key m 0 FUEL (by omega) (by omega) (by omega)
  refine ⟨b, ?_, h2⟩
  unfold fX8_standAt
  rw [show (0 : Int32) = nI 0 from rfl, h1, Option.bind_some]
theorem TOk.c64 (h : TOk T) {c : Nat} (hc : grd T c) : c < 64 := by
  have := tC_le h.1
  exact Nat.lt_of_lt_of_le hc.1 this
theorem x_taken (ht : isQ2 tl) (hT : TOk T) (hD : DX T N tl I L) {k c : Nat} (hc : c < 64) (h4 : I 48 4 = nI c) (hk : k < 256) : ∃ b, fX6_isTaken tl (nI k) I L = some b ∧ (b = true ↔ taken T k c) := by
  obtain ⟨q1, q2, q3⟩ := cap_of ht
  obtain ⟨d1, d2, d3, d4, d5, d6, d7, d8, d9, d10⟩ := hD
  obtain ⟨b1, e1, f1⟩ := x_stand (tt := tl + 1) (c := c) (f := T 2) d4 (by rw [q1]; exact hT.2.1) (by omega) (fun i hi => (d5 i hi).1) (fun i hi => hT.c64 (hT.2.2.2.2.2.2.1 i hi).1) hc
  obtain ⟨b2, e2, f2⟩ := x_stand (tt := tl + 7) (c := c) (f := T 6) d6 (by rw [q2]; exact hT.2.2.1) (by omega) (fun i hi => (d7 i hi).1) (fun i hi => hT.c64 (hT.2.2.2.2.2.2.2.1 i hi).1) hc
  obtain ⟨b3, e3, f3⟩ := x_stand (tt := tl + 13) (c := c) (f := T 9) d8 (by rw [q3]; exact hT.2.2.2.1) (by omega) (fun i hi => (d9 i hi).1) (fun i hi => hT.c64 (hT.2.2.2.2.2.2.2.2.1 i hi)) hc
  unfold fX6_isTaken taken
  rw [h4]
  simp only [ushr1_0 (L tl 3) hc, d2 c hc]
  cases hw : isW T c with
  | true =>
    rw [if_neg (by decide)]
    exact ⟨true, rfl, by simp⟩
  | false =>
    rw [if_pos rfl, e1, e2, e3]
    simp only [Option.bind_some, b2i_eq0, Bool.false_eq_true, false_or]
    by_cases k2 : k = 2
    · rw [if_pos (show nI k = (2 : Int32) by rw [k2]; rfl)]
      refine ⟨b1 || b2 || b3, ?_, ?_⟩
      · cases b1 <;> cases b2 <;> cases b3 <;> rfl
      · unfold stand
        rw [← f1, ← f2, ← f3]
        simp [k2, or_assoc]
    · rw [if_neg (show ¬ nI k = (2 : Int32) from ne_lit hk (by decide) k2)]
      by_cases k3 : k = 3
      · rw [if_pos (show nI k = (3 : Int32) by rw [k3]; rfl)]
        refine ⟨b1, ?_, ?_⟩
        · cases b1 <;> rfl
        · unfold dstand
          rw [← f1]
          simp [k3]
      · rw [if_neg (show ¬ nI k = (3 : Int32) from ne_lit hk (by decide) k3)]
        exact ⟨false, rfl, by simp [k2, k3]⟩
theorem m_rcell_bad (h : isBd J) (v : Int64) : ∃ x, fX12_readCell v J M = some (x, J, M) := by
  unfold fX12_readCell
  rw [m_num_bad h, Option.bind_some, m_num_bad h, Option.bind_some]
  simp only [if_neg h.2, Option.bind_some, if_true]
  exact ⟨_, rfl⟩
theorem cell_lt {x y w d : Nat} (hx : x ≤ w - 1) (hy : y ≤ d - 1) (hw : 1 ≤ w) (hd : 1 ≤ d) : y * w + x < w * d := by
  have h1 : (y + 1) * w ≤ d * w := Nat.mul_le_mul_right w (by omega)
  rw [Nat.add_mul, Nat.one_mul, Nat.mul_comm d w] at h1
  omega
theorem nI_m1 {w : Nat} (h : 1 ≤ w) : nI w - 1 = nI (w - 1) := pk_sub (b := 1) h
theorem s_num0 (h : RT2 B n p I L J M) {b : Nat} (hb' : b < 100000) : (nOk B n p 0 b ∧ ∃ I' L' J' M', fX6_takeNumber (0 : Int32) (nI b) I L = some (true, I', L') ∧ fX12_toldNumber (0 : Int32) (nI b) J M = some (nI (vl B n p), J', M') ∧ RT2 B n (nx B n p) I' L' J' M' ∧ I' 48 3 = nI (vl B n p) ∧ LxN I I' L L' ∧ LxB J J' M M') ∨ (¬ nOk B n p 0 b ∧ fX6_takeNumber (0 : Int32) (nI b) I L = some (false, rfX B n p (nF B n p) I, L) ∧ ∃ v, fX12_toldNumber (0 : Int32) (nI b) J M = some (v, rfM B n p (nF B n p) J, M)) := s_num h (a := 0) (by decide) hb'
/-- a cell -/
theorem s_cell (h : RT2 B n p I L J M) (ht : isQ2 tl) (hT : TOk T) (hD : DX T N tl I L) (hM : DM T N J M) {k : Nat} (hk : k < 256) {v : Int64} (hv : ∀ c, c < 64 → (hb v c = true ↔ taken T k c)) : (∃ c q, c < tC T ∧ ¬ taken T k c ∧ p < q ∧ ∃ I' L' J' M', fX6_takeCell tl (nI k) I L = some (true, I', L') ∧ fX12_readCell v J M = some (nI c, J', M') ∧ RT2 B n q I' L' J' M' ∧ I' 48 4 = nI c ∧ I' 48 5 = I 48 5 ∧ XA2 I I' L L' ∧ XB2 J J' M M') ∨ (∃ u I' L' J' M', fX6_takeCell tl (nI k) I L = some (false, I', L') ∧ fX12_readCell v J M = some (u, J', M') ∧ XA2 I I' L L' ∧ XB2 J J' M M' ∧ Bd2 I' J') := by
  obtain ⟨⟨x0, x1, x2⟩, hrest⟩ := id hD
  obtain ⟨y0, y1, hrest2⟩ := id hM
  obtain ⟨t1, t2, t3, t4⟩ := hT.1
  unfold fX6_takeCell fX12_readCell
  rw [x0, y0, nI_m1 t1]
  rcases s_num0 h (b := tW T - 1) (by omega) with ⟨c1, I1, L1, J1, M1, a1, a2, a3, a4, a5, a6⟩ | ⟨c1, a1, u, a2⟩
  · rw [a1, a2]
    simp only [Option.bind_some]
    rw [if_neg (show ¬ b2i true = 0 by decide)]
    have fx1 := XA2.ofN a5
    have fm1 := XB2.of a6
    have hD1 := hD.fa ht fx1
    have hM1 := hM.fb fm1
    obtain ⟨⟨x0', x1', x2'⟩, hrest'⟩ := id hD1
    obtain ⟨y0', y1', hrest2'⟩ := id hM1
    simp only [x1', y1', nI_m1 t3, a4, x0']
    obtain ⟨r1, r2, r3, r4, r5, r6, r7, r8, r9⟩ := id a3
    have hk1 := r2.kd r1
    by_cases c2 : nOk B n (nx B n p) 0 (tD T - 1)
    · -- both numbers are there
      have k21 : I1 49 4 = (21 : Int32) := by rw [r3.1, c2.1]; rfl
      have hv1 : I1 49 6 = nI (vl B n (nx B n p)) := r3.2.2.2.1 c2.1
      have hvx := c1.2.2
      have hvy := c2.2.2
      have hcl : vl B n (nx B n p) * tW T + vl B n p < tC T := cell_lt hvx hvy t1 t3
      have h64 : vl B n (nx B n p) * tW T + vl B n p < 64 := by have := tC_le hT.1; omega
      generalize hcc : vl B n (nx B n p) * tW T + vl B n p = c at *
      rw [if_pos k21, hv1, if_neg (nI_ge (by omega) (by omega)), Option.bind_some, if_neg (by decide), pk_mul, nI_add, hcc]
      have fx2 : XA2 I1 (up2 I1 48 4 (nI c)) L1 L1 := ⟨fun a h1 _ => upRow _ _ h1, fun j hj => by rw [up2_at, if_neg (by omega)], by rw [upRow _ _ (by decide)], fun _ _ => rfl⟩
      have hD2 := hD1.fa ht fx2
      obtain ⟨b, e1, e2⟩ := x_taken ht hT hD2 (k := k) h64 (by rw [up2_eq]) hk
      have a3' : RT2 B n (nx B n p) (up2 I1 48 4 (nI c)) L1 J1 M1 := by
        refine a3.on r1 ?_ fx2 r7 XB2.refl (by rw [up2_at, if_neg (by decide)]) (by rw [up2_at, if_neg (by decide)]) rfl rfl
        unfold XT at *
        rw [upRow _ _ (show (49 : Nat) ≠ 48 by decide)]
        exact r3
      obtain ⟨⟨_, x1'', _⟩, _⟩ := id hD2
      simp only [e1, Option.bind_some, x1'', nI_m1 t3]
      rcases s_num0 a3' (b := tD T - 1) (by omega) with ⟨c3, I3, L3, J3, M3, b1, b2, b3, b4, b5, b6⟩ | ⟨c3, _⟩
      · rw [b2]
        simp only [Option.bind_some]
        have hM3 := hM1.fb (XB2.of b6)
        have e45 : J3 73 45 = nI (tW T) := hM3.1
        have e02 : J3 73 2 = 0 := b3.2.2.2.2.2.2.2.1
        simp only [e45, e02, pk_mul, nI_add, hcc, has_hb v h64, if_true]
        by_cases tk : taken T k c
        · -- taken
          right
          rw [e2.mpr tk, (hv c h64).mpr tk]
          rw [if_neg (show ¬ b2i true = 0 by decide), obn_eq, show (3 : Int32) = nI 3 from rfl, x_refuse a3'.2.2.1 hk1]
          rw [if_neg (show ¬ b2i true = 0 by decide), Option.bind_some, if_neg (by decide)]
          refine ⟨_, _, _, _, _, rfl, rfl, fx1.trans (fx2.trans (XA2.rf _)), fm1.trans ((XB2.of b6).trans ⟨?_, ?_, fun _ _ => rfl, fun _ _ => rfl⟩), ?_⟩
          · intro a ha; rw [upRow _ _ ha, upRow _ _ ha]
          · intro j hj; rw [up2_at, if_neg (by omega), up2_at, if_neg (by omega)]
          · refine ⟨3, tS B n (nx B n p), by decide, by decide, ?_, ?_, by show rfX B n (nx B n p) 3 (up2 I1 48 4 (nI c)) 48 9 = _; rw [rfX_9], ?_, ?_⟩
            · have := tS_le (B := B) r1
              have := h.le
              omega
            · show rfX B n (nx B n p) 3 (up2 I1 48 4 (nI c)) 48 8 = _
              rw [rfX_8]; unfold flt; rw [if_neg (by have := c2.1; omega)]
            · rw [up2_at, if_neg (by decide), up2_eq]
            · rw [up2_eq, r7.2.1]
        · left
          have hbf : b = false := by cases b with
            | true => exact absurd (e2.mp rfl) tk
            | false => rfl
          have hvf : hb v c = false := by
            cases hh : hb v c with
            | true => exact absurd ((hv c h64).mp hh) tk
            | false => rfl
          rw [hbf, hvf, if_pos (show b2i false = 0 by decide), b1]
          rw [if_pos (show b2i false = 0 by decide)]
          refine ⟨c, nx B n (nx B n p), hcl, tk, ?_, I3, L3, J3, M3, rfl, rfl, b3, ?_, ?_, fx1.trans (fx2.trans (XA2.ofN b5)), fm1.trans (XB2.of b6)⟩
          · have h1 := nx_lt (B := B) h.1 (by have := c1.1; omega)
            have h2 := (nx_le (B := B) r1).1
            omega
          · rw [b5.1 4 (by decide), up2_eq]
          · rw [b5.1 5 (by decide), up2_at, if_neg (by decide), a5.1 5 (by decide)]
      · exact absurd c2 c3
    · -- no row
      right
      have e0 : (if I1 49 4 = (21 : Int32) then if nI (tD T) ≤ I1 49 6 then some true else some false else some true) = some true := by
        by_cases c : kd B n (nx B n p) = 21
        · have hv1 : I1 49 6 = nI (vl B n (nx B n p)) := r3.2.2.2.1 c
          have := vl_lt r1 c
          have c3 : ¬ vl B n (nx B n p) ≤ tD T - 1 := fun g => c2 ⟨c, Nat.zero_le _, g⟩
          rw [hv1, if_pos (nI_le (show tD T ≤ vl B n (nx B n p) by omega) (by omega)), ite_self]
        · rw [r3.1, if_neg (show ¬ nI (kd B n (nx B n p)) = (21 : Int32) from ne_lit hk1 (by decide) c)]
      rw [e0, Option.bind_some, if_pos rfl]
      rcases s_num0 a3 (b := tD T - 1) (by omega) with ⟨c3, _⟩ | ⟨c3, b1, u, b2⟩
      · exact absurd c3 c2
      · have hbd := s_bd a3 (f := nF B n (nx B n p)) nF_r.1 nF_r.2
        rw [b1, b2]
        simp only [Option.bind_some]
        rw [if_neg hbd.m.2, Option.bind_some, if_pos rfl]
        exact ⟨_, _, _, _, _, rfl, rfl, fx1.trans (XA2.rf _), fm1.trans (XB2.rf _), hbd⟩
  · right
    have hbd := s_bd h (f := nF B n p) nF_r.1 nF_r.2
    rw [a1, a2]
    simp only [Option.bind_some]
    rw [if_pos (show b2i false = 0 by decide), m_num_bad hbd.m]
    simp only [Option.bind_some]
    rw [if_neg hbd.m.2, Option.bind_some, if_pos rfl]
    exact ⟨_, _, _, _, _, rfl, rfl, XA2.rf _, XB2.rf _, hbd⟩
end DR
