section LK2
variable {T : Nat → Nat → Nat} {q : Nat} {I : HI} {L : HL} {lk : Nat → Nat → Nat} {n t : Nat}
def F81 (I I' : HI) : Prop := ∀ b, b ≠ 81 → b ≠ 82 → I' b = I b
theorem F81.trans {I J K : HI} (h : F81 I J) (g : F81 J K) : F81 I K := fun b h1 h2 => by rw [g b h1 h2, h b h1 h2]
theorem MTown.f81 {J : HI} (h : MTown T I L) (f : F81 I J) : MTown T J L := h.fr (fun b hb => f b (by omega) (by omega)) (fun j _ => by rw [f 73 (by decide) (by decide)]) rfl
theorem LookAt.f81 {J : HI} (h : LookAt T lk n t I) (f : F81 I J) : LookAt T lk n t J :=
  h.fr (fun j _ => by rw [f 66 (by decide) (by decide)]) (fun b _ _ => f b (by omega) (by omega)) (fun b _ _ => f b (by omega) (by omega)) (by rw [f 73 (by decide) (by decide)]) (by rw [f 73 (by decide) (by decide)])
theorem m_would (hO : TOk T) {c e h hr : Nat} (hM : MTown T I L) (hc : c < tC T) (he : grd T e) : ∃ I', fX12_wouldBe (nI c) (nI h) (nI hr) (nI e) I L = some (rayS T c (lnV T h hr) e, I') ∧ F81 I I' := by
  have hF := hO.2.2.2.2.2.2.2.2.2.1
  have e64 := grd_64 hO he
  obtain ⟨I1, e1, f1⟩ := m_shade (nI h) (nI hr) (nI 0) hF hM.2.2.2.2.2.2.2.2.2.2
  have hM1 := hM.f81 f1
  have hle := lnV_le T h hr
  obtain ⟨g1, g2⟩ := m_rowS (v := lnV T h hr) hO.1 hM1.1 hc (by omega)
  unfold fX12_wouldBe
  rw [show fX12_shadeOf (nI h) (nI hr) 0 I = _ from e1]
  simp only [Option.bind_some, m_capped]
  have c0 : (iI (capI (evF T (nI h) (nI hr) (nI 0))) ≤ 0) ↔ lnV T h hr ≤ 0 := by
    rw [show (0 : Int32) = iI 0 from rfl]
    exact iI_le (by unfold lnV at hle; unfold sml; omega) (by unfold sml; omega)
  have fin : ∀ r : Int64, (∀ c', c' < 64 → (hb r c' = true ↔ (rayS T c (lnV T h hr) c' = true ∧ isW T c' = false))) → fX12_has r (nI e) = rayS T c (lnV T h hr) e := by
    intro r hr'
    rw [has_hb _ e64]
    have := hr' e e64
    rw [he.2] at this
    cases x : hb r e <;> cases y : rayS T c (lnV T h hr) e <;> simp_all
  by_cases hv : lnV T h hr ≤ 0
  · obtain ⟨r, e2, h2⟩ := g1 hv
    rw [if_pos (c0.mpr hv), show fX12_row (nI c) (-1) 0 (-(iI (capI (evF T (nI h) (nI hr) (nI 0))))) I1 L = some r from e2]
    simp only [Option.bind_some]
    rw [fin r h2]
    exact ⟨I1, rfl, f1⟩
  · obtain ⟨r, e2, h2⟩ := g2 (by omega)
    rw [if_neg (fun g => hv (c0.mp g)), show fX12_row (nI c) 1 0 (iI (capI (evF T (nI h) (nI hr) (nI 0)))) I1 L = some r from e2]
    simp only [Option.bind_some]
    rw [fin r h2]
    exact ⟨I1, rfl, f1⟩
theorem fitR_mono {k : Int32} {h c : Nat} : ∀ (m i : Nat), fitR T I lk k h c i = false → fitR T I lk k h c (i + m) = false
  | 0, _, h => h
  | m + 1, i, h => by rw [show i + (m + 1) = (i + m) + 1 from rfl, fitR, fitR_mono m i h]; rfl
theorem m_fitL (hO : TOk T) {c h : Nat} {k : Int32} {I0 : HI} (hc : c < tC T) : ∀ (m i fu : Nat) (I : HI), i + m = n → m < fu → MTown T I L → LookAt T lk n t I → I 66 8 = I0 66 8 → I 66 9 = I0 66 9 → ∃ I', fX12_fits_6 fu (nI c) (nI h) k (b2i (fitR T I0 lk k h c i)) (nI i) I L = some (fitR T I0 lk k h c n, I') ∧ F81 I I' := by
  intro m
  induction m with
  | zero =>
    intro i fu I hi hf hM hK e8 e9
    obtain ⟨f, rfl⟩ : ∃ f, fu = f + 1 := ⟨fu - 1, by omega⟩
    have : i = n := by omega
    subst this
    have l1 := hK.1
    have hb' : i2b (b2i (fitR T I0 lk k h c i)) = some (fitR T I0 lk k h c i) := by cases fitR T I0 lk k h c i <;> rfl
    rw [fX12_fits_6, hK.2.2.2.1, if_pos (nI_le (Nat.le_refl _) (by omega)), hb']
    exact ⟨I, rfl, fun _ _ _ => rfl⟩
  | succ m ih =>
    intro i fu I hi hf hM hK e8 e9
    obtain ⟨f, rfl⟩ : ∃ f, fu = f + 1 := ⟨fu - 1, by omega⟩
    have l1 := hK.1
    have hin : i < n := by omega
    obtain ⟨m0, m1, m2, m3, m4, m5, m6, m7, m8, m9, m10, m11, m12⟩ := hK.2.2.2.2.2.2.1 i hin
    have ecnt : cntL I lk i k = cntL I0 lk i k := by unfold cntL; rw [e9]
    rw [fX12_fits_6, hK.2.2.2.1, if_neg (nI_ge hin (by omega)), m_counts hK hin k, nI_1, ecnt]
    simp only [Option.bind_some, b2i_eq0]
    have hst : fitR T I0 lk k h c (i + 1) = (fitR T I0 lk k h c i && (!cntL I0 lk i k || (rayS T c (lnV T h (lk 0 i)) (lk 1 i) == bt (I0 66 8) i))) := rfl
    cases hcn : cntL I0 lk i k with
    | false =>
      rw [if_pos rfl]
      rw [hcn] at hst
      simp only [Bool.not_false, Bool.true_or, Bool.and_true] at hst
      obtain ⟨I2, e2, f2⟩ := ih (i + 1) f I (by omega) (by omega) hM hK e8 e9
      rw [hst] at e2
      exact ⟨I2, e2, f2⟩
    | true =>
      rw [if_neg (by decide)]
      rw [hcn] at hst
      simp only [Bool.not_true, Bool.false_or] at hst
      cases hfi : fitR T I0 lk k h c i with
      | false =>
        rw [hfi, Bool.false_and] at hst
        simp only [if_true]
        obtain ⟨I2, e2, f2⟩ := ih (i + 1) f I (by omega) (by omega) hM hK e8 e9
        rw [hst] at e2
        exact ⟨I2, e2, f2⟩
      | true =>
        rw [hfi, Bool.true_and] at hst
        obtain ⟨I1, e1, f1⟩ := m_would (h := h) (hr := lk 0 i) hO hM hc m1
        simp only [Bool.true_eq_false, if_false, if_pos (inb_nI (show i < 30 by omega) (show 30 < 2 ^ 31 by decide)), clamp_nI (show i < 2 ^ 31 by omega), m5, m7, e1, Option.bind_some]
        rw [f1 112 (by decide) (by decide), m10, e8]
        simp only [b2i_inj]
        obtain ⟨I2, e2, f2⟩ := ih (i + 1) f I1 (by omega) (by omega) (hM.f81 f1) (hK.f81 f1) (by rw [f1 66 (by decide) (by decide)]; exact e8) (by rw [f1 66 (by decide) (by decide)]; exact e9)
        refine ⟨I2, ?_, f1.trans f2⟩
        by_cases hw : rayS T c (lnV T h (lk 0 i)) (lk 1 i) = bt (I0 66 8) i
        · rw [if_pos hw]
          rw [hst, beq_iff_eq.mpr hw] at e2
          exact e2
        · rw [if_neg hw]
          rw [hst, beq_eq_false_iff_ne.mpr hw] at e2
          exact e2
theorem m_fits (hO : TOk T) {c h : Nat} {k : Int32} {I0 : HI} (hc : c < tC T) (hM : MTown T I L) (hK : LookAt T lk n t I) (e8 : I 66 8 = I0 66 8) (e9 : I 66 9 = I0 66 9) : ∃ I', fX12_fits (nI c) (nI h) k I L = some (fitR T I0 lk k h c n, I') ∧ F81 I I' := by
  obtain ⟨mf, hmf⟩ := fuel_at 1000 (by decide)
  have l1 := hK.1
  obtain ⟨I1, e1, f1⟩ := m_fitL (c := c) (h := h) (k := k) (I0 := I0) hO hc n 0 FUEL I (by omega) (by omega) hM hK e8 e9
  unfold fX12_fits
  rw [show fX12_fits_6 FUEL (nI c) (nI h) k 1 0 I L = _ from e1]
  exact ⟨I1, rfl, f1⟩
def FF (I I' : HI) (L L' : HL) : Prop := (∀ b, b ≠ 73 → b ≠ 81 → b ≠ 82 → I' b = I b) ∧ (∀ j, j ≠ 89 → I' 73 j = I 73 j) ∧ ∀ b, b ≠ 113 → L' b = L b
theorem FF.trans {I J K : HI} {L M P : HL} (h : FF I J L M) (g : FF J K M P) : FF I K L P := ⟨fun b h1 h2 h3 => by rw [g.1 b h1 h2 h3, h.1 b h1 h2 h3], fun j hj => by rw [g.2.1 j hj, h.2.1 j hj], fun b hb => by rw [g.2.2 b hb, h.2.2 b hb]⟩
theorem F81.ff {I J : HI} (h : F81 I J) : FF I J L L := ⟨fun b _ h2 h3 => h b h2 h3, fun j _ => by rw [h 73 (by decide) (by decide)], fun _ _ => rfl⟩
theorem MTown.ff {J : HI} {M : HL} (h : MTown T I L) (f : FF I J L M) : MTown T J M := h.fr (fun b hb => f.1 b (by omega) (by omega) (by omega)) (fun j hj => f.2.1 j (by omega)) (f.2.2 73 (by decide))
theorem LookAt.ff {J : HI} {M : HL} (h : LookAt T lk n t I) (f : FF I J L M) : LookAt T lk n t J :=
  h.fr (fun j _ => by rw [f.1 66 (by decide) (by decide) (by decide)]) (fun b _ _ => f.1 b (by omega) (by omega) (by omega)) (fun b _ _ => f.1 b (by omega) (by omega) (by omega)) (f.2.1 86 (by decide)) (f.2.1 87 (by decide))
theorem m_lf21 (hO : TOk T) {h : Nat} {k : Int32} {I0 : HI} (hh : 1 ≤ h ∧ h ≤ 4) : ∀ (m c fu a : Nat) (I : HI) (L : HL), c + m = tC T → m < fu → MTown T I L → LookAt T lk n t I → I 66 8 = I0 66 8 → I 66 9 = I0 66 9 → I 73 89 = nI a → (∀ e, e < 64 → hb (L 113 h) e = (decide (e < c) && FitS T I0 lk k n h e)) → ∃ I' L', fX12_layFits_21 fu k (nI h) (nI c) I L = some (I', L') ∧ FF I I' L L' ∧ (∀ j, j ≠ h → L' 113 j = L 113 j) ∧ I' 73 89 = nI (a + (fb_ct (FitS T I0 lk k n h) (tC T) - fb_ct (FitS T I0 lk k n h) c)) ∧ ∀ e, e < 64 → hb (L' 113 h) e = FitS T I0 lk k n h e := by
  have hC := tC_le hO.1
  intro m
  induction m with
  | zero =>
    intro c fu a I L hc hf hM hK e8 e9 h89 hp
    obtain ⟨f, rfl⟩ : ∃ f, fu = f + 1 := ⟨fu - 1, by omega⟩
    have : c = tC T := by omega
    subst this
    rw [fX12_layFits_21, m_size hM.1, if_pos (nI_le (Nat.le_refl _) (by omega))]
    refine ⟨I, L, rfl, ⟨fun _ _ _ _ => rfl, fun _ _ => rfl, fun _ _ => rfl⟩, fun _ _ => rfl, by rw [h89, Nat.sub_self, Nat.add_zero], fun e he => ?_⟩
    rw [hp e he]
    unfold FitS
    cases decide (e < tC T) <;> simp
  | succ m ih =>
    intro c fu a I L hc hf hM hK e8 e9 h89 hp
    obtain ⟨f, rfl⟩ : ∃ f, fu = f + 1 := ⟨fu - 1, by omega⟩
    have hc4 : c < tC T := by omega
    have hmono : fb_ct (FitS T I0 lk k n h) (c + 1) ≤ fb_ct (FitS T I0 lk k n h) (tC T) := fb_ct_mono _ (by omega)
    have hsucc := fb_ct_succ (FitS T I0 lk k n h) c
    rw [fX12_layFits_21, m_size hM.1, if_neg (nI_ge hc4 (by omega)), nI_1, has_hb _ (by omega), hM.1.2.2 c (by omega)]
    simp only [b2i_eq0]
    have skip : FitS T I0 lk k n h c = false → ∀ (J : HI), F81 I J → ∃ I' L', fX12_layFits_21 f k (nI h) (nI (c + 1)) J L = some (I', L') ∧ FF I I' L L' ∧ (∀ j, j ≠ h → L' 113 j = L 113 j) ∧ I' 73 89 = nI (a + (fb_ct (FitS T I0 lk k n h) (tC T) - fb_ct (FitS T I0 lk k n h) c)) ∧ ∀ e, e < 64 → hb (L' 113 h) e = FitS T I0 lk k n h e := by
      intro hno J fJ
      obtain ⟨I', L', e1, f1, g1, v1, w1⟩ := ih (c + 1) f a J L (by omega) (by omega) (hM.f81 fJ) (hK.f81 fJ) (by rw [fJ 66 (by decide) (by decide)]; exact e8) (by rw [fJ 66 (by decide) (by decide)]; exact e9) (by rw [fJ 73 (by decide) (by decide)]; exact h89) (fun e he => by
        rw [hp e he]
        by_cases hec : e = c
        · subst hec; rw [hno]; simp
        · congr 1
          rw [decide_eq_decide]
          omega)
      refine ⟨I', L', e1, (F81.ff fJ).trans f1, g1, ?_, w1⟩
      rw [v1, hsucc, hno]
      simp
    cases hw : isW T c with
    | true =>
      simp only [Bool.true_eq_false, if_false]
      exact skip (by unfold FitS; rw [hw]; simp) I (fun _ _ _ => rfl)
    | false =>
      simp only [if_true]
      obtain ⟨I1, e1, f1⟩ := m_fits (h := h) (k := k) (I0 := I0) hO hc4 hM hK e8 e9
      rw [e1]
      simp only [Option.bind_some]
      have hfs : FitS T I0 lk k n h c = fitR T I0 lk k h c n := by unfold FitS; rw [hw, decide_eq_true hc4]; simp
      cases hft : fitR T I0 lk k h c n with
      | false =>
        simp only [if_true]
        exact skip (by rw [hfs, hft]) I1 f1
      | true =>
        simp only [Bool.true_eq_false, if_false, if_pos (inb_nI (show h < 5 by omega) (show 5 < 2 ^ 31 by decide)), clamp_nI (show h < 2 ^ 31 by omega)]
        rw [f1 73 (by decide) (by decide), h89, nI_1]
        have fJ : FF I (up2 I1 73 89 (nI (a + 1))) L (up2 L 113 h (L 113 h ||| (1 : Int64) <<< ((nI c).toInt64 &&& 63))) := ⟨fun b h1 h2 h3 => by rw [upRow _ _ h1, f1 b h2 h3], fun j hj => by rw [up2_at, if_neg (fun g => hj g.2), f1 73 (by decide) (by decide)], fun b hb => upRow _ _ hb⟩
        obtain ⟨I', L', e2, f2, g2, v2, w2⟩ := ih (c + 1) f (a + 1) (up2 I1 73 89 (nI (a + 1))) (up2 L 113 h (L 113 h ||| (1 : Int64) <<< ((nI c).toInt64 &&& 63))) (by omega) (by omega) (hM.ff fJ) (hK.ff fJ) (by rw [fJ.1 66 (by decide) (by decide) (by decide)]; exact e8) (by rw [fJ.1 66 (by decide) (by decide) (by decide)]; exact e9) (by simp [up2_at]) (fun e he => by
          rw [up2_at, if_pos ⟨rfl, rfl⟩, hb_or, hp e he, hb_one (by omega) e he]
          by_cases hec : e = c
          · subst hec
            rw [hfs, hft]; simp
          · rw [decide_eq_false hec, Bool.or_false]
            congr 1
            rw [decide_eq_decide]
            omega)
        refine ⟨I', L', e2, fJ.trans f2, fun j hj => by rw [g2 j hj, up2_at, if_neg (fun g => hj g.2)], ?_, w2⟩
        rw [v2, hsucc, hfs, hft]
        rw [hsucc, hfs, hft] at hmono
        simp only [if_true] at *
        congr 1
        omega
theorem fb_tC (hO : TOk T) {I0 : HI} {k : Int32} {h : Nat} : fb_ct (FitS T I0 lk k n h) (tC T) = fb_ct (FitS T I0 lk k n h) 64 := by
  have hC := tC_le hO.1
  have := fb_more (p := FitS T I0 lk k n h) (n := tC T) (64 - tC T) (fun i h1 _ => by unfold FitS; rw [decide_eq_false (by omega)]; rfl)
  rw [show tC T + (64 - tC T) = 64 by omega] at this
  exact this.symm
theorem m_layFits (hO : TOk T) {k : Int32} (hM : MTown T I L) (hK : LookAt T lk n t I) : ∃ I' L', fX12_layFits k I L = some (I', L') ∧ FF I I' L L' ∧ I' 73 89 = nI (fitC T I lk k n) ∧ ∀ h, 1 ≤ h → h ≤ 4 → ∀ e, e < 64 → hb (L' 113 h) e = FitS T I lk k n h e := by
  obtain ⟨mf, hmf⟩ := fuel_at 1000 (by decide)
  have hC := tC_le hO.1
  have stp : ∀ (h fu a : Nat) (J : HI) (M : HL), 1 ≤ h → h ≤ 4 → MTown T J M → LookAt T lk n t J → J 66 8 = I 66 8 → J 66 9 = I 66 9 → J 73 89 = nI a → ∃ J' M', fX12_layFits_7 (fu + 1) k (nI h) J M = fX12_layFits_7 fu k (nI (h + 1)) J' M' ∧ FF J J' M M' ∧ (∀ j, j ≠ h → M' 113 j = M 113 j) ∧ J' 73 89 = nI (a + fb_ct (FitS T I lk k n h) 64) ∧ ∀ e, e < 64 → hb (M' 113 h) e = FitS T I lk k n h e := by
    intro h fu a J M h1 h4 hM' hK' e8 e9 h89
    have fu0 : FF J J M (up2 M 113 h 0) := ⟨fun _ _ _ _ => rfl, fun _ _ => rfl, fun b hb => upRow _ _ hb⟩
    obtain ⟨J', M', e1, f1, g1, v1, w1⟩ := m_lf21 (k := k) (I0 := I) hO ⟨h1, h4⟩ (tC T) 0 FUEL a J (up2 M 113 h 0) (by omega) (by omega) (hM'.ff fu0) hK' e8 e9 h89 (fun e he => by rw [up2_at, if_pos ⟨rfl, rfl⟩, hb_0]; simp)
    rw [fX12_layFits_7, if_neg (show ¬ (4 : Int32) < nI h from nI_nlt (a := 4) h4 (by omega)), nI_1]
    simp only [if_pos (inb_nI (show h < 5 by omega) (show 5 < 2 ^ 31 by decide)), clamp_nI (show h < 2 ^ 31 by omega)]
    rw [show fX12_layFits_21 FUEL k (nI h) 0 J (up2 M 113 h 0) = _ from e1]
    simp only [Option.bind_some]
    refine ⟨J', M', rfl, fu0.trans f1, fun j hj => by rw [g1 j hj, up2_at, if_neg (fun g => hj g.2)], ?_, w1⟩
    rw [v1, fb_tC hO]
    rfl
  have f0 : FF I (up2 I 73 89 0) L L := ⟨fun b h1 _ _ => upRow _ _ h1, fun j hj => by rw [up2_at, if_neg (fun g => hj g.2)], fun _ _ => rfl⟩
  have s66 : ∀ {J : HI} {M : HL}, FF I J L M → J 66 8 = I 66 8 ∧ J 66 9 = I 66 9 := fun f => ⟨by rw [f.1 66 (by decide) (by decide) (by decide)], by rw [f.1 66 (by decide) (by decide) (by decide)]⟩
  obtain ⟨J1, M1, e1, f1, g1, v1, w1⟩ := stp 1 (mf + 999) 0 (up2 I 73 89 0) L (by decide) (by decide) (hM.ff f0) (hK.ff f0) (s66 f0).1 (s66 f0).2 (by simp [up2_at]; rfl)
  have F1 := f0.trans f1
  obtain ⟨J2, M2, e2, f2, g2, v2, w2⟩ := stp 2 (mf + 998) _ J1 M1 (by decide) (by decide) (hM.ff F1) (hK.ff F1) (s66 F1).1 (s66 F1).2 v1
  have F2 := F1.trans f2
  obtain ⟨J3, M3, e3, f3, g3, v3, w3⟩ := stp 3 (mf + 997) _ J2 M2 (by decide) (by decide) (hM.ff F2) (hK.ff F2) (s66 F2).1 (s66 F2).2 v2
  have F3 := F2.trans f3
  obtain ⟨J4, M4, e4, f4, g4, v4, w4⟩ := stp 4 (mf + 996) _ J3 M3 (by decide) (by decide) (hM.ff F3) (hK.ff F3) (s66 F3).1 (s66 F3).2 v3
  have F4 := F3.trans f4
  refine ⟨J4, M4, ?_, F4, ?_, fun h h1 h4 e he => ?_⟩
  · unfold fX12_layFits
    simp only []
    rw [hmf, show (1 : Int32) = nI 1 from rfl, show mf + 1000 = (mf + 999) + 1 from rfl, e1, show mf + 999 = (mf + 998) + 1 from rfl, e2, show mf + 998 = (mf + 997) + 1 from rfl, e3, show mf + 997 = (mf + 996) + 1 from rfl, e4, show mf + 996 = (mf + 995) + 1 from rfl, fX12_layFits_7, if_pos (show (4 : Int32) < nI (4 + 1) by decide)]
    rfl
  · rw [v4]
    unfold fitC
    congr 1
    omega
  · have : h = 1 ∨ h = 2 ∨ h = 3 ∨ h = 4 := by omega
    rcases this with g | g | g | g <;> subst g
    · rw [g4 1 (by decide), g3 1 (by decide), g2 1 (by decide)]; exact w1 e he
    · rw [g4 2 (by decide), g3 2 (by decide)]; exact w2 e he
    · rw [g4 3 (by decide)]; exact w3 e he
    · exact w4 e he
end LK2
