section AK2
variable {T : Nat → Nat → Nat} {q : Nat} {st : Nat → Nat → Nat} {a u : Nat} {I : HI} {L : HL} {F : Nat → Nat → Bool}
theorem fb_tC2 (hO : TOk T) {p : Nat → Bool} (hp : ∀ c, p c = true → c < tC T) : fb_ct p (tC T) = fb_ct p 64 := by
  have hC := tC_le hO.1
  have := fb_more (p := p) (n := tC T) (64 - tC T) (fun i h1 _ => by
    cases hh : p i with
    | false => rfl
    | true => have := hp i hh; omega)
  rw [show tC T + (64 - tC T) = 64 by omega] at this
  exact this.symm
theorem m_l14 (hO : TOk T) {hr e h : Nat} (he : grd T e) (hh : 1 ≤ h ∧ h ≤ 4) (hF : ∀ c, c < 64 → hb (L 113 h) c = F h c) : ∀ (m c fu b : Nat) (I : HI), c + m = tC T → m < fu → MTown T I L → ∃ I', fX12_leftBy_14 fu (nI hr) (nI e) (nI b) (nI h) (nI c) I L = some (nI (b + (fb_ct (fun c => F h c && rayS T c (lnV T h hr) e) (tC T) - fb_ct (fun c => F h c && rayS T c (lnV T h hr) e) c)), I') ∧ F81 I I' := by
  have hC := tC_le hO.1
  intro m
  induction m with
  | zero =>
    intro c fu b I hc hf hM
    obtain ⟨f, rfl⟩ : ∃ f, fu = f + 1 := ⟨fu - 1, by omega⟩
    have : c = tC T := by omega
    subst this
    rw [fX12_leftBy_14, m_size hM.1, if_pos (nI_le (Nat.le_refl _) (by omega)), Nat.sub_self, Nat.add_zero]
    exact ⟨I, rfl, fun _ _ _ => rfl⟩
  | succ m ih =>
    intro c fu b I hc hf hM
    obtain ⟨f, rfl⟩ : ∃ f, fu = f + 1 := ⟨fu - 1, by omega⟩
    have hc4 : c < tC T := by omega
    have hmono := fb_ct_mono (fun c => F h c && rayS T c (lnV T h hr) e) (show c + 1 ≤ tC T by omega)
    have hsucc := fb_ct_succ (fun c => F h c && rayS T c (lnV T h hr) e) c
    rw [fX12_leftBy_14, m_size hM.1, if_neg (nI_ge hc4 (by omega)), nI_1]
    simp only [if_pos (inb_nI (show h < 5 by omega) (show 5 < 2 ^ 31 by decide)), clamp_nI (show h < 2 ^ 31 by omega), has_hb _ (show c < 64 by omega), hF c (by omega), b2i_eq0, Int32.add_zero]
    have skip : (F h c && rayS T c (lnV T h hr) e) = false → ∀ J, F81 I J → ∃ I', fX12_leftBy_14 f (nI hr) (nI e) (nI b) (nI h) (nI (c + 1)) J L = some (nI (b + (fb_ct (fun c => F h c && rayS T c (lnV T h hr) e) (tC T) - fb_ct (fun c => F h c && rayS T c (lnV T h hr) e) c)), I') ∧ F81 I I' := by
      intro hno J fJ
      obtain ⟨I', e1, f1⟩ := ih (c + 1) f b J (by omega) (by omega) (hM.f81 fJ)
      refine ⟨I', ?_, fJ.trans f1⟩
      rw [e1, hsucc, hno]
      simp
    cases hfc : F h c with
    | false =>
      rw [if_pos rfl]
      exact skip (by rw [hfc]; rfl) I (fun _ _ _ => rfl)
    | true =>
      rw [if_neg (by decide)]
      obtain ⟨I1, e1, f1⟩ := m_would (h := h) (hr := hr) hO hM hc4 he
      rw [e1]
      simp only [Option.bind_some]
      cases hr' : rayS T c (lnV T h hr) e with
      | false =>
        rw [if_pos rfl]
        exact skip (by rw [hfc, hr']; rfl) I1 f1
      | true =>
        rw [if_neg (by decide), nI_1]
        obtain ⟨I', e2, f2⟩ := ih (c + 1) f (b + 1) I1 (by omega) (by omega) (hM.f81 f1)
        refine ⟨I', ?_, f1.trans f2⟩
        have hs1 : fb_ct (fun c => F h c && rayS T c (lnV T h hr) e) (c + 1) = fb_ct (fun c => F h c && rayS T c (lnV T h hr) e) c + 1 := by
          rw [hsucc]; simp only [hfc, hr']; rfl
        rw [e2]
        congr 2
        congr 1
        omega
theorem m_left (hO : TOk T) {hr e ct : Nat} (he : grd T e) (hct : ct ≤ 256) (hF : ∀ l, 1 ≤ l → l ≤ 4 → ∀ c, c < 64 → hb (L 113 l) c = F l c) (hg : ∀ l c, F l c = true → grd T c) (hM : MTown T I L) (h89 : I 73 89 = nI ct) (hY : yesC T F hr e ≤ ct) : ∃ I', fX12_leftBy (nI hr) (nI e) I L = some (nI (max (yesC T F hr e) (ct - yesC T F hr e)), I') ∧ F81 I I' := by
  obtain ⟨mf, hmf⟩ := fuel_at 1000 (by decide)
  have hC := tC_le hO.1
  have stp : ∀ (h f b : Nat) (J : HI), 1 ≤ h → h ≤ 4 → MTown T J L → ∃ J', fX12_leftBy_5 (f + 1) (nI hr) (nI e) (nI b) (nI h) J L = fX12_leftBy_5 f (nI hr) (nI e) (nI (b + fb_ct (fun c => F h c && rayS T c (lnV T h hr) e) 64)) (nI (h + 1)) J' L ∧ F81 J J' := by
    intro h f b J h1 h4 hMJ
    obtain ⟨J', e1, f1⟩ := m_l14 (hr := hr) hO he ⟨h1, h4⟩ (fun c hc => hF h h1 h4 c hc) (tC T) 0 FUEL b J (by omega) (by omega) hMJ
    rw [fX12_leftBy_5, if_neg (show ¬ (4 : Int32) < nI h from nI_nlt (a := 4) h4 (by omega)), nI_1, show fX12_leftBy_14 FUEL (nI hr) (nI e) (nI b) (nI h) 0 J L = _ from e1]
    simp only [Option.bind_some]
    refine ⟨J', ?_, f1⟩
    rw [fb_tC2 hO (p := fun c => F h c && rayS T c (lnV T h hr) e) (fun c hc => by
      simp only [Bool.and_eq_true] at hc
      exact (hg _ _ hc.1).1)]
    rfl
  obtain ⟨J1, e1, f1⟩ := stp 1 (mf + 999) 0 I (by decide) (by decide) hM
  obtain ⟨J2, e2, f2⟩ := stp 2 (mf + 998) _ J1 (by decide) (by decide) (hM.f81 f1)
  obtain ⟨J3, e3, f3⟩ := stp 3 (mf + 997) _ J2 (by decide) (by decide) (hM.f81 (f1.trans f2))
  obtain ⟨J4, e4, f4⟩ := stp 4 (mf + 996) _ J3 (by decide) (by decide) (hM.f81 ((f1.trans f2).trans f3))
  have F4 := ((f1.trans f2).trans f3).trans f4
  unfold fX12_leftBy
  rw [hmf, show (0 : Int32) = nI 0 from rfl, show (1 : Int32) = nI 1 from rfl, show mf + 1000 = (mf + 999) + 1 from rfl, e1, show mf + 999 = (mf + 998) + 1 from rfl, e2, show mf + 998 = (mf + 997) + 1 from rfl, e3, show mf + 997 = (mf + 996) + 1 from rfl, e4, show mf + 996 = (mf + 995) + 1 from rfl, fX12_leftBy_5, if_pos (show (4 : Int32) < nI (4 + 1) by decide)]
  simp only [Option.bind_some, Nat.zero_add]
  rw [F4 73 (by decide) (by decide), h89]
  rw [show fb_ct (fun c => F 1 c && rayS T c (lnV T 1 hr) e) 64 + fb_ct (fun c => F 2 c && rayS T c (lnV T 2 hr) e) 64 + fb_ct (fun c => F 3 c && rayS T c (lnV T 3 hr) e) 64 + fb_ct (fun c => F 4 c && rayS T c (lnV T 4 hr) e) 64 = yesC T F hr e from rfl, pk_sub hY]
  by_cases hle : yesC T F hr e ≤ ct - yesC T F hr e
  · rw [if_pos (nI_le hle (by omega)), Nat.max_eq_right hle]
    exact ⟨J4, rfl, F4⟩
  · rw [if_neg (nI_ge (by omega) (by omega)), Nat.max_eq_left (by omega)]
    exact ⟨J4, rfl, F4⟩
def mq1 (s : Option (Nat × Nat)) : Int32 := match s with | none => -1 | some (x, _) => nI x
def mq2 (s : Option (Nat × Nat)) : Int32 := match s with | none => 1000 | some (_, l) => nI l
theorem m_a45 (hO : TOk T) {hr ct : Nat} {w : Int32} (hct : ct ≤ 256) (hh : hr < 24) (hF : ∀ l, 1 ≤ l → l ≤ 4 → ∀ c, c < 64 → hb (L 113 l) c = F l c) (hg : ∀ l c, F l c = true → grd T c) (hYc : ∀ e, yesC T F hr e ≤ ct) : ∀ (m c fu : Nat) (s : Option (Nat × Nat)) (I : HI), c + m = tC T → m < fu → MTown T I L → I 73 89 = nI ct → qok ct s → ∃ I', fX12_ask_45 fu w (mq1 s) (mq2 s) (nI hr) (nI c) I L = some (mq1 (qsC T (yesC T F hr) ct hr m c s), mq2 (qsC T (yesC T F hr) ct hr m c s), I') ∧ F81 I I' ∧ qok ct (qsC T (yesC T F hr) ct hr m c s) := by
  have hC := tC_le hO.1
  intro m
  induction m with
  | zero =>
    intro c fu s I hc hf hM h89 hk
    obtain ⟨f, rfl⟩ : ∃ f, fu = f + 1 := ⟨fu - 1, by omega⟩
    rw [fX12_ask_45, m_size hM.1, if_pos (nI_le (by omega) (by omega))]
    exact ⟨I, rfl, fun _ _ _ => rfl, hk⟩
  | succ m ih =>
    intro c fu s I hc hf hM h89 hk
    obtain ⟨f, rfl⟩ : ∃ f, fu = f + 1 := ⟨fu - 1, by omega⟩
    have hc4 : c < tC T := by omega
    have hY := hYc c
    have hk' : qok ct (qst T (yesC T F hr) ct hr c s) := qst_ok hY hh (by omega) hk
    rw [fX12_ask_45, m_size hM.1, if_neg (nI_ge hc4 (by omega)), nI_1, has_hb _ (by omega), hM.1.2.2 c (by omega), qsC]
    simp only [b2i_eq0]
    have ix : (100 : Int32) * nI hr + nI c = nI (100 * hr + c) := by rw [show (100 : Int32) = nI 100 from rfl, pk_mul, nI_add]
    cases hw : isW T c with
    | true =>
      have e0 : qst T (yesC T F hr) ct hr c s = s := by unfold qst; rw [if_neg (by rw [hw]; simp)]
      simp only [Bool.true_eq_false, if_false, Option.bind_some]
      have n1000 : ¬ (1000 : Int32) < mq2 s := by
        unfold mq2
        cases s with
        | none => decide
        | some p =>
          obtain ⟨x, l⟩ := p
          have := (hk x l rfl).2
          exact nI_nlt (a := 1000) (by omega) (by omega)
      rw [if_neg n1000, e0]
      exact ih (c + 1) f s I (by omega) (by omega) hM h89 hk
    | false =>
      have hgc : grd T c := ⟨hc4, hw⟩
      obtain ⟨I1, e1, f1⟩ := m_left (hr := hr) hO hgc hct hF hg hM h89 hY
      simp only [if_true, e1, Option.bind_some, ix]
      obtain ⟨I2, e2, f2, k2⟩ := ih (c + 1) f (qst T (yesC T F hr) ct hr c s) I1 (by omega) (by omega) (hM.f81 f1) (by rw [f1 73 (by decide) (by decide)]; exact h89) hk'
      refine ⟨I2, ?_, f1.trans f2, k2⟩
      rw [← e2]
      have hgc' : c < tC T ∧ isW T c = false := hgc
      cases s with
      | none =>
        have e0 : qst T (yesC T F hr) ct hr c none = some (100 * hr + c, max (yesC T F hr c) (ct - yesC T F hr c)) := by unfold qst; rw [if_pos hgc']
        rw [e0, if_pos (show nI (max (yesC T F hr c) (ct - yesC T F hr c)) < mq2 none from nI_lt (b := 1000) (by omega) (by decide))]
        rfl
      | some p =>
        obtain ⟨x0, l0⟩ := p
        have hl0 := (hk x0 l0 rfl).2
        have e0 : qst T (yesC T F hr) ct hr c (some (x0, l0)) = if max (yesC T F hr c) (ct - yesC T F hr c) < l0 then some (100 * hr + c, max (yesC T F hr c) (ct - yesC T F hr c)) else some (x0, l0) := by unfold qst; rw [if_pos hgc']
        rw [e0]
        by_cases hl : max (yesC T F hr c) (ct - yesC T F hr c) < l0
        · rw [if_pos (show nI (max (yesC T F hr c) (ct - yesC T F hr c)) < mq2 (some (x0, l0)) from nI_lt hl (by omega)), if_pos hl]
          rfl
        · rw [if_neg (show ¬ nI (max (yesC T F hr c) (ct - yesC T F hr c)) < mq2 (some (x0, l0)) from nI_nlt (by omega) (by omega)), if_neg hl]
theorem m_a35 (hO : TOk T) {ct : Nat} {w : Int32} (hct : ct ≤ 256) (hF : ∀ l, 1 ≤ l → l ≤ 4 → ∀ c, c < 64 → hb (L 113 l) c = F l c) (hg : ∀ l c, F l c = true → grd T c) (hYc : ∀ hr e, yesC T F hr e ≤ ct) : ∀ (m hr fu : Nat) (s : Option (Nat × Nat)) (I : HI), hr + m = 24 → m < fu → MTown T I L → I 73 89 = nI ct → qok ct s → ∃ I', fX12_ask_35 fu w (mq1 s) (mq2 s) (nI hr) I L = some (mq1 (qsH T (yesC T F) ct m hr s), mq2 (qsH T (yesC T F) ct m hr s), I') ∧ F81 I I' := by
  obtain ⟨mf, hmf⟩ := fuel_at 1000 (by decide)
  have hC := tC_le hO.1
  intro m
  induction m with
  | zero =>
    intro hr fu s I hh hf hM h89 hk
    obtain ⟨f, rfl⟩ : ∃ f, fu = f + 1 := ⟨fu - 1, by omega⟩
    rw [fX12_ask_35, if_pos (show (24 : Int32) ≤ nI hr from nI_le (a := 24) (by omega) (by omega))]
    exact ⟨I, rfl, fun _ _ _ => rfl⟩
  | succ m ih =>
    intro hr fu s I hh hf hM h89 hk
    obtain ⟨f, rfl⟩ : ∃ f, fu = f + 1 := ⟨fu - 1, by omega⟩
    obtain ⟨I1, e1, f1, k1⟩ := m_a45 (hr := hr) (w := w) hO hct (by omega) hF hg (hYc hr) (tC T) 0 FUEL s I (by omega) (by omega) hM h89 hk
    rw [fX12_ask_35, if_neg (show ¬ (24 : Int32) ≤ nI hr from nI_ge (b := 24) (by omega) (by decide)), show fX12_ask_45 FUEL w (mq1 s) (mq2 s) (nI hr) 0 I L = _ from e1]
    simp only [Option.bind_some, nI_1]
    obtain ⟨I2, e2, f2⟩ := ih (hr + 1) f _ I1 (by omega) (by omega) (hM.f81 f1) (by rw [f1 73 (by decide) (by decide)]; exact h89) k1
    exact ⟨I2, e2, f1.trans f2⟩
theorem qst_some {Y : Nat → Nat} {ct hr c : Nat} {p : Nat × Nat} : ∃ p', qst T Y ct hr c (some p) = some p' := by
  obtain ⟨x, l⟩ := p
  unfold qst
  split
  · simp only
    split
    · exact ⟨_, rfl⟩
    · exact ⟨_, rfl⟩
  · exact ⟨_, rfl⟩
theorem qsC_some {Y : Nat → Nat} {ct hr : Nat} : ∀ (m c : Nat) (p : Nat × Nat), ∃ p', qsC T Y ct hr m c (some p) = some p' := by
  intro m
  induction m with
  | zero => intro c p; exact ⟨p, rfl⟩
  | succ m ih =>
    intro c p
    obtain ⟨p', h⟩ := qst_some (T := T) (Y := Y) (ct := ct) (hr := hr) (c := c) (p := p)
    rw [qsC, h]
    exact ih (c + 1) p'
theorem qsC_new {Y : Nat → Nat} {ct hr e : Nat} (he : grd T e) : ∀ (m c : Nat) (s : Option (Nat × Nat)), c ≤ e → e < c + m → ∃ p', qsC T Y ct hr m c s = some p' := by
  intro m
  induction m with
  | zero => intro c s h1 h2; omega
  | succ m ih =>
    intro c s h1 h2
    rw [qsC]
    by_cases hec : e = c
    · subst hec
      have : ∃ p, qst T Y ct hr e s = some p := by
        cases s with
        | none => unfold qst; rw [if_pos (show e < tC T ∧ isW T e = false from he)]; exact ⟨_, rfl⟩
        | some p => exact qst_some
      obtain ⟨p, hp⟩ := this
      rw [hp]
      exact qsC_some m (e + 1) p
    · exact ih (c + 1) _ (by omega) (by omega)
theorem qsH_some {Y : Nat → Nat → Nat} {ct : Nat} : ∀ (m hr : Nat) (p : Nat × Nat), ∃ p', qsH T Y ct m hr (some p) = some p' := by
  intro m
  induction m with
  | zero => intro hr p; exact ⟨p, rfl⟩
  | succ m ih =>
    intro hr p
    obtain ⟨p', h⟩ := qsC_some (T := T) (Y := Y hr) (ct := ct) (hr := hr) (tC T) 0 p
    rw [qsH, h]
    exact ih (hr + 1) p'
theorem fb_pos {p : Nat → Bool} : ∀ n, 0 < fb_ct p n → ∃ c, c < n ∧ p c = true := by
  intro n
  induction n with
  | zero => intro h; exact absurd h (Nat.lt_irrefl _)
  | succ n ih =>
    intro h
    rw [fb_ct_succ] at h
    cases hp : p n with
    | true => exact ⟨n, by omega, hp⟩
    | false =>
      rw [hp] at h
      obtain ⟨c, h1, h2⟩ := ih (by simpa using h)
      exact ⟨c, by omega, h2⟩
theorem c_ask (h : Inv T q st a u I L) (v k : Int32) : ∃ r I1 L1 I2 L2, fX11_ask q v k I L = some (r, I1, L1) ∧ fX12_ask v k I1 L1 = some (r, I2, L2) ∧ Inv T q st a u I2 L2 := by
  obtain ⟨mf, hmf⟩ := fuel_at 1000 (by decide)
  unfold fX11_ask fX12_ask
  rcases g_choice v with ⟨w1, w2, w3⟩ | ⟨w1, w2⟩
  · have hO := h.1
    have hq := h.2.1
    obtain ⟨lk, n, F, ct, I1, L1, e1, i1, hct, hF1, hg, hFeq, hmod⟩ := h.both k
    have hct256 : ct ≤ 256 := by
      have a1 := fb_ct_le (F 1) 64
      have a2 := fb_ct_le (F 2) 64
      have a3 := fb_ct_le (F 3) 64
      have a4 := fb_ct_le (F 4) 64
      omega
    have hYc : ∀ hr e, yesC T F hr e ≤ ct := by
      intro hr e
      unfold yesC
      have a1 := fb_and (F 1) (fun c => rayS T c (lnV T 1 hr) e) 64
      have a2 := fb_and (F 2) (fun c => rayS T c (lnV T 2 hr) e) 64
      have a3 := fb_and (F 3) (fun c => rayS T c (lnV T 3 hr) e) 64
      have a4 := fb_and (F 4) (fun c => rayS T c (lnV T 4 hr) e) 64
      omega
    -- frames of the class's search
    obtain ⟨lk', n', t', hK⟩ := h.look
    obtain ⟨I1', L1', e1', f1', g1', v1'⟩ := x_ff hO hq k h.2.2.1 hK
    have eqI : I1' = I1 ∧ L1' = L1 := by
      rw [e1] at e1'
      have e3 := Option.some.inj e1'
      exact ⟨(congrArg (fun z => z.2.1) e3).symm, (congrArg (fun z => z.2.2) e3).symm⟩
    rw [eqI.1] at f1'
    have r73 : I1 73 = I 73 := f1' 73 (by rcases hq with h | h <;> omega) (by decide)
    have r66 : I1 66 = I 66 := f1' 66 (by rcases hq with h | h <;> omega) (by decide)
    have rr : ∀ b, (67 ≤ b ∧ b ≤ 70) ∨ (108 ≤ b ∧ b ≤ 112) → I1 b = I b := fun b hb => f1' b (by rcases hq with h | h <;> omega) (by omega)
    by_cases hz : ct = 0
    · obtain ⟨I2, L2, e2, f2, v2, w2'⟩ := hmod I1 L1 i1 (by rw [r66]) (by rw [r66]) rr (by rw [r66]) (by rw [r66]) (by rw [r73]) (by rw [r73])
      refine ⟨-1, I1, L1, I2, L2, ?_, ?_, i1.ff f2⟩
      · rw [w2, e1]
        simp only [b2i_eq0, Bool.true_eq_false, if_false, Option.bind_some]
        rw [if_pos (show nI ct = 0 by rw [hz]; rfl)]
      · rw [w3, e2]
        simp only [b2i_eq0, Bool.true_eq_false, if_false, Option.bind_some]
        rw [v2, if_pos (show nI ct = 0 by rw [hz]; rfl)]
    · have hnz : ¬ nI ct = 0 := nI_ne0 (by omega) (by omega)
      have cf : fX3_countFitting L1 = some (nI ct) := by
        rw [x_cntF (p := fun l => F (l + 1)) hF1, hct]
      have xq0 : xq ct none (up2 I1 66 3 (nI (ct + 1))) := by unfold xq; simp [up2_at]
      have hX2 : XTown T q (up2 I1 66 3 (nI (ct + 1))) L1 := i1.2.2.1.fr (fun b b1 b2 => upRow _ _ (by rcases hq with h | h <;> omega)) ⟨rfl, rfl⟩
      obtain ⟨I3, e3, f3, g3, s3, k3⟩ := x_q14 hO hq hct256 hF1 hg hYc 24 0 FUEL none (up2 I1 66 3 (nI (ct + 1))) (by omega) (by omega) hX2 xq0 (fun x l e => by cases e)
      have fI3 : ∀ b, b ≠ q + 21 → b ≠ 72 → b ≠ 66 → I3 b = I1 b := fun b h1 h2 h3 => by rw [f3 b h1 h2 h3, upRow _ _ h3]
      have gI3 : ∀ j, j ≠ 2 → j ≠ 3 → I3 66 j = I1 66 j := fun j j1 j2 => by rw [g3 j j1 j2, up2_at, if_neg (fun g => j2 g.2)]
      have i3 : Inv T q st a u I3 L1 := i1.fk fI3 gI3 (fun _ _ => rfl)
      have r73' : I3 73 = I1 73 := fI3 73 (by rcases hq with h | h <;> omega) (by decide) (by decide)
      obtain ⟨I4, L4, e4, f4, v4, w4⟩ := hmod I3 L1 i3 (by rw [gI3 8 (by decide) (by decide), r66]) (by rw [gI3 9 (by decide) (by decide), r66]) (fun b hb => by rw [fI3 b (by rcases hq with h | h <;> omega) (by omega) (by omega)]; exact rr b hb) (by rw [gI3 0 (by decide) (by decide), r66]) (by rw [gI3 1 (by decide) (by decide), r66]) (by rw [r73', r73]) (by rw [r73', r73])
      have i4 := i3.ff f4
      obtain ⟨I5, e5, f5⟩ := m_a35 (w := v) hO hct256 w4 hg hYc 24 0 FUEL none I4 (by omega) (by omega) i4.2.2.2.1 v4 (fun x l e => by cases e)
      have i5 : Inv T q st a u I5 L4 := i4.ff (F81.ff f5)
      -- there is a question
      have hgr : ∃ e, grd T e := by
        have : 0 < fb_ct (F 1) 64 ∨ 0 < fb_ct (F 2) 64 ∨ 0 < fb_ct (F 3) 64 ∨ 0 < fb_ct (F 4) 64 := by omega
        rcases this with g | g | g | g <;> obtain ⟨c, _, h2⟩ := fb_pos _ g <;> exact ⟨c, hg _ _ h2⟩
      obtain ⟨e, he⟩ := hgr
      have hsm : ∃ x l, qsH T (yesC T F) ct 24 0 none = some (x, l) := by
        rw [show (24 : Nat) = 23 + 1 from rfl, qsH]
        obtain ⟨p, hp⟩ := qsC_new (Y := yesC T F 0) (ct := ct) (hr := 0) he (tC T) 0 none (Nat.zero_le _) (by have := he.1; omega)
        rw [hp]
        obtain ⟨p', hp'⟩ := qsH_some (T := T) (Y := yesC T F) (ct := ct) 23 1 p
        exact ⟨p'.1, p'.2, hp'⟩
      obtain ⟨x, l, hxl⟩ := hsm
      rw [hxl] at s3 e5
      have s3' : I3 66 2 = nI x ∧ I3 66 3 = nI l := s3
      refine ⟨if v = 0 then nI x else nI l, I3, L1, I5, L4, ?_, ?_, i5⟩
      · rw [w2, e1]
        simp only [b2i_eq0, Bool.true_eq_false, if_false, Option.bind_some, if_neg hnz]
        unfold fX3_findQuestion
        rw [cf]
        simp only [Option.bind_some, nI_1]
        rw [show fX3_findQuestion_14 q FUEL (nI ct) 0 (up2 I1 66 3 (nI (ct + 1))) L1 = _ from e3]
        simp only [Option.bind_some, s3'.1, s3'.2]
        by_cases hv : v = 0
        · rw [if_pos hv, if_pos hv]
        · rw [if_neg hv, if_neg hv]
      · rw [w3, e4]
        simp only [b2i_eq0, Bool.true_eq_false, if_false, Option.bind_some, v4, if_neg hnz]
        rw [show fX12_ask_35 FUEL v (-1) 1000 0 I4 L4 = _ from e5]
        simp only [Option.bind_some]
        by_cases hv : v = 0
        · rw [if_pos hv, if_pos hv]; rfl
        · rw [if_neg hv, if_neg hv]; rfl
  · rw [w1]
    exact ⟨_, I, L, I, L, rfl, by rw [w2]; rfl, h⟩
end AK2
