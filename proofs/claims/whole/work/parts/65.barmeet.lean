/-! barred, meet -/
section BM
variable {T : Nat → Nat → Nat} {q : Nat} {st : Nat → Nat → Nat} {a u : Nat} {I : HI} {L : HL} {s S O B : Nat} {K : Bool}
theorem x_cfL : ∀ (k fu : Nat) (x : Int64) (I : HI) (L : HL), k ≤ 48 → k < fu → GS T x → Inv T q st a u I L → SkyNow T (st a) I L → ∃ I' L', fX10_comeFrom_8 q fu x (nI k - 1) I L = some (dnS T (st a 8) (st a 5) (st a 6) 0 (decide (st a 7 = 1)) k x, I', L') ∧ SkyNow T (st a) I' L' ∧ Inv T q st a u I' L' := by
  intro k
  induction k with
  | zero =>
    intro fu x I L hk hf hx h hs
    obtain ⟨f, rfl⟩ : ∃ f, fu = f + 1 := ⟨fu - 1, by omega⟩
    rw [fX10_comeFrom_8, if_pos (by decide)]
    exact ⟨I, L, rfl, hs, h⟩
  | succ k ih =>
    intro fu x I L hk hf hx h hs
    obtain ⟨f, rfl⟩ : ∃ f, fu = f + 1 := ⟨fu - 1, by omega⟩
    obtain ⟨I1, L1, e1, s1, i1⟩ := h.xst hs (n := k) (by omega) hx
    rw [nI_pred, fX10_comeFrom_8, if_neg (nI_pos (by omega)), e1]
    simp only [Option.bind_some]
    rw [show nI k + (-1 : Int32) = nI k - 1 from (Int32.sub_eq_add_neg _ _).symm]
    exact ih f _ I1 L1 (by omega) (by omega) (stp_GS h.1 hx) i1 s1
theorem m_barL {n to : Nat} {I : HI} {L : HL} (hO : TOk T) (hM : MTown T I L) (hn : n ≤ 48) (hto : to < 64) (hH : MHrs T s S O B K n L) : ∀ (m c fu : Nat) (x : Int64), c + m = tC T → m < fu → ∃ r, fX12_barred_39 fu (nI to) (nI n) x (nI c) I L = some r ∧ ∀ e, e < 64 → (hb r e = true ↔ (hb x e = true ∨ (c ≤ e ∧ grd T e ∧ ¬ hb (itS T s S O B K n 0 (oneI e)) to = true))) := by
  have hC := tC_le hO.1
  intro m
  induction m with
  | zero =>
    intro c fu x hc hf
    obtain ⟨f, rfl⟩ : ∃ f, fu = f + 1 := ⟨fu - 1, by omega⟩
    rw [fX12_barred_39, m_size hM.1, if_pos (nI_le (by omega) (by omega))]
    refine ⟨x, rfl, fun e _ => ⟨Or.inl, ?_⟩⟩
    rintro (h | ⟨h1, h2, _⟩)
    · exact h
    · have := h2.1; omega
  | succ m ih =>
    intro c fu x hc hf
    obtain ⟨f, rfl⟩ : ∃ f, fu = f + 1 := ⟨fu - 1, by omega⟩
    have hc4 : c < tC T := by omega
    rw [fX12_barred_39, m_size hM.1, if_neg (nI_ge hc4 (by omega)), nI_1, has_hb _ (by omega), hM.1.2.2 c (by omega), m_reach hO hM hn hH]
    simp only [Option.bind_some, b2i_eq0, has_hb _ hto]
    by_cases hin : isW T c = false ∧ hb (itS T s S O B K n 0 (oneI c)) to = false
    · have e1 : (if isW T c = false then if hb (itS T s S O B K n 0 (oneI c)) to = false then some false else some true else some true) = some false := by rw [if_pos hin.1, if_pos hin.2]
      rw [e1]
      simp only [Option.bind_some, Bool.false_eq_true, if_false]
      obtain ⟨r, e2, h2⟩ := ih (c + 1) f (x ||| (1 : Int64) <<< ((nI c).toInt64 &&& 63)) (by omega) (by omega)
      refine ⟨r, e2, fun e he => ?_⟩
      rw [h2 e he, hb_or, Bool.or_eq_true, hb_cell (by omega)]
      constructor
      · rintro ((h | h) | ⟨h1, h2⟩)
        · exact Or.inl h
        · subst h; exact Or.inr ⟨Nat.le_refl _, ⟨hc4, hin.1⟩, by rw [hin.2]; decide⟩
        · exact Or.inr ⟨by omega, h2⟩
      · rintro (h | ⟨h1, h2⟩)
        · exact Or.inl (Or.inl h)
        · by_cases hec : e = c
          · exact Or.inl (Or.inr hec)
          · exact Or.inr ⟨by omega, h2⟩
    · have e1 : (if isW T c = false then if hb (itS T s S O B K n 0 (oneI c)) to = false then some false else some true else some true) = some true := by
        by_cases hw : isW T c = false
        · rw [if_pos hw, if_neg (fun g => hin ⟨hw, g⟩)]
        · rw [if_neg hw]
      rw [e1]
      simp only [Option.bind_some, if_true]
      obtain ⟨r, e2, h2⟩ := ih (c + 1) f x (by omega) (by omega)
      refine ⟨r, e2, fun e he => ?_⟩
      rw [h2 e he]
      constructor
      · rintro (h | ⟨h1, h2⟩)
        · exact Or.inl h
        · exact Or.inr ⟨by omega, h2⟩
      · rintro (h | ⟨h1, g2, h3⟩)
        · exact Or.inl h
        · by_cases hec : e = c
          · subst hec
            refine absurd ⟨g2.2, ?_⟩ hin
            cases hh : hb (itS T s S O B K n 0 (oneI e)) to with
            | false => rfl
            | true => exact absurd hh h3
          · exact Or.inr ⟨by omega, g2, h3⟩
theorem c_barred (h : Inv T q st a u I L) (v w : Int32) : ∃ r I1 L1 I2 L2, fX11_barred q q v w I L = some (r, I1, L1) ∧ fX12_barred v w I1 L1 = some (r, I2, L2) ∧ Inv T q st a u I2 L2 := by
  obtain ⟨mf, hmf⟩ := fuel_at 1000 (by decide)
  have hC := tC_le h.1.1
  unfold fX11_barred fX12_barred
  rcases g_free h.1.1 h.2.2.1.1 h.2.2.1.2.1.2 h.2.2.2.1.1 v with ⟨c, c1, c2, c3, c4⟩ | ⟨c1, c2⟩
  · rcases g_far w with ⟨n, n1, n2, n3, n4⟩ | ⟨n1, n2⟩
    · subst c2
      subst n2
      have c64 := grd_64 h.1 c1
      obtain ⟨I1, L1, e1, s1, f1, i1⟩ := h.aim
      obtain ⟨I2, L2, e2, s2, i2⟩ := x_cfL n FUEL (oneI c) I1 L1 n1 (by omega) (one_GS h.1 c1) i1 s1
      obtain ⟨I3, I4, L4, e3, e39, e4, h4, i4⟩ := i2.hours n1
      obtain ⟨r, e5, r5⟩ := m_barL h.1 i4.2.2.2.1 n1 c64 h4 (tC T) 0 FUEL 0 (by omega) (by omega)
      have hfr : fX12_isFree (nI c) I2 L2 = true := by
        rcases g_free h.1.1 h.2.2.1.1 h.2.2.1.2.1.2 i2.2.2.2.1.1 (nI c) with ⟨_, _, _, _, g⟩ | ⟨g, _⟩
        · exact g
        · rw [c3] at g; cases g
      have er : r = L1 q 4 &&& (dnS T (st a 8) (st a 5) (st a 6) 0 (decide (st a 7 = 1)) n (oneI c) ^^^ -1) := by
        refine hb_same r5 (fun e he => ?_)
        rw [hb_and, hb_not _ he, i1.2.2.1.2.1.2 e he, hb_0]
        simp only [Bool.and_eq_true, decide_eq_true_eq, Bool.not_eq_true', Bool.false_eq_true, false_or, Nat.zero_le, true_and]
        constructor
        · rintro ⟨h1, h2⟩
          refine ⟨h1, ?_⟩
          have d1 := dn_iff (s := st a 8) (S := st a 5) (O := st a 6) (B := 0) (K := decide (st a 7 = 1)) h.1 n (oneI c) e (one_GS h.1 c1) h1
          intro g
          cases hd : hb (dnS T (st a 8) (st a 5) (st a 6) 0 (decide (st a 7 = 1)) n (oneI c)) e with
          | true => rw [hd] at h2; cases h2
          | false =>
            obtain ⟨x, g1, g2⟩ := (it_iff h.1 n 0 (oneI e) c (one_GS h.1 h1)).mp g
            rw [one_iff he] at g1
            subst g1
            have := d1.mpr ⟨c, (one_iff c64).mpr rfl, g2⟩
            rw [hd] at this; cases this
        · rintro ⟨h1, h2⟩
          refine ⟨h1, ?_⟩
          have d1 := dn_iff (s := st a 8) (S := st a 5) (O := st a 6) (B := 0) (K := decide (st a 7 = 1)) h.1 n (oneI c) e (one_GS h.1 c1) h1
          cases hd : hb (dnS T (st a 8) (st a 5) (st a 6) 0 (decide (st a 7 = 1)) n (oneI c)) e with
          | false => rfl
          | true =>
            obtain ⟨x, g1, g2⟩ := d1.mp hd
            rw [one_iff c64] at g1
            subst g1
            exact absurd ((it_iff h.1 n 0 (oneI e) x (one_GS h.1 h1)).mpr ⟨e, (one_iff he).mpr rfl, g2⟩) h2
      refine ⟨L1 q 4 &&& (dnS T (st a 8) (st a 5) (st a 6) 0 (decide (st a 7 = 1)) n (oneI c) ^^^ -1), I2, L2, I4, L4, ?_, ?_, i4⟩
      · rw [c3, n3, e1]
        simp only [b2i_eq0, Bool.true_eq_false, if_false, Option.bind_some, Bool.false_eq_true]
        unfold fX10_comeFrom
        rw [show (1 : Int64) <<< ((nI c).toInt64 &&& 63) = oneI c from rfl, e2]
        rfl
      · rw [hfr, n4, e3]
        simp only [b2i_eq0, Bool.true_eq_false, if_false, Option.bind_some, Bool.false_eq_true, show (8 : Int32) = nI 8 from rfl, if_pos (inb_nI (show 8 < 10 by decide) (show 10 < 2 ^ 31 by decide)), clamp_nI (show 8 < 2 ^ 31 by decide), e39, e4]
        rw [show (0 : Int32) = nI 0 from rfl, e5, er]
        rfl
    · rw [c3, n1]
      exact ⟨_, I, L, I, L, rfl, by rw [c4, n2]; rfl, h⟩
  · rw [c1]
    exact ⟨_, I, L, I, L, rfl, by rw [c2]; rfl, h⟩
/-- two walk until they meet: hour, and both sets -/
noncomputable def mtS (T : Nat → Nat → Nat) (N : Nat → Nat) : Nat → Nat → Int64 → Int64 → Nat × Int64 × Int64
  | 0, k, x, y => (k, x, y)
  | m + 1, k, x, y => if x &&& y = 0 then mtS T N m (k + 1) (stN T N k x) (stN T N k y) else (k, x, y)
theorem Inv.f61 {J : HI} (h : Inv T q st a u I L) (hr : ∀ r, r ≠ 61 → J r = I r) (h2 : J 61 2 = I 61 2) : Inv T q st a u J L := by
  refine h.gen (fun r hb => hr r (by unfold base at hb; rcases h.2.1 with h | h <;> omega)) (by rw [hr 0 (by decide)]) (fun j hj => by rw [hr 73 (by decide)]) (fun _ _ => rfl) (h.sky.fr (hr 57 (by decide)) (hr 59 (by decide)) rfl rfl) (h.box.fr (by rw [hr 0 (by decide)]) (hr 114 (by decide)) (hr 115 (by decide)) rfl) (h.way.fr h2 (hr 62 (by decide)) (hr 103 (by decide)) (by rw [hr 73 (by decide)])) (h.look.fr (fun j _ => by rw [hr 66 (by decide)]) (fun b _ _ => hr b (by omega)) (fun b _ _ => hr b (by omega)) (by rw [hr 73 (by decide)]) (by rw [hr 73 (by decide)]))
theorem SkyNow.f61 {N : Nat → Nat} {J : HI} (h : SkyNow T N I L) (hr : ∀ r, r ≠ 61 → J r = I r) : SkyNow T N J L := by
  unfold SkyNow SkyAt SkyN at *
  rw [hr 57 (by decide), hr 59 (by decide)]
  exact h
theorem x_mtL : ∀ (m k fu : Nat) (x y : Int64) (I : HI) (L : HL), k + m = 48 → m < fu → GS T x → GS T y → I 61 3 = nI k → Inv T q st a u I L → SkyNow T (st a) I L → ∃ I' L', fX10_bringTogether_17 q fu x y (nI k) I L = some ((mtS T (st a) m k x y).2.1, (mtS T (st a) m k x y).2.2, I', L') ∧ I' 61 3 = nI (mtS T (st a) m k x y).1 ∧ Inv T q st a u I' L' := by
  intro m
  induction m with
  | zero =>
    intro k fu x y I L hk hf hx hy h3 h hs
    obtain ⟨f, rfl⟩ : ∃ f, fu = f + 1 := ⟨fu - 1, by omega⟩
    have : k = 48 := by omega
    subst this
    rw [fX10_bringTogether_17, if_pos (show (48 : Int32) ≤ nI 48 from nI_le (a := 48) (Nat.le_refl _) (by decide))]
    exact ⟨I, L, rfl, h3, h⟩
  | succ m ih =>
    intro k fu x y I L hk hf hx hy h3 h hs
    obtain ⟨f, rfl⟩ : ∃ f, fu = f + 1 := ⟨fu - 1, by omega⟩
    rw [fX10_bringTogether_17, if_neg (show ¬ (48 : Int32) ≤ nI k from nI_ge (b := 48) (by omega) (by decide)), mtS]
    by_cases hz : x &&& y = 0
    · rw [if_pos hz, if_pos hz]
      simp only [Option.bind_some, Bool.false_eq_true, if_false]
      obtain ⟨I1, L1, e1, s1, i1⟩ := h.xst hs (n := k) (by omega) hx
      obtain ⟨I2, L2, e2, s2, i2⟩ := i1.xst s1 (n := k) (by omega) hy
      rw [e1]
      simp only [Option.bind_some]
      rw [e2]
      simp only [Option.bind_some, nI_1]
      have hr : ∀ r, r ≠ 61 → up2 I2 61 3 (nI (k + 1)) r = I2 r := fun r hr => upRow _ _ hr
      exact ih (k + 1) f _ _ (up2 I2 61 3 (nI (k + 1))) L2 (by omega) (by omega) (stp_GS h.1 hx) (stp_GS h.1 hy) (by simp [up2_at]) (i2.f61 hr (by simp [up2_at])) (s2.f61 hr)
    · rw [if_neg hz, if_neg hz]
      simp only [Option.bind_some, if_true]
      exact ⟨I, L, rfl, h3, h⟩
theorem m_mtL {w : Int32} {I : HI} {L : HL} {N : Nat → Nat} (hO : TOk T) (hM : MTown T I L) (hH : MHrs T (N 8) (N 5) (N 6) 0 (decide (N 7 = 1)) 48 L) : ∀ (m k fu : Nat) (x y : Int64), k + m = 48 → m < fu → fX12_meet_73 fu w x y (nI k) I L = some (if (mtS T N m k x y).2.1 &&& (mtS T N m k x y).2.2 = 0 then .inr (-1) else .inl ((mtS T N m k x y).2.1, (mtS T N m k x y).2.2, nI (mtS T N m k x y).1)) := by
  intro m
  induction m with
  | zero =>
    intro k fu x y hk hf
    obtain ⟨f, rfl⟩ : ∃ f, fu = f + 1 := ⟨fu - 1, by omega⟩
    have : k = 48 := by omega
    subst this
    rw [fX12_meet_73, if_neg (by decide), mtS]
    by_cases hz : x &&& y = 0
    · rw [if_pos hz, if_pos (by rfl), if_pos hz]
    · rw [if_neg hz, if_neg hz]
  | succ m ih =>
    intro k fu x y hk hf
    obtain ⟨f, rfl⟩ : ∃ f, fu = f + 1 := ⟨fu - 1, by omega⟩
    rw [fX12_meet_73, if_neg (show ¬ (48 : Int32) < nI k from nI_nlt (a := 48) (by omega) (by omega)), mtS]
    by_cases hz : x &&& y = 0
    · rw [if_pos hz, if_neg (fun g => by have := (nI_eq (b := 48) (by omega) (by decide)).mp g; omega), m_stp hO hM (by omega) (Nat.le_refl _) hH]
      simp only [Option.bind_some]
      rw [m_stp hO hM (by omega) (Nat.le_refl _) hH]
      simp only [Option.bind_some, nI_1, if_pos hz]
      exact ih (k + 1) f _ _ (by omega) (by omega)
    · simp only [if_neg hz]
theorem c_meet (h : Inv T q st a u I L) (v w x : Int32) : ∃ r I1 L1 I2 L2, fX11_meet q q v w x I L = some (r, I1, L1) ∧ fX12_meet v w x I1 L1 = some (r, I2, L2) ∧ Inv T q st a u I2 L2 := by
  obtain ⟨mf, hmf⟩ := fuel_at 1000 (by decide)
  have h4 := h.1.2.2.2.1
  unfold fX11_meet fX12_meet fX12_isPerson
  rcases g_thing (t := q + 13) (j := 57) (J := I) h.2.2.1.2.2.2.2.2.2.2.2.1 h.2.2.2.1.2.2.2.2.1 (by omega) v with ⟨k, k1, k2, k3, k4⟩ | ⟨k1, k2⟩
  · rcases g_thing (t := q + 13) (j := 57) (J := I) h.2.2.1.2.2.2.2.2.2.2.2.1 h.2.2.2.1.2.2.2.2.1 (by omega) w with ⟨l, l1, l2, l3, l4⟩ | ⟨l1, l2⟩
    · by_cases hvw : v = w
      · rw [k3, l3, if_pos hvw]
        exact ⟨_, I, L, I, L, rfl, by rw [k4, l4, if_pos hvw]; rfl, h⟩
      · rcases g_choice x with ⟨w1, w2, w3⟩ | ⟨w1, w2⟩
        · subst k2
          subst l2
          obtain ⟨I1, L1, e1, s1, f1, i1⟩ := h.aim
          have hr : ∀ r, r ≠ 61 → up2 I1 61 3 0 r = I1 r := fun r hr => upRow _ _ hr
          obtain ⟨I2, L2, e2, t2, i2⟩ := x_mtL 48 0 FUEL (oneI (st a k)) (oneI (st a l)) (up2 I1 61 3 0) L1 (by omega) (by omega) (one_GS h.1 (h.nok k k1)) (one_GS h.1 (h.nok l l1)) (by simp [up2_at]; rfl) (i1.f61 hr (by simp [up2_at])) (s1.f61 hr)
          generalize hmt : mtS T (st a) 48 0 (oneI (st a k)) (oneI (st a l)) = mt at *
          have hr2 : ∀ r, r ≠ 61 → up2 I2 61 4 (fJ13_numberOfTrailingZeros_95d88 (mt.2.1 &&& mt.2.2)) r = I2 r := fun r hr => upRow _ _ hr
          have i3 := i2.f61 hr2 (by simp [up2_at])
          obtain ⟨I3, I4, L4, e3, e39, e4, h4', i4⟩ := i3.hours (n := 48) (Nat.le_refl _)
          have e5 := m_mtL (w := x) h.1 i4.2.2.2.1 h4' 48 0 FUEL (oneI (st a k)) (oneI (st a l)) (by omega) (by omega)
          rw [hmt] at e5
          have e57 : up2 I2 61 4 (fJ13_numberOfTrailingZeros_95d88 (mt.2.1 &&& mt.2.2)) 73 57 = I 73 57 := by rw [i3.2.2.2.1.2.2.2.2.1, h.2.2.2.1.2.2.2.2.1]
          refine ⟨if mt.2.1 &&& mt.2.2 = 0 then -1 else if x = 0 then nI mt.1 else nI (lowB (mt.2.1 &&& mt.2.2)), up2 I2 61 4 (fJ13_numberOfTrailingZeros_95d88 (mt.2.1 &&& mt.2.2)), L2, I4, L4, ?_, ?_, i4⟩
          · rw [k3, l3, if_neg hvw, w2, e1]
            simp only [b2i_eq0, Bool.true_eq_false, if_false, Option.bind_some, Bool.false_eq_true, if_pos (inb_nI (show k < 4 by omega) (show 4 < 2 ^ 31 by decide)), if_pos (inb_nI (show l < 4 by omega) (show 4 < 2 ^ 31 by decide)), clamp_nI (show k < 2 ^ 31 by omega), clamp_nI (show l < 2 ^ 31 by omega), i1.xnow.1 k (by omega), i1.xnow.1 l (by omega)]
            unfold fX10_bringTogether
            simp only [show ∀ c, (1 : Int64) <<< ((nI c).toInt64 &&& 63) = oneI c from fun _ => rfl]
            rw [show fX10_bringTogether_17 q FUEL (oneI (st a k)) (oneI (st a l)) 0 (up2 I1 61 3 0) L1 = _ from e2]
            simp only [Option.bind_some]
            by_cases hz : mt.2.1 &&& mt.2.2 = 0
            · rw [if_pos hz, if_pos hz]; rfl
            · rw [if_neg hz, if_neg hz]
              simp only [Option.bind_some, Bool.true_eq_false, if_false, up2_at, Nat.reduceEqDiff, and_false, and_self, if_true, t2, x_ntz hz]
              by_cases hx : x = 0
              · rw [if_pos hx, if_pos hx]
              · rw [if_neg hx, if_neg hx]
          · rw [e57, k4, l4, if_neg hvw, w3, e3]
            simp only [b2i_eq0, Bool.true_eq_false, if_false, Option.bind_some, Bool.false_eq_true, show (8 : Int32) = nI 8 from rfl, if_pos (inb_nI (show 8 < 10 by decide) (show 10 < 2 ^ 31 by decide)), clamp_nI (show 8 < 2 ^ 31 by decide), e39, show (48 : Int32) = nI 48 from rfl, e4, if_pos (inb_nI (show k < 10 by omega) (show 10 < 2 ^ 31 by decide)), if_pos (inb_nI (show l < 10 by omega) (show 10 < 2 ^ 31 by decide)), clamp_nI (show k < 2 ^ 31 by omega), clamp_nI (show l < 2 ^ 31 by omega), i4.mnow k (by omega), i4.mnow l (by omega), show ∀ c, (1 : Int64) <<< ((nI c).toInt64 &&& 63) = oneI c from fun _ => rfl]
            rw [show fX12_meet_73 FUEL x (oneI (st a k)) (oneI (st a l)) 0 I4 L4 = _ from e5]
            by_cases hz : mt.2.1 &&& mt.2.2 = 0
            · simp only [if_pos hz, Option.bind_some]
            · simp only [if_neg hz, Option.bind_some, m_least hz]
              by_cases hx : x = 0
              · rw [if_pos hx, if_pos hx]
              · rw [if_neg hx, if_neg hx]
        · rw [k3, l3, if_neg hvw, w1]
          exact ⟨_, I, L, I, L, rfl, by rw [k4, l4, if_neg hvw, w2]; rfl, h⟩
    · rw [k3, l1]
      exact ⟨_, I, L, I, L, rfl, by rw [k4, l2]; rfl, h⟩
  · rw [k1]
    exact ⟨_, I, L, I, L, rfl, by rw [k2]; rfl, h⟩
end BM
