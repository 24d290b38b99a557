/-! rooms: what is joined -/
def conn (E : Nat → Nat → Prop) (c e : Nat) : Prop := ∀ R : Nat → Nat → Prop, (∀ x, R x x) → (∀ x y, R x y → R y x) → (∀ x y z, R x y → R y z → R x z) → (∀ x y, E x y → R x y) → R c e
theorem conn_refl {E : Nat → Nat → Prop} (c : Nat) : conn E c c := fun _ h1 _ _ _ => h1 c
theorem conn_symm {E : Nat → Nat → Prop} {c e : Nat} (h : conn E c e) : conn E e c := fun R h1 h2 h3 h4 => h2 _ _ (h R h1 h2 h3 h4)
theorem conn_trans {E : Nat → Nat → Prop} {c e f : Nat} (h : conn E c e) (g : conn E e f) : conn E c f := fun R h1 h2 h3 h4 => h3 _ _ _ (h R h1 h2 h3 h4) (g R h1 h2 h3 h4)
theorem conn_edge {E : Nat → Nat → Prop} {c e : Nat} (h : E c e) : conn E c e := fun _ _ _ _ h4 => h4 c e h
theorem conn_mono {E E' : Nat → Nat → Prop} (hE : ∀ x y, E x y → conn E' x y) {c e : Nat} (h : conn E c e) : conn E' c e := h (conn E') conn_refl (fun _ _ => conn_symm) (fun _ _ _ => conn_trans) hE
section RO
variable {T : Nat → Nat → Nat} {q : Nat} {st : Nat → Nat → Nat} {a u : Nat} {I : HI} {L : HL} {N : Nat → Nat}
/-- one may go from one to the other in hour n -/
def mvE (T : Nat → Nat → Nat) (N : Nat → Nat) (n x y : Nat) : Prop := grd T x ∧ mvN T (N 8) (N 5) (N 6) 0 (decide (N 7 = 1)) n x y
def RP (T : Nat → Nat → Nat) (N : Nat → Nat) (n : Nat) (r : Nat → Nat) : Prop := ∀ c, grd T c → r c ≤ c ∧ grd T (r c) ∧ r (r c) = r c ∧ ∀ e, grd T e → (r c = r e ↔ conn (mvE T N n) c e)
theorem cnt_lt {x y : Int64} (hsub : ∀ c, hb x c = true → hb y c = true) (hne : x ≠ y) : fb_ct (hb x) 64 < fb_ct (hb y) 64 := by
  have key : ∀ n, n ≤ 64 → fb_ct (hb x) n ≤ fb_ct (hb y) n ∧ ((∃ c, c < n ∧ hb x c = false ∧ hb y c = true) → fb_ct (hb x) n < fb_ct (hb y) n) := by
    intro n
    induction n with
    | zero => intro _; exact ⟨Nat.le_refl _, fun ⟨c, h, _⟩ => absurd h (Nat.not_lt_zero c)⟩
    | succ n ih =>
      intro hn
      obtain ⟨i1, i2⟩ := ih (by omega)
      rw [fb_ct_succ, fb_ct_succ]
      have hs := hsub n
      constructor
      · cases hx : hb x n with
        | false => simp; omega
        | true => rw [hs hx]; simp; exact i1
      · rintro ⟨c, h1, h2, h3⟩
        by_cases hc : c = n
        · subst hc
          rw [h2, h3]; simp; omega
        · have := i2 ⟨c, by omega, h2, h3⟩
          cases hx : hb x n with
          | false => simp; omega
          | true => rw [hs hx]; simp; exact this
  refine (key 64 (Nat.le_refl _)).2 ?_
  apply Classical.byContradiction
  intro hno
  apply hne
  apply hb_ext
  intro c hc
  cases hx : hb x c with
  | true => exact (hsub c hx).symm
  | false =>
    cases hy : hb y c with
    | false => rfl
    | true => exact absurd ⟨c, hc, hx, hy⟩ hno
theorem x_jwL (hO : TOk T) {n : Nat} {x0 : Int64} (hn : n ≤ 48) : ∀ (m i fu : Nat) (x : Int64) (I : HI) (L : HL), i + m = 64 → m < fu → GS T x → i < fb_ct (hb x) 64 → (∀ c, hb x0 c = true → hb x c = true) → (∀ e, hb x e = true → ∃ c, hb x0 c = true ∧ conn (mvE T (st a) n) c e) → Inv T q st a u I L → SkyNow T (st a) I L → ∃ J I' L', fX10_joinedWith_6 q fu (nI n) x (nI i) I L = some (J, I', L') ∧ (∀ c, hb x0 c = true → hb J c = true) ∧ (∀ e, hb J e = true → ∃ c, hb x0 c = true ∧ conn (mvE T (st a) n) c e) ∧ GS T J ∧ stN T (st a) n J = J ∧ SkyNow T (st a) I' L' ∧ Inv T q st a u I' L' := by
  intro m
  induction m with
  | zero =>
    intro i fu x I L hi hf hx hct h0 h1 h hs
    have := fb_ct_le (hb x) 64
    omega
  | succ m ih =>
    intro i fu x I L hi hf hx hct h0 h1 h hs
    obtain ⟨f, rfl⟩ : ∃ f, fu = f + 1 := ⟨fu - 1, by omega⟩
    obtain ⟨I1, L1, e1, s1, i1⟩ := h.xst hs hn hx
    rw [fX10_joinedWith_6, if_neg (show ¬ (64 : Int32) ≤ nI i from nI_ge (b := 64) (by omega) (by decide)), e1]
    simp only [Option.bind_some]
    by_cases heq : stN T (st a) n x = x
    · rw [if_pos heq]
      exact ⟨x, I1, L1, rfl, h0, h1, hx, heq, s1, i1⟩
    · rw [if_neg heq, nI_1]
      have hsub : ∀ c, hb x c = true → hb (stN T (st a) n x) c = true := fun c hc => (stN_iff hO hx).mpr ⟨c, hc, mv_refl⟩
      have hlt := cnt_lt hsub (fun g => heq g.symm)
      exact ih (i + 1) f _ I1 L1 (by omega) (by omega) (stN_GS hO hx) (by omega) (fun c hc => hsub c (h0 c hc)) (fun e he => by
        obtain ⟨y, y1, y2⟩ := (stN_iff hO hx).mp he
        obtain ⟨c, c1, c2⟩ := h1 y y1
        exact ⟨c, c1, conn_trans c2 (conn_edge ⟨hx y y1, y2⟩)⟩) i1 s1
/-- the room of a cell -/
theorem x_joined (h : Inv T q st a u I L) (hs : SkyNow T (st a) I L) {n c : Nat} (hn : n ≤ 48) (hc : grd T c) : ∃ J I' L', fX10_joinedWith q (oneI c) (nI n) I L = some (J, I', L') ∧ (∀ e, grd T e → (hb J e = true ↔ conn (mvE T (st a) n) c e)) ∧ GS T J ∧ SkyNow T (st a) I' L' ∧ Inv T q st a u I' L' := by
  obtain ⟨mf, hmf⟩ := fuel_at 1000 (by decide)
  have hO := h.1
  have c64 := grd_64 hO hc
  have hpos : 0 < fb_ct (hb (oneI c)) 64 := by
    have : ∀ n, c < n → n ≤ 64 → 0 < fb_ct (hb (oneI c)) n := by
      intro n
      induction n with
      | zero => intro h; omega
      | succ n ih =>
        intro h1 h2
        rw [fb_ct_succ]
        by_cases hcn : c = n
        · rw [← hcn, (one_iff c64).mpr rfl]; simp
        · have := ih (by omega) (by omega); omega
    exact this 64 c64 (Nat.le_refl _)
  obtain ⟨J, I1, L1, e1, j0, j1, jg, js, s1, i1⟩ := x_jwL (x0 := oneI c) hO hn 64 0 FUEL (oneI c) I L (by omega) (by omega) (one_GS hO hc) hpos (fun _ h => h) (fun e he => ⟨e, he, conn_refl e⟩) h hs
  unfold fX10_joinedWith
  rw [show fX10_joinedWith_6 q FUEL (nI n) (oneI c) 0 I L = _ from e1]
  refine ⟨J, I1, L1, rfl, fun e he => ⟨fun hj => ?_, fun hcn => ?_⟩, jg, s1, i1⟩
  · obtain ⟨x, x1, x2⟩ := j1 e hj
    rw [one_iff c64] at x1
    subst x1; exact x2
  · have hr := hcn (fun x y => hb J x = true ↔ hb J y = true) (fun _ => Iff.rfl) (fun _ _ g => g.symm) (fun _ _ _ g1 g2 => g1.trans g2) (fun x y hxy => by
      obtain ⟨gx, hm⟩ := hxy
      constructor
      · intro hx
        have : hb (stN T (st a) n J) y = true := (stN_iff hO jg).mpr ⟨x, hx, hm⟩
        rwa [js] at this
      · intro hy
        have : hb (stN T (st a) n J) x = true := (stN_iff hO jg).mpr ⟨y, hy, mv_symm hO gx hm⟩
        rwa [js] at this)
    exact hr.mp (j0 c ((one_iff c64).mpr rfl))
def crep (r : Nat → Nat) (x : Int64) : Nat := fb_ct (fun c => hb x c && decide (r c = c)) 64
theorem fb_dec {p p' : Nat → Bool} {k : Nat} (hk : p k = true) (hk' : p' k = false) (hoth : ∀ c, c ≠ k → p' c = p c) : ∀ n, k < n → fb_ct p n = fb_ct p' n + 1 := by
  intro n
  induction n with
  | zero => intro h; omega
  | succ n ih =>
    intro h
    rw [fb_ct_succ, fb_ct_succ]
    by_cases hkn : k = n
    · subst hkn
      rw [hk, hk', fb_ct_cong (p := p) (q := p') (fun c hc => (hoth c (by omega)).symm)]
      simp
    · rw [hoth n (by omega), ih (by omega)]
      omega
theorem x_cjL {n : Nat} (hn : n ≤ 48) : ∀ (m i fu : Nat) (x : Int64) (I : HI) (L : HL), i + m = 64 → m < fu → GS T x → (∀ c e, grd T c → grd T e → conn (mvE T (st a) n) c e → (hb x c = true ↔ hb x e = true)) → Inv T q st a u I L → SkyNow T (st a) I L → ∃ k I' L', fX10_countJoined_17 q fu (nI n) x (nI i) (nI i) I L = some (nI k, I', L') ∧ (∀ r, RP T (st a) n r → crep r x ≤ m → k = i + crep r x) ∧ SkyNow T (st a) I' L' ∧ Inv T q st a u I' L' := by
  intro m
  induction m with
  | zero =>
    intro i fu x I L hi hf hx hcl h hs
    obtain ⟨f, rfl⟩ : ∃ f, fu = f + 1 := ⟨fu - 1, by omega⟩
    rw [fX10_countJoined_17, if_pos (show (64 : Int32) ≤ nI i from nI_le (a := 64) (by omega) (by omega))]
    exact ⟨i, I, L, rfl, fun r _ h0 => by omega, hs, h⟩
  | succ m ih =>
    intro i fu x I L hi hf hx hcl h hs
    obtain ⟨f, rfl⟩ : ∃ f, fu = f + 1 := ⟨fu - 1, by omega⟩
    have hO := h.1
    rw [fX10_countJoined_17, if_neg (show ¬ (64 : Int32) ≤ nI i from nI_ge (b := 64) (by omega) (by decide))]
    by_cases hz : x = 0
    · rw [if_pos hz]
      simp only [Option.bind_some, if_true]
      refine ⟨i, I, L, rfl, fun r _ _ => ?_, hs, h⟩
      have : crep r x = 0 := by
        unfold crep
        rw [hz, fb_ct_cong (q := fun _ => false) (fun c _ => by rw [hb_0]; rfl)]
        have : ∀ n, fb_ct (fun _ => false) n = 0 := by
          intro n
          induction n with
          | zero => rfl
          | succ n ih => rw [fb_ct_succ, ih]; rfl
        exact this 64
      omega
    · rw [if_neg hz]
      simp only [Option.bind_some, Bool.false_eq_true, if_false]
      have hlow := lowB_yes hz
      have gl := hx _ hlow
      have l64 := lowB_lt hz
      obtain ⟨J, I1, L1, e1, j1, jg, s1, i1⟩ := x_joined h hs hn gl
      rw [x_lowest hz, show (1 : Int64) <<< ((nI (lowB x)).toInt64 &&& 63) = oneI (lowB x) from rfl, e1]
      simp only [Option.bind_some, nI_1]
      have hbit : ∀ c, c < 64 → hb (x &&& (J ^^^ -1)) c = (hb x c && !hb J c) := fun c hc => by rw [hb_and, hb_not _ hc]
      have hx' : GS T (x &&& (J ^^^ -1)) := by
        intro c hc
        rw [hb_and, Bool.and_eq_true] at hc
        exact hx c hc.1
      obtain ⟨k, I2, L2, e2, hk, s2, i2⟩ := ih (i + 1) f (x &&& (J ^^^ -1)) I1 L1 (by omega) (by omega) hx' (by
        intro c e gc ge hce
        rw [hbit c (grd_64 hO gc), hbit e (grd_64 hO ge)]
        have h1 := hcl c e gc ge hce
        have h2 : hb J c = true ↔ hb J e = true := by
          rw [j1 c gc, j1 e ge]
          exact ⟨fun g => conn_trans g hce, fun g => conn_trans g (conn_symm hce)⟩
        rw [show hb x c = hb x e from Bool.eq_iff_iff.mpr h1, show hb J c = hb J e from Bool.eq_iff_iff.mpr h2]) i1 s1
      refine ⟨k, I2, L2, e2, fun r hr hm => ?_, s2, i2⟩
      -- the least of what is left stands for its room
      obtain ⟨r1, r2, r3, r4⟩ := hr _ gl
      have hrl : r (lowB x) = lowB x := by
        have hc1 : conn (mvE T (st a) n) (lowB x) (r (lowB x)) := (r4 _ r2).mp r3.symm
        have hin := (hcl _ _ gl r2 hc1).mp hlow
        apply Nat.le_antisymm r1
        apply Nat.le_of_not_lt
        intro hlt
        rw [lowB_no hlt] at hin
        cases hin
      have hdec : crep r x = crep r (x &&& (J ^^^ -1)) + 1 := by
        unfold crep
        refine fb_dec (k := lowB x) ?_ ?_ ?_ 64 l64
        · simp [hlow, hrl]
        · have : hb J (lowB x) = true := (j1 _ gl).mpr (conn_refl _)
          rw [hbit _ l64, this]; simp
        · intro c hc
          by_cases hc64 : c < 64
          · rw [hbit c hc64]
            cases hbx : hb x c with
            | false => rfl
            | true =>
              cases hbj : hb J c with
              | false => rfl
              | true =>
                have gc := hx c hbx
                have hcn := (j1 c gc).mp hbj
                have hrc : r (lowB x) = r c := (r4 c gc).mpr hcn
                rw [hrl] at hrc
                have : ¬ r c = c := fun g => hc (by rw [← g]; exact hrc.symm)
                simp [this]
          · rw [hb_hi _ (by omega), hb_hi x (by omega)]
      have := hk r hr (by omega)
      omega
end RO
