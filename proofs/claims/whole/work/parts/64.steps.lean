/-! steps of sets, and paths -/
section ST2
variable {T : Nat → Nat → Nat} {s S O B : Nat} {K : Bool}
theorem thr_grd {lamp door high c : Nat} (h : thr T lamp door high c) : grd T c := by
  obtain ⟨_, _, _, h4, h5⟩ := h
  refine ⟨?_, h5⟩
  unfold ray at h4
  simp only [Bool.and_eq_true, decide_eq_true_eq] at h4
  exact h4.1
theorem shd_grd {hr dt d c : Nat} (h : shdA T hr dt O B K d c) : grd T c := by
  rcases h with ⟨h1, h2⟩ | ⟨l, _, _, h3⟩
  · exact ⟨rayS_lt h1, h2⟩
  · exact thr_grd h3
theorem mv_grd {hr dt c e : Nat} (hO : TOk T) (hc : grd T c) (h : mvA T hr dt S O B K c e) : grd T e := by
  rcases h with (h | h) | ⟨d, h1, _, ⟨_, h3⟩ | ⟨_, h3 | ⟨f, h4, _, _, h5⟩⟩⟩
  · subst h; exact hc
  · exact ⟨nbr_lt h.1, h.2⟩
  · subst h3; exact (hO.2.2.2.2.2.2.1 d h1).1
  · exact shd_grd h3
  · subst h5; exact (hO.2.2.2.2.2.2.1 f h4).1
theorem nbr_symm {c e : Nat} (hT : TSize T) (hc : c < tC T) (he : e < tC T) : nbr T c e = true ↔ nbr T e c = true := by
  rw [nbr_iff hT hc he, nbr_iff hT he hc]
  constructor
  · rintro (h | h | h | h)
    · exact Or.inr (Or.inl h)
    · exact Or.inl h
    · exact Or.inr (Or.inr (Or.inr h))
    · exact Or.inr (Or.inr (Or.inl h))
  · rintro (h | h | h | h)
    · exact Or.inr (Or.inl h)
    · exact Or.inl h
    · exact Or.inr (Or.inr (Or.inr h))
    · exact Or.inr (Or.inr (Or.inl h))
theorem crs_symm {hr dt d e : Nat} (h : crsA T hr dt O B K d e) : crsA T hr dt O B K e d := by
  obtain ⟨x, h1, h2, h3⟩ := h
  exact ⟨x, h1, h3, h2⟩
theorem mv_symm {hr dt c e : Nat} (hO : TOk T) (hc : grd T c) (h : mvA T hr dt S O B K c e) : mvA T hr dt S O B K e c := by
  have he := mv_grd hO hc h
  rcases h with (h | h) | ⟨d, h1, h2, ⟨h3, h4⟩ | ⟨h3, h4 | ⟨f, h5, h6, h7, h8⟩⟩⟩
  · exact Or.inl (Or.inl h.symm)
  · exact Or.inl (Or.inr ⟨(nbr_symm hO.1 hc.1 he.1).mp h.1, hc.2⟩)
  · exact Or.inr ⟨d, h1, h2, Or.inr ⟨h4.symm, Or.inl h3⟩⟩
  · exact Or.inr ⟨d, h1, h2, Or.inl ⟨h4, h3.symm⟩⟩
  · exact Or.inr ⟨f, h5, h6, Or.inr ⟨h8.symm, Or.inr ⟨d, h1, h2, crs_symm h7, h3.symm⟩⟩⟩
theorem mv_refl {hr dt c : Nat} : mvA T hr dt S O B K c c := Or.inl (Or.inl rfl)
/-- one hour's step from hour n after s -/
def mvN (T : Nat → Nat → Nat) (s S O B : Nat) (K : Bool) (n c e : Nat) : Prop := mvA T ((s + n) % 24) ((s + n) / 24) S O B K c e
noncomputable def stpI (T : Nat → Nat → Nat) (s S O B : Nat) (K : Bool) (n : Nat) (x : Int64) : Int64 := setI (stA T ((s + n) % 24) ((s + n) / 24) S O B K (fun c => hb x c = true))
def GS (T : Nat → Nat → Nat) (x : Int64) : Prop := ∀ c, hb x c = true → grd T c
theorem hb_64 {x : Int64} {c : Nat} (h : hb x c = true) : c < 64 := by
  by_cases hc : c < 64
  · exact hc
  · rw [hb_hi _ (by omega)] at h; cases h
theorem stp_iff {n e : Nat} {x : Int64} (hO : TOk T) (hx : GS T x) : hb (stpI T s S O B K n x) e = true ↔ ∃ c, hb x c = true ∧ mvN T s S O B K n c e := by
  constructor
  · intro h
    have he := hb_64 h
    obtain ⟨c, h1, _, h3⟩ := (setI_bit _ e he).mp h
    exact ⟨c, h1, h3⟩
  · rintro ⟨c, h1, h2⟩
    have he : e < 64 := grd_64 hO (mv_grd hO (hx c h1) h2)
    exact (setI_bit _ e he).mpr ⟨c, h1, hx c h1, h2⟩
theorem stp_GS {n : Nat} {x : Int64} (hO : TOk T) (hx : GS T x) : GS T (stpI T s S O B K n x) := by
  intro e he
  obtain ⟨c, h1, h2⟩ := (stp_iff hO hx).mp he
  exact mv_grd hO (hx c h1) h2
noncomputable def oneI (c : Nat) : Int64 := (1 : Int64) <<< ((nI c).toInt64 &&& 63)
theorem one_iff {c e : Nat} (hc : c < 64) : hb (oneI c) e = true ↔ e = c := hb_cell hc
theorem one_GS {c : Nat} (hO : TOk T) (hc : grd T c) : GS T (oneI c) := by
  intro e he
  rw [one_iff (grd_64 hO hc)] at he
  subst he; exact hc
/-- m steps from hour k on -/
noncomputable def itS (T : Nat → Nat → Nat) (s S O B : Nat) (K : Bool) : Nat → Nat → Int64 → Int64
  | 0, _, x => x
  | m + 1, k, x => itS T s S O B K m (k + 1) (stpI T s S O B K k x)
def rel (T : Nat → Nat → Nat) (s S O B : Nat) (K : Bool) : Nat → Nat → Nat → Nat → Prop
  | 0, _, c, e => c = e
  | m + 1, k, c, e => ∃ x, mvN T s S O B K k c x ∧ rel T s S O B K m (k + 1) x e
theorem it_iff (hO : TOk T) : ∀ (m k : Nat) (x : Int64) (e : Nat), GS T x → (hb (itS T s S O B K m k x) e = true ↔ ∃ c, hb x c = true ∧ rel T s S O B K m k c e) := by
  intro m
  induction m with
  | zero =>
    intro k x e hx
    constructor
    · intro h; exact ⟨e, h, rfl⟩
    · rintro ⟨c, h1, h2⟩
      have h3 : c = e := h2
      subst h3; exact h1
  | succ m ih =>
    intro k x e hx
    rw [itS, ih (k + 1) _ e (stp_GS hO hx)]
    constructor
    · rintro ⟨y, h1, h2⟩
      obtain ⟨c, h3, h4⟩ := (stp_iff hO hx).mp h1
      exact ⟨c, h3, y, h4, h2⟩
    · rintro ⟨c, h3, y, h4, h2⟩
      exact ⟨y, (stp_iff hO hx).mpr ⟨c, h3, h4⟩, h2⟩
theorem it_GS (hO : TOk T) : ∀ (m k : Nat) (x : Int64), GS T x → GS T (itS T s S O B K m k x) := by
  intro m
  induction m with
  | zero => intro k x hx; exact hx
  | succ m ih => intro k x hx; exact ih (k + 1) _ (stp_GS hO hx)
theorem it_snoc : ∀ (m k : Nat) (x : Int64), itS T s S O B K (m + 1) k x = stpI T s S O B K (k + m) (itS T s S O B K m k x) := by
  intro m
  induction m with
  | zero => intro k x; rfl
  | succ m ih =>
    intro k x
    rw [itS, ih (k + 1) _, show k + 1 + m = k + (m + 1) by omega]
    rfl
theorem rel_snoc : ∀ (m k c e : Nat), rel T s S O B K (m + 1) k c e ↔ ∃ x, rel T s S O B K m k c x ∧ mvN T s S O B K (k + m) x e := by
  intro m
  induction m with
  | zero =>
    intro k c e
    constructor
    · rintro ⟨x, h1, h2⟩
      have h3 : x = e := h2
      subst h3; exact ⟨c, rfl, h1⟩
    · rintro ⟨x, h1, h2⟩
      have h3 : c = x := h1
      subst h3; exact ⟨e, h2, rfl⟩
  | succ m ih =>
    intro k c e
    constructor
    · rintro ⟨x, h1, h2⟩
      obtain ⟨y, h3, h4⟩ := (ih (k + 1) x e).mp h2
      exact ⟨y, ⟨x, h1, h3⟩, by rw [show k + (m + 1) = k + 1 + m by omega]; exact h4⟩
    · rintro ⟨y, ⟨x, h1, h3⟩, h4⟩
      exact ⟨x, h1, (ih (k + 1) x e).mpr ⟨y, h3, by rw [show k + 1 + m = k + (m + 1) by omega]; exact h4⟩⟩
theorem rel_grd (hO : TOk T) : ∀ (m k c e : Nat), grd T c → rel T s S O B K m k c e → grd T e := by
  intro m
  induction m with
  | zero => intro k c e hc h; have h3 : c = e := h; subst h3; exact hc
  | succ m ih =>
    rintro k c e hc ⟨x, h1, h2⟩
    exact ih (k + 1) x e (mv_grd hO hc h1) h2
/-- backwards, from hour n - 1 to hour 0 -/
noncomputable def dnS (T : Nat → Nat → Nat) (s S O B : Nat) (K : Bool) : Nat → Int64 → Int64
  | 0, x => x
  | n + 1, x => dnS T s S O B K n (stpI T s S O B K n x)
theorem dn_iff (hO : TOk T) : ∀ (n : Nat) (x : Int64) (c : Nat), GS T x → grd T c → (hb (dnS T s S O B K n x) c = true ↔ ∃ e, hb x e = true ∧ rel T s S O B K n 0 c e) := by
  intro n
  induction n with
  | zero =>
    intro x c hx hc
    constructor
    · intro h; exact ⟨c, h, rfl⟩
    · rintro ⟨e, h1, h2⟩
      have h3 : c = e := h2
      subst h3; exact h1
  | succ n ih =>
    intro x c hx hc
    rw [dnS, ih _ c (stp_GS hO hx) hc]
    constructor
    · rintro ⟨y, h1, h2⟩
      obtain ⟨e, h3, h4⟩ := (stp_iff hO hx).mp h1
      exact ⟨e, h3, (rel_snoc n 0 c e).mpr ⟨y, h2, by rw [Nat.zero_add]; exact mv_symm hO (hx e h3) h4⟩⟩
    · rintro ⟨e, h3, h4⟩
      obtain ⟨y, h5, h6⟩ := (rel_snoc n 0 c e).mp h4
      rw [Nat.zero_add] at h6
      exact ⟨y, (stp_iff hO hx).mpr ⟨e, h3, mv_symm hO (rel_grd hO n 0 c y hc h5) h6⟩, h5⟩
theorem dn_GS (hO : TOk T) : ∀ (n : Nat) (x : Int64), GS T x → GS T (dnS T s S O B K n x) := by
  intro n
  induction n with
  | zero => intro x hx; exact hx
  | succ n ih => intro x hx; exact ih _ (stp_GS hO hx)
end ST2
section ST3
variable {T : Nat → Nat → Nat} {q : Nat} {st : Nat → Nat → Nat} {a u : Nat} {I : HI} {L : HL} {s S O B : Nat} {K : Bool}
/-- the class's step, whole -/
theorem x_stp {n S2 : Nat} {x : Int64} (hO : TOk T) (hq : isQ2 q) (hX : XTown T q I L) (hs : s < 10000) (hn : n ≤ 48) (hS : SkyAt T s S O B K I L) (hx : GS T x) : ∃ I' L', fX7_stepFrom q x (nI n) (nI S2) I L = some (stpI T s (S ||| S2) O B K n x, I', L') ∧ FX q I I' L L' ∧ SkyAt T s S O B K I' L' ∧ I' 57 = I 57 := by
  obtain ⟨r, I', L', e, hr, f, sk, e57⟩ := x_stepFrom (S2 := S2) hO hq hX hs hn hS hx
  rw [eq_setI hr] at e
  exact ⟨I', L', e, f, sk, e57⟩
theorem m_stp {k : Nat} {x : Int64} {n : Nat} (hO : TOk T) (hM : MTown T I L) (hk : k < n) (hn : n ≤ 48) (hH : MHrs T s S O B K n L) : fX12_goOn x (nI k) I L = some (stpI T s S O B K k x) := by
  obtain ⟨r, e, hr⟩ := m_goOn (s := x) hO hM (by omega) (hH k hk)
  rw [eq_setI hr] at e
  exact e
/-- steps now -/
noncomputable def stN (T : Nat → Nat → Nat) (N : Nat → Nat) (n : Nat) (x : Int64) : Int64 := stpI T (N 8) (N 5) (N 6) 0 (decide (N 7 = 1)) n x
theorem Inv.xst (h : Inv T q st a u I L) (hs : SkyNow T (st a) I L) {n : Nat} {x : Int64} (hn : n ≤ 48) (hx : GS T x) : ∃ I' L', fX7_stepFrom q x (nI n) 0 I L = some (stN T (st a) n x, I', L') ∧ SkyNow T (st a) I' L' ∧ Inv T q st a u I' L' := by
  obtain ⟨I', L', e, f, sk, _⟩ := x_stp (S2 := 0) h.1 h.2.1 h.2.2.1 (ShS h.rng).1 hn hs hx
  rw [Nat.or_zero] at e
  exact ⟨I', L', e, sk, h.fx f (SkyNow.ok sk h.rng)⟩
theorem x_goL {n : Nat} (hn : n ≤ 48) : ∀ (m k fu : Nat) (x : Int64) (I : HI) (L : HL), k + m = n → m < fu → GS T x → Inv T q st a u I L → SkyNow T (st a) I L → ∃ I' L', fX10_goOn_6 q fu (nI n) x (nI k) I L = some (itS T (st a 8) (st a 5) (st a 6) 0 (decide (st a 7 = 1)) m k x, I', L') ∧ SkyNow T (st a) I' L' ∧ Inv T q st a u I' L' := by
  intro m
  induction m with
  | zero =>
    intro k fu x I L hk hf hx h hs
    obtain ⟨f, rfl⟩ : ∃ f, fu = f + 1 := ⟨fu - 1, by omega⟩
    rw [fX10_goOn_6, if_pos (nI_le (by omega) (by omega))]
    exact ⟨I, L, rfl, hs, h⟩
  | succ m ih =>
    intro k fu x I L hk hf hx h hs
    obtain ⟨f, rfl⟩ : ∃ f, fu = f + 1 := ⟨fu - 1, by omega⟩
    obtain ⟨I1, L1, e1, s1, i1⟩ := h.xst hs (n := k) (by omega) hx
    rw [fX10_goOn_6, if_neg (nI_ge (by omega) (by omega)), e1]
    simp only [Option.bind_some, nI_1]
    exact ih (k + 1) f _ I1 L1 (by omega) (by omega) (stp_GS h.1 hx) i1 s1
theorem m_reL {n : Nat} {I : HI} {L : HL} (hO : TOk T) (hM : MTown T I L) (hn : n ≤ 48) (hH : MHrs T s S O B K n L) : ∀ (m k fu : Nat) (x : Int64), k + m = n → m < fu → fX12_reachOf_7 fu (nI n) x (nI k) I L = some (itS T s S O B K m k x) := by
  intro m
  induction m with
  | zero =>
    intro k fu x hk hf
    obtain ⟨f, rfl⟩ : ∃ f, fu = f + 1 := ⟨fu - 1, by omega⟩
    rw [fX12_reachOf_7, if_pos (nI_le (by omega) (by omega))]
    rfl
  | succ m ih =>
    intro k fu x hk hf
    obtain ⟨f, rfl⟩ : ∃ f, fu = f + 1 := ⟨fu - 1, by omega⟩
    rw [fX12_reachOf_7, if_neg (nI_ge (by omega) (by omega)), m_stp hO hM (by omega) hn hH]
    simp only [Option.bind_some, nI_1]
    exact ih (k + 1) f _ (by omega) (by omega)
theorem m_reach {n c : Nat} {I : HI} {L : HL} (hO : TOk T) (hM : MTown T I L) (hn : n ≤ 48) (hH : MHrs T s S O B K n L) : fX12_reachOf (nI c) (nI n) I L = some (itS T s S O B K n 0 (oneI c)) := by
  obtain ⟨mf, hmf⟩ := fuel_at 1000 (by decide)
  unfold fX12_reachOf
  rw [show (0 : Int32) = nI 0 from rfl]
  simp only [m_reL hO hM hn hH n 0 FUEL ((1 : Int64) <<< ((nI c).toInt64 &&& 63)) (by omega) (by omega)]
  rfl
/-- load, and the hours laid -/
theorem Inv.hours (h : Inv T q st a u I L) {n : Nat} (hn : n ≤ 48) : ∃ I1 I2 L2, fX12_load 0 I = some I1 ∧ I1 99 8 = nI (st a 8) ∧ fX12_layHours (nI (st a 8)) (nI n) I1 L = some (I2, L2) ∧ MHrs T (st a 8) (st a 5) (st a 6) 0 (decide (st a 7 = 1)) n L2 ∧ Inv T q st a u I2 L2 := by
  obtain ⟨b1, b2, b3⟩ := ShS h.rng
  obtain ⟨I1, e1, a1, i1⟩ := h.load (n := 0) (by decide)
  obtain ⟨I2, L2, hr', dt', e2, f2, a2, h2⟩ := m_layHours h.1 i1.2.2.2.1 a1 b2 b3 (by decide) b1 hn
  exact ⟨I1, I2, L2, e1, i1.mnow 8 (by decide), e2, h2, i1.fm f2⟩
theorem c_reach (h : Inv T q st a u I L) (v w : Int32) : ∃ r I1 L1 I2 L2, fX11_reach q q v w I L = some (r, I1, L1) ∧ fX12_reach v w I1 L1 = some (r, I2, L2) ∧ Inv T q st a u I2 L2 := by
  obtain ⟨mf, hmf⟩ := fuel_at 1000 (by decide)
  unfold fX11_reach fX12_reach
  rcases g_free h.1.1 h.2.2.1.1 h.2.2.1.2.1.2 h.2.2.2.1.1 v with ⟨c, c1, c2, c3, c4⟩ | ⟨c1, c2⟩
  · rcases g_far w with ⟨n, n1, n2, n3, n4⟩ | ⟨n1, n2⟩
    · subst c2
      subst n2
      obtain ⟨I1, L1, e1, s1, f1, i1⟩ := h.aim
      obtain ⟨I2, L2, e2, s2, i2⟩ := x_goL n1 n 0 FUEL (oneI c) I1 L1 (by omega) (by omega) (one_GS h.1 c1) i1 s1
      obtain ⟨I3, I4, L4, e3, e39, e4, h4, i4⟩ := i2.hours n1
      have hfr : fX12_isFree (nI c) I2 L2 = true := by
        rcases g_free h.1.1 h.2.2.1.1 h.2.2.1.2.1.2 i2.2.2.2.1.1 (nI c) with ⟨_, _, _, _, g⟩ | ⟨g, _⟩
        · exact g
        · rw [c3] at g; cases g
      refine ⟨itS T (st a 8) (st a 5) (st a 6) 0 (decide (st a 7 = 1)) n 0 (oneI c), I2, L2, I4, L4, ?_, ?_, i4⟩
      · rw [c3, n3, e1]
        simp only [b2i_eq0, Bool.true_eq_false, if_false, Option.bind_some, Bool.false_eq_true]
        unfold fX10_goOn
        rw [show (0 : Int32) = nI 0 from rfl, show (1 : Int64) <<< ((nI c).toInt64 &&& 63) = oneI c from rfl, e2]
        rfl
      · rw [hfr, n4, e3]
        simp only [b2i_eq0, Bool.true_eq_false, if_false, Option.bind_some, Bool.false_eq_true, show (8 : Int32) = nI 8 from rfl, if_pos (inb_nI (show 8 < 10 by decide) (show 10 < 2 ^ 31 by decide)), clamp_nI (show 8 < 2 ^ 31 by decide), e39, e4, m_reach h.1 i4.2.2.2.1 n1 h4]
    · rw [c3, n1]
      exact ⟨_, I, L, I, L, rfl, by rw [c4, n2]; rfl, h⟩
  · rw [c1]
    exact ⟨_, I, L, I, L, rfl, by rw [c2]; rfl, h⟩
end ST3
