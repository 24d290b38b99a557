/-! shades, longest, cross -/
noncomputable def setB (P : Nat → Prop) : Nat → Int64
  | 0 => 0
  | c + 1 => setB P c ||| @ite Int64 (P c) (Classical.propDecidable (P c)) ((1 : Int64) <<< ((nI c).toInt64 &&& 63)) 0
noncomputable def setI (P : Nat → Prop) : Int64 := setB P 64
theorem setB_bit (P : Nat → Prop) : ∀ (n : Nat), n ≤ 64 → ∀ c, c < 64 → (hb (setB P n) c = true ↔ (c < n ∧ P c)) := by
  intro n
  induction n with
  | zero =>
    intro _ c _
    rw [setB, hb_0]
    constructor
    · intro h; cases h
    · intro h; omega
  | succ n ih =>
    intro hn c hc
    rw [setB, hb_or, Bool.or_eq_true, ih (by omega) c hc]
    by_cases hp : P n
    · rw [if_pos hp, hb_cell (by omega)]
      constructor
      · rintro (h | h)
        · exact ⟨by omega, h.2⟩
        · subst h; exact ⟨by omega, hp⟩
      · intro h
        by_cases hcn : c = n
        · exact Or.inr hcn
        · exact Or.inl ⟨by omega, h.2⟩
    · rw [if_neg hp, hb_0]
      constructor
      · rintro (h | h)
        · exact ⟨by omega, h.2⟩
        · cases h
      · intro h
        by_cases hcn : c = n
        · subst hcn; exact absurd h.2 hp
        · exact Or.inl ⟨by omega, h.2⟩
theorem setI_bit (P : Nat → Prop) (c : Nat) (hc : c < 64) : hb (setI P) c = true ↔ P c := by
  unfold setI
  rw [setB_bit P 64 (Nat.le_refl _) c hc]
  exact ⟨fun h => h.2, fun h => ⟨hc, h⟩⟩
theorem eq_setI {r : Int64} {P : Nat → Prop} (h : ∀ c, c < 64 → (hb r c = true ↔ P c)) : r = setI P := hb_same h (setI_bit P)
section C3
variable {T : Nat → Nat → Nat} {q : Nat} {st : Nat → Nat → Nat} {a u : Nat} {I : HI} {L : HL}
/-- the shadow of a door in hour n from now, as it is -/
noncomputable def shN (T : Nat → Nat → Nat) (N : Nat → Nat) (d n : Nat) : Int64 := setI (shdA T ((N 8 + n) % 24) ((N 8 + n) / 24) (N 6) 0 (decide (N 7 = 1)) d)
theorem Inv.xsh (h : Inv T q st a u I L) (hs : SkyNow T (st a) I L) {d n : Nat} (hd : d < tnD T) (hn : n ≤ 48) : ∃ I' L', fX7_shadowOf q (nI d) (nI n) I L = some (shN T (st a) d n, I', L') ∧ SkyNow T (st a) I' L' ∧ Inv T q st a u I' L' := by
  obtain ⟨r, I', L', e, hr, f, s⟩ := x_shadowOf h.1 h.2.1 h.2.2.1 (ShS h.rng).1 hn hd hs
  rw [eq_setI hr] at e
  exact ⟨I', L', e, s, h.fx f (SkyNow.ok s h.rng)⟩
theorem Inv.xop (h : Inv T q st a u I L) (hs : SkyNow T (st a) I L) {n : Nat} (hn : n ≤ 48) : ∃ r I' L', fX7_openIn q (nI n) I L = some (r, I', L') ∧ (∀ d, d < tnD T → bt r d = opnA T ((st a 8 + n) % 24) (st a 5) d) ∧ SkyNow T (st a) I' L' ∧ Inv T q st a u I' L' := by
  obtain ⟨r, I', L', e, hr, f, s⟩ := x_openIn h.1 h.2.1 h.2.2.1 (ShS h.rng).1 hn hs
  exact ⟨r, I', L', e, hr, s, h.fx f (SkyNow.ok s h.rng)⟩
theorem Inv.msh (h : Inv T q st a u I L) {d n : Nat} (hd : d < tnD T) (hA : MAim ((st a 8 + n) % 24) ((st a 8 + n) / 24) (st a 5) (st a 6) 0 (decide (st a 7 = 1)) I) : ∃ I', fX12_shadowOf (nI d) I L = some (shN T (st a) d n, I') ∧ MAim ((st a 8 + n) % 24) ((st a 8 + n) / 24) (st a 5) (st a 6) 0 (decide (st a 7 = 1)) I' ∧ Inv T q st a u I' L := by
  obtain ⟨r, I', e, hr, f⟩ := m_shadowOf h.1 h.2.2.2.1 hA hd (Nat.mod_lt _ (by decide)) (ShS h.rng).2.2 (by decide)
  rw [eq_setI hr] at e
  exact ⟨I', e, FM.aim (L := L) (M := L) hA (f 73 (by decide) (by decide)), h.fm (FM.of81 (L := L) (L' := L) f (fun _ _ _ => rfl))⟩
/-- the longest, hour by hour -/
def lgS (f : Nat → Nat) : Nat → Nat × Nat
  | 0 => (0, 0)
  | n + 1 => if f n ≤ (lgS f n).2 then lgS f n else (n, f n)
theorem lgS_le {f : Nat → Nat} (hf : ∀ n, f n ≤ 64) : ∀ n, (lgS f n).2 ≤ 64
  | 0 => Nat.zero_le _
  | n + 1 => by
    rw [lgS]
    split
    · exact lgS_le hf n
    · exact hf n
noncomputable def shC (T : Nat → Nat → Nat) (N : Nat → Nat) (d n : Nat) : Nat := fb_ct (hb (shN T N d n)) 64
theorem shC_le (T : Nat → Nat → Nat) (N : Nat → Nat) (d n : Nat) : shC T N d n ≤ 64 := fb_ct_le _ _
theorem x_lgL {d : Nat} {w : Int32} (hd : d < tnD T) : ∀ (m n fu : Nat) (I : HI) (L : HL), n + m = 24 → m < fu → Inv T q st a u I L → SkyNow T (st a) I L → ∃ I' L', fX11_longest_42 q q fu (nI d) w (nI (lgS (shC T (st a) d) n).1) (nI (lgS (shC T (st a) d) n).2) (nI n) I L = some (nI (lgS (shC T (st a) d) 24).1, nI (lgS (shC T (st a) d) 24).2, I', L') ∧ Inv T q st a u I' L' := by
  intro m
  induction m with
  | zero =>
    intro n fu I L hn hf h hs
    obtain ⟨f, rfl⟩ : ∃ f, fu = f + 1 := ⟨fu - 1, by omega⟩
    have : n = 24 := by omega
    subst this
    rw [fX11_longest_42, if_pos (show (24 : Int32) ≤ nI 24 from nI_le (a := 24) (Nat.le_refl _) (by decide))]
    exact ⟨I, L, rfl, h⟩
  | succ m ih =>
    intro n fu I L hn hf h hs
    obtain ⟨f, rfl⟩ : ∃ f, fu = f + 1 := ⟨fu - 1, by omega⟩
    obtain ⟨I1, L1, e1, s1, i1⟩ := h.xsh hs hd (n := n) (by omega)
    obtain ⟨I2, L2, e2, i2⟩ := ih (n + 1) f I1 L1 (by omega) (by omega) i1 s1
    refine ⟨I2, L2, ?_, i2⟩
    have l1 := lgS_le (shC_le T (st a) d) n
    have l2 := shC_le T (st a) d n
    rw [fX11_longest_42, if_neg (show ¬ (24 : Int32) ≤ nI n from nI_ge (b := 24) (by omega) (by decide)), e1]
    simp only [Option.bind_some, x_bits, nI_1]
    rw [← e2, lgS, show fb_ct (hb (shN T (st a) d n)) 64 = shC T (st a) d n from rfl]
    by_cases hc : shC T (st a) d n ≤ (lgS (shC T (st a) d) n).2
    · rw [if_pos (nI_le hc (by omega)), if_pos hc]
    · rw [if_neg (nI_ge (by omega) (by omega)), if_neg hc]
theorem m_lgL {d : Nat} {w : Int32} (hd : d < tnD T) : ∀ (m n fu : Nat) (I : HI), n + m = 24 → m < fu → Inv T q st a u I L → ∃ I', fX12_longest_27 fu (nI d) w (nI (lgS (shC T (st a) d) n).1) (nI (lgS (shC T (st a) d) n).2) (nI n) I L = some (nI (lgS (shC T (st a) d) 24).1, nI (lgS (shC T (st a) d) 24).2, I') ∧ Inv T q st a u I' L := by
  intro m
  induction m with
  | zero =>
    intro n fu I hn hf h
    obtain ⟨f, rfl⟩ : ∃ f, fu = f + 1 := ⟨fu - 1, by omega⟩
    have : n = 24 := by omega
    subst this
    rw [fX12_longest_27, if_pos (show (24 : Int32) ≤ nI 24 from nI_le (a := 24) (Nat.le_refl _) (by decide))]
    exact ⟨I, rfl, h⟩
  | succ m ih =>
    intro n fu I hn hf h
    obtain ⟨f, rfl⟩ : ∃ f, fu = f + 1 := ⟨fu - 1, by omega⟩
    obtain ⟨I1, e1, a1, i1⟩ := h.load (n := n) (by omega)
    obtain ⟨I2, e2, a2, i2⟩ := i1.msh hd a1
    obtain ⟨I3, e3, i3⟩ := ih (n + 1) f I2 (by omega) (by omega) i2
    refine ⟨I3, ?_, i3⟩
    have l1 := lgS_le (shC_le T (st a) d) n
    have l2 := shC_le T (st a) d n
    rw [fX12_longest_27, if_neg (show ¬ (24 : Int32) ≤ nI n from nI_ge (b := 24) (by omega) (by decide)), e1]
    simp only [Option.bind_some]
    rw [e2]
    simp only [Option.bind_some, m_members, nI_1]
    rw [← e3, lgS, show fb_ct (hb (shN T (st a) d n)) 64 = shC T (st a) d n from rfl]
    by_cases hc : shC T (st a) d n ≤ (lgS (shC T (st a) d) n).2
    · rw [if_neg (nI_nlt hc (by omega)), if_pos hc]
    · rw [if_pos (nI_lt (by omega) (by omega)), if_neg hc]
theorem c_longest (h : Inv T q st a u I L) (v w : Int32) : ∃ r I1 L1 I2, fX11_longest q q v w I L = some (r, I1, L1) ∧ fX12_longest v w I1 L1 = some (r, I2) ∧ Inv T q st a u I2 L1 := by
  obtain ⟨mf, hmf⟩ := fuel_at 1000 (by decide)
  have h8 := h.1.2.1
  unfold fX11_longest fX12_longest fX12_isDoor
  rcases g_thing (t := q + 1) (j := 55) (J := I) h.2.2.1.2.2.2.2.1 h.2.2.2.1.2.2.1 (by omega) v with ⟨k, k1, k2, k3, k4⟩ | ⟨k1, k2⟩
  · rcases g_choice w with ⟨w1, w2, w3⟩ | ⟨w1, w2⟩
    · obtain ⟨I1, L1, e1, s1, f1, i1⟩ := h.aim
      obtain ⟨I2, L2, e2, i2⟩ := x_lgL (w := w) k1 24 0 FUEL I1 L1 (by omega) (by omega) i1 s1
      obtain ⟨I3, e3, a3, i3⟩ := i2.load (n := 0) (by omega)
      obtain ⟨I4, e4, a4, i4⟩ := i3.msh k1 a3
      obtain ⟨I5, e5, i5⟩ := m_lgL (w := w) k1 23 1 (FUEL - 1) I4 (by omega) (by omega) i4
      have e55 : I2 73 55 = I 73 55 := by rw [i2.2.2.2.1.2.2.1, h.2.2.2.1.2.2.1]
      have l2 := shC_le T (st a) k 0
      have first : fX12_longest_27 FUEL (nI k) w 0 (-1) 0 I2 L2 = some (nI (lgS (shC T (st a) k) 24).1, nI (lgS (shC T (st a) k) 24).2, I5) := by
        rw [show FUEL = (FUEL - 1) + 1 by omega, fX12_longest_27, if_neg (by decide), show (0 : Int32) = nI 0 from rfl, e3]
        simp only [Option.bind_some]
        rw [e4]
        simp only [Option.bind_some, m_members, nI_1]
        rw [show fb_ct (hb (shN T (st a) k 0)) 64 = shC T (st a) k 0 from rfl, if_pos (by rw [show (-1 : Int32) = iI (-1) from rfl, ← iI_n, iI_lt (by unfold sml; omega) (by unfold sml; omega)]; omega), ← e5, lgS, lgS]
        by_cases hc : shC T (st a) k 0 ≤ 0
        · rw [if_pos hc, show shC T (st a) k 0 = 0 by omega]
        · rw [if_neg hc]
      have e2' : fX11_longest_42 q q FUEL (nI k) w 0 0 0 I1 L1 = some (nI (lgS (shC T (st a) k) 24).1, nI (lgS (shC T (st a) k) 24).2, I2, L2) := e2
      refine ⟨if w = 0 then nI (lgS (shC T (st a) k) 24).1 else nI (lgS (shC T (st a) k) 24).2, I2, L2, I5, ?_, ?_, i5⟩
      · rw [k3, w2, e1, k2]
        simp only [b2i_eq0, Bool.true_eq_false, if_false, Option.bind_some, Bool.false_eq_true]
        rw [e2']
        simp only [Option.bind_some]
        by_cases hw : w = 0
        · rw [if_pos hw, if_pos hw]
        · rw [if_neg hw, if_neg hw]
      · rw [e55, k4, w3, k2]
        simp only [b2i_eq0, Bool.true_eq_false, if_false, Option.bind_some, Bool.false_eq_true]
        rw [first]
        simp only [Option.bind_some]
        by_cases hw : w = 0
        · rw [if_pos hw, if_pos hw]
        · rw [if_neg hw, if_neg hw]
    · rw [k3, w1]
      exact ⟨_, I, L, I, rfl, by rw [k4, w2]; rfl, h⟩
  · rw [k1]
    exact ⟨_, I, L, I, rfl, by rw [k2]; rfl, h⟩
/-- the first hour in which two shadows cross -/
noncomputable def crB (T : Nat → Nat → Nat) (N : Nat → Nat) (d e n : Nat) : Int64 := if opnA T ((N 8 + n) % 24) (N 5) d = true ∧ opnA T ((N 8 + n) % 24) (N 5) e = true then shN T N d n &&& shN T N e n else 0
noncomputable def crR (B : Nat → Int64) : Nat → Nat → Option Nat
  | 0, _ => none
  | k + 1, n => if B n = 0 then crR B k (n + 1) else some n
theorem crR_some {B : Nat → Int64} : ∀ (k n m : Nat), crR B k n = some m → B m ≠ 0 ∧ m < n + k := by
  intro k
  induction k with
  | zero => intro n m h; cases h
  | succ k ih =>
    intro n m h
    rw [crR] at h
    by_cases hz : B n = 0
    · rw [if_pos hz] at h
      have := ih (n + 1) m h
      exact ⟨this.1, by omega⟩
    · rw [if_neg hz] at h
      cases h
      exact ⟨hz, by omega⟩
theorem x_crsL {d e : Nat} {w : Int32} (hd : d < tnD T) (he : e < tnD T) : ∀ (m n fu : Nat) (I : HI) (L : HL), n + m = 49 → m < fu → Inv T q st a u I L → SkyNow T (st a) I L → ∃ I' L', fX11_cross_56 q q fu (nI d) (nI e) w (nI n) I L = some (match crR (crB T (st a) d e) m n with | none => .inr (-1, I', L') | some x => .inl (nI x, crB T (st a) d e x, I', L')) ∧ Inv T q st a u I' L' := by
  intro m
  induction m with
  | zero =>
    intro n fu I L hn hf h hs
    obtain ⟨f, rfl⟩ : ∃ f, fu = f + 1 := ⟨fu - 1, by omega⟩
    have : n = 49 := by omega
    subst this
    rw [fX11_cross_56, if_pos (show (48 : Int32) < nI 49 from nI_lt (a := 48) (by omega) (by decide))]
    exact ⟨I, L, rfl, h⟩
  | succ m ih =>
    intro n fu I L hn hf h hs
    obtain ⟨f, rfl⟩ : ∃ f, fu = f + 1 := ⟨fu - 1, by omega⟩
    have h8 := h.1.2.1
    obtain ⟨r, I1, L1, e1, r1, s1, i1⟩ := h.xop hs (n := n) (by omega)
    rw [fX11_cross_56, if_neg (show ¬ (48 : Int32) < nI n from nI_nlt (a := 48) (by omega) (by omega)), e1]
    simp only [Option.bind_some, isBit_bt r (show d < 32 by omega), isBit_bt r (show e < 32 by omega), r1 d hd, r1 e he, b2i_eq0, nI_1]
    have skip : ∀ (J : HI) (M : HL), Inv T q st a u J M → SkyNow T (st a) J M → crB T (st a) d e n = 0 → ∃ I' L', fX11_cross_56 q q f (nI d) (nI e) w (nI (n + 1)) J M = some (match crR (crB T (st a) d e) (m + 1) n with | none => .inr (-1, I', L') | some x => .inl (nI x, crB T (st a) d e x, I', L')) ∧ Inv T q st a u I' L' := by
      intro J M hJ sJ hz
      obtain ⟨I', L', e', i'⟩ := ih (n + 1) f J M (by omega) (by omega) hJ sJ
      refine ⟨I', L', ?_, i'⟩
      rw [e', crR, if_pos hz]
    cases hod : opnA T ((st a 8 + n) % 24) (st a 5) d with
    | false =>
      simp only [if_true, Option.bind_some]
      exact skip I1 L1 i1 s1 (by unfold crB; rw [hod]; simp)
    | true =>
      cases hoe : opnA T ((st a 8 + n) % 24) (st a 5) e with
      | false =>
        simp only [if_true, Option.bind_some, Bool.true_eq_false, if_false]
        exact skip I1 L1 i1 s1 (by unfold crB; rw [hoe]; simp)
      | true =>
        simp only [Option.bind_some, Bool.true_eq_false, Bool.false_eq_true, if_false]
        obtain ⟨I2, L2, e2, s2, i2⟩ := i1.xsh s1 hd (n := n) (by omega)
        obtain ⟨I3, L3, e3, s3, i3⟩ := i2.xsh s2 he (n := n) (by omega)
        rw [e2]
        simp only [Option.bind_some]
        rw [e3]
        simp only [Option.bind_some]
        have eb : crB T (st a) d e n = shN T (st a) d n &&& shN T (st a) e n := by unfold crB; rw [hod, hoe]; simp
        by_cases hz : shN T (st a) d n &&& shN T (st a) e n = 0
        · rw [if_pos hz]
          exact skip I3 L3 i3 s3 (by rw [eb]; exact hz)
        · rw [if_neg hz]
          refine ⟨I3, L3, ?_, i3⟩
          rw [crR, if_neg (by rw [eb]; exact hz)]
          simp only [eb]
theorem m_crsL {d e : Nat} {w : Int32} (hd : d < tnD T) (he : e < tnD T) : ∀ (m n fu : Nat) (I : HI), n + m = 49 → m < fu → Inv T q st a u I L → ∃ I', fX12_cross_35 fu (nI d) (nI e) w (nI n) I L = some (match crR (crB T (st a) d e) m n with | none => .inr (-1, I') | some x => .inl (nI x, crB T (st a) d e x, I')) ∧ Inv T q st a u I' L := by
  intro m
  induction m with
  | zero =>
    intro n fu I hn hf h
    obtain ⟨f, rfl⟩ : ∃ f, fu = f + 1 := ⟨fu - 1, by omega⟩
    have : n = 49 := by omega
    subst this
    rw [fX12_cross_35, if_pos (show (48 : Int32) < nI 49 from nI_lt (a := 48) (by omega) (by decide))]
    exact ⟨I, rfl, h⟩
  | succ m ih =>
    intro n fu I hn hf h
    obtain ⟨f, rfl⟩ : ∃ f, fu = f + 1 := ⟨fu - 1, by omega⟩
    have hS := ShS h.rng
    obtain ⟨I1, e1, a1, i1⟩ := h.load (n := n) (by omega)
    have o1 := m_isOpen h.1 i1.2.2.2.1 a1 hd (Nat.mod_lt _ (by decide)) hS.2.1
    have o2 := m_isOpen h.1 i1.2.2.2.1 a1 he (Nat.mod_lt _ (by decide)) hS.2.1
    rw [fX12_cross_35, if_neg (show ¬ (48 : Int32) < nI n from nI_nlt (a := 48) (by omega) (by omega)), e1]
    simp only [Option.bind_some, o1, o2, b2i_eq0, nI_1]
    have skip : ∀ (J : HI), Inv T q st a u J L → crB T (st a) d e n = 0 → ∃ I', fX12_cross_35 f (nI d) (nI e) w (nI (n + 1)) J L = some (match crR (crB T (st a) d e) (m + 1) n with | none => .inr (-1, I') | some x => .inl (nI x, crB T (st a) d e x, I')) ∧ Inv T q st a u I' L := by
      intro J hJ hz
      obtain ⟨I', e', i'⟩ := ih (n + 1) f J (by omega) (by omega) hJ
      refine ⟨I', ?_, i'⟩
      rw [e', crR, if_pos hz]
    cases hod : opnA T ((st a 8 + n) % 24) (st a 5) d with
    | false =>
      simp only [if_true, Option.bind_some]
      exact skip I1 i1 (by unfold crB; rw [hod]; simp)
    | true =>
      cases hoe : opnA T ((st a 8 + n) % 24) (st a 5) e with
      | false =>
        simp only [if_true, Option.bind_some, Bool.true_eq_false, if_false]
        exact skip I1 i1 (by unfold crB; rw [hoe]; simp)
      | true =>
        simp only [Option.bind_some, Bool.true_eq_false, Bool.false_eq_true, if_false]
        obtain ⟨I2, e2, a2, i2⟩ := i1.msh hd a1
        obtain ⟨I3, e3, a3, i3⟩ := i2.msh he a2
        rw [e2]
        simp only [Option.bind_some]
        rw [e3]
        simp only [Option.bind_some]
        have eb : crB T (st a) d e n = shN T (st a) d n &&& shN T (st a) e n := by unfold crB; rw [hod, hoe]; simp
        by_cases hz : shN T (st a) d n &&& shN T (st a) e n = 0
        · rw [if_pos hz]
          exact skip I3 i3 (by rw [eb]; exact hz)
        · rw [if_neg hz]
          refine ⟨I3, ?_, i3⟩
          rw [crR, if_neg (by rw [eb]; exact hz)]
          simp only [eb]
theorem c_cross (h : Inv T q st a u I L) (v w x : Int32) : ∃ r I1 L1 I2, fX11_cross q q v w x I L = some (r, I1, L1) ∧ fX12_cross v w x I1 L1 = some (r, I2) ∧ Inv T q st a u I2 L1 := by
  obtain ⟨mf, hmf⟩ := fuel_at 1000 (by decide)
  have h8 := h.1.2.1
  unfold fX11_cross fX12_cross fX12_isDoor
  rcases g_thing (t := q + 1) (j := 55) (J := I) h.2.2.1.2.2.2.2.1 h.2.2.2.1.2.2.1 (by omega) v with ⟨k, k1, k2, k3, k4⟩ | ⟨k1, k2⟩
  · rcases g_thing (t := q + 1) (j := 55) (J := I) h.2.2.1.2.2.2.2.1 h.2.2.2.1.2.2.1 (by omega) w with ⟨l, l1, l2, l3, l4⟩ | ⟨l1, l2⟩
    · by_cases hvw : v = w
      · rw [k3, l3, if_pos hvw]
        exact ⟨_, I, L, I, rfl, by rw [k4, l4, if_pos hvw]; rfl, h⟩
      · rcases g_choice x with ⟨w1, w2, w3⟩ | ⟨w1, w2⟩
        · obtain ⟨I1, L1, e1, s1, f1, i1⟩ := h.aim
          obtain ⟨I2, L2, e2, i2⟩ := x_crsL (w := x) k1 l1 49 0 FUEL I1 L1 (by omega) (by omega) i1 s1
          obtain ⟨I3, e3, i3⟩ := m_crsL (w := x) k1 l1 49 0 FUEL I2 (by omega) (by omega) i2
          have e55 : I2 73 55 = I 73 55 := by rw [i2.2.2.2.1.2.2.1, h.2.2.2.1.2.2.1]
          rw [show nI 0 = (0 : Int32) from rfl] at e2 e3
          cases hcr : crR (crB T (st a) k l) 49 0 with
          | none =>
            rw [hcr] at e2 e3
            refine ⟨-1, I2, L2, I3, ?_, ?_, i3⟩
            · rw [k3, l3, if_neg hvw, w2, e1, k2, l2]
              simp only [b2i_eq0, Bool.true_eq_false, if_false, Option.bind_some, Bool.false_eq_true]
              rw [e2]
              rfl
            · rw [e55, k4, l4, if_neg hvw, w3, k2, l2]
              simp only [b2i_eq0, Bool.true_eq_false, if_false, Option.bind_some, Bool.false_eq_true]
              rw [e3]
              rfl
          | some n =>
            rw [hcr] at e2 e3
            obtain ⟨nz, _⟩ := crR_some _ _ _ hcr
            refine ⟨if x = 0 then nI n else nI (lowB (crB T (st a) k l n)), I2, L2, I3, ?_, ?_, i3⟩
            · rw [k3, l3, if_neg hvw, w2, e1, k2, l2]
              simp only [b2i_eq0, Bool.true_eq_false, if_false, Option.bind_some, Bool.false_eq_true]
              rw [e2]
              simp only [Option.bind_some]
              rw [x_ntz nz]
              by_cases hx : x = 0
              · rw [if_pos hx, if_pos hx]
              · rw [if_neg hx, if_neg hx]
            · rw [e55, k4, l4, if_neg hvw, w3, k2, l2]
              simp only [b2i_eq0, Bool.true_eq_false, if_false, Option.bind_some, Bool.false_eq_true]
              rw [e3]
              simp only [Option.bind_some]
              rw [m_least nz]
              by_cases hx : x = 0
              · rw [if_pos hx, if_pos hx]
              · rw [if_neg hx, if_neg hx]
                rfl
        · rw [k3, l3, if_neg hvw, w1]
          exact ⟨_, I, L, I, rfl, by rw [k4, l4, if_neg hvw, w2]; rfl, h⟩
    · rw [k3, l1]
      exact ⟨_, I, L, I, rfl, by rw [k4, l2]; rfl, h⟩
  · rw [k1]
    exact ⟨_, I, L, I, rfl, by rw [k2]; rfl, h⟩
/-- the shadows of some doors together -/
theorem x_shsL {n : Nat} {y : Int32} (P : Nat → Bool) (hn : n ≤ 48) (hy : ∀ d, d < tnD T → bt y d = P d) : ∀ (m d fu : Nat) (s : Int64) (I : HI) (L : HL), d + m = tnD T → m < fu → Inv T q st a u I L → SkyNow T (st a) I L → ∃ r I' L', fX11_shades_43 q q fu (nI n) y s (nI d) I L = some (r, I', L') ∧ (∀ c, c < 64 → (hb r c = true ↔ (hb s c = true ∨ ∃ k, d ≤ k ∧ k < tnD T ∧ P k = true ∧ hb (shN T (st a) k n) c = true))) ∧ SkyNow T (st a) I' L' ∧ Inv T q st a u I' L' := by
  intro m
  induction m with
  | zero =>
    intro d fu s I L hd hf h hs
    obtain ⟨f, rfl⟩ : ∃ f, fu = f + 1 := ⟨fu - 1, by omega⟩
    have h8 := h.1.2.1
    rw [fX11_shades_43, h.2.2.1.2.2.2.2.1, if_pos (nI_le (by omega) (by omega))]
    refine ⟨s, I, L, rfl, fun c _ => ⟨Or.inl, ?_⟩, hs, h⟩
    rintro (g | ⟨k, g1, g2, _⟩)
    · exact g
    · omega
  | succ m ih =>
    intro d fu s I L hd hf h hs
    obtain ⟨f, rfl⟩ : ∃ f, fu = f + 1 := ⟨fu - 1, by omega⟩
    have h8 := h.1.2.1
    have hd4 : d < tnD T := by omega
    have stp : ∀ c, (∃ k, d ≤ k ∧ k < tnD T ∧ P k = true ∧ hb (shN T (st a) k n) c = true) ↔ ((P d = true ∧ hb (shN T (st a) d n) c = true) ∨ ∃ k, d + 1 ≤ k ∧ k < tnD T ∧ P k = true ∧ hb (shN T (st a) k n) c = true) := by
      intro c
      constructor
      · rintro ⟨k, g1, g2, g3⟩
        by_cases hk : k = d
        · subst hk; exact Or.inl g3
        · exact Or.inr ⟨k, by omega, g2, g3⟩
      · rintro (g | ⟨k, g1, g2, g3⟩)
        · exact ⟨d, Nat.le_refl _, hd4, g⟩
        · exact ⟨k, by omega, g2, g3⟩
    rw [fX11_shades_43, h.2.2.1.2.2.2.2.1, if_neg (nI_ge hd4 (by omega)), isBit_bt _ (by omega), hy d hd4, nI_1]
    simp only [b2i_eq0]
    cases hp : P d with
    | false =>
      rw [if_pos rfl]
      obtain ⟨r, I', L', e, hr, s', i'⟩ := ih (d + 1) f s I L (by omega) (by omega) h hs
      refine ⟨r, I', L', e, fun c hc => ?_, s', i'⟩
      rw [hr c hc, stp c, hp]
      simp
    | true =>
      rw [if_neg (by decide)]
      obtain ⟨I1, L1, e1, s1, i1⟩ := h.xsh hs hd4 hn
      rw [e1]
      simp only [Option.bind_some]
      obtain ⟨r, I', L', e, hr, s', i'⟩ := ih (d + 1) f (s ||| shN T (st a) d n) I1 L1 (by omega) (by omega) i1 s1
      refine ⟨r, I', L', e, fun c hc => ?_, s', i'⟩
      rw [hr c hc, stp c, hp, hb_or, Bool.or_eq_true]
      simp only [true_and]
      exact or_assoc
theorem m_shsL {n : Nat} {w : Int32} (hM : MTown T I L) (hO : TOk T) (P : Nat → Bool) (hP : ∀ d, d < tnD T → (if w = 0 then some true else (fX12_isOpen (nI d) I).bind fun q4 => if b2i q4 = 0 then some false else some true) = some (P d)) : ∀ (m d fu : Nat) (s : Int64), d + m = tnD T → m < fu → ∃ r, fX12_shades_23 fu w s (nI d) I L = some r ∧ ∀ c, c < 64 → (hb r c = true ↔ (hb s c = true ∨ ∃ k, d ≤ k ∧ k < tnD T ∧ P k = true ∧ hb (L 100 k) c = true)) := by
  have h8 := hO.2.1
  intro m
  induction m with
  | zero =>
    intro d fu s hd hf
    obtain ⟨f, rfl⟩ : ∃ f, fu = f + 1 := ⟨fu - 1, by omega⟩
    rw [fX12_shades_23, hM.2.2.1, if_pos (nI_le (by omega) (by omega))]
    refine ⟨s, rfl, fun c _ => ⟨Or.inl, ?_⟩⟩
    rintro (g | ⟨k, g1, g2, _⟩)
    · exact g
    · omega
  | succ m ih =>
    intro d fu s hd hf
    obtain ⟨f, rfl⟩ : ∃ f, fu = f + 1 := ⟨fu - 1, by omega⟩
    have hd4 : d < tnD T := by omega
    have stp : ∀ c, (∃ k, d ≤ k ∧ k < tnD T ∧ P k = true ∧ hb (L 100 k) c = true) ↔ ((P d = true ∧ hb (L 100 d) c = true) ∨ ∃ k, d + 1 ≤ k ∧ k < tnD T ∧ P k = true ∧ hb (L 100 k) c = true) := by
      intro c
      constructor
      · rintro ⟨k, g1, g2, g3⟩
        by_cases hk : k = d
        · subst hk; exact Or.inl g3
        · exact Or.inr ⟨k, by omega, g2, g3⟩
      · rintro (g | ⟨k, g1, g2, g3⟩)
        · exact ⟨d, Nat.le_refl _, hd4, g⟩
        · exact ⟨k, by omega, g2, g3⟩
    rw [fX12_shades_23, hM.2.2.1, if_neg (nI_ge hd4 (by omega)), hP d hd4, nI_1]
    simp only [Option.bind_some, if_pos (inb_nI (show d < 8 by omega) (show 8 < 2 ^ 31 by decide)), clamp_nI (show d < 2 ^ 31 by omega)]
    cases hp : P d with
    | false =>
      rw [if_neg (by decide)]
      obtain ⟨r, e, hr⟩ := ih (d + 1) f s (by omega) (by omega)
      refine ⟨r, e, fun c hc => ?_⟩
      rw [hr c hc, stp c, hp]
      simp
    | true =>
      rw [if_pos rfl]
      obtain ⟨r, e, hr⟩ := ih (d + 1) f (s ||| L 100 d) (by omega) (by omega)
      refine ⟨r, e, fun c hc => ?_⟩
      rw [hr c hc, stp c, hp, hb_or, Bool.or_eq_true]
      simp only [true_and]
      exact or_assoc
theorem c_shades (h : Inv T q st a u I L) (v w : Int32) : ∃ r I1 L1 I2 L2, fX11_shades q q v w I L = some (r, I1, L1) ∧ fX12_shades v w I1 L1 = some (r, I2, L2) ∧ Inv T q st a u I2 L2 := by
  obtain ⟨mf, hmf⟩ := fuel_at 1000 (by decide)
  have h8 := h.1.2.1
  have hS := ShS h.rng
  unfold fX11_shades fX12_shades
  rcases g_far v with ⟨n, n1, n2, n3, n4⟩ | ⟨n1, n2⟩
  · obtain ⟨I1, L1, e1, s1, f1, i1⟩ := h.aim
    have hw : ∃ y I2 L2, (if w = 0 then some ((-1 : Int32), I1, L1) else (fX7_openIn q (nI n) I1 L1).bind fun q4 => some (q4.1, q4.2.1, q4.2.2)) = some (y, I2, L2) ∧ (∀ d, d < tnD T → bt y d = (decide (w = 0) || opnA T ((st a 8 + n) % 24) (st a 5) d)) ∧ SkyNow T (st a) I2 L2 ∧ Inv T q st a u I2 L2 := by
      by_cases hw : w = 0
      · refine ⟨-1, I1, L1, by rw [if_pos hw], fun d hd => ?_, s1, i1⟩
        rw [b_m1 d (by omega), decide_eq_true hw]; rfl
      · obtain ⟨r, I', L', e, hr, s, i⟩ := i1.xop s1 n1
        refine ⟨r, I', L', by rw [if_neg hw, e]; rfl, fun d hd => ?_, s, i⟩
        rw [hr d hd, decide_eq_false hw]; rfl
    obtain ⟨y, I2, L2, e2, y2, s2, i2⟩ := hw
    obtain ⟨r, I3, L3, e3, r3, s3, i3⟩ := x_shsL (fun d => decide (w = 0) || opnA T ((st a 8 + n) % 24) (st a 5) d) n1 y2 (tnD T) 0 FUEL 0 I2 L2 (by omega) (by omega) i2 s2
    obtain ⟨I4, e4, a4, i4⟩ := i3.load (n := n) (by omega)
    obtain ⟨I5, L5, e5, f5, g5, sh5⟩ := m_layShadows h.1 i4.2.2.2.1 a4 (Nat.mod_lt _ (by decide)) hS.2.2 (by decide)
    have i5 := i4.fm (FM.of81 f5 (fun b h1 _ => g5 b h1))
    have a5 := FM.aim (L := L) (M := L) a4 (f5 73 (by decide) (by decide))
    obtain ⟨r', e6, r6⟩ := m_shsL (n := n) (w := w) i5.2.2.2.1 h.1 (fun d => decide (w = 0) || opnA T ((st a 8 + n) % 24) (st a 5) d) (by
      intro d hd
      rw [m_isOpen h.1 i5.2.2.2.1 a5 hd (Nat.mod_lt _ (by decide)) hS.2.1]
      by_cases hw : w = 0
      · rw [if_pos hw, decide_eq_true hw]; rfl
      · rw [if_neg hw, decide_eq_false hw]
        cases opnA T ((st a 8 + n) % 24) (st a 5) d <;> rfl) (tnD T) 0 FUEL 0 (by omega) (by omega)
    have er : r' = r := by
      apply hb_same r6
      intro c hc
      rw [r3 c hc]
      constructor
      · rintro (g | ⟨k, g1, g2, g3, g4⟩)
        · exact Or.inl g
        · exact Or.inr ⟨k, g1, g2, g3, (sh5 k g2 c hc).mpr ((setI_bit _ c hc).mp g4)⟩
      · rintro (g | ⟨k, g1, g2, g3, g4⟩)
        · exact Or.inl g
        · exact Or.inr ⟨k, g1, g2, g3, (setI_bit _ c hc).mpr ((sh5 k g2 c hc).mp g4)⟩
    refine ⟨r, I3, L3, I5, L5, ?_, ?_, i5⟩
    · rw [n3, e1, n2]
      simp only [b2i_eq0, Bool.true_eq_false, if_false, Option.bind_some]
      rw [e2]
      simp only [Option.bind_some]
      rw [show (0 : Int32) = nI 0 from rfl, e3]
      rfl
    · rw [n4, n2, e4]
      simp only [b2i_eq0, Bool.true_eq_false, if_false, Option.bind_some]
      rw [e5]
      simp only [Option.bind_some]
      rw [show (0 : Int32) = nI 0 from rfl, e6, er]
      rfl
  · rw [n1]
    exact ⟨_, I, L, I, L, rfl, by rw [n2]; rfl, h⟩
end C3
