/-! names and hours -/
section NM
variable {B : Nat → Nat} {n p tl : Nat} {T : Nat → Nat → Nat} {N : Nat → Nat → List Nat} {I I' I2 : HI} {L L' L2 : HL} {J J' J2 J0 : HI} {M M' M2 M0 : HL}
theorem x_named {tt m : Nat} {F : Nat → List Nat} {w : List Nat} (hm : I tt 0 = nI m) (hcap : m ≤ capT tt) (h8 : capT tt ≤ 8) (hF : ∀ i, i < m → L (tt + 1) i = lN (nm5 (F i))) (hl : ∀ i, i < m → lets (F i) ∧ (F i).length ≤ 8) (hw : lets w) (hw8 : w.length ≤ 8) : ∃ b, fX8_isNamed tt (lN (nm5 w)) I L = some b ∧ (b = true ↔ ∃ i, i < m ∧ F i = w) := by
  have key : ∀ (d k fu : Nat), k + d = m → d < fu → (∀ i, i < k → F i ≠ w) → ∃ b, fX8_isNamed_2 tt fu (lN (nm5 w)) (nI k) I L = some b ∧ (b = true ↔ ∃ i, i < m ∧ F i = w) := by
    intro d
    induction d with
    | zero =>
      intro k fu hk hf' hno
      obtain ⟨f', rfl⟩ : ∃ f', fu = f' + 1 := ⟨fu - 1, by omega⟩
      rw [fX8_isNamed_2, hm, if_pos (nI_le (by omega) (by omega))]
      refine ⟨false, rfl, ⟨fun h => (by cases h), fun ⟨i, h1, h2⟩ => absurd h2 (hno i (by omega))⟩⟩
    | succ d ih =>
      intro k fu hk hf' hno
      obtain ⟨f', rfl⟩ : ∃ f', fu = f' + 1 := ⟨fu - 1, by omega⟩
      obtain ⟨l1, l2⟩ := hl k (by omega)
      rw [fX8_isNamed_2, hm, if_neg (nI_ge (by omega) (by omega)), if_pos (inb_nI (by omega) (by omega)), clamp_nI (by omega), hF k (by omega)]
      by_cases e : F k = w
      · rw [if_pos (by rw [e])]
        exact ⟨true, rfl, ⟨fun _ => ⟨k, by omega, e⟩, fun _ => rfl⟩⟩
      · rw [if_neg (fun g => e ((nm_lN l1 hw l2 hw8).1.mp g)), nI_1]
        refine ih (k + 1) f' (by omega) (by omega) (fun i hi => ?_)
        rcases Nat.lt_or_ge i k with g | g
        · exact hno i g
        · rw [show i = k by omega]; exact e
  obtain ⟨fu, hfu⟩ := fuel_at 20 (by decide)
  obtain ⟨b, h1, h2⟩ := key m 0 FUEL (by omega) (by omega) (by omega)
  refine ⟨b, ?_, h2⟩
  unfold fX8_isNamed
  rw [show (0 : Int32) = nI 0 from rfl, h1, Option.bind_some]
theorem m_find {fr m : Nat} {F : Nat → List Nat} {w : List Nat} (h16 : fr + m ≤ 16) (hF : ∀ i, i < m → M 75 (fr + i) = lN (wd8 (F i))) (hl : ∀ i, i < m → lets (F i) ∧ (F i).length ≤ 8) (hw : lets w) (hw8 : w.length ≤ 8) (h9 : M 73 9 = lN (wd8 w)) : ∃ r, fX12_find (nI fr) (nI m) M = some r ∧ (r < 0 ↔ ∀ i, i < m → F i ≠ w) := by
  have key : ∀ (d k fu : Nat) (y : Int32), k + d = m → d < fu → (y < 0 ↔ ∀ i, i < k → F i ≠ w) → ∃ r, fX12_find_5 fu (nI fr) (nI m) y (nI k) M = some r ∧ (r < 0 ↔ ∀ i, i < m → F i ≠ w) := by
    intro d
    induction d with
    | zero =>
      intro k fu y hk hf' hy
      obtain ⟨f', rfl⟩ : ∃ f', fu = f' + 1 := ⟨fu - 1, by omega⟩
      rw [fX12_find_5, if_pos (nI_le (by omega) (by omega))]
      refine ⟨y, rfl, ?_⟩
      rw [hy, show k = m by omega]
    | succ d ih =>
      intro k fu y hk hf' hy
      obtain ⟨f', rfl⟩ : ∃ f', fu = f' + 1 := ⟨fu - 1, by omega⟩
      obtain ⟨l1, l2⟩ := hl k (by omega)
      rw [fX12_find_5, if_neg (nI_ge (by omega) (by omega)), nI_add, if_pos (inb_nI (by omega) (by omega)), clamp_nI (by omega), hF k (by omega), h9, nI_1]
      by_cases e : F k = w
      · rw [if_pos (by rw [e])]
        refine ih (k + 1) f' (nI k) (by omega) (by omega) ⟨fun h => absurd h (nI_pos (by omega)), fun h => absurd e (h k (by omega))⟩
      · rw [if_neg (fun g => e ((nm_lN l1 hw l2 hw8).2.mp g))]
        refine ih (k + 1) f' y (by omega) (by omega) ?_
        rw [hy]
        constructor
        · intro h i hi
          rcases Nat.lt_or_ge i k with g | g
          · exact h i g
          · rw [show i = k by omega]; exact e
        · intro h i hi
          exact h i (by omega)
  obtain ⟨fu, hfu⟩ := fuel_at 20 (by decide)
  obtain ⟨r, h1, h2⟩ := key m 0 FUEL (-1) (by omega) (by omega) ⟨fun _ i hi => absurd hi (by omega), fun _ => by decide⟩
  refine ⟨r, ?_, h2⟩
  unfold fX12_find
  rw [show (0 : Int32) = nI 0 from rfl, h1, Option.bind_some]
theorem m_isOwn (hp : p ≤ n) (h : MT B n p J M) (hk : kd B n p ≤ 20) : fX12_isOwn M = decide (kd B n p ≠ 20) := by
  obtain ⟨k1, k2⟩ := kd_word hk
  obtain ⟨w1, w2⟩ := ws_in (B := B) hp
  have h9 := h.2.2.2.2 hk
  have e : ∀ w : Nat, w < 19 → ∀ v : Int64, v = lN (wd8 (wL w)) → ((M 73 9 = v) ↔ kd B n p = w) := by
    intro w hw v hv
    rw [h9, hv, (nm_lN w1 (wL_lets hw) (by omega) (wL_ok ⟨w, hw⟩).1).2, k1, wIx_19 hw]
  have n19 := kd_19 (B := B) (n := n) (p := p)
  unfold fX12_isOwn tbn
  simp only [e 0 (by decide) 1936292453 (by decide), e 1 (by decide) 25209 (by decide), e 2 (by decide) 2002873452 (by decide), e 3 (by decide) 1685024626 (by decide), e 4 (by decide) 24948 (by decide), e 5 (by decide) 1751738216 (by decide), e 6 (by decide) 1869636974 (by decide), e 7 (by decide) 29807 (by decide), e 8 (by decide) 1818324336 (by decide), e 9 (by decide) 7104884 (by decide), e 10 (by decide) 123581014175598 (by decide), e 11 (by decide) 495672452197 (by decide), e 12 (by decide) 427021006180 (by decide), e 16 (by decide) 114784769370228 (by decide), e 17 (by decide) 1752135026 (by decide), e 18 (by decide) 1684108389 (by decide), e 14 (by decide) 6385252 (by decide), e 13 (by decide) 28530 (by decide), e 15 (by decide) 7237492 (by decide)]
  generalize kd B n p = k at *
  rcases (show k = 0 ∨ k = 1 ∨ k = 2 ∨ k = 3 ∨ k = 4 ∨ k = 5 ∨ k = 6 ∨ k = 7 ∨ k = 8 ∨ k = 9 ∨ k = 10 ∨ k = 11 ∨ k = 12 ∨ k = 13 ∨ k = 14 ∨ k = 15 ∨ k = 16 ∨ k = 17 ∨ k = 18 ∨ k = 20 by omega) with c | c | c | c | c | c | c | c | c | c | c | c | c | c | c | c | c | c | c | c <;> rw [c] <;> rfl
theorem m_isName (hS : TM B n J) (hp : p ≤ n) (h : MT B n p J M) : fX12_isName J M = decide (kd B n p = 20) := by
  have h1 : J 73 6 = (1 : Int32) ↔ kd B n p ≤ 20 := by
    have g := m_sort hS hp h (s := 1) (by decide)
    rw [sk_1] at g
    exact g
  unfold fX12_isName tbn
  by_cases c : kd B n p ≤ 20
  · rw [if_pos (h1.mpr c), m_isOwn hp h c]
    by_cases d : kd B n p = 20
    · rw [if_pos (by rw [b2i_eq0]; simp [d])]; simp [d]
    · rw [if_neg (by rw [b2i_eq0]; simp [d])]; simp [d]
  · rw [if_neg (fun g => c (h1.mp g))]
    have : ¬ kd B n p = 20 := by omega
    simp [this]
theorem RT2.on2 {q : Nat} (h : RT2 B n p I L J M) (hq : q ≤ n) (hx : XT B n q I' L') (fx : XA2 I I' L L') (hm : MT B n q J' M') (f5 : J' 73 5 = J 73 5) (f74 : J' 74 = J 74) (e8 : I' 48 8 = I 48 8) (e9 : I' 48 9 = I 48 9) (e2 : J' 73 2 = J 73 2) (e3 : J' 73 3 = J 73 3) : RT2 B n q I' L' J' M' := by
  obtain ⟨_, h2, _, h4, h5, h6, _, h8, h9⟩ := h
  refine ⟨hq, h2.fr (fx.1 1 (by decide) (by decide)) fx.2.2.1 (fx.2.2.2 50 (by decide)), hx, by rw [e8]; exact h4, by rw [e9]; exact h5, h6.fr f5 f74, hm, by rw [e2]; exact h8, by rw [e3]; exact h9⟩
/-- a new name -/
theorem s_name (h : RT2 B n p I L J M) (htok : fX12_token J0 M0 = some (J, M)) {tt fr m : Nat} {F : Nat → List Nat} (hm : I tt 0 = nI m) (hcap : m ≤ capT tt) (h8 : capT tt ≤ 8) (h16 : fr + m < 16) (hF : ∀ i, i < m → L (tt + 1) i = lN (nm5 (F i))) (hG : ∀ i, i < m → M 75 (fr + i) = lN (wd8 (F i))) (hl : ∀ i, i < m → lets (F i) ∧ (F i).length ≤ 8) : (kd B n p = 20 ∧ lets (ws B n p) ∧ (ws B n p).length ≤ 8 ∧ ∃ I' L' J' M', fX6_takeName tt I L = some (true, I', L') ∧ fX12_newName (nI fr) (nI m) J0 M0 = some (J', M') ∧ RT2 B n (nx B n p) I' L' J' M' ∧ LxA I I' L L' ∧ (∀ a, a ≠ 73 → J' a = J a) ∧ (∀ j, j ≤ 1 ∨ j = 5 ∨ 9 ≤ j → J' 73 j = J 73 j) ∧ (∀ a, a ≠ 73 → a ≠ 75 → M' a = M a) ∧ (∀ j, j ≠ 9 → M' 73 j = M 73 j) ∧ M' 75 (fr + m) = lN (wd8 (ws B n p)) ∧ (∀ i, i ≠ fr + m → M' 75 i = M 75 i) ∧ L 49 7 = lN (nm5 (ws B n p))) ∨ (∃ f, 0 < f ∧ f < 100 ∧ fX6_takeName tt I L = some (false, rfX B n p f I, L) ∧ fX12_newName (nI fr) (nI m) J0 M0 = some (rfM B n p f J, M)) := by
  have hh := h
  obtain ⟨h1, h2, h3, h4, h5, h6, h7, h8', h9⟩ := h
  have hk := h2.kd h1
  unfold fX6_takeName fX12_newName
  rw [htok, Option.bind_some, m_isName h6 h1 h7, h3.1]
  by_cases c : kd B n p = 20
  · obtain ⟨k1, k2⟩ := kd_word (B := B) (n := n) (p := p) (by omega)
    obtain ⟨w1, w2⟩ := ws_in (B := B) h1
    have hn7 := h3.2.2.2.2 (by omega)
    have hn9 := h7.2.2.2.2 (by omega)
    obtain ⟨b, e1, e2⟩ := x_named (L := L) hm hcap h8 hF hl w1 (by omega)
    obtain ⟨r, g1, g2⟩ := m_find (by omega) hG hl w1 (by omega) hn9
    rw [if_pos (show nI (kd B n p) = (20 : Int32) by rw [c]; rfl), hn7, e1, Option.bind_some, if_neg (show ¬ b2i (decide (kd B n p = 20)) = 0 by rw [b2i_eq0]; simp [c]), g1, Option.bind_some]
    by_cases d : ∃ i, i < m ∧ F i = ws B n p
    · right
      refine ⟨3, by decide, by decide, ?_, ?_⟩
      · rw [e2.mpr d, if_neg (by decide), obn_eq, show (3 : Int32) = nI 3 from rfl, x_refuse h3 hk]
      · obtain ⟨i, i1, i2⟩ := d
        rw [if_neg (fun g => g2.mp g i i1 i2), obn_eq, show (3 : Int32) = nI 3 from rfl, m_wrong h6 h1 h7 h8', Option.bind_some, if_neg (s_bd hh (f := 3) (by decide) (by decide)).m.1]
    · left
      have hbf : b = false := by cases b with
        | true => exact absurd (e2.mp rfl) d
        | false => rfl
      have hr : r < 0 := g2.mpr (fun i i1 i2 => d ⟨i, i1, i2⟩)
      obtain ⟨I', L', a1, a2, a3⟩ := x_adv' h2 h1 h3 (by omega)
      have h7' : MT B n p J (up2 M 75 (fr + m) (M 73 9)) := by
        unfold MT at *
        rw [upRow _ _ (show (73 : Nat) ≠ 75 by decide)]
        exact h7
      obtain ⟨J', M', b1, b2, b3⟩ := m_tok' h6 h1 h7' (by omega)
      refine ⟨c, w1, by omega, I', L', J', M', ?_, ?_, hh.on2 (nx_le h1).2 a2 (XA2.of a3) b2 (b3.2.1 5 (by decide) (by decide) (by decide) (by decide)) (b3.1 74 (by decide)) (by rw [a3.1 48 (by decide)]) (by rw [a3.1 48 (by decide)]) (b3.2.1 2 (by decide) (by decide) (by decide) (by decide)) (b3.2.1 3 (by decide) (by decide) (by decide) (by decide)), a3, b3.1, fun j hj => b3.2.1 j (by omega) (by omega) (by omega) (by omega), ?_, ?_, ?_, ?_, rfl⟩
      · rw [hbf, if_pos (by decide), a1, Option.bind_some]
      · rw [if_pos hr, Option.bind_some]
        simp only [h8']
        rw [if_pos (by decide), nI_add, if_pos (inb_nI h16 (by decide)), clamp_nI (by omega)]
        simp only [b1, Option.bind_some]
      · intro a q1 q2; rw [b3.2.2.1 a q1, upRow _ _ q2]
      · intro j hj; rw [b3.2.2.2 j hj, upRow _ _ (by decide)]
      · rw [b3.2.2.1 75 (by decide), up2_eq, hn9]
      · intro i hi; rw [b3.2.2.1 75 (by decide), up2_at, if_neg (by omega)]
  · right
    refine ⟨2, by decide, by decide, ?_, ?_⟩
    · rw [if_neg (show ¬ nI (kd B n p) = (20 : Int32) from ne_lit hk (by decide) c), obn_eq, show (2 : Int32) = nI 2 from rfl, x_refuse h3 hk]
    · rw [if_pos (by rw [b2i_eq0]; simp [c]), obn_eq, show (2 : Int32) = nI 2 from rfl, m_wrong h6 h1 h7 h8', Option.bind_some, if_neg (s_bd hh (f := 2) (by decide) (by decide)).m.1]
end NM
