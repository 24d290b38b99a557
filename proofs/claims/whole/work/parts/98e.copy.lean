/-! the reference takes what was told -/
def nw0 (T : Nat → Nat → Nat) : Nat → Nat := fun k => if k < tnP T then T 9 k else 0
section CPY
variable {T : Nat → Nat → Nat} {N : Nat → Nat → List Nat} {sh : Bool} {J : HI} {M : HL}
theorem m_q106 {m : Nat} (hm : m ≤ 320) : ∀ (d k fu : Nat) (J : HI), J 73 18 = nI m → k + d = m → d < fu → ∃ J', fX12_quarter_106 fu (nI k) J M = some J' ∧ (∀ i, k ≤ i → i < m → J' 78 i = J 76 i ∧ J' 79 i = J 77 i) ∧ (∀ i, i < k → J' 78 i = J 78 i ∧ J' 79 i = J 79 i) ∧ ∀ a, a ≠ 78 → a ≠ 79 → J' a = J a := by
  intro d
  induction d with
  | zero =>
    intro k fu J h18 hk hf
    obtain ⟨f, rfl⟩ : ∃ f, fu = f + 1 := ⟨fu - 1, by omega⟩
    refine ⟨J, ?_, fun i h1 h2 => by omega, fun _ _ => ⟨rfl, rfl⟩, fun _ _ _ => rfl⟩
    rw [fX12_quarter_106, h18, if_pos (nI_le (by omega) (by omega))]
  | succ d ih =>
    intro k fu J h18 hk hf
    obtain ⟨f, rfl⟩ : ∃ f, fu = f + 1 := ⟨fu - 1, by omega⟩
    have e77 : up2 J 78 k (J 76 k) 77 k = J 77 k := by rw [upRow _ _ (by decide)]
    rw [fX12_quarter_106, h18, if_neg (nI_ge (by omega) (by omega))]
    simp only [clamp_nI (show k < 2 ^ 31 by omega), inb_nI (show k < 320 by omega) (show 320 < 2 ^ 31 by decide), if_true, e77, nI_1]
    obtain ⟨J', w1, w2, w3, w4⟩ := ih (k + 1) f (up2 (up2 J 78 k (J 76 k)) 79 k (J 77 k)) (by rw [upRow _ _ (by decide), upRow _ _ (by decide)]; exact h18) (by omega) (by omega)
    refine ⟨J', w1, fun i h1 h2 => ?_, fun i hi => ?_, fun a h1 h2 => by rw [w4 a h1 h2, upRow _ _ h2, upRow _ _ h1]⟩
    · by_cases e : i = k
      · obtain ⟨v1, v2⟩ := w3 i (by omega)
        rw [v1, v2, e, upRow _ _ (by decide), up2_eq, up2_eq]
        exact ⟨rfl, rfl⟩
      · obtain ⟨v1, v2⟩ := w2 i (by omega) h2
        rw [v1, v2, upRow _ _ (by decide), upRow _ _ (by decide), upRow _ _ (by decide), upRow _ _ (by decide)]
        exact ⟨rfl, rfl⟩
    · obtain ⟨v1, v2⟩ := w3 i (by omega)
      rw [v1, v2, upRow _ _ (by decide), up2_at, if_neg (by omega), up2_at, if_neg (by omega), upRow _ _ (by decide)]
      exact ⟨rfl, rfl⟩
theorem m_q146 : ∀ (d k fu : Nat) (J : HI), k + d = 8 → d < fu → ∃ J', fX12_quarter_146 fu (nI k) J M = some J' ∧ (∀ i, k ≤ i → i < 8 → J' 91 i = J 83 i ∧ J' 92 i = J 84 i ∧ J' 93 i = J 85 i ∧ J' 94 i = J 86 i) ∧ (∀ i, i < k → J' 91 i = J 91 i ∧ J' 92 i = J 92 i ∧ J' 93 i = J 93 i ∧ J' 94 i = J 94 i) ∧ ∀ a, ¬ (91 ≤ a ∧ a ≤ 94) → J' a = J a := by
  intro d
  induction d with
  | zero =>
    intro k fu J hk hf
    obtain ⟨f, rfl⟩ : ∃ f, fu = f + 1 := ⟨fu - 1, by omega⟩
    refine ⟨J, ?_, fun i h1 h2 => by omega, fun _ _ => ⟨rfl, rfl, rfl, rfl⟩, fun _ _ => rfl⟩
    rw [fX12_quarter_146, if_pos (show (8 : Int32) ≤ nI k from nI_le (a := 8) (by omega) (by omega))]
  | succ d ih =>
    intro k fu J hk hf
    obtain ⟨f, rfl⟩ : ∃ f, fu = f + 1 := ⟨fu - 1, by omega⟩
    obtain ⟨J1, hJ1⟩ : ∃ y : HI, y = up2 (up2 (up2 (up2 J 91 k (J 83 k)) 92 k (J 84 k)) 93 k (J 85 k)) 94 k (J 86 k) := ⟨_, rfl⟩
    have e1 : up2 J 91 k (J 83 k) 84 k = J 84 k := by rw [upRow _ _ (by decide)]
    have e2 : up2 (up2 J 91 k (J 83 k)) 92 k (J 84 k) 85 k = J 85 k := by rw [upRow _ _ (by decide), upRow _ _ (by decide)]
    have e3 : up2 (up2 (up2 J 91 k (J 83 k)) 92 k (J 84 k)) 93 k (J 85 k) 86 k = J 86 k := by rw [upRow _ _ (by decide), upRow _ _ (by decide), upRow _ _ (by decide)]
    rw [fX12_quarter_146, if_neg (show ¬ (8 : Int32) ≤ nI k from nI_ge (b := 8) (by omega) (by decide))]
    simp only [clamp_nI (show k < 2 ^ 31 by omega), inb_nI (show k < 8 by omega) (show 8 < 2 ^ 31 by decide), if_true, e1, e2, e3, nI_1]
    rw [← hJ1]
    have o : ∀ a, ¬ (91 ≤ a ∧ a ≤ 94) → J1 a = J a := fun a ha => by rw [hJ1, upRow _ _ (by omega), upRow _ _ (by omega), upRow _ _ (by omega), upRow _ _ (by omega)]
    have n91 : ∀ i, J1 91 i = if i = k then J 83 k else J 91 i := fun i => by rw [hJ1, upRow _ _ (by decide), upRow _ _ (by decide), upRow _ _ (by decide), up2_at]; simp
    have n92 : ∀ i, J1 92 i = if i = k then J 84 k else J 92 i := fun i => by rw [hJ1, upRow _ _ (by decide), upRow _ _ (by decide), up2_at, upRow _ _ (by decide)]; simp
    have n93 : ∀ i, J1 93 i = if i = k then J 85 k else J 93 i := fun i => by rw [hJ1, upRow _ _ (by decide), up2_at, upRow _ _ (by decide), upRow _ _ (by decide)]; simp
    have n94 : ∀ i, J1 94 i = if i = k then J 86 k else J 94 i := fun i => by rw [hJ1, up2_at, upRow _ _ (by decide), upRow _ _ (by decide), upRow _ _ (by decide)]; simp
    obtain ⟨J', w1, w2, w3, w4⟩ := ih (k + 1) f J1 (by omega) (by omega)
    refine ⟨J', w1, fun i h1 h2 => ?_, fun i hi => ?_, fun a ha => by rw [w4 a ha, o a ha]⟩
    · by_cases e : i = k
      · obtain ⟨v1, v2, v3, v4⟩ := w3 i (by omega)
        rw [v1, v2, v3, v4, n91, n92, n93, n94, if_pos e, if_pos e, if_pos e, if_pos e, e]
        exact ⟨rfl, rfl, rfl, rfl⟩
      · obtain ⟨v1, v2, v3, v4⟩ := w2 i (by omega) h2
        rw [v1, v2, v3, v4, o 83 (by decide), o 84 (by decide), o 85 (by decide), o 86 (by decide)]
        exact ⟨rfl, rfl, rfl, rfl⟩
    · obtain ⟨v1, v2, v3, v4⟩ := w3 i (by omega)
      rw [v1, v2, v3, v4, n91, n92, n93, n94, if_neg (by omega), if_neg (by omega), if_neg (by omega), if_neg (by omega)]
      exact ⟨rfl, rfl, rfl, rfl⟩
theorem m_q208 : ∀ (d k fu : Nat) (J : HI), k + d = 4 → d < fu → ∃ J', fX12_quarter_208 fu (nI k) J M = some J' ∧ (∀ i, k ≤ i → i < 4 → J' 95 i = J 87 i ∧ J' 96 i = J 88 i ∧ J' 97 i = J 89 i ∧ J' 98 i = J 90 i) ∧ (∀ i, i < k → J' 95 i = J 95 i ∧ J' 96 i = J 96 i ∧ J' 97 i = J 97 i ∧ J' 98 i = J 98 i) ∧ ∀ a, ¬ (95 ≤ a ∧ a ≤ 98) → J' a = J a := by
  intro d
  induction d with
  | zero =>
    intro k fu J hk hf
    obtain ⟨f, rfl⟩ : ∃ f, fu = f + 1 := ⟨fu - 1, by omega⟩
    refine ⟨J, ?_, fun i h1 h2 => by omega, fun _ _ => ⟨rfl, rfl, rfl, rfl⟩, fun _ _ => rfl⟩
    rw [fX12_quarter_208, if_pos (show (4 : Int32) ≤ nI k from nI_le (a := 4) (by omega) (by omega))]
  | succ d ih =>
    intro k fu J hk hf
    obtain ⟨f, rfl⟩ : ∃ f, fu = f + 1 := ⟨fu - 1, by omega⟩
    obtain ⟨J1, hJ1⟩ : ∃ y : HI, y = up2 (up2 (up2 (up2 J 95 k (J 87 k)) 96 k (J 88 k)) 97 k (J 89 k)) 98 k (J 90 k) := ⟨_, rfl⟩
    have e1 : up2 J 95 k (J 87 k) 88 k = J 88 k := by rw [upRow _ _ (by decide)]
    have e2 : up2 (up2 J 95 k (J 87 k)) 96 k (J 88 k) 89 k = J 89 k := by rw [upRow _ _ (by decide), upRow _ _ (by decide)]
    have e3 : up2 (up2 (up2 J 95 k (J 87 k)) 96 k (J 88 k)) 97 k (J 89 k) 90 k = J 90 k := by rw [upRow _ _ (by decide), upRow _ _ (by decide), upRow _ _ (by decide)]
    rw [fX12_quarter_208, if_neg (show ¬ (4 : Int32) ≤ nI k from nI_ge (b := 4) (by omega) (by decide))]
    simp only [clamp_nI (show k < 2 ^ 31 by omega), inb_nI (show k < 4 by omega) (show 4 < 2 ^ 31 by decide), if_true, e1, e2, e3, nI_1]
    rw [← hJ1]
    have o : ∀ a, ¬ (95 ≤ a ∧ a ≤ 98) → J1 a = J a := fun a ha => by rw [hJ1, upRow _ _ (by omega), upRow _ _ (by omega), upRow _ _ (by omega), upRow _ _ (by omega)]
    have n91 : ∀ i, J1 95 i = if i = k then J 87 k else J 95 i := fun i => by rw [hJ1, upRow _ _ (by decide), upRow _ _ (by decide), upRow _ _ (by decide), up2_at]; simp
    have n92 : ∀ i, J1 96 i = if i = k then J 88 k else J 96 i := fun i => by rw [hJ1, upRow _ _ (by decide), upRow _ _ (by decide), up2_at, upRow _ _ (by decide)]; simp
    have n93 : ∀ i, J1 97 i = if i = k then J 89 k else J 97 i := fun i => by rw [hJ1, upRow _ _ (by decide), up2_at, upRow _ _ (by decide), upRow _ _ (by decide)]; simp
    have n94 : ∀ i, J1 98 i = if i = k then J 90 k else J 98 i := fun i => by rw [hJ1, up2_at, upRow _ _ (by decide), upRow _ _ (by decide), upRow _ _ (by decide)]; simp
    obtain ⟨J', w1, w2, w3, w4⟩ := ih (k + 1) f J1 (by omega) (by omega)
    refine ⟨J', w1, fun i h1 h2 => ?_, fun i hi => ?_, fun a ha => by rw [w4 a ha, o a ha]⟩
    · by_cases e : i = k
      · obtain ⟨v1, v2, v3, v4⟩ := w3 i (by omega)
        rw [v1, v2, v3, v4, n91, n92, n93, n94, if_pos e, if_pos e, if_pos e, if_pos e, e]
        exact ⟨rfl, rfl, rfl, rfl⟩
      · obtain ⟨v1, v2, v3, v4⟩ := w2 i (by omega) h2
        rw [v1, v2, v3, v4, o 87 (by decide), o 88 (by decide), o 89 (by decide), o 90 (by decide)]
        exact ⟨rfl, rfl, rfl, rfl⟩
    · obtain ⟨v1, v2, v3, v4⟩ := w3 i (by omega)
      rw [v1, v2, v3, v4, n91, n92, n93, n94, if_neg (by omega), if_neg (by omega), if_neg (by omega), if_neg (by omega)]
      exact ⟨rfl, rfl, rfl, rfl⟩
theorem m_q269 : ∀ (d k fu : Nat) (J : HI), k + d = 9 → d < fu → ∃ J', fX12_quarter_269 fu (nI k) J M = some J' ∧ (∀ i, k ≤ i → i < 9 → J' 99 i = 0) ∧ (∀ i, i < k → J' 99 i = J 99 i) ∧ ∀ a, a ≠ 99 → J' a = J a := by
  intro d
  induction d with
  | zero =>
    intro k fu J hk hf
    obtain ⟨f, rfl⟩ : ∃ f, fu = f + 1 := ⟨fu - 1, by omega⟩
    refine ⟨J, ?_, fun i h1 h2 => by omega, fun _ _ => rfl, fun _ _ => rfl⟩
    rw [fX12_quarter_269, if_pos (show (9 : Int32) ≤ nI k from nI_le (a := 9) (by omega) (by omega))]
  | succ d ih =>
    intro k fu J hk hf
    obtain ⟨f, rfl⟩ : ∃ f, fu = f + 1 := ⟨fu - 1, by omega⟩
    rw [fX12_quarter_269, if_neg (show ¬ (9 : Int32) ≤ nI k from nI_ge (b := 9) (by omega) (by decide)), if_pos (inb_nI (show k < 10 by omega) (by decide)), clamp_nI (by omega), nI_1]
    obtain ⟨J', w1, w2, w3, w4⟩ := ih (k + 1) f (up2 J 99 k 0) (by omega) (by omega)
    refine ⟨J', w1, fun i h1 h2 => ?_, fun i hi => ?_, fun a ha => by rw [w4 a ha, upRow _ _ ha]⟩
    · by_cases e : i = k
      · rw [w3 i (by omega), e, up2_eq]
      · exact w2 i (by omega) h2
    · rw [w3 i (by omega), up2_at, if_neg (by omega)]
theorem m_q290 {m : Nat} (hm : m ≤ 4) : ∀ (d k fu : Nat) (J : HI), J 73 57 = nI m → k + d = m → d < fu → ∃ J', fX12_quarter_290 fu (nI k) J M = some J' ∧ (∀ i, k ≤ i → i < m → J' 99 i = J 98 i) ∧ (∀ i, i < k ∨ m ≤ i → J' 99 i = J 99 i) ∧ ∀ a, a ≠ 99 → J' a = J a := by
  intro d
  induction d with
  | zero =>
    intro k fu J h57 hk hf
    obtain ⟨f, rfl⟩ : ∃ f, fu = f + 1 := ⟨fu - 1, by omega⟩
    refine ⟨J, ?_, fun i h1 h2 => by omega, fun _ _ => rfl, fun _ _ => rfl⟩
    rw [fX12_quarter_290, h57, if_pos (nI_le (by omega) (by omega))]
  | succ d ih =>
    intro k fu J h57 hk hf
    obtain ⟨f, rfl⟩ : ∃ f, fu = f + 1 := ⟨fu - 1, by omega⟩
    rw [fX12_quarter_290, h57, if_neg (nI_ge (by omega) (by omega)), if_pos (inb_nI (show k < 4 by omega) (by decide)), if_pos (inb_nI (show k < 10 by omega) (by decide)), clamp_nI (by omega), nI_1]
    obtain ⟨J', w1, w2, w3, w4⟩ := ih (k + 1) f (up2 J 99 k (J 98 k)) (by rw [upRow _ _ (by decide)]; exact h57) (by omega) (by omega)
    refine ⟨J', w1, fun i h1 h2 => ?_, fun i hi => ?_, fun a ha => by rw [w4 a ha, upRow _ _ ha]⟩
    · by_cases e : i = k
      · rw [w3 i (by omega), e, up2_eq]
      · rw [w2 i (by omega) h2, upRow _ _ (by decide)]
    · rw [w3 i (by omega), up2_at, if_neg (by omega)]
theorem m_q338 : ∀ (d k fu : Nat) (J : HI), k + d = 3 → d < fu → ∃ J', fX12_quarter_338 fu (nI k) J M = some (J 73 55, J') ∧ (∀ i, k ≤ i → i < 3 → J' 114 i = b2i false) ∧ (∀ i, i < k → J' 114 i = J 114 i) ∧ ∀ a, a ≠ 114 → J' a = J a := by
  intro d
  induction d with
  | zero =>
    intro k fu J hk hf
    obtain ⟨f, rfl⟩ : ∃ f, fu = f + 1 := ⟨fu - 1, by omega⟩
    refine ⟨J, ?_, fun i h1 h2 => by omega, fun _ _ => rfl, fun _ _ => rfl⟩
    rw [fX12_quarter_338, if_pos (show (3 : Int32) ≤ nI k from nI_le (a := 3) (by omega) (by omega))]
  | succ d ih =>
    intro k fu J hk hf
    obtain ⟨f, rfl⟩ : ∃ f, fu = f + 1 := ⟨fu - 1, by omega⟩
    rw [fX12_quarter_338, if_neg (show ¬ (3 : Int32) ≤ nI k from nI_ge (b := 3) (by omega) (by decide)), if_pos (inb_nI (show k < 3 by omega) (by decide)), clamp_nI (by omega), nI_1]
    obtain ⟨J', w1, w2, w3, w4⟩ := ih (k + 1) f (up2 J 114 k (b2i false)) (by omega) (by omega)
    refine ⟨J', ?_, fun i h1 h2 => ?_, fun i hi => ?_, fun a ha => by rw [w4 a ha, upRow _ _ ha]⟩
    · simp only
      rw [w1, upRow _ _ (by decide)]
    · by_cases e : i = k
      · rw [w3 i (by omega), e, up2_eq]
      · exact w2 i (by omega) h2
    · rw [w3 i (by omega), up2_at, if_neg (by omega)]
set_option maxHeartbeats 4000000 in
theorem m_qtail {J0 : HI} {M0 : HL} (hT : TOk T) (hD : DM T N J M) (h2 : J 73 2 = 0) (h61 : J 73 61 = b2i sh) (hsh : sh = false → tNS T = 0) (hR : fX12_readAll J0 M0 = some (J, M)) : ∃ J', fX12_quarter J0 M0 = some (nI (tnD T), J', up2 M 73 44 (M 73 41)) ∧ MTown T J' (up2 M 73 44 (M 73 41)) ∧ MNow J' (nw0 T) ∧ J' 73 73 = 0 ∧ J' 73 74 = 0 ∧ J' 73 86 = 0 ∧ J' 73 76 = 0 ∧ (∀ i, i < 3 → J' 114 i = b2i false) ∧ (∀ a, a ≠ 73 → a ≠ 78 → a ≠ 79 → ¬ (91 ≤ a ∧ a ≤ 99) → a ≠ 114 → J' a = J a) ∧ ∀ j, j ≤ 17 ∨ j = 87 → J' 73 j = J 73 j := by
  obtain ⟨a1, a2, a3, a4, a5, a6, a7, a8, a9, a10, a11, a12, a13, a14, a15, a16⟩ := hD
  have t1 := hT.2.1
  have t3 := hT.2.2.1
  have t4 := hT.2.2.2.1
  have ns : tNS T ≤ 270 := hT.2.2.2.2.2.2.2.2.2.1.1
  obtain ⟨f0, hf0⟩ := fuel_at 400 (by decide)
  obtain ⟨J1, hJ1⟩ : ∃ y : HI, y = up2 (up2 (up2 (up2 (up2 (up2 (up2 (up2 J 73 52 (J 73 45)) 73 53 (J 73 46)) 73 54 (J 73 47)) 73 55 (J 73 48)) 73 56 (J 73 49)) 73 57 (J 73 50)) 73 58 (J 73 51)) 73 21 (J 73 20) := ⟨_, rfl⟩
  have o1 : ∀ a, a ≠ 73 → J1 a = J a := fun a ha => by rw [hJ1]; simp only [upRow _ _ ha]
  have f1 : ∀ j, j ≠ 21 → ¬ (52 ≤ j ∧ j ≤ 58) → J1 73 j = J 73 j := fun j h1 h2 => by
    rw [hJ1, up2_at, if_neg (by omega), up2_at, if_neg (by omega), up2_at, if_neg (by omega), up2_at, if_neg (by omega), up2_at, if_neg (by omega), up2_at, if_neg (by omega), up2_at, if_neg (by omega), up2_at, if_neg (by omega)]
  have g52 : J1 73 52 = J 73 45 := by rw [hJ1]; simp [up2_at]
  have g53 : J1 73 53 = J 73 46 := by rw [hJ1]; simp [up2_at]
  have g54 : J1 73 54 = J 73 47 := by rw [hJ1]; simp [up2_at]
  have g55 : J1 73 55 = J 73 48 := by rw [hJ1]; simp [up2_at]
  have g56 : J1 73 56 = J 73 49 := by rw [hJ1]; simp [up2_at]
  have g57 : J1 73 57 = J 73 50 := by rw [hJ1]; simp [up2_at]
  have g58 : J1 73 58 = J 73 51 := by rw [hJ1]; simp [up2_at]
  have g21 : J1 73 21 = J 73 20 := by rw [hJ1]; simp [up2_at]
  have eq11 : (if (J 73 61) = 0 then some (0 : Int32) else some (J 73 17)) = some (nI (tNS T)) := by
    rw [h61, a15]
    cases sh with
    | false => rw [if_pos (by decide), hsh rfl]; rfl
    | true => rw [if_neg (by decide)]
  obtain ⟨J2, w1, w2, w3, w4⟩ := m_q106 (M := up2 M 73 44 (M 73 41)) (m := tNS T) (by omega) (tNS T) 0 FUEL (up2 J1 73 18 (nI (tNS T))) (up2_eq _ _ _ _) (by omega) (by omega)
  obtain ⟨J3, x1, x2, x3, x4⟩ := m_q146 (M := up2 M 73 44 (M 73 41)) 8 0 FUEL J2 (by omega) (by omega)
  obtain ⟨J4, y1, y2, y3, y4⟩ := m_q208 (M := up2 M 73 44 (M 73 41)) 4 0 FUEL J3 (by omega) (by omega)
  obtain ⟨J5, z1, z2, z3, z4⟩ := m_q269 (M := up2 M 73 44 (M 73 41)) 9 0 FUEL J4 (by omega) (by omega)
  have p73 : ∀ j, J5 73 j = up2 J1 73 18 (nI (tNS T)) 73 j := fun j => by rw [z4 73 (by decide), y4 73 (by decide), x4 73 (by decide), w4 73 (by decide) (by decide)]
  obtain ⟨J6, u1, u2, u3, u4⟩ := m_q290 (M := up2 M 73 44 (M 73 41)) (m := tnP T) (by omega) (tnP T) 0 FUEL J5 (by rw [p73, up2_at, if_neg (by decide), g57]; exact a9) (by omega) (by omega)
  obtain ⟨J7, hJ7⟩ : ∃ y : HI, y = up2 (up2 (up2 (up2 J6 73 73 (0 : Int32)) 73 74 (0 : Int32)) 73 86 (0 : Int32)) 73 76 (0 : Int32) := ⟨_, rfl⟩
  obtain ⟨J8, v1, v2, v3, v4⟩ := m_q338 (M := up2 M 73 44 (M 73 41)) 3 0 FUEL J7 (by omega) (by omega)
  have o7 : ∀ a, a ≠ 73 → J7 a = J6 a := fun a ha => by rw [hJ7, upRow _ _ ha, upRow _ _ ha, upRow _ _ ha, upRow _ _ ha]
  have f7 : ∀ j, j ≠ 73 → j ≠ 74 → j ≠ 86 → j ≠ 76 → J7 73 j = J6 73 j := fun j q1 q2 q3 q4 => by rw [hJ7, up2_at, if_neg (by omega), up2_at, if_neg (by omega), up2_at, if_neg (by omega), up2_at, if_neg (by omega)]
  have F73 : ∀ j, j ≠ 73 → j ≠ 74 → j ≠ 86 → j ≠ 76 → J8 73 j = up2 J1 73 18 (nI (tNS T)) 73 j := fun j q1 q2 q3 q4 => by rw [v4 73 (by decide), f7 j q1 q2 q3 q4, u4 73 (by decide), p73]
  have FF : ∀ j, j ≠ 73 → j ≠ 74 → j ≠ 86 → j ≠ 76 → j ≠ 18 → J8 73 j = J1 73 j := fun j q1 q2 q3 q4 q5 => by rw [F73 j q1 q2 q3 q4, up2_at, if_neg (by omega)]
  have r55 : J7 73 55 = nI (tnD T) := by rw [f7 55 (by decide) (by decide) (by decide) (by decide), u4 73 (by decide), p73, up2_at, if_neg (by decide), g55]; exact a7
  refine ⟨J8, ?_, ?_, ?_, ?_, ?_, ?_, ?_, fun i hi => v2 i (by omega) hi, ?_, ?_⟩
  · unfold fX12_quarter
    rw [hR, Option.bind_some]
    simp only
    rw [h2, if_pos (by decide)]
    simp only [up2_at, Nat.reduceEqDiff, and_false, if_false]
    rw [← hJ1, eq11, Option.bind_some, show (0 : Int32) = nI 0 from rfl, w1, Option.bind_some, x1, Option.bind_some, y1, Option.bind_some, z1, Option.bind_some, u1, Option.bind_some, show nI 0 = (0 : Int32) from rfl, ← hJ7, show (0 : Int32) = nI 0 from rfl, v1, Option.bind_some, r55]
  · refine ⟨⟨?_, ?_, fun c hc => ?_⟩, ?_, ?_, ?_, ?_, ?_, ?_, fun d hd => ?_, fun l hl => ?_, fun p hp => ?_, ?_, fun k hk => ?_⟩
    · rw [FF 52 (by decide) (by decide) (by decide) (by decide) (by decide), g52]; exact a1
    · rw [FF 53 (by decide) (by decide) (by decide) (by decide) (by decide), g53]; exact a2
    · rw [up2_eq]; exact a3 c hc
    · rw [FF 54 (by decide) (by decide) (by decide) (by decide) (by decide), g54]; exact a6
    · rw [FF 55 (by decide) (by decide) (by decide) (by decide) (by decide), g55]; exact a7
    · rw [FF 56 (by decide) (by decide) (by decide) (by decide) (by decide), g56]; exact a8
    · rw [FF 57 (by decide) (by decide) (by decide) (by decide) (by decide), g57]; exact a9
    · rw [FF 58 (by decide) (by decide) (by decide) (by decide) (by decide), g58]; exact a10
    · rw [FF 21 (by decide) (by decide) (by decide) (by decide) (by decide), g21]; exact a11
    · obtain ⟨e1, e2, e3, e4⟩ := x2 d (by omega) (by omega)
      have rw1 : ∀ a, 91 ≤ a ∧ a ≤ 94 → J8 a = J3 a := fun a ha => by rw [v4 a (by omega), o7 a (by omega), u4 a (by omega), z4 a (by omega), y4 a (by omega)]
      have rw2 : ∀ a, 83 ≤ a ∧ a ≤ 86 → J2 a = J a := fun a ha => by rw [w4 a (by omega) (by omega), upRow _ _ (by omega), o1 a (by omega)]
      obtain ⟨b1, b2, b3, b4, b5⟩ := a12 d hd
      rw [rw1 91 (by decide), rw1 92 (by decide), rw1 93 (by decide), rw1 94 (by decide), e1, e2, e3, e4, rw2 83 (by decide), rw2 84 (by decide), rw2 85 (by decide), rw2 86 (by decide)]
      exact ⟨b1, b2, b3, b4⟩
    · obtain ⟨e1, e2, e3, e4⟩ := y2 l (by omega) (by omega)
      have rw1 : ∀ a, 95 ≤ a ∧ a ≤ 98 → J8 a = J4 a := fun a ha => by rw [v4 a (by omega), o7 a (by omega), u4 a (by omega), z4 a (by omega)]
      have rw2 : ∀ a, 87 ≤ a ∧ a ≤ 90 → J3 a = J a := fun a ha => by rw [x4 a (by omega), w4 a (by omega) (by omega), upRow _ _ (by omega), o1 a (by omega)]
      obtain ⟨b1, b2, b3, b4⟩ := a13 l hl
      rw [rw1 95 (by decide), rw1 96 (by decide), rw1 97 (by decide), e1, e2, e3, rw2 87 (by decide), rw2 88 (by decide), rw2 89 (by decide)]
      exact ⟨b1, b2, b3⟩
    · obtain ⟨e1, e2, e3, e4⟩ := y2 p (by omega) (by omega)
      rw [v4 98 (by decide), o7 98 (by decide), u4 98 (by decide), z4 98 (by decide), e4, x4 90 (by decide), w4 90 (by decide) (by decide), upRow _ _ (by decide), o1 90 (by decide)]
      exact (a14 p hp).1
    · rw [F73 18 (by decide) (by decide) (by decide) (by decide), up2_eq]
    · obtain ⟨e1, e2⟩ := w2 k (by omega) hk
      rw [v4 78 (by decide), o7 78 (by decide), u4 78 (by decide), z4 78 (by decide), y4 78 (by decide), x4 78 (by decide), e1, v4 79 (by decide), o7 79 (by decide), u4 79 (by decide), z4 79 (by decide), y4 79 (by decide), x4 79 (by decide), e2, upRow _ _ (by decide), upRow _ _ (by decide), o1 76 (by decide), o1 77 (by decide)]
      exact a16 k hk
  · intro k hk
    rw [v4 99 (by decide), o7 99 (by decide)]
    unfold nw0
    by_cases c : k < tnP T
    · obtain ⟨e1, e2, e3, e4⟩ := y2 k (by omega) (by omega)
      rw [if_pos c, u2 k (by omega) c, z4 98 (by decide), e4, x4 90 (by decide), w4 90 (by decide) (by decide), upRow _ _ (by decide), o1 90 (by decide)]
      exact (a14 k c).1
    · rw [if_neg c, u3 k (by omega), z2 k (by omega) hk]; rfl
  · rw [v4 73 (by decide), hJ7]; simp [up2_at]
  · rw [v4 73 (by decide), hJ7]; simp [up2_at]
  · rw [v4 73 (by decide), hJ7]; simp [up2_at]
  · rw [v4 73 (by decide), hJ7]; simp [up2_at]
  · intro a q1 q2 q3 q4 q5
    rw [v4 a q5, o7 a q1, u4 a (by omega), z4 a (by omega), y4 a (by omega), x4 a (by omega), w4 a q2 q3, upRow _ _ q1, o1 a q1]
  · intro j hj
    rw [FF j (by omega) (by omega) (by omega) (by omega) (by omega), f1 j (by omega) (by omega)]
end CPY
