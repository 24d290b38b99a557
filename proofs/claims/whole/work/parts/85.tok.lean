/-! what is done with a token, on both sides -/
def flt (B : Nat → Nat) (n p f : Nat) : Nat := if kd B n p = 23 then 1 else f
def rfX (B : Nat → Nat) (n p f : Nat) (I : HI) : HI := up2 (up2 I 48 8 (nI (flt B n p f))) 48 9 (nI (tS B n p))
def rfM (B : Nat → Nat) (n p f : Nat) (J : HI) : HI := up2 (up2 J 73 2 (nI (flt B n p f))) 73 3 (nI (tS B n p))
def nOk (B : Nat → Nat) (n p a b : Nat) : Prop := kd B n p = 21 ∧ a ≤ vl B n p ∧ vl B n p ≤ b
def nF (B : Nat → Nat) (n p : Nat) : Nat := if kd B n p = 21 then 4 else 2
theorem sk_1 {k : Nat} : sk k = 1 ↔ k ≤ 20 := by unfold sk; split <;> (try split) <;> (try split) <;> (try split) <;> omega
theorem sk_2 {k : Nat} : sk k = 2 ↔ k = 21 := by unfold sk; split <;> (try split) <;> (try split) <;> (try split) <;> omega
theorem sk_0 {k : Nat} : sk k = 0 ↔ k = 22 := by unfold sk; split <;> (try split) <;> (try split) <;> (try split) <;> omega
theorem sk_3 {k : Nat} : sk k = 3 ↔ k = 23 := by unfold sk; split <;> (try split) <;> (try split) <;> (try split) <;> omega
theorem sk_s {k s : Nat} (h : 24 ≤ s) : sk k = s ↔ k = s := by unfold sk; split <;> (try split) <;> (try split) <;> (try split) <;> omega
theorem sk_le {k : Nat} (h : k < 256) : sk k < 256 := by unfold sk; split <;> (try split) <;> (try split) <;> (try split) <;> omega
theorem num10_lt {B : Nat → Nat} {s : Nat} : ∀ m, (∀ i, s ≤ i → i < s + m → isDg (B i) = true) → num10 B s m < 10 ^ m := by
  intro m
  induction m with
  | zero => intro _; exact Nat.one_pos
  | succ m ih =>
    intro h
    have h1 := ih (fun i a b => h i a (by omega))
    have h2 := isDg_r.mp (h (s + m) (by omega) (by omega))
    rw [num10, Nat.pow_succ]
    omega
theorem ne_lit {k c : Nat} (hk : k < 256) (hc : c < 256) (h : k ≠ c) : ¬ nI k = nI c := fun e => h ((nI_eq (by omega) (by omega)).mp e)
section TK
variable {B : Nat → Nat} {n p : Nat} {I : HI} {L : HL} {J : HI} {M : HL}
theorem kd_lt (hB : ∀ i, i < n → B i < 256) (hp : p ≤ n) : kd B n p < 256 := by
  have h1 := tS_le (B := B) hp
  unfold kd
  split
  · omega
  · split
    · split
      · omega
      · have := wIx_le (ws B n p); omega
    · split
      · split <;> omega
      · split
        · exact hB _ (by omega)
        · omega
theorem sg_r {b : Nat} (h : isSg b = true) : b = 59 ∨ b = 40 ∨ b = 41 ∨ b = 60 ∨ b = 62 ∨ b = 61 ∨ b = 43 ∨ b = 45 ∨ b = 42 ∨ b = 47 ∨ b = 37 := by
  unfold isSg sgL at h
  simp at h
  omega
theorem kd_cases : kd B n p ≤ 23 ∨ isSg (kd B n p) = true := by
  unfold kd
  split
  · omega
  · split
    · split
      · omega
      · have := wIx_le (ws B n p); omega
    · split
      · split <;> omega
      · split
        · rename_i h; exact Or.inr h
        · omega
theorem kd_19 : kd B n p ≠ 19 := by
  unfold kd
  split
  · omega
  · split
    · split
      · omega
      · exact (wIx_le (ws B n p)).2
    · split
      · split <;> omega
      · split
        · rename_i h
          have := sg_r h
          omega
        · omega
theorem kd_word (h : kd B n p ≤ 20) : kd B n p = wIx (ws B n p) ∧ tL B n p - tS B n p ≤ 8 := by
  unfold kd at h ⊢
  split
  · rename_i c; rw [if_pos c] at h; omega
  · rename_i c; rw [if_neg c] at h
    split
    · rename_i c; rw [if_pos c] at h
      split
      · rename_i c; rw [if_pos c] at h; omega
      · exact ⟨rfl, by omega⟩
    · rename_i c; rw [if_neg c] at h
      split
      · rename_i c; rw [if_pos c] at h; split at h <;> omega
      · rename_i c; rw [if_neg c] at h
        split
        · rename_i c; rw [if_pos c] at h; have := sg_r c; omega
        · rename_i c; rw [if_neg c] at h; omega
theorem vl_lt (hp : p ≤ n) (h : kd B n p = 21) : vl B n p < 10000 := by
  have h1 := tS_le (B := B) hp
  have h2 := tG_le (B := B) hp
  have key : tG B n p - tS B n p ≤ 4 := by
    unfold kd at h
    split at h
    · omega
    · split at h
      · split at h
        · omega
        · have := wIx_le (ws B n p); omega
      · split at h
        · split at h
          · omega
          · omega
        · split at h
          · rename_i c; have := sg_r c; omega
          · omega
  have h3 := num10_lt (B := B) (s := tS B n p) (tG B n p - tS B n p) (fun i a b => run_in _ _ i a (show i < tG B n p by omega))
  have h4 : 10 ^ (tG B n p - tS B n p) ≤ 10 ^ 4 := Nat.pow_le_pow_right (by decide) key
  unfold vl
  omega
theorem x_refuse (h : XT B n p I L) (hk : kd B n p < 256) (f : Nat) : fX6_refuse (nI f) I = (false, rfX B n p f I) := by
  obtain ⟨h1, h2, _⟩ := h
  unfold fX6_refuse tbn rfX flt
  rw [h1]
  simp only [up2_at, Nat.reduceEqDiff, false_and, if_false, h2]
  by_cases c : kd B n p = 23
  · rw [if_pos (by rw [c]; rfl), if_pos c]; rfl
  · rw [if_neg (show ¬ nI (kd B n p) = (23 : Int32) from ne_lit hk (by decide) c), if_neg c]
/-- reading on: what changes of the class -/
def LxA (I I' : HI) (L L' : HL) : Prop := (∀ a, a ≠ 49 → I' a = I a) ∧ I' 49 2 = I 49 2 ∧ (∀ a, a ≠ 49 → L' a = L a)
def LxS (B : Nat → Nat) (n : Nat) (I : HI) (L : HL) : Prop := TX B n I ∧ LexOk L
theorem LxS.fr {I' : HI} {L' : HL} (h : LxS B n I L) (h1 : I' 1 = I 1) (h2 : I' 49 2 = I 49 2) (h3 : L' 50 = L 50) : LxS B n I' L' := by
  obtain ⟨⟨a, b, c⟩, d⟩ := h
  exact ⟨⟨a, by rw [h2]; exact b, by rw [h1]; exact c⟩, fun i hi => by rw [h3]; exact d i hi⟩
theorem LxS.fa {I' : HI} {L' : HL} (h : LxS B n I L) (f : LxA I I' L L') : LxS B n I' L' := h.fr (f.1 1 (by decide)) f.2.1 (f.2.2 50 (by decide))
theorem x_adv' (hS : LxS B n I L) (hp : p ≤ n) (h : XT B n p I L) (hk : kd B n p ≠ 23) : ∃ I' L', fX9_advance I L = some (I', L') ∧ XT B n (nx B n p) I' L' ∧ LxA I I' L L' := by
  obtain ⟨I', L', h1, h2, h3, h4, h5⟩ := x_adv hS.1 hS.2 (nx_le hp).2 (h.2.2.1 hk)
  exact ⟨I', L', h1, h2, h3, h4, h5⟩
theorem LxS.kd (hS : LxS B n I L) (hp : p ≤ n) : kd B n p < 256 := kd_lt (fun i hi => (hS.1.2.2 i hi).1) hp
theorem x_take (hS : LxS B n I L) (hp : p ≤ n) (h : XT B n p I L) {k : Nat} (hk : kd B n p = k) (h23 : k ≠ 23) : ∃ I' L', fX6_take (nI k) I L = some (true, I', L') ∧ XT B n (nx B n p) I' L' ∧ LxA I I' L L' := by
  obtain ⟨I', L', h1, h2, h3⟩ := x_adv' hS hp h (by omega)
  refine ⟨I', L', ?_, h2, h3⟩
  unfold fX6_take
  rw [h.1, hk, if_pos rfl, h1, Option.bind_some]
theorem x_take_no (hS : LxS B n I L) (hp : p ≤ n) (h : XT B n p I L) {k : Nat} (hk : kd B n p ≠ k) (h23 : k < 256) : fX6_take (nI k) I L = some (false, rfX B n p 2 I, L) := by
  have := hS.kd hp
  unfold fX6_take
  rw [h.1, if_neg (fun e => hk ((nI_eq (by omega) (by omega)).mp e)), obn_eq, show (2 : Int32) = nI 2 from rfl, x_refuse h (hS.kd hp)]
theorem x_num (hS : LxS B n I L) (hp : p ≤ n) (h : XT B n p I L) {a b : Nat} (hk : nOk B n p a b) (hb' : b < 100000) : ∃ I' L', fX6_takeNumber (nI a) (nI b) I L = some (true, I', L') ∧ XT B n (nx B n p) I' L' ∧ I' 48 3 = nI (vl B n p) ∧ (∀ j, j ≠ 3 → I' 48 j = I 48 j) ∧ (∀ a, a ≠ 48 → a ≠ 49 → I' a = I a) ∧ I' 49 2 = I 49 2 ∧ (∀ a, a ≠ 49 → L' a = L a) := by
  obtain ⟨k1, k2, k3⟩ := hk
  have hS' : LxS B n (up2 I 48 3 (nI (vl B n p))) L := hS.fr (upRow _ _ (by decide)) (by rw [upRow _ _ (by decide)]) rfl
  have h' : XT B n p (up2 I 48 3 (nI (vl B n p))) L := by
    unfold XT at *
    rw [upRow _ _ (show (49 : Nat) ≠ 48 by decide)]
    exact h
  obtain ⟨I', L', h1, h2, h3, h4, h5⟩ := x_adv' hS' hp h' (by omega)
  refine ⟨I', L', ?_, h2, ?_, ?_, ?_, ?_, h5⟩
  · unfold fX6_takeNumber
    rw [h.1, k1, if_pos (show nI 21 = (21 : Int32) from rfl), h.2.2.2.1 k1, if_neg (nI_nlt k2 (by omega)), if_pos (nI_le k3 (by omega)), Option.bind_some, if_neg (by decide)]
    simp only [h1, Option.bind_some]
  · rw [h3 48 (by decide), up2_eq]
  · intro j hj
    rw [h3 48 (by decide), up2_at, if_neg (by omega)]
  · intro a h6 h7
    rw [h3 a h7, upRow _ _ h6]
  · rw [h4, upRow _ _ (by decide)]
theorem x_num_no (hS : LxS B n I L) (hp : p ≤ n) (h : XT B n p I L) {a b : Nat} (hk : ¬ nOk B n p a b) (ha : a < 100000) (hb' : b < 100000) : fX6_takeNumber (nI a) (nI b) I L = some (false, rfX B n p (nF B n p) I, L) := by
  have hlt := hS.kd hp
  unfold fX6_takeNumber nF
  rw [h.1]
  by_cases c : kd B n p = 21
  · rw [if_pos (by rw [c]; rfl), if_pos c, h.2.2.2.1 c]
    have hv := vl_lt hp c
    have e : (if nI (vl B n p) < nI a then some true else if nI (vl B n p) ≤ nI b then some false else some true) = some true := by
      by_cases d : vl B n p < a
      · rw [if_pos (nI_lt d (by omega))]
      · rw [if_neg (nI_nlt (by omega) (by omega))]
        have : ¬ vl B n p ≤ b := fun g => hk ⟨c, by omega, g⟩
        rw [if_neg (nI_ge (by omega) (by omega))]
    rw [e, Option.bind_some, if_pos rfl, obn_eq, show (4 : Int32) = nI 4 from rfl, x_refuse h hlt]
  · rw [if_neg (show ¬ nI (kd B n p) = (21 : Int32) from ne_lit hlt (by decide) c), if_neg c, obn_eq, show (2 : Int32) = nI 2 from rfl, x_refuse h hlt]
/-! the reference -/
def LxB (J J' : HI) (M M' : HL) : Prop := (∀ a, a ≠ 73 → J' a = J a) ∧ (∀ j, j ≠ 4 → j ≠ 6 → j ≠ 7 → j ≠ 8 → J' 73 j = J 73 j) ∧ (∀ a, a ≠ 73 → M' a = M a) ∧ ∀ j, j ≠ 9 → M' 73 j = M 73 j
theorem TM.fr {J' : HI} (h : TM B n J) (h1 : J' 73 5 = J 73 5) (h2 : J' 74 = J 74) : TM B n J' := by
  obtain ⟨a, b, c⟩ := h
  exact ⟨a, by rw [h1]; exact b, by rw [h2]; exact c⟩
theorem TM.fb {J' : HI} {M' : HL} (h : TM B n J) (f : LxB J J' M M') : TM B n J' := h.fr (f.2.1 5 (by decide) (by decide) (by decide) (by decide)) (f.1 74 (by decide))
theorem TM.kd (hS : TM B n J) (hp : p ≤ n) : kd B n p < 256 := kd_lt (fun i hi => (hS.2.2 i hi).1) hp
theorem m_tok' (hS : TM B n J) (hp : p ≤ n) (h : MT B n p J M) (hk : kd B n p ≠ 23) : ∃ J' M', fX12_token J M = some (J', M') ∧ MT B n (nx B n p) J' M' ∧ LxB J J' M M' := by
  obtain ⟨J', M', h1, h2, h3, h4, h5, h6⟩ := m_tok (M := M) hS (nx_le hp).2 (h.2.2.1 hk)
  exact ⟨J', M', h1, h2, h3, h4, h5, h6⟩
theorem m_sort (hS : TM B n J) (hp : p ≤ n) (h : MT B n p J M) {s : Nat} (hs : s < 256) : J 73 6 = nI s ↔ sk (kd B n p) = s := by
  have := sk_le (hS.kd hp)
  rw [h.1, nI_eq (by omega) (by omega)]
theorem m_wrong (hS : TM B n J) (hp : p ≤ n) (h : MT B n p J M) (h0 : J 73 2 = 0) (f : Nat) : fX12_wrong (nI f) J = rfM B n p f J := by
  have this : J 73 6 = (3 : Int32) ↔ kd B n p = 23 := by
    have g := m_sort hS hp h (s := 3) (by decide)
    rw [sk_3] at g
    exact g
  unfold fX12_wrong fX12_wrongAt tbn rfM flt
  rw [h0, if_pos (by decide)]
  by_cases c : kd B n p = 23
  · rw [if_pos (this.mpr c), if_pos rfl, if_pos c, h.2.1]; rfl
  · rw [if_neg (fun e => c (this.mp e)), if_neg c, h.2.1]; rfl
theorem m_isWord (hS : TM B n J) (hp : p ≤ n) (h : MT B n p J M) {w : Nat} (hw : w < 19) {v : Int64} (hv : v = lN (wd8 (wL w))) : fX12_isWord v J M = decide (kd B n p = w) := by
  have h1 : J 73 6 = (1 : Int32) ↔ kd B n p ≤ 20 := by
    have g := m_sort hS hp h (s := 1) (by decide)
    rw [sk_1] at g
    exact g
  unfold fX12_isWord tbn
  by_cases c : kd B n p ≤ 20
  · obtain ⟨k1, k2⟩ := kd_word c
    obtain ⟨w1, w2⟩ := ws_in (B := B) hp
    have w3 := (wL_ok ⟨w, hw⟩).1
    have e : (M 73 9 = v) ↔ kd B n p = w := by
      rw [h.2.2.2.2 c, hv, (nm_lN w1 (wL_lets hw) (by omega) w3).2, k1, wIx_19 hw]
    rw [if_pos (h1.mpr c)]
    by_cases d : kd B n p = w
    · rw [if_pos (e.mpr d)]; simp [d]
    · rw [if_neg (fun g => d (e.mp g))]; simp [d]
  · rw [if_neg (fun g => c (h1.mp g))]
    have : ¬ kd B n p = w := by omega
    simp [this]
theorem m_want (hS : TM B n J) (hp : p ≤ n) (h : MT B n p J M) (h0 : J 73 2 = 0) {w : Nat} (hw : w < 19) {v : Int64} (hv : v = lN (wd8 (wL w))) (hk : kd B n p = w) : ∃ J' M', fX12_want v J M = some (J', M') ∧ MT B n (nx B n p) J' M' ∧ LxB J J' M M' := by
  obtain ⟨J', M', h1, h2, h3⟩ := m_tok' hS hp h (by omega)
  refine ⟨J', M', ?_, h2, h3⟩
  unfold fX12_want
  rw [h0, if_pos (by decide), m_isWord hS hp h hw hv, if_neg (by simp [hk]; decide), h1, Option.bind_some]
theorem m_want_no (hS : TM B n J) (hp : p ≤ n) (h : MT B n p J M) (h0 : J 73 2 = 0) {w : Nat} (hw : w < 19) {v : Int64} (hv : v = lN (wd8 (wL w))) (hk : kd B n p ≠ w) : fX12_want v J M = some (rfM B n p 2 J, M) := by
  unfold fX12_want
  rw [h0, if_pos (by decide), m_isWord hS hp h hw hv, if_pos (by simp [hk]; decide), obn_eq, show (2 : Int32) = nI 2 from rfl, m_wrong hS hp h h0]
def isBd (J : HI) : Prop := ¬ J 73 2 ≤ 0 ∧ J 73 2 ≠ 0
theorem bad_nI {f : Nat} (h : 0 < f) (h2 : f < 100) (e : J 73 2 = nI f) : isBd J := by
  unfold isBd
  rw [e]
  exact ⟨nI_nle h (by omega), fun g => by have := (nI_eq (b := 0) (by omega) (by decide)).mp g; omega⟩
theorem m_want_bad (h : isBd J) (v : Int64) : fX12_want v J M = some (J, M) := by
  unfold fX12_want
  rw [if_neg h.1]
theorem m_num_bad (h : isBd J) (v w : Int32) : fX12_toldNumber v w J M = some (0, J, M) := by
  unfold fX12_toldNumber
  rw [if_neg h.1]
theorem m_told_bad (h : isBd J) (c : Int64) (v w : Int32) : fX12_told c v w J M = some (0, J, M) := by
  unfold fX12_told
  rw [m_want_bad h, Option.bind_some, m_num_bad h, Option.bind_some]
theorem m_num (hS : TM B n J) (hp : p ≤ n) (h : MT B n p J M) (h0 : J 73 2 = 0) {a b : Nat} (hk : nOk B n p a b) (hb' : b < 100000) : ∃ J' M', fX12_toldNumber (nI a) (nI b) J M = some (nI (vl B n p), J', M') ∧ MT B n (nx B n p) J' M' ∧ LxB J J' M M' := by
  obtain ⟨k1, k2, k3⟩ := hk
  obtain ⟨J', M', h1, h2, h3⟩ := m_tok' hS hp h (by omega)
  refine ⟨J', M', ?_, h2, h3⟩
  have e : J 73 6 = (2 : Int32) ↔ kd B n p = 21 := by
    have g := m_sort hS hp h (s := 2) (by decide)
    rw [sk_2] at g
    exact g
  unfold fX12_toldNumber
  rw [h0, if_pos (by decide), if_pos (e.mpr k1), h.2.2.2.1 k1, if_neg (nI_nlt k2 (by omega)), if_pos (nI_le k3 (by omega)), Option.bind_some, if_neg (by decide), Option.bind_some, h0, if_pos rfl, h1, Option.bind_some, h.2.2.2.1 k1]
theorem flt_pos {f : Nat} (hf : 0 < f) : 0 < flt B n p f := by unfold flt; split <;> omega
theorem flt_lt {f : Nat} (hf : f < 100) : flt B n p f < 100 := by unfold flt; split <;> omega
theorem rfM_2 (f : Nat) : rfM B n p f J 73 2 = nI (flt B n p f) := by unfold rfM; rw [up2_at, if_neg (by decide), up2_eq]
theorem rfM_3 (f : Nat) : rfM B n p f J 73 3 = nI (tS B n p) := by unfold rfM; rw [up2_eq]
theorem rfM_j {f j : Nat} (h2 : j ≠ 2) (h3 : j ≠ 3) : rfM B n p f J 73 j = J 73 j := by unfold rfM; rw [up2_at, if_neg (by omega), up2_at, if_neg (by omega)]
theorem rfM_o {f a : Nat} (h : a ≠ 73) : rfM B n p f J a = J a := by unfold rfM; rw [upRow _ _ h, upRow _ _ h]
theorem rfM_bad {f : Nat} (hf : 0 < f) (h2 : f < 100) : isBd (rfM B n p f J) := bad_nI (flt_pos hf) (flt_lt h2) (rfM_2 f)
theorem nF_r : 0 < nF B n p ∧ nF B n p < 100 := by unfold nF; split <;> omega
theorem rfX_8 (f : Nat) : rfX B n p f I 48 8 = nI (flt B n p f) := by unfold rfX; rw [up2_at, if_neg (by decide), up2_eq]
theorem rfX_9 (f : Nat) : rfX B n p f I 48 9 = nI (tS B n p) := by unfold rfX; rw [up2_eq]
theorem rfX_o {f a : Nat} (h : a ≠ 48) : rfX B n p f I a = I a := by unfold rfX; rw [upRow _ _ h, upRow _ _ h]
theorem m_num_no (hS : TM B n J) (hp : p ≤ n) (h : MT B n p J M) (h0 : J 73 2 = 0) {a b : Nat} (hk : ¬ nOk B n p a b) (ha : a < 100000) (hb' : b < 100000) : ∃ v, fX12_toldNumber (nI a) (nI b) J M = some (v, rfM B n p (nF B n p) J, M) := by
  have e : J 73 6 = (2 : Int32) ↔ kd B n p = 21 := by
    have g := m_sort hS hp h (s := 2) (by decide)
    rw [sk_2] at g
    exact g
  have hbad : isBd (rfM B n p (nF B n p) J) := rfM_bad (nF_r (B := B) (n := n) (p := p)).1 (nF_r (B := B) (n := n) (p := p)).2
  unfold fX12_toldNumber
  rw [h0, if_pos (by decide)]
  by_cases c : kd B n p = 21
  · have hF : nF B n p = 4 := by unfold nF; rw [if_pos c]
    rw [if_pos (e.mpr c), h.2.2.2.1 c]
    have hv := vl_lt hp c
    have e : (if nI (vl B n p) < nI a then some true else if nI (vl B n p) ≤ nI b then some false else some true) = some true := by
      by_cases d : vl B n p < a
      · rw [if_pos (nI_lt d (by omega))]
      · rw [if_neg (nI_nlt (by omega) (by omega))]
        have : ¬ vl B n p ≤ b := fun g => hk ⟨c, by omega, g⟩
        rw [if_neg (nI_ge (by omega) (by omega))]
    rw [e, Option.bind_some, if_pos rfl, obn_eq, show (4 : Int32) = nI 4 from rfl, m_wrong hS hp h h0, Option.bind_some, if_neg (by rw [← hF]; exact hbad.2), ← hF]
    exact ⟨_, rfl⟩
  · have hF : nF B n p = 2 := by unfold nF; rw [if_neg c]
    rw [if_neg (fun g => c (e.mp g)), obn_eq, show (2 : Int32) = nI 2 from rfl, m_wrong hS hp h h0, Option.bind_some]
    rw [hF] at hbad ⊢
    rw [if_neg hbad.2]
    exact ⟨_, rfl⟩
end TK
