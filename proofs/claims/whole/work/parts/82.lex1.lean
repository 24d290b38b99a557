/-! a token of the tape, as the class reads it -/
theorem up2_up2 {α : Type} (F : Nat → Nat → α) (k i : Nat) (v w : α) : up2 (up2 F k i v) k i w = up2 F k i w := by
  funext x y
  simp only [up2_at]
  by_cases h : x = k ∧ y = i
  · simp [h]
  · simp [h]
theorem up2_self {α : Type} {F : Nat → Nat → α} {k i : Nat} {v : α} (h : F k i = v) : up2 F k i v = F := by
  funext x y
  simp only [up2_at]
  by_cases g : x = k ∧ y = i
  · rw [if_pos g, g.1, g.2, h]
  · rw [if_neg g]
theorem up2_com {α : Type} (F : Nat → Nat → α) {k i j : Nat} (h : i ≠ j) (v w : α) : up2 (up2 F k i v) k j w = up2 (up2 F k j w) k i v := by
  funext x y
  simp only [up2_at]
  by_cases h1 : x = k ∧ y = i
  · have h2 : ¬ (x = k ∧ y = j) := by omega
    rw [if_neg h2, if_pos h1, if_pos h1]
  · rw [if_neg h1, if_neg h1]
def tS (B : Nat → Nat) (n p : Nat) : Nat := run isSp B (n - p) p
def tL (B : Nat → Nat) (n p : Nat) : Nat := run isL B (n - tS B n p) (tS B n p)
def tG (B : Nat → Nat) (n p : Nat) : Nat := run isDg B (n - tS B n p) (tS B n p)
def wIx (ls : List Nat) : Nat := if fa_first (fun w => decide (wL w = ls)) 19 < 19 then fa_first (fun w => decide (wL w = ls)) 19 else 20
def ws (B : Nat → Nat) (n p : Nat) : List Nat := ltr B (tS B n p) (tL B n p - tS B n p)
def vl (B : Nat → Nat) (n p : Nat) : Nat := num10 B (tS B n p) (tG B n p - tS B n p)
def kd (B : Nat → Nat) (n p : Nat) : Nat :=
  if tS B n p = n then 22
  else if isL (B (tS B n p)) = true then (if 8 < tL B n p - tS B n p then 23 else wIx (ws B n p))
  else if isDg (B (tS B n p)) = true then (if 4 < tG B n p - tS B n p ∨ (tG B n p < n ∧ isL (B (tG B n p)) = true) then 23 else 21)
  else if isSg (B (tS B n p)) = true then B (tS B n p) else 23
def nx (B : Nat → Nat) (n p : Nat) : Nat := if tS B n p = n then n else if isL (B (tS B n p)) = true then tL B n p else if isDg (B (tS B n p)) = true then tG B n p else tS B n p + 1
section LX
variable {B : Nat → Nat} {n p : Nat} {I : HI} {L : HL}
theorem tS_le (h : p ≤ n) : p ≤ tS B n p ∧ tS B n p ≤ n := by
  have := run_le (P := isSp) (B := B) (n - p) p
  unfold tS
  omega
theorem tL_le (h : p ≤ n) : tS B n p ≤ tL B n p ∧ tL B n p ≤ n := by
  have := run_le (P := isL) (B := B) (n - tS B n p) (tS B n p)
  have := tS_le (B := B) h
  unfold tL
  omega
theorem tG_le (h : p ≤ n) : tS B n p ≤ tG B n p ∧ tG B n p ≤ n := by
  have := run_le (P := isDg) (B := B) (n - tS B n p) (tS B n p)
  have := tS_le (B := B) h
  unfold tG
  omega
theorem run_pos {P : Nat → Bool} {m s : Nat} (h : 0 < m) (hp : P (B s) = true) : s < run P B m s := by
  obtain ⟨k, rfl⟩ : ∃ k, m = k + 1 := ⟨m - 1, by omega⟩
  rw [run, if_pos hp]
  have := run_le (P := P) (B := B) k (s + 1)
  omega
theorem run_0 {P : Nat → Bool} {m s : Nat} (hp : P (B s) = false) : run P B m s = s := by
  cases m with
  | zero => rfl
  | succ k => rw [run, if_neg (by rw [hp]; decide)]
theorem nx_le (h : p ≤ n) : p ≤ nx B n p ∧ nx B n p ≤ n := by
  have h1 := tS_le (B := B) h
  have h2 := tL_le (B := B) h
  have h3 := tG_le (B := B) h
  unfold nx
  split
  · omega
  · split
    · omega
    · split <;> omega
theorem nx_lt (h : p ≤ n) (hk : kd B n p ≠ 22) : p < nx B n p := by
  have h1 := tS_le (B := B) h
  have hs : ¬ tS B n p = n := fun e => hk (by unfold kd; rw [if_pos e])
  unfold nx
  rw [if_neg hs]
  split
  · rename_i hl
    have : tS B n p < tL B n p := run_pos (by omega) hl
    omega
  · split
    · rename_i hl
      have : tS B n p < tG B n p := run_pos (by omega) hl
      omega
    · omega
def TX (B : Nat → Nat) (n : Nat) (I : HI) : Prop := n ≤ 1600 ∧ I 49 2 = nI n ∧ ∀ i, i < n → B i < 256 ∧ I 1 i = sB (B i)
theorem sB_n {b : Nat} (h : b < 128) : sB b = nI b := by
  unfold sB
  rw [if_pos h]
  rfl
theorem isL_r {b : Nat} : isL b = true ↔ 97 ≤ b ∧ b ≤ 122 := by unfold isL; simp
theorem isDg_r {b : Nat} : isDg b = true ↔ 48 ≤ b ∧ b ≤ 57 := by unfold isDg; simp
theorem isSp_r {b : Nat} : isSp b = true ↔ b = 32 ∨ b = 10 := by unfold isSp; simp
theorem x_adv0 (hX : TX B n I) : ∀ (m p fu : Nat), p + m = n → m < fu → fX9_advance_0 fu (up2 I 49 3 (nI p)) L = some (up2 I 49 3 (nI (run isSp B m p))) := by
  obtain ⟨h0, h1, h2⟩ := hX
  intro m
  induction m with
  | zero =>
    intro p fu hp hf
    obtain ⟨f, rfl⟩ : ∃ f, fu = f + 1 := ⟨fu - 1, by omega⟩
    rw [fX9_advance_0, run]
    simp only [up2_at, Nat.reduceEqDiff, and_self, and_false, false_and, if_true, if_false, h1]
    rw [if_pos (nI_le (by omega) (by omega)), Option.bind_some, if_pos rfl]
  | succ m ih =>
    intro p fu hp hf
    obtain ⟨f, rfl⟩ : ∃ f, fu = f + 1 := ⟨fu - 1, by omega⟩
    obtain ⟨g1, g2⟩ := h2 p (by omega)
    obtain ⟨_, _, q3, q4⟩ := sB_L ⟨B p, g1⟩
    rw [fX9_advance_0, run]
    simp only [up2_at, Nat.reduceEqDiff, and_self, and_false, false_and, if_true, if_false, h1, nI_1, up2_up2, clamp_nI (show p < 2 ^ 31 by omega), inb_nI (show p < 1600 by omega) (show 1600 < 2 ^ 31 by decide), g2]
    rw [if_neg (nI_ge (show p < n by omega) (by omega))]
    by_cases c : isSp (B p) = true
    · rw [if_pos c]
      have : (if sB (B p) = 32 then some false else if sB (B p) = 10 then some false else some true) = some false := by
        rcases isSp_r.mp c with e | e
        · rw [if_pos (q3.mpr e)]
        · rw [if_pos (q4.mpr e), ite_self]
      rw [this, Option.bind_some, if_neg (by decide)]
      exact ih (p + 1) f (by omega) (by omega)
    · rw [if_neg c]
      rw [isSp_r] at c
      rw [if_neg (fun e => c (Or.inl (q3.mp e))), if_neg (fun e => c (Or.inr (q4.mp e))), Option.bind_some, if_pos rfl]
theorem withL {a b : Nat} (h : isL b = true) : fX9_withLetter (lN a) (sB b) = lN (a * 32 + (b - 96)) := by
  rw [isL_r] at h
  unfold fX9_withLetter
  rw [sB_n (by omega), show (97 : Int32) = nI 97 from rfl, pk_sub (by omega), nI_1, nI_l (by omega), show (32 : Int64) = lN 32 from rfl, lN_mul, lN_addn]
  congr 2
  omega
theorem x_adv70 (hX : TX B n I) {s : Nat} : ∀ (m k fu : Nat), s + k + m = n → m < fu → fX9_advance_70 fu (up2 I 49 3 (nI (s + k))) (up2 L 49 7 (lN (nm5 (ltr B s k)))) = some (up2 I 49 3 (nI (run isL B m (s + k))), up2 L 49 7 (lN (nm5 (ltr B s (run isL B m (s + k) - s))))) := by
  obtain ⟨h0, h1, h2⟩ := hX
  intro m
  induction m with
  | zero =>
    intro k fu hp hf
    obtain ⟨f, rfl⟩ : ∃ f, fu = f + 1 := ⟨fu - 1, by omega⟩
    rw [fX9_advance_70, run]
    simp only [up2_at, Nat.reduceEqDiff, and_self, and_false, false_and, if_true, if_false, h1]
    rw [if_pos (nI_le (by omega) (by omega)), Option.bind_some, if_pos rfl, Nat.add_sub_cancel_left]
  | succ m ih =>
    intro k fu hp hf
    obtain ⟨f, rfl⟩ : ∃ f, fu = f + 1 := ⟨fu - 1, by omega⟩
    obtain ⟨g1, g2⟩ := h2 (s + k) (by omega)
    obtain ⟨q1, _, _, _⟩ := sB_L ⟨B (s + k), g1⟩
    rw [fX9_advance_70, run]
    simp only [up2_at, Nat.reduceEqDiff, and_self, and_false, false_and, if_true, if_false, h1, nI_1, up2_up2, clamp_nI (show s + k < 2 ^ 31 by omega), inb_nI (show s + k < 1600 by omega) (show 1600 < 2 ^ 31 by decide), g2, q1, b2i_eq0]
    rw [if_neg (nI_ge (show s + k < n by omega) (by omega))]
    by_cases c : isL (B (s + k)) = true
    · rw [if_pos c, if_neg (by rw [c]; decide), Option.bind_some, if_neg (by decide), withL c]
      have := ih (k + 1) f (by omega) (by omega)
      rw [ltr, nm5] at this
      exact this
    · rw [if_neg c]
      have c' : isL (B (s + k)) = false := by simpa using c
      rw [if_pos c', Option.bind_some, if_pos rfl, Nat.add_sub_cancel_left]
theorem dig10 {a b : Nat} (h : isDg b = true) : nI a * (10 : Int32) + (sB b - 48) = nI (a * 10 + (b - 48)) := by
  rw [isDg_r] at h
  rw [sB_n (by omega), show (48 : Int32) = nI 48 from rfl, pk_sub (by omega), show (10 : Int32) = nI 10 from rfl, pk_mul, nI_add]
theorem x_adv168 (hX : TX B n I) {s : Nat} : ∀ (m k fu : Nat), s + k + m = n → m < fu → fX9_advance_168 fu (up2 (up2 I 49 6 (nI (num10 B s k))) 49 3 (nI (s + k))) L = some (up2 (up2 I 49 6 (nI (num10 B s (run isDg B m (s + k) - s)))) 49 3 (nI (run isDg B m (s + k)))) := by
  obtain ⟨h0, h1, h2⟩ := hX
  intro m
  induction m with
  | zero =>
    intro k fu hp hf
    obtain ⟨f, rfl⟩ : ∃ f, fu = f + 1 := ⟨fu - 1, by omega⟩
    rw [fX9_advance_168, run]
    simp only [up2_at, Nat.reduceEqDiff, and_self, and_false, false_and, if_true, if_false, h1]
    rw [if_pos (nI_le (by omega) (by omega)), Option.bind_some, if_pos rfl, Nat.add_sub_cancel_left]
  | succ m ih =>
    intro k fu hp hf
    obtain ⟨f, rfl⟩ : ∃ f, fu = f + 1 := ⟨fu - 1, by omega⟩
    obtain ⟨g1, g2⟩ := h2 (s + k) (by omega)
    obtain ⟨_, q1, _, _⟩ := sB_L ⟨B (s + k), g1⟩
    rw [fX9_advance_168, run]
    simp only [up2_at, Nat.reduceEqDiff, and_self, and_false, false_and, if_true, if_false, h1, nI_1, up2_up2, clamp_nI (show s + k < 2 ^ 31 by omega), inb_nI (show s + k < 1600 by omega) (show 1600 < 2 ^ 31 by decide), g2, q1, b2i_eq0]
    rw [if_neg (nI_ge (show s + k < n by omega) (by omega))]
    by_cases c : isDg (B (s + k)) = true
    · rw [if_pos c, if_neg (by rw [c]; decide), Option.bind_some, if_neg (by decide), dig10 c]
      have := ih (k + 1) f (by omega) (by omega)
      rw [num10] at this
      rw [up2_com _ (show (3 : Nat) ≠ 6 by decide), up2_up2, up2_up2]
      exact this
    · rw [if_neg c]
      have c' : isDg (B (s + k)) = false := by simpa using c
      rw [if_pos c', Option.bind_some, if_pos rfl, Nat.add_sub_cancel_left]
theorem wL_ne' {w v : Nat} (hw : w < 19) (hv : v < 19) (h : wL w = wL v) : w = v := congrArg Fin.val (wL_ne ⟨w, hw⟩ ⟨v, hv⟩ h)
theorem wIx_19 {ls : List Nat} {w : Nat} (hw : w < 19) : wIx ls = w ↔ ls = wL w := by
  unfold wIx
  constructor
  · intro h
    split at h
    · rename_i hf
      have := fa_first_yes _ _ hf
      rw [h] at this
      exact (of_decide_eq_true this).symm
    · omega
  · intro h
    have hlt : fa_first (fun v => decide (wL v = ls)) 19 ≤ w := by
      rcases Nat.lt_or_ge w (fa_first (fun v => decide (wL v = ls)) 19) with g | g
      · have := fa_first_no _ _ w g
        exact absurd h.symm (of_decide_eq_false this)
      · exact g
    rw [if_pos (by omega)]
    have hf : fa_first (fun v => decide (wL v = ls)) 19 < 19 := by omega
    have h9 := of_decide_eq_true (fa_first_yes _ _ hf)
    exact wL_ne' hf hw (h9.trans h)
theorem wIx_le (ls : List Nat) : wIx ls ≤ 20 ∧ wIx ls ≠ 19 := by
  unfold wIx
  split <;> omega
theorem x_kow2 {ls : List Nat} (hL : LexOk L) (hn : L 49 7 = lN (nm5 ls)) (hl : lets ls) (h8 : ls.length ≤ 8) : ∀ (m k fu : Nat), k + m = 19 → m < fu → (∀ v, v < k → wL v ≠ ls) → fX9_kindOfWord_2 fu (nI k) L = some (nI (wIx ls)) := by
  intro m
  induction m with
  | zero =>
    intro k fu hk hf hno
    obtain ⟨f, rfl⟩ : ∃ f, fu = f + 1 := ⟨fu - 1, by omega⟩
    rw [fX9_kindOfWord_2, show Int32.ofNat 19 = nI 19 from rfl, if_pos (nI_le (by omega) (by omega))]
    have : wIx ls = 20 := by
      unfold wIx
      rw [if_neg]
      intro hlt
      exact hno _ (by omega) (of_decide_eq_true (fa_first_yes _ _ hlt))
    rw [this]
    rfl
  | succ m ih =>
    intro k fu hk hf hno
    obtain ⟨f, rfl⟩ : ∃ f, fu = f + 1 := ⟨fu - 1, by omega⟩
    rw [fX9_kindOfWord_2, show Int32.ofNat 19 = nI 19 from rfl, if_neg (nI_ge (by omega) (by omega)), if_pos (inb_nI (by omega) (by decide)), clamp_nI (by omega), hL k (by omega), hn]
    obtain ⟨w1, w2, w3, w4⟩ := wL_ok ⟨k, by omega⟩
    rw [← w3]
    by_cases e : wL k = ls
    · rw [if_pos (by rw [e]), (wIx_19 (show k < 19 by omega)).mpr e.symm]
    · rw [if_neg (fun g => e ((nm_lN (wL_lets (by omega)) hl w1 h8).1.mp g)), nI_1]
      refine ih (k + 1) f (by omega) (by omega) (fun v hv => ?_)
      rcases Nat.lt_or_ge v k with g | g
      · exact hno v g
      · rw [show v = k by omega]; exact e
theorem x_kow {ls : List Nat} (hL : LexOk L) (hn : L 49 7 = lN (nm5 ls)) (hl : lets ls) (h8 : ls.length ≤ 8) : fX9_kindOfWord L = some (nI (wIx ls)) := by
  obtain ⟨f, hf⟩ := fuel_at 20 (by decide)
  unfold fX9_kindOfWord
  rw [show (0 : Int32) = nI 0 from rfl, x_kow2 hL hn hl h8 19 0 FUEL (by omega) (by omega) (by omega), Option.bind_some]
end LX
/-! signs -/
theorem ix_mono : ∀ (fu : Nat) (y3 y4 y5 r : Int32), fJ1_indexOfChar_4cfef_7 1 fu y3 y4 y5 = some r → fJ1_indexOfChar_4cfef_7 1 (fu + 1) y3 y4 y5 = some r := by
  intro fu
  induction fu with
  | zero => intro y3 y4 y5 r h; rw [fJ1_indexOfChar_4cfef_7] at h; cases h
  | succ fu ih =>
    intro y3 y4 y5 r h
    rw [fJ1_indexOfChar_4cfef_7] at h ⊢
    split at h
    · rename_i c; rw [if_pos c]; exact h
    · rename_i c; rw [if_neg c]
      split at h
      · rename_i c; rw [if_pos c]
        split at h
        · rename_i c; rw [if_pos c]; exact h
        · rename_i c; rw [if_neg c]; exact ih _ _ _ _ h
      · cases h
theorem ix_mono' {y3 y4 y5 r : Int32} {k : Nat} (h : fJ1_indexOfChar_4cfef_7 1 k y3 y4 y5 = some r) : ∀ m, fJ1_indexOfChar_4cfef_7 1 (m + k) y3 y4 y5 = some r := by
  intro m
  induction m with
  | zero => rw [Nat.zero_add]; exact h
  | succ m ih => rw [show m + 1 + k = m + k + 1 by omega]; exact ix_mono _ _ _ _ _ ih
theorem jx_12 : ∀ b : Fin 256, (match fJ1_indexOfChar_4cfef_7 1 12 11 (nI b.1).toInt8.toInt32 0 with | some r => decide (r < 0) == !isSg b.1 | none => false) = true := by decide +kernel
theorem jx_len : fJ0_length_8abf5 1 = 11 := by decide +kernel
theorem jx_lat : fJ0_isLatin1_aae02 1 = true := by decide +kernel
theorem jx_can : ∀ b : Fin 256, fJ1_canEncode_9a6ad (nI b.1) = true := by unfold fJ1_canEncode_9a6ad tbn; decide +kernel
theorem jx_tx : (if (Int32.ofNat (txLen.getD 1 0)) < (11 : Int32) then (Int32.ofNat (txLen.getD 1 0)) else (11 : Int32)) = 11 := by decide +kernel
theorem jx_ix {b : Nat} (hb' : b < 256) : ∃ r, fJ0_indexOf_0f7a4 1 (nI b) = some r ∧ (r < 0 ↔ isSg b = false) := by
  obtain ⟨m, hm⟩ := fuel_at 12 (by decide)
  have h12 := jx_12 ⟨b, hb'⟩
  cases hr : fJ1_indexOfChar_4cfef_7 1 12 11 (nI b).toInt8.toInt32 0 with
  | none => simp only [hr] at h12; cases h12
  | some r =>
    simp only [hr] at h12
    refine ⟨r, ?_, ?_⟩
    · have hc := jx_can ⟨b, hb'⟩
      simp only at hc
      unfold fJ0_indexOf_0f7a4 fJ0_indexOf_7cf53 fJ1_indexOf_4cfef fJ1_indexOfChar_4cfef
      rw [jx_lat, jx_len, hc]
      simp only [jx_tx]
      rw [hm, if_neg (by decide), if_neg (by decide), if_pos (by decide), show (if (0 : Int32) < 0 then (0 : Int32) else 0) = 0 by decide, ix_mono' hr]
      simp only [Option.bind_some]
    · cases hs : isSg b with
      | true => rw [hs] at h12; simp at h12; simp; exact h12
      | false => rw [hs] at h12; simp at h12; simp; exact h12
theorem sB_255 : ∀ b : Fin 256, (((sB b.1) &&& (255 : Int32)).toUInt32 % 65536).toInt32 = nI b.1 := by decide +kernel
