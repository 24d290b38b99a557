/-! a token of the tape, as the reference reads it -/
def TM (B : Nat → Nat) (n : Nat) (J : HI) : Prop := n ≤ 1600 ∧ J 73 5 = nI n ∧ ∀ i, i < n → B i < 256 ∧ J 74 i = nI (B i)
def sk (k : Nat) : Nat := if k ≤ 20 then 1 else if k = 21 then 2 else if k = 22 then 0 else if k = 23 then 3 else k
def MT (B : Nat → Nat) (n p : Nat) (J : HI) (M : HL) : Prop := J 73 6 = nI (sk (kd B n p)) ∧ J 73 7 = nI (tS B n p) ∧ (kd B n p ≠ 23 → J 73 4 = nI (nx B n p)) ∧ (kd B n p = 21 → J 73 8 = nI (vl B n p)) ∧ (kd B n p ≤ 20 → M 73 9 = lN (wd8 (ws B n p)))
section LM
variable {B : Nat → Nat} {n p : Nat} {J : HI} {M : HL}
theorem m_here (hM : TM B n J) (h4 : J 73 4 = nI p) {k : Nat} (hk : p + k < 2 ^ 30) : fX12_here (nI k) J = some (if p + k < n then nI (B (p + k)) else -1) := by
  obtain ⟨h0, h1, h2⟩ := hM
  unfold fX12_here
  rw [h1, h4, nI_add]
  by_cases c : p + k < n
  · rw [if_neg (nI_ge c (by omega)), if_pos (inb_nI (by omega) (by decide)), clamp_nI (by omega), (h2 _ c).2, if_pos c]
  · rw [if_pos (nI_le (by omega) (by omega)), if_neg c]
theorem TM.up (hM : TM B n J) {j : Nat} {v : Int32} (hj : j ≠ 5) : TM B n (up2 J 73 j v) := by
  obtain ⟨h0, h1, h2⟩ := hM
  exact ⟨h0, by rw [up2_at, if_neg (by omega)]; exact h1, fun i hi => by rw [upRow _ _ (by decide)]; exact h2 i hi⟩
theorem up2_eq {α : Type} (F : Nat → Nat → α) (k i : Nat) (v : α) : up2 F k i v k i = v := by rw [up2_at, if_pos ⟨rfl, rfl⟩]
theorem m_tok0 (hM : TM B n J) : ∀ (m p fu : Nat), p + m = n → m < fu → fX12_token_0 fu (up2 J 73 4 (nI p)) M = some (up2 J 73 4 (nI (run isSp B m p))) := by
  intro m
  induction m with
  | zero =>
    intro p fu hp hf
    obtain ⟨f, rfl⟩ : ∃ f, fu = f + 1 := ⟨fu - 1, by omega⟩
    have := hM.1
    have e := m_here (p := p) (hM.up (j := 4) (v := nI p) (by decide)) (up2_eq _ _ _ _) (k := 0) (by omega)
    rw [fX12_token_0, run, show (0 : Int32) = nI 0 from rfl]
    simp only [e, Nat.add_zero, if_neg (show ¬ p < n by omega), Option.bind_some]
    rw [if_neg (by decide), if_neg (by decide), Option.bind_some, if_neg (by decide)]
  | succ m ih =>
    intro p fu hp hf
    obtain ⟨f, rfl⟩ : ∃ f, fu = f + 1 := ⟨fu - 1, by omega⟩
    have := hM.1
    have e := m_here (p := p) (hM.up (j := 4) (v := nI p) (by decide)) (up2_eq _ _ _ _) (k := 0) (by omega)
    have g1 := (hM.2.2 p (by omega)).1
    rw [fX12_token_0, run, show (0 : Int32) = nI 0 from rfl]
    simp only [e, Nat.add_zero, if_pos (show p < n by omega), Option.bind_some, up2_eq, nI_1, up2_up2]
    have q3 : nI (B p) = 32 ↔ B p = 32 := nI_eq (b := 32) (by omega) (by decide)
    have q4 : nI (B p) = 10 ↔ B p = 10 := nI_eq (b := 10) (by omega) (by decide)
    by_cases c : isSp (B p) = true
    · rw [if_pos c]
      have : (if nI (B p) = 32 then some true else if nI (B p) = 10 then some true else some false) = some true := by
        rcases isSp_r.mp c with e | e
        · rw [if_pos (q3.mpr e)]
        · rw [if_pos (q4.mpr e), ite_self]
      rw [this, Option.bind_some, if_pos rfl]
      exact ih (p + 1) f (by omega) (by omega)
    · rw [if_neg c]
      rw [isSp_r] at c
      rw [if_neg (fun e => c (Or.inl (q3.mp e))), if_neg (fun e => c (Or.inr (q4.mp e))), Option.bind_some, if_neg (by decide)]
theorem m_tok78 (hM : TM B n J) {s : Nat} (h4 : J 73 4 = nI s) : ∀ (m k fu : Nat), s + k + m = n → m < fu → fX12_token_78 fu (nI k) J (up2 M 73 9 (lN (wd8 (ltr B s (min k 8))))) = some (nI (run isL B m (s + k) - s), up2 M 73 9 (lN (wd8 (ltr B s (min (run isL B m (s + k) - s) 8))))) := by
  intro m
  induction m with
  | zero =>
    intro k fu hp hf
    obtain ⟨f, rfl⟩ : ∃ f, fu = f + 1 := ⟨fu - 1, by omega⟩
    have := hM.1
    rw [fX12_token_78, run, m_here hM h4 (by omega), if_neg (by omega), Option.bind_some, if_pos (by decide), Nat.add_sub_cancel_left]
  | succ m ih =>
    intro k fu hp hf
    obtain ⟨f, rfl⟩ : ∃ f, fu = f + 1 := ⟨fu - 1, by omega⟩
    have := hM.1
    have g1 := (hM.2.2 (s + k) (by omega)).1
    have q1 := (nB_L ⟨B (s + k), g1⟩).1
    simp only [] at q1
    rw [fX12_token_78, run, m_here hM h4 (by omega), if_pos (by omega), Option.bind_some, q1]
    by_cases c : isL (B (s + k)) = true
    · rw [if_neg (by rw [c]; decide), if_pos c]
      have ih' := ih (k + 1) f (by omega) (by omega)
      rw [← Nat.add_assoc] at ih'
      by_cases c8 : 8 ≤ k
      · rw [if_pos (show (8 : Int32) ≤ nI k from nI_le (a := 8) c8 (by omega)), nI_1]
        rw [show min (k + 1) 8 = min k 8 by omega] at ih'
        exact ih'
      · rw [if_neg (show ¬ (8 : Int32) ≤ nI k from nI_ge (b := 8) (by omega) (by decide)), Option.bind_some, nI_1, up2_up2, up2_eq]
        have : (lN (wd8 (ltr B s (min k 8))) <<< ((8 : Int32).toInt64 &&& 63)) ||| (nI (B (s + k))).toInt64 = lN (wd8 (ltr B s (min (k + 1) 8))) := by
          rw [shl_8, nI_l (by omega), show min (k + 1) 8 = k + 1 by omega, show min k 8 = k by omega, ltr, wd8]
          exact orL 8 (by omega)
        rw [this]
        exact ih'
    · rw [if_pos (by rw [b2i_eq0]; simpa using c), if_neg c, Nat.add_sub_cancel_left]
theorem m_dig {a b : Nat} (h : isDg b = true) : (10 : Int32) * nI a + nI b - 48 = nI (a * 10 + (b - 48)) := by
  rw [isDg_r] at h
  rw [show (10 : Int32) = nI 10 from rfl, pk_mul, nI_add, show (48 : Int32) = nI 48 from rfl, pk_sub (by omega)]
  congr 1
  omega
theorem m_tok144 (hM : TM B n J) {s : Nat} (h4 : J 73 4 = nI s) : ∀ (m k fu : Nat), s + k + m = n → m < fu → fX12_token_144 fu (nI k) (up2 J 73 8 (nI (num10 B s (min k 4)))) M = some (nI (run isDg B m (s + k) - s), up2 J 73 8 (nI (num10 B s (min (run isDg B m (s + k) - s) 4)))) := by
  have hM' : ∀ v, TM B n (up2 J 73 8 v) := fun v => hM.up (by decide)
  have h4' : ∀ v, up2 J 73 8 v 73 4 = nI s := fun v => by rw [up2_at, if_neg (by decide)]; exact h4
  intro m
  induction m with
  | zero =>
    intro k fu hp hf
    obtain ⟨f, rfl⟩ : ∃ f, fu = f + 1 := ⟨fu - 1, by omega⟩
    have := hM.1
    rw [fX12_token_144, run, m_here (hM' _) (h4' _) (by omega), if_neg (by omega), Option.bind_some, if_pos (by decide), Nat.add_sub_cancel_left]
  | succ m ih =>
    intro k fu hp hf
    obtain ⟨f, rfl⟩ : ∃ f, fu = f + 1 := ⟨fu - 1, by omega⟩
    have := hM.1
    have g1 := (hM.2.2 (s + k) (by omega)).1
    have q1 := (nB_L ⟨B (s + k), g1⟩).2.1
    simp only [] at q1
    rw [fX12_token_144, run, m_here (hM' _) (h4' _) (by omega), if_pos (by omega), Option.bind_some, q1]
    by_cases c : isDg (B (s + k)) = true
    · rw [if_neg (by rw [c]; decide), if_pos c]
      have ih' := ih (k + 1) f (by omega) (by omega)
      rw [← Nat.add_assoc] at ih'
      by_cases c8 : 4 ≤ k
      · rw [if_pos (show (4 : Int32) ≤ nI k from nI_le (a := 4) c8 (by omega)), nI_1]
        rw [show min (k + 1) 4 = min k 4 by omega] at ih'
        exact ih'
      · rw [if_neg (show ¬ (4 : Int32) ≤ nI k from nI_ge (b := 4) (by omega) (by decide)), Option.bind_some, nI_1, up2_up2, up2_eq, m_dig c]
        have : num10 B s (min k 4) * 10 + (B (s + k) - 48) = num10 B s (min (k + 1) 4) := by
          rw [show min (k + 1) 4 = k + 1 by omega, show min k 4 = k by omega, num10]
        rw [this]
        exact ih'
    · rw [if_pos (by rw [b2i_eq0]; simpa using c), if_neg c, Nat.add_sub_cancel_left]
set_option maxHeartbeats 4000000 in
theorem m_tok (hM : TM B n J) (hp : p ≤ n) (h4 : J 73 4 = nI p) : ∃ J' M', fX12_token J M = some (J', M') ∧ MT B n p J' M' ∧ (∀ a, a ≠ 73 → J' a = J a) ∧ (∀ j, j ≠ 4 → j ≠ 6 → j ≠ 7 → j ≠ 8 → J' 73 j = J 73 j) ∧ (∀ a, a ≠ 73 → M' a = M a) ∧ ∀ j, j ≠ 9 → M' 73 j = M 73 j := by
  have hn := hM.1
  obtain ⟨s1, s2⟩ := tS_le (B := B) hp
  obtain ⟨e1, e2⟩ := tL_le (B := B) hp
  obtain ⟨g1, g2⟩ := tG_le (B := B) hp
  obtain ⟨f, hf⟩ := fuel_at 2000 (by decide)
  have a0 : fX12_token_0 FUEL J M = some (up2 J 73 4 (nI (tS B n p))) := by
    have := m_tok0 (M := M) hM (n - p) p FUEL (by omega) (by omega)
    rw [up2_self h4] at this
    exact this
  unfold fX12_token
  rw [a0, Option.bind_some]
  generalize hs : tS B n p = s at *
  obtain ⟨J6, hJ6⟩ : ∃ x : HI, x = up2 (up2 J 73 4 (nI s)) 73 7 (up2 J 73 4 (nI s) 73 4) := ⟨_, rfl⟩
  obtain ⟨J9, hJ9⟩ : ∃ x : HI, x = up2 J6 73 8 (0 : Int32) := ⟨_, rfl⟩
  simp only
  rw [← hJ6, ← hJ9]
  have t6 : TM B n J6 := by rw [hJ6]; exact (hM.up (by decide)).up (by decide)
  have t9 : TM B n J9 := by rw [hJ9]; exact t6.up (by decide)
  have c4 : J6 73 4 = nI s := by rw [hJ6]; simp [up2_at]
  have b4 : J9 73 4 = nI s := by rw [hJ9, hJ6]; simp [up2_at]
  have b7 : J9 73 7 = nI s := by rw [hJ9, hJ6]; simp [up2_at]
  have b8 : J9 73 8 = 0 := by rw [hJ9]; simp [up2_at]
  have bo : ∀ a, a ≠ 73 → J9 a = J a := fun a ha => by rw [hJ9, hJ6, upRow _ _ ha, upRow _ _ ha, upRow _ _ ha]
  have bj : ∀ j, j ≠ 4 → j ≠ 6 → j ≠ 7 → j ≠ 8 → J9 73 j = J 73 j := fun j h1 h2 h3 h5 => by rw [hJ9, hJ6]; simp [up2_at, h1, h3, h5]
  have eL : tL B n p = run isL B (n - s) s := by unfold tL; rw [hs]
  have eG : tG B n p = run isDg B (n - s) s := by unfold tG; rw [hs]
  rw [show (0 : Int32) = nI 0 from rfl, m_here t6 c4 (by omega), Nat.add_zero, Option.bind_some, show nI 0 = (0 : Int32) from rfl]
  by_cases hsn : s < n
  · rw [if_pos hsn]
    have k1 := (hM.2.2 s hsn).1
    obtain ⟨q1, q2, q3⟩ := nB_L ⟨B s, k1⟩
    simp only [] at q1 q2 q3
    rw [if_pos (nI_pos' (by omega)), q1]
    cases hl : isL (B s) with
    | true =>
      have hse : s < tL B n p := by rw [eL]; exact run_pos (by omega) hl
      have a78 := m_tok78 (M := M) t9 b4 (n - s) 0 FUEL (by omega) (by omega)
      rw [Nat.add_zero, ← eL, show nI 0 = (0 : Int32) from rfl] at a78
      rw [if_neg (by decide), show (0 : Int64) = lN (wd8 (ltr B s (min 0 8))) from rfl, a78, Option.bind_some]
      simp only
      have kk : kd B n p = if 8 < tL B n p - s then 23 else wIx (ws B n p) := by
        unfold kd
        rw [hs, if_neg (by omega), if_pos hl]
      have kn : nx B n p = tL B n p := by
        unfold nx
        rw [hs, if_neg (by omega), if_pos hl]
      by_cases c : 8 < tL B n p - s
      · rw [if_pos c] at kk
        rw [if_neg (show ¬ nI (tL B n p - s) ≤ (8 : Int32) from nI_ge (a := 8) c (by omega)), Option.bind_some]
        simp only
        rw [up2_eq, if_pos rfl]
        refine ⟨_, _, rfl, ⟨?_, ?_, ?_, ?_, ?_⟩, ?_, ?_, ?_, ?_⟩
        · rw [kk, up2_eq]; rfl
        · simp [up2_at, b7, hs]
        · intro h; exact absurd kk h
        · intro h; omega
        · intro h; omega
        · intro a ha; rw [upRow _ _ ha, bo a ha]
        · intro j h1 h2 h3 h5; rw [up2_at, if_neg (by omega)]; exact bj j h1 h2 h3 h5
        · intro a ha; rw [upRow _ _ ha]
        · intro j hj; rw [up2_at, if_neg (by omega)]
      · rw [if_neg c] at kk
        have := wIx_le (ws B n p)
        have ksk : sk (kd B n p) = 1 := by unfold sk; rw [if_pos (by omega)]
        rw [if_pos (show nI (tL B n p - s) ≤ (8 : Int32) from nI_le (b := 8) (by omega) (by decide)), Option.bind_some]
        simp only
        rw [up2_eq, if_neg (by decide)]
        refine ⟨_, _, rfl, ⟨?_, ?_, ?_, ?_, ?_⟩, ?_, ?_, ?_, ?_⟩
        · rw [ksk]; simp [up2_at]; rfl
        · simp [up2_at, b7, hs]
        · intro h; rw [kn]; simp only [up2_at, Nat.reduceEqDiff, and_self, and_false, if_true, if_false, b4, nI_add]; congr 1; omega
        · intro h; omega
        · intro h; rw [up2_eq, show min (tL B n p - s) 8 = tL B n p - s by omega]; unfold ws; rw [hs]
        · intro a ha; rw [upRow _ _ ha, upRow _ _ ha, bo a ha]
        · intro j h1 h2 h3 h5; rw [up2_at, if_neg (by omega), up2_at, if_neg (by omega)]; exact bj j h1 h2 h3 h5
        · intro a ha; rw [upRow _ _ ha]
        · intro j hj; rw [up2_at, if_neg (by omega)]
    | false =>
      rw [if_pos (by decide), q2]
      cases hd : isDg (B s) with
      | true =>
        have hse : s < tG B n p := by rw [eG]; exact run_pos (by omega) hd
        have a144 := m_tok144 (M := up2 M 73 9 (0 : Int64)) t9 b4 (n - s) 0 FUEL (by omega) (by omega)
        rw [Nat.add_zero, ← eG, show nI (num10 B s (min 0 4)) = 0 from rfl, up2_self b8, show nI 0 = (0 : Int32) from rfl] at a144
        rw [if_neg (by decide), a144, Option.bind_some]
        simp only
        have kk : kd B n p = if 4 < tG B n p - s ∨ (tG B n p < n ∧ isL (B (tG B n p)) = true) then 23 else 21 := by
          unfold kd
          rw [hs, if_neg (by omega), if_neg (by rw [hl]; decide), if_pos hd]
        have kn : nx B n p = tG B n p := by
          unfold nx
          rw [hs, if_neg (by omega), if_neg (by rw [hl]; decide), if_pos hd]
        have hb : (if (4 : Int32) < nI (tG B n p - s) then some true else Option.bind (fX12_here (nI (tG B n p - s)) (up2 J9 73 8 (nI (num10 B s (min (tG B n p - s) 4))))) fun q32 => if b2i (fX12_isLetter q32) = 0 then some false else some true) = some (decide (4 < tG B n p - s ∨ (tG B n p < n ∧ isL (B (tG B n p)) = true))) := by
          by_cases c : 4 < tG B n p - s
          · rw [if_pos (show (4 : Int32) < nI (tG B n p - s) from nI_lt (a := 4) c (by omega))]; simp [c]
          · rw [if_neg (show ¬ (4 : Int32) < nI (tG B n p - s) from nI_nlt (a := 4) (by omega) (by decide)), m_here (t9.up (by decide)) (by rw [up2_at, if_neg (by decide)]; exact b4) (by omega), Option.bind_some, show s + (tG B n p - s) = tG B n p by omega]
            by_cases c2 : tG B n p < n
            · have k1 := (hM.2.2 _ c2).1
              have q1 := (nB_L ⟨B (tG B n p), k1⟩).1
              simp only [] at q1
              rw [if_pos c2, q1]
              cases hh : isL (B (tG B n p)) with
              | true => rw [if_neg (by decide)]; simp [c2]
              | false => rw [if_pos (by decide)]; simp [c]
            · rw [if_neg c2, if_pos (by decide)]; simp [c, c2]
        rw [hb, Option.bind_some]
        by_cases c : 4 < tG B n p - s ∨ (tG B n p < n ∧ isL (B (tG B n p)) = true)
        · rw [if_pos c] at kk
          rw [if_pos (by simpa using c), Option.bind_some]
          simp only
          rw [up2_eq, if_pos rfl]
          refine ⟨_, _, rfl, ⟨?_, ?_, ?_, ?_, ?_⟩, ?_, ?_, ?_, ?_⟩
          · rw [kk, up2_eq]; rfl
          · simp [up2_at, b7, hs]
          · intro h; exact absurd kk h
          · intro h; omega
          · intro h; omega
          · intro a ha; rw [upRow _ _ ha, upRow _ _ ha, bo a ha]
          · intro j h1 h2 h3 h5; rw [up2_at, if_neg (by omega), up2_at, if_neg (by omega)]; exact bj j h1 h2 h3 h5
          · intro a ha; rw [upRow _ _ ha]
          · intro j hj; rw [up2_at, if_neg (by omega)]
        · rw [if_neg c] at kk
          rw [if_neg (by simpa using c), Option.bind_some]
          simp only
          rw [up2_eq, if_neg (by decide)]
          refine ⟨_, _, rfl, ⟨?_, ?_, ?_, ?_, ?_⟩, ?_, ?_, ?_, ?_⟩
          · rw [kk]; simp [up2_at]; rfl
          · simp [up2_at, b7, hs]
          · intro h; rw [kn]; simp only [up2_at, Nat.reduceEqDiff, and_self, and_false, if_true, if_false, b4, nI_add]; congr 1; omega
          · intro h; unfold vl; rw [hs]; simp only [up2_at, Nat.reduceEqDiff, and_self, and_false, if_true, if_false]; rw [show min (tG B n p - s) 4 = tG B n p - s by omega]
          · intro h; omega
          · intro a ha; rw [upRow _ _ ha, upRow _ _ ha, upRow _ _ ha, bo a ha]
          · intro j h1 h2 h3 h5; rw [up2_at, if_neg (by omega), up2_at, if_neg (by omega), up2_at, if_neg (by omega)]; exact bj j h1 h2 h3 h5
          · intro a ha; rw [upRow _ _ ha]
          · intro j hj; rw [up2_at, if_neg (by omega)]
      | false =>
        rw [if_pos (by decide), q3]
        have kk : kd B n p = if isSg (B s) = true then B s else 23 := by
          unfold kd
          rw [hs, if_neg (by omega), if_neg (by rw [hl]; decide), if_neg (by rw [hd]; decide)]
        have kn : nx B n p = s + 1 := by
          unfold nx
          rw [hs, if_neg (by omega), if_neg (by rw [hl]; decide), if_neg (by rw [hd]; decide)]
        cases hg : isSg (B s) with
        | true =>
          have kv : B s < 128 ∧ 37 ≤ B s := by
            unfold isSg sgL at hg
            simp at hg
            omega
          rw [hg, if_pos rfl] at kk
          have ksk : sk (kd B n p) = B s := by unfold sk; rw [kk, if_neg (by omega), if_neg (by omega), if_neg (by omega), if_neg (by omega)]
          rw [if_neg (by decide), Option.bind_some]
          simp only
          rw [up2_eq, if_neg (fun h => by have := (nI_eq (b := 3) (by omega) (by decide)).mp h; omega)]
          refine ⟨_, _, rfl, ⟨?_, ?_, ?_, ?_, ?_⟩, ?_, ?_, ?_, ?_⟩
          · rw [ksk]; simp [up2_at]
          · simp [up2_at, b7, hs]
          · intro h; rw [kn]; simp only [up2_at, Nat.reduceEqDiff, and_self, and_false, if_true, if_false, b4, nI_1]
          · intro h; omega
          · intro h; omega
          · intro a ha; rw [upRow _ _ ha, upRow _ _ ha, bo a ha]
          · intro j h1 h2 h3 h5; rw [up2_at, if_neg (by omega), up2_at, if_neg (by omega)]; exact bj j h1 h2 h3 h5
          · intro a ha; rw [upRow _ _ ha]
          · intro j hj; rw [up2_at, if_neg (by omega)]
        | false =>
          rw [hg, if_neg (by decide)] at kk
          rw [if_pos (by decide), Option.bind_some]
          simp only
          rw [up2_eq, if_pos rfl]
          refine ⟨_, _, rfl, ⟨?_, ?_, ?_, ?_, ?_⟩, ?_, ?_, ?_, ?_⟩
          · rw [kk, up2_eq]; rfl
          · simp [up2_at, b7, hs]
          · intro h; exact absurd kk h
          · intro h; omega
          · intro h; omega
          · intro a ha; rw [upRow _ _ ha, bo a ha]
          · intro j h1 h2 h3 h5; rw [up2_at, if_neg (by omega)]; exact bj j h1 h2 h3 h5
          · intro a ha; rw [upRow _ _ ha]
          · intro j hj; rw [up2_at, if_neg (by omega)]
  · have hsn' : s = n := by omega
    have kk : kd B n p = 22 := by unfold kd; rw [hs, if_pos hsn']
    have kn : nx B n p = s := by unfold nx; rw [hs, if_pos hsn', hsn']
    rw [if_neg hsn, if_neg (by decide), Option.bind_some]
    simp only
    rw [up2_eq, if_neg (by decide)]
    refine ⟨_, _, rfl, ⟨?_, ?_, ?_, ?_, ?_⟩, ?_, ?_, ?_, ?_⟩
    · rw [kk]; simp [up2_at]; rfl
    · simp [up2_at, b7, hs]
    · intro h; rw [kn]; simp only [up2_at, Nat.reduceEqDiff, and_self, and_false, if_true, if_false, b4]; rw [show (0 : Int32) = nI 0 from rfl, nI_add, Nat.add_zero]
    · intro h; omega
    · intro h; omega
    · intro a ha; rw [upRow _ _ ha, upRow _ _ ha, bo a ha]
    · intro j h1 h2 h3 h5; rw [up2_at, if_neg (by omega), up2_at, if_neg (by omega)]; exact bj j h1 h2 h3 h5
    · intro a ha; rw [upRow _ _ ha]
    · intro j hj; rw [up2_at, if_neg (by omega)]
end LM
