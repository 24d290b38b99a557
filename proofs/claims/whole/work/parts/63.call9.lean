/-! look, untell -/
section C9
variable {T : Nat → Nat → Nat} {q : Nat} {st : Nat → Nat → Nat} {a u : Nat} {I : HI} {L : HL}
def upL (lk : Nat → Nat → Nat) (n x0 x1 x2 x3 : Nat) : Nat → Nat → Nat := fun r i => if i = n then (if r = 0 then x0 else if r = 1 then x1 else if r = 2 then x2 else x3) else lk r i
theorem look_add {lk : Nat → Nat → Nat} {n t k c : Nat} {b : Bool} {J : HI} (h : LookAt T lk n t I) (hn : n < 30) (hk : k < 24) (hc : grd T c) (a0 : J 66 0 = nI (n + 1)) (a1 : J 73 86 = nI (n + 1)) (a2 : J 66 1 = I 66 1) (a3 : J 73 87 = I 73 87) (a4 : ∀ i, J 67 i = if i = n then nI k else I 67 i) (a5 : ∀ i, J 108 i = if i = n then nI k else I 108 i) (a6 : ∀ i, J 68 i = if i = n then nI c else I 68 i) (a7 : ∀ i, J 109 i = if i = n then nI c else I 109 i) (a8 : ∀ i, J 69 i = if i = n then nI t else I 69 i) (a9 : ∀ i, J 110 i = if i = n then nI t else I 110 i) (a10 : ∀ i, J 112 i = if i = n then b2i b else I 112 i) (a11 : ∀ i, J 111 i = if i = n then -1 else I 111 i) (a12 : J 70 = I 70) (a13 : ∀ i, i < 32 → bt (J 66 8) i = (bt (I 66 8) i || (b && decide (i = n)))) (a14 : J 66 9 = I 66 9) : LookAt T (upL lk n k c t 0) (n + 1) t J := by
  obtain ⟨l1, l2, l3, l4, l5, l6, l7, l8⟩ := h
  refine ⟨by omega, l2, a0, a1, by rw [a2]; exact l5, by rw [a3]; exact l6, fun i hi => ?_, fun i h1 h2 => ?_⟩
  · rw [a4, a5, a6, a7, a8, a9, a10, a11, a12, a13 i (by omega), a14]
    unfold upL
    by_cases hin : i = n
    · subst hin
      obtain ⟨z1, z2⟩ := l8 i (Nat.le_refl _) (by omega)
      simp only [if_true, z1, z2, decide_true, Bool.and_true, Bool.false_or]
      refine ⟨hk, hc, l2, (by simp), (by first | rfl | trivial), (by first | rfl | trivial), (by first | rfl | trivial), (by first | rfl | trivial), (by first | rfl | trivial), (by first | rfl | trivial), (by first | rfl | trivial), (fun _ => by first | rfl | trivial), (fun g => by cases g)⟩
    · have := l7 i (by omega)
      simp only [if_neg hin, decide_eq_false hin, Bool.and_false, Bool.or_false]
      exact this
  · rw [a13 i h2, a14, decide_eq_false (by omega), Bool.and_false, Bool.or_false]
    exact l8 i (by omega) h2
theorem look_un {lk : Nat → Nat → Nat} {n t k : Nat} {J : HI} (h : LookAt T lk n t I) (hk : k < n) (a0 : ∀ j, j ≠ 9 → J 66 j = I 66 j) (a1 : J 73 = I 73) (a2 : ∀ r, 67 ≤ r → r ≤ 69 → J r = I r) (a3 : ∀ r, 108 ≤ r → r ≤ 112 → r ≠ 111 → J r = I r) (a4 : ∀ i, J 70 i = if i = k then nI t else I 70 i) (a5 : ∀ i, J 111 i = if i = k then nI t else I 111 i) (a6 : ∀ i, i < 32 → bt (J 66 9) i = (bt (I 66 9) i || decide (i = k))) : LookAt T (upL lk k (lk 0 k) (lk 1 k) (lk 2 k) t) n t J := by
  obtain ⟨l1, l2, l3, l4, l5, l6, l7, l8⟩ := h
  refine ⟨l1, l2, by rw [a0 0 (by decide)]; exact l3, by rw [a1]; exact l4, by rw [a0 1 (by decide)]; exact l5, by rw [a1]; exact l6, fun i hi => ?_, fun i h1 h2 => ?_⟩
  · rw [a2 67 (by decide) (by decide), a2 68 (by decide) (by decide), a2 69 (by decide) (by decide), a3 108 (by decide) (by decide) (by decide), a3 109 (by decide) (by decide) (by decide), a3 110 (by decide) (by decide) (by decide), a3 112 (by decide) (by decide) (by decide), a4, a5, a6 i (by omega), a0 8 (by decide)]
    obtain ⟨m0, m1, m2, m3, m4, m5, m6, m7, m8, m9, m10, m11, m12⟩ := l7 i hi
    unfold upL
    by_cases hin : i = k
    · subst hin
      simp only [if_true, decide_true, Bool.or_true]
      exact ⟨m0, m1, m2, l2, m4, m5, m6, m7, m8, m9, m10, (fun g => by cases g), (fun _ => ⟨rfl, rfl⟩)⟩
    · simp only [if_neg hin, decide_eq_false hin, Bool.or_false]
      exact ⟨m0, m1, m2, m3, m4, m5, m6, m7, m8, m9, m10, m11, m12⟩
  · rw [a6 i h2, a0 8 (by decide), decide_eq_false (by omega), Bool.or_false]
    exact l8 i h1 h2
/-- only the looks are changed -/
theorem Inv.lks {J : HI} (h : Inv T q st a u I L) (hr : ∀ r, ¬ (66 ≤ r ∧ r ≤ 70) → ¬ (108 ≤ r ∧ r ≤ 112) → r ≠ 73 → J r = I r) (h73 : ∀ j, j ≠ 86 → J 73 j = I 73 j) (hK : LookOk T J) : Inv T q st a u J L := by
  refine h.gen (fun r hb => hr r (by unfold base at hb; rcases h.2.1 with h | h <;> omega) (by unfold base at hb; rcases h.2.1 with h | h <;> omega) (by unfold base at hb; rcases h.2.1 with h | h <;> omega)) (by rw [hr 0 (by decide) (by decide) (by decide)]) (fun j hj => h73 j (by unfold base73 at hj; omega)) (fun _ _ => rfl) (h.sky.fr (hr 57 (by decide) (by decide) (by decide)) (hr 59 (by decide) (by decide) (by decide)) rfl rfl) (h.box.fr (by rw [hr 0 (by decide) (by decide) (by decide)]) (hr 114 (by decide) (by decide) (by decide)) (hr 115 (by decide) (by decide) (by decide)) rfl) (h.way.fr (by rw [hr 61 (by decide) (by decide) (by decide)]) (hr 62 (by decide) (by decide) (by decide)) (hr 103 (by decide) (by decide) (by decide)) (h73 76 (by decide))) hK
theorem c_look (h : Inv T q st a u I L) (v w : Int32) (b : Bool) : ∃ r I1 I2, fX11_look q v w (b2i b) I L = some (r, I1) ∧ fX12_look v w (b2i b) I1 L = some (r, I2) ∧ Inv T q st a u I2 L := by
  obtain ⟨lk, n, t, hK⟩ := h.look
  have hK' := hK
  obtain ⟨l1, l2, l3, l4, l5, l6, l7, l8⟩ := hK
  unfold fX11_look fX12_look
  have e23 : fX12_isIn v 0 23 = fX12_isIn v 0 (nI 24 - 1) := rfl
  rw [e23]
  rcases isIn_0 (n := 24) (by decide) v with ⟨k, k1, k3, k4⟩ | ⟨k1, k3⟩
  · subst k3
    have n24 : ¬ (24 : Int32) ≤ nI k := nI_ge (b := 24) k1 (by decide)
    rcases g_free h.1.1 h.2.2.1.1 h.2.2.1.2.1.2 h.2.2.2.1.1 w with ⟨c, c1, c2, c3, c4⟩ | ⟨c1, c2⟩
    · subst c2
      rw [if_neg (nI_pos (by omega)), if_neg n24, c3, k4]
      simp only [b2i_eq0, Bool.true_eq_false, if_false, Option.bind_some, Bool.false_eq_true]
      unfold fX3_tell
      by_cases hn : n < 30
      · have hn30 : nI n < (30 : Int32) := nI_lt (b := 30) hn (by decide)
        have hb8 : i2b (b2i b) = some b := by cases b <;> rfl
        -- the class's heap
        have hx : ∃ I1, (if (nI n) < (30 : Int32) then if inb (I 66 0) 30 = true then Option.bind (if b2i b = 0 then some (up2 (up2 (up2 I 67 n (nI k)) 68 n (nI c)) 69 n (nI t)) else some (up2 (up2 (up2 (up2 I 67 n (nI k)) 68 n (nI c)) 69 n (nI t)) 66 8 (I 66 8 ||| (1 : Int32) <<< (nI n &&& 31)))) fun q8 => some ((up2 q8 66 0 (q8 66 0 + 1) 66 0 - (1 : Int32)), up2 q8 66 0 (q8 66 0 + 1)) else none else some ((-1 : Int32), I)) = some (nI n, I1) ∧ (∀ r, ¬ (66 ≤ r ∧ r ≤ 69) → I1 r = I r) ∧ I1 66 0 = nI (n + 1) ∧ I1 66 1 = I 66 1 ∧ I1 66 9 = I 66 9 ∧ (∀ i, i < 32 → bt (I1 66 8) i = (bt (I 66 8) i || (b && decide (i = n)))) ∧ (∀ i, I1 67 i = if i = n then nI k else I 67 i) ∧ (∀ i, I1 68 i = if i = n then nI c else I 68 i) ∧ (∀ i, I1 69 i = if i = n then nI t else I 69 i) := by
          rw [if_pos hn30, l3, if_pos (inb_nI hn (by decide))]
          cases b with
          | false =>
            refine ⟨up2 (up2 (up2 (up2 I 67 n (nI k)) 68 n (nI c)) 69 n (nI t)) 66 0 (nI (n + 1)), ?_, fun r hr => ?_, ?_, ?_, ?_, fun i hi => ?_, fun i => ?_, fun i => ?_, fun i => ?_⟩
            · simp only [show b2i false = 0 from rfl, if_true, Option.bind_some, up2_at, Nat.reduceEqDiff, false_and, and_self, if_false, l3, nI_1, nI_pred]
            · rw [upRow _ _ (by omega), upRow _ _ (by omega), upRow _ _ (by omega), upRow _ _ (by omega)]
            · simp [up2_at]
            · simp [up2_at]
            · simp [up2_at]
            · simp [up2_at]
            · simp [up2_at]
            · simp [up2_at]
            · simp [up2_at]
          | true =>
            refine ⟨up2 (up2 (up2 (up2 (up2 I 67 n (nI k)) 68 n (nI c)) 69 n (nI t)) 66 8 (I 66 8 ||| (1 : Int32) <<< (nI n &&& 31))) 66 0 (nI (n + 1)), ?_, fun r hr => ?_, ?_, ?_, ?_, fun i hi => ?_, fun i => ?_, fun i => ?_, fun i => ?_⟩
            · simp only [show ¬ b2i true = 0 by decide, if_false, Option.bind_some, up2_at, Nat.reduceEqDiff, false_and, and_self, and_false, if_true, l3, nI_1, nI_pred]
            · rw [upRow _ _ (by omega), upRow _ _ (by omega), upRow _ _ (by omega), upRow _ _ (by omega), upRow _ _ (by omega)]
            · simp [up2_at]
            · simp [up2_at]
            · simp [up2_at]
            · simp only [up2_at, Nat.reduceEqDiff, and_false, if_false, and_self, if_true, b_or, b_shl1 (show n < 32 by omega) hi, Bool.true_and]
            · simp [up2_at]
            · simp [up2_at]
            · simp [up2_at]
        obtain ⟨I1, e1, r1, s0, s1, s9, s8, s67, s68, s69⟩ := hx
        have e73 : I1 73 = I 73 := r1 73 (by decide)
        refine ⟨nI n, I1, up2 (up2 (up2 (up2 (up2 (up2 I1 108 n (nI k)) 109 n (nI c)) 112 n (b2i b)) 110 n (nI t)) 111 n (-1)) 73 86 (nI (n + 1)), ?_, ?_, ?_⟩
        · rw [← show _ = some (nI n, I1) from e1, l3]
          simp only [if_pos hn30, if_pos (inb_nI hn (show 30 < 2 ^ 31 by decide)), clamp_nI (show n < 2 ^ 31 by omega), up2_at, Nat.reduceEqDiff, false_and, if_false, l3, l5]
          cases b <;> rfl
        · have hfr : fX12_isFree (nI c) I1 L = true := by
            rcases g_free (J := I1) (M := L) h.1.1 h.2.2.1.1 h.2.2.1.2.1.2 ⟨by rw [e73]; exact h.2.2.2.1.1.1, by rw [e73]; exact h.2.2.2.1.1.2.1, h.2.2.2.1.1.2.2⟩ (nI c) with ⟨_, _, _, _, g⟩ | ⟨g, _⟩
            · exact g
            · rw [c3] at g; cases g
          have hne : ¬ nI n = (30 : Int32) := fun g => by have := (nI_eq (b := 30) (by omega) (by decide)).mp g; omega
          rw [hfr, e73, l4]
          simp only [if_neg hne, b2i_eq0, Bool.true_eq_false, if_false, Option.bind_some, Bool.false_eq_true, if_pos (inb_nI hn (show 30 < 2 ^ 31 by decide)), clamp_nI (show n < 2 ^ 31 by omega), up2_at, Nat.reduceEqDiff, false_and, hb8, e73, l4, l6, nI_1, and_self, if_true, nI_pred]
        · refine h.lks (fun r a1 a2 a3 => ?_) (fun j hj => ?_) ⟨_, _, _, look_add (b := b) hK' hn k1 c1 ?_ ?_ ?_ ?_ ?_ ?_ ?_ ?_ ?_ ?_ ?_ ?_ ?_ ?_ ?_⟩
          · rw [upRow _ _ (by omega), upRow _ _ (by omega), upRow _ _ (by omega), upRow _ _ (by omega), upRow _ _ (by omega), upRow _ _ (by omega), r1 r (by omega)]
          · rw [up2_at, if_neg (fun g => hj g.2), upRow _ _ (by decide), upRow _ _ (by decide), upRow _ _ (by decide), upRow _ _ (by decide), upRow _ _ (by decide), e73]
          · simp [up2_at, s0]
          · simp [up2_at]
          · simp [up2_at, s1]
          · simp [up2_at, e73]
          · intro i; simp only [up2_at, Nat.reduceEqDiff, false_and, if_false]; exact s67 i
          · intro i; simp [up2_at]; rw [r1 108 (by decide)]
          · intro i; simp only [up2_at, Nat.reduceEqDiff, false_and, if_false]; exact s68 i
          · intro i; simp [up2_at]; rw [r1 109 (by decide)]
          · intro i; simp only [up2_at, Nat.reduceEqDiff, false_and, if_false]; exact s69 i
          · intro i; simp [up2_at]; rw [r1 110 (by decide)]
          · intro i; simp [up2_at]; rw [r1 112 (by decide)]
          · intro i; simp [up2_at]; rw [r1 111 (by decide)]
          · rw [upRow _ _ (by decide), upRow _ _ (by decide), upRow _ _ (by decide), upRow _ _ (by decide), upRow _ _ (by decide), upRow _ _ (by decide), r1 70 (by decide)]
          · intro i hi; simp only [up2_at, Nat.reduceEqDiff, false_and, if_false]; exact s8 i hi
          · simp [up2_at, s9]
      · have n30 : n = 30 := by omega
        have hn30 : ¬ nI n < (30 : Int32) := nI_nlt (b := 30) (by omega) (by omega)
        refine ⟨-1, I, I, ?_, ?_, h⟩
        · rw [l3, if_neg hn30]; rfl
        · rw [c4, l4, n30]; rfl
    · rw [if_neg (nI_pos (by omega)), if_neg n24, c1, k4]
      exact ⟨-1, I, I, rfl, by rw [c2]; rfl, h⟩
  · rw [k3]
    refine ⟨-1, I, I, ?_, rfl, h⟩
    by_cases h0 : v < 0
    · rw [if_pos h0]; rfl
    · rw [if_neg h0, if_pos (show (24 : Int32) ≤ v from k1.resolve_left h0)]; rfl
theorem c_untell (h : Inv T q st a u I L) (v : Int32) : ∃ r I1 I2, fX11_untell v I = some (r, I1) ∧ fX12_untell v I1 = some (r, I2) ∧ Inv T q st a u I2 L := by
  obtain ⟨lk, n, t, hK⟩ := h.look
  have hK' := hK
  obtain ⟨l1, l2, l3, l4, l5, l6, l7, l8⟩ := hK
  unfold fX11_untell fX3_takeBack fX12_untell
  rcases isIn_0 (n := n) (by omega) v with ⟨k, k1, k3, k4⟩ | ⟨k1, k3⟩
  · subst k3
    have m11 := (l7 k k1).2.2.2.2.2.2.2.2.2.2.2.1
    have m12 := (l7 k k1).2.2.2.2.2.2.2.2.2.2.2.2
    rw [if_neg (nI_pos (by omega)), l3, if_neg (nI_ge k1 (by omega)), isBit_bt _ (by omega)]
    cases hu : bt (I 66 9) k with
    | false =>
      refine ⟨true, up2 (up2 I 66 9 (I 66 9 ||| (1 : Int32) <<< (nI k &&& 31))) 70 k (nI t), up2 (up2 (up2 I 66 9 (I 66 9 ||| (1 : Int32) <<< (nI k &&& 31))) 70 k (nI t)) 111 k (nI t), ?_, ?_, ?_⟩
      · simp only [show b2i false = 0 from rfl, if_true, Option.bind_some, Bool.false_eq_true, if_false, if_pos (inb_nI (show k < 30 by omega) (show 30 < 2 ^ 31 by decide)), clamp_nI (show k < 2 ^ 31 by omega), up2_at, Nat.reduceEqDiff, and_false, l5]
      · have e86 : up2 (up2 I 66 9 (I 66 9 ||| (1 : Int32) <<< (nI k &&& 31))) 70 k (nI t) 73 = I 73 := by rw [upRow _ _ (by decide), upRow _ _ (by decide)]
        have e111 : up2 (up2 I 66 9 (I 66 9 ||| (1 : Int32) <<< (nI k &&& 31))) 70 k (nI t) 111 = I 111 := by rw [upRow _ _ (by decide), upRow _ _ (by decide)]
        rw [e86, l4, k4, e111]
        simp only [b2i_eq0, Bool.true_eq_false, if_false, if_pos (inb_nI (show k < 30 by omega) (show 30 < 2 ^ 31 by decide)), clamp_nI (show k < 2 ^ 31 by omega), m11 hu, show ((-1 : Int32) < 0) by decide, if_true, Option.bind_some, Bool.false_eq_true, l6]
      · refine h.lks (fun r a1 a2 a3 => ?_) (fun j hj => ?_) ⟨_, _, _, look_un hK' k1 (fun j hj => ?_) ?_ (fun r a1 a2 => ?_) (fun r a1 a2 a3 => ?_) (fun i => ?_) (fun i => ?_) (fun i hi => ?_)⟩
        · rw [upRow _ _ (by omega), upRow _ _ (by omega), upRow _ _ (by omega)]
        · rw [upRow _ _ (by decide), upRow _ _ (by decide), upRow _ _ (by decide)]
        · rw [upRow _ _ (by decide), upRow _ _ (by decide), up2_at, if_neg (fun g => hj g.2)]
        · rw [upRow _ _ (by decide), upRow _ _ (by decide), upRow _ _ (by decide)]
        · rw [upRow _ _ (by omega), upRow _ _ (by omega), upRow _ _ (by omega)]
        · rw [upRow _ _ (by omega), upRow _ _ (by omega), upRow _ _ (by omega)]
        · simp [up2_at]
        · simp [up2_at]
        · simp only [up2_at, Nat.reduceEqDiff, false_and, if_false, and_self, if_true, b_or, b_shl1 (show k < 32 by omega) hi]
    | true =>
      refine ⟨false, I, I, rfl, ?_, h⟩
      rw [l4, k4]
      simp only [b2i_eq0, Bool.true_eq_false, if_false, if_pos (inb_nI (show k < 30 by omega) (show 30 < 2 ^ 31 by decide)), clamp_nI (show k < 2 ^ 31 by omega), (m12 hu).2, if_neg (nI_pos (show lk 3 k < 2 ^ 31 by have := (l7 k k1).2.2.2.1; omega)), Option.bind_some, if_true]
  · refine ⟨false, I, I, ?_, by rw [l4, k3]; rfl, h⟩
    by_cases h0 : v < 0
    · rw [if_pos h0]; rfl
    · rw [if_neg h0, l3, if_pos (k1.resolve_left h0)]; rfl
end C9
