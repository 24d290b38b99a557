def XT (B : Nat → Nat) (n p : Nat) (I : HI) (L : HL) : Prop := I 49 4 = nI (kd B n p) ∧ I 49 5 = nI (tS B n p) ∧ (kd B n p ≠ 23 → I 49 3 = nI (nx B n p)) ∧ (kd B n p = 21 → I 49 6 = nI (vl B n p)) ∧ (kd B n p ≤ 20 → L 49 7 = lN (nm5 (ws B n p)))
theorem ws_in {B : Nat → Nat} {n p : Nat} (hp : p ≤ n) : lets (ws B n p) ∧ (ws B n p).length = tL B n p - tS B n p := by
  refine ⟨ltr_in _ (fun i h1 h2 => ?_), ltr_len _ _ _⟩
  have := tL_le (B := B) hp
  exact run_in _ _ i h1 (show i < tL B n p by omega)
set_option maxHeartbeats 4000000 in
theorem x_adv {B : Nat → Nat} {n p : Nat} {I : HI} {L : HL} (hX : TX B n I) (hL : LexOk L) (hp : p ≤ n) (h3 : I 49 3 = nI p) : ∃ I' L', fX9_advance I L = some (I', L') ∧ XT B n p I' L' ∧ (∀ a, a ≠ 49 → I' a = I a) ∧ I' 49 2 = I 49 2 ∧ (∀ a, a ≠ 49 → L' a = L a) := by
  obtain ⟨h0, h1, h2⟩ := hX
  obtain ⟨s1, s2⟩ := tS_le (B := B) hp
  obtain ⟨e1, e2⟩ := tL_le (B := B) hp
  obtain ⟨g1, g2⟩ := tG_le (B := B) hp
  obtain ⟨f, hf⟩ := fuel_at 2000 (by decide)
  have a0 : fX9_advance_0 FUEL I L = some (up2 I 49 3 (nI (tS B n p))) := by
    have := x_adv0 (L := L) ⟨h0, h1, h2⟩ (n - p) p FUEL (by omega) (by omega)
    rw [up2_self h3] at this
    exact this
  unfold fX9_advance
  rw [a0, Option.bind_some]
  generalize hs : tS B n p = s at *
  obtain ⟨I8, hI8⟩ : ∃ x : HI, x = up2 (up2 (up2 I 49 3 (nI s)) 49 5 (up2 I 49 3 (nI s) 49 3)) 49 6 (0 : Int32) := ⟨_, rfl⟩
  have b3 : I8 49 3 = nI s := by rw [hI8]; simp [up2_at]
  have b5 : I8 49 5 = nI s := by rw [hI8]; simp [up2_at]
  have b2 : I8 49 2 = nI n := by rw [hI8]; simp [up2_at, h1]
  have b6 : I8 49 6 = 0 := by rw [hI8]; simp [up2_at]
  have bo : ∀ a, a ≠ 49 → I8 a = I a := fun a ha => by rw [hI8, upRow _ _ ha, upRow _ _ ha, upRow _ _ ha]
  have bX : TX B n I8 := ⟨h0, b2, fun i hi => by rw [bo 1 (by decide)]; exact h2 i hi⟩
  simp only
  rw [← hI8]
  have a70 : fX9_advance_70 FUEL I8 (up2 L 49 7 (0 : Int64)) = some (up2 I8 49 3 (nI (tL B n p)), up2 L 49 7 (lN (nm5 (ws B n p)))) := by
    have := x_adv70 (L := L) bX (s := s) (n - s) 0 FUEL (by omega) (by omega)
    rw [Nat.add_zero, up2_self b3] at this
    rw [show (0 : Int64) = lN (nm5 (ltr B s 0)) from rfl, this]
    unfold ws tL
    rw [hs]
  rw [a70, Option.bind_some]
  have wsl := ws_in (B := B) hp
  rw [hs] at wsl
  have eL : tL B n p = run isL B (n - s) s := by unfold tL; rw [hs]
  have eG : tG B n p = run isDg B (n - s) s := by unfold tG; rw [hs]
  generalize he : tL B n p = e at *
  generalize hg : tG B n p = g at *
  simp only [up2_at, Nat.reduceEqDiff, and_self, and_false, false_and, if_true, if_false, b5]
  by_cases ce : e ≤ s
  · rw [if_pos (nI_le ce (by omega))]
    have hee : e = s := by omega
    have nl : s < n → isL (B s) = false := by
      intro hsn
      cases hh : isL (B s) with
      | false => rfl
      | true =>
        have := run_pos (B := B) (P := isL) (m := n - s) (s := s) (by omega) hh
        omega
    have a168 : ∀ L', fX9_advance_168 FUEL (up2 I8 49 3 (nI e)) L' = some (up2 (up2 I8 49 6 (nI (num10 B s (g - s)))) 49 3 (nI g)) := by
      intro L'
      have := x_adv168 (L := L') bX (s := s) (n - s) 0 FUEL (by omega) (by omega)
      rw [Nat.add_zero, show nI (num10 B s 0) = 0 from rfl, up2_self b6, ← eG] at this
      rw [hee]
      exact this
    rw [a168, Option.bind_some]
    simp only [up2_at, Nat.reduceEqDiff, and_self, and_false, false_and, if_true, if_false, b5, b2]
    by_cases cg : g ≤ s
    · rw [if_pos (nI_le cg (by omega))]
      have hge : g = s := by omega
      by_cases hsn : s < n
      · obtain ⟨k1, k2⟩ := h2 s hsn
        have nd : isDg (B s) = false := by
          cases hh : isDg (B s) with
          | false => rfl
          | true =>
            have := run_pos (B := B) (P := isDg) (m := n - s) (s := s) (by omega) hh
            omega
        obtain ⟨r, j1, j2⟩ := jx_ix k1
        rw [hge, if_pos (nI_lt hsn (by omega))]
        simp only [clamp_nI (show s < 2 ^ 31 by omega), inb_nI (show s < 1600 by omega) (show 1600 < 2 ^ 31 by decide), if_true, bo 1 (by decide), k2, sB_255 ⟨B s, k1⟩, j1, Option.bind_some, nI_1]
        have kk : kd B n p = if isSg (B s) = true then B s else 23 := by
          unfold kd
          rw [hs, if_neg (by omega), if_neg (by rw [nl hsn]; decide), if_neg (by rw [nd]; decide)]
        have kn : nx B n p = s + 1 := by
          unfold nx
          rw [hs, if_neg (by omega), if_neg (by rw [nl hsn]; decide), if_neg (by rw [nd]; decide)]
        have kv : isSg (B s) = true → B s < 128 ∧ 37 ≤ B s := by
          intro h
          unfold isSg sgL at h
          simp at h
          omega
        have kq : (if r < 0 then some (23 : Int32) else some (sB (B s))) = some (nI (kd B n p)) := by
          rw [kk]
          cases hh : isSg (B s) with
          | true => rw [if_neg (fun h => by rw [j2, hh] at h; cases h), if_pos rfl, sB_n (kv hh).1]
          | false => rw [if_pos (j2.mpr hh), if_neg (by decide)]; rfl
        rw [kq, Option.bind_some]
        refine ⟨_, _, rfl, ⟨?_, ?_, ?_, ?_, ?_⟩, ?_, ?_, ?_⟩
        · simp [up2_at]
        · simp [up2_at, b5, hs]
        · intro _; rw [kn]; simp [up2_at]
        · intro h; rw [kk] at h
          cases hh : isSg (B s) with
          | true => rw [hh, if_pos rfl] at h; have := kv hh; omega
          | false => rw [hh] at h; simp at h
        · intro h; rw [kk] at h
          cases hh : isSg (B s) with
          | true => rw [hh, if_pos rfl] at h; have := kv hh; omega
          | false => rw [hh] at h; simp at h
        · intro a ha; rw [upRow _ _ ha, upRow _ _ ha, upRow _ _ ha, upRow _ _ ha, bo a ha]
        · simp [up2_at, b2, h1]
        · intro a ha; rw [upRow _ _ ha]
      · have hsn' : s = n := by omega
        have kk : kd B n p = 22 := by unfold kd; rw [hs, if_pos hsn']
        have kn : nx B n p = s := by unfold nx; rw [hs, if_pos hsn', hsn']
        rw [if_neg (nI_nlt (by omega) (by omega))]
        refine ⟨_, _, rfl, ⟨?_, ?_, ?_, ?_, ?_⟩, ?_, ?_, ?_⟩
        · rw [kk]; simp [up2_at]; rfl
        · simp [up2_at, b5, hs]
        · intro _; rw [kn]; simp [up2_at, hge]
        · intro h; omega
        · intro h; omega
        · intro a ha; rw [upRow _ _ ha, upRow _ _ ha, upRow _ _ ha, bo a ha]
        · simp [up2_at, b2, h1]
        · intro a ha; rw [upRow _ _ ha]
    · rw [if_neg (nI_ge (by omega) (by omega))]
      have hsn : s < n := by omega
      have hd : isDg (B s) = true := run_in _ _ s (Nat.le_refl _) (show s < run isDg B (n - s) s by omega)
      have kk : kd B n p = if 4 < g - s ∨ (g < n ∧ isL (B g) = true) then 23 else 21 := by
        unfold kd
        rw [hs, if_neg (by omega), if_neg (by rw [nl hsn]; decide), if_pos hd, hg]
      have kn : nx B n p = g := by
        unfold nx
        rw [hs, if_neg (by omega), if_neg (by rw [nl hsn]; decide), if_pos hd, hg]
      have kt : (if nI n ≤ nI g then some true else if inb (nI g) 1600 = true then if b2i (fX9_isLetter (I8 1 (nI g).toNatClampNeg)) = 0 then some true else some false else none) = some (decide ¬ (g < n ∧ isL (B g) = true)) := by
        by_cases c : g < n
        · obtain ⟨k1, k2⟩ := h2 g c
          obtain ⟨q1, _, _, _⟩ := sB_L ⟨B g, k1⟩
          rw [if_neg (nI_ge c (by omega)), if_pos (inb_nI (by omega) (by decide)), clamp_nI (by omega), bo 1 (by decide), k2]
          simp only [] at q1
          rw [q1]
          cases hh : isL (B g) with
          | true => rw [if_neg (by decide)]; simp [c]
          | false => rw [if_pos (by decide)]; simp
        · rw [if_pos (nI_le (by omega) (by omega))]; simp [c]
      rw [kt]
      simp only [Option.bind_some]
      have kb : (if (decide ¬ (g < n ∧ isL (B g) = true)) = true then some false else some true) = some (decide (g < n ∧ isL (B g) = true)) := by
        by_cases c : g < n ∧ isL (B g) = true
        · rw [if_neg (by simp [c])]; simp [c]
        · rw [if_pos (by simp [c])]; simp [c]
      rw [kb, Option.bind_some, pk_sub g1]
      have kc : (if (4 : Int32) < nI (g - s) then some true else if b2i (decide (g < n ∧ isL (B g) = true)) = 0 then some false else some true) = some (decide (4 < g - s ∨ (g < n ∧ isL (B g) = true))) := by
        by_cases c : 4 < g - s
        · rw [if_pos (show (4 : Int32) < nI (g - s) from nI_lt (a := 4) c (by omega))]; simp [c]
        · rw [if_neg (show ¬ (4 : Int32) < nI (g - s) from nI_nlt (a := 4) (by omega) (by omega))]
          by_cases c2 : g < n ∧ isL (B g) = true
          · rw [if_neg (by rw [b2i_eq0]; simp [c2])]; simp [c2]
          · rw [if_pos (by rw [b2i_eq0]; simpa using c2)]; simp [c, c2]
      rw [kc, Option.bind_some]
      by_cases c : 4 < g - s ∨ (g < n ∧ isL (B g) = true)
      · rw [if_pos c] at kk
        rw [if_pos (by simpa using c)]
        refine ⟨_, _, rfl, ⟨?_, ?_, ?_, ?_, ?_⟩, ?_, ?_, ?_⟩
        · rw [kk]; simp [up2_at]; rfl
        · simp [up2_at, b5, hs]
        · intro h; exact absurd kk h
        · intro h; omega
        · intro h; omega
        · intro a ha; rw [upRow _ _ ha, upRow _ _ ha, upRow _ _ ha, bo a ha]
        · simp [up2_at, b2, h1]
        · intro a ha; rw [upRow _ _ ha]
      · rw [if_neg c] at kk
        rw [if_neg (by simpa using c)]
        refine ⟨_, _, rfl, ⟨?_, ?_, ?_, ?_, ?_⟩, ?_, ?_, ?_⟩
        · rw [kk]; simp [up2_at]; rfl
        · simp [up2_at, b5, hs]
        · intro h; rw [kn]; simp [up2_at]
        · intro h; unfold vl; rw [hs, hg]; simp [up2_at]
        · intro h; omega
        · intro a ha; rw [upRow _ _ ha, upRow _ _ ha, upRow _ _ ha, bo a ha]
        · simp [up2_at, b2, h1]
        · intro a ha; rw [upRow _ _ ha]
  · rw [if_neg (nI_ge (by omega) (by omega)), pk_sub e1]
    have hl : isL (B s) = true := run_in _ _ s (Nat.le_refl _) (show s < run isL B (n - s) s by omega)
    have kk : kd B n p = if 8 < e - s then 23 else wIx (ws B n p) := by
      unfold kd
      rw [hs, if_neg (by omega), if_pos hl, he]
    have kn : nx B n p = e := by
      unfold nx
      rw [hs, if_neg (by omega), if_pos hl, he]
    by_cases c : 8 < e - s
    · rw [if_pos c] at kk
      rw [if_neg (show ¬ nI (e - s) ≤ (8 : Int32) from nI_ge (b := e - s) (a := 8) c (by omega))]
      refine ⟨_, _, rfl, ⟨?_, ?_, ?_, ?_, ?_⟩, ?_, ?_, ?_⟩
      · rw [kk]; simp [up2_at]; rfl
      · simp [up2_at, b5, hs]
      · intro h; exact absurd kk h
      · intro h; omega
      · intro h; omega
      · intro a ha; rw [upRow _ _ ha, upRow _ _ ha, bo a ha]
      · simp [up2_at, b2, h1]
      · intro a ha; rw [upRow _ _ ha]
    · rw [if_neg c] at kk
      rw [if_pos (show nI (e - s) ≤ (8 : Int32) from nI_le (b := 8) (by omega) (by decide)), x_kow (ls := ws B n p) (fun i hi => by rw [upRow _ _ (by decide)]; exact hL i hi) (by simp [up2_at]) wsl.1 (by omega), Option.bind_some, ← kk]
      refine ⟨_, _, rfl, ⟨?_, ?_, ?_, ?_, ?_⟩, ?_, ?_, ?_⟩
      · simp [up2_at]
      · simp [up2_at, b5, hs]
      · intro h; rw [kn]; simp [up2_at]
      · intro h
        have := wIx_le (ws B n p)
        omega
      · intro h; simp [up2_at]
      · intro a ha; rw [upRow _ _ ha, upRow _ _ ha, bo a ha]
      · simp [up2_at, b2, h1]
      · intro a ha; rw [upRow _ _ ha]
