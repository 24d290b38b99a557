def XKeep (st : Nat → Nat → Nat) (a u : Nat) (I : HI) (L : HL) : Prop := a + u ≤ 40 ∧ I 54 1 = nI a ∧ I 54 2 = nI (a + u) ∧ ∀ i, i ≤ a + u → L 55 i = lN (pk (st i)) ∧ NRng (st i)
def MKeep (st : Nat → Nat → Nat) (a u : Nat) (I : HI) : Prop := I 73 73 = nI a ∧ I 73 74 = nI u ∧ (∀ i, i < a → ∀ k, k < 9 → I 102 (10 * i + k) = nI (st i k)) ∧ ∀ j, j < u → ∀ k, k < 9 → I 102 (10 * (a + j) + k) = nI (st (a + 1 + j) k)
def MNow (I : HI) (N : Nat → Nat) : Prop := ∀ k, k < 9 → I 99 k = nI (N k)
def nxt (st : Nat → Nat → Nat) (a : Nat) (N : Nat → Nat) : Nat → Nat → Nat := if a = 40 then (fun i => if i < 40 then st (i + 1) else N) else (fun i => if i ≤ a then st i else N)
def anx (a : Nat) : Nat := if a = 40 then 40 else a + 1
theorem x_act {st : Nat → Nat → Nat} {a u : Nat} {I : HI} {L : HL} {N : Nat → Nat} (h : XKeep st a u I L) (hN : NRng N) : ∃ (I' : HI) (L' : HL), fX0_add (lN (pk N)) I L = some (I', L') ∧ XKeep (nxt st a N) (anx a) 0 I' L' ∧ (∀ k, k ≠ 54 → I' k = I k) ∧ ∀ k, k ≠ 55 → L' k = L k := by
  obtain ⟨h0, h1, h2, h3⟩ := h
  refine ⟨_, _, (x_add (by omega) h1).trans (by rw [show ∀ x : HI × HL, some x = some (x.1, x.2) from fun _ => rfl]), ?_⟩
  by_cases h40 : a = 40
  · subst h40
    simp only [if_true]
    have hu : u = 0 := by omega
    subst hu
    refine ⟨⟨by decide, by simp [up2_at, anx], by simp [up2_at, anx], fun i hi => ?_⟩, fun k hk => by rw [up2_off _ _ _ hk, up2_off _ _ _ hk, up2_off _ _ _ hk], fun k hk => by rw [up2_off _ _ _ hk]; simp [cp2, hk]⟩
    simp only [anx, if_true] at hi
    by_cases hi40 : i = 40
    · subst hi40
      simp only [up2_at, and_self, if_true, nxt]
      simp
      exact hN
    · have hl : i < 40 := by omega
      have e : (up2 (cp2 L 55 1 55 0 40) 55 40 (lN (pk N))) 55 i = L 55 (i + 1) := by
        simp only [up2_at, true_and, hi40, if_false, cp2, if_true]
        rw [pk_cpy_in (by omega) (by omega)]
        congr 1
        omega
      rw [e]
      simp only [nxt, if_true, hl]
      exact h3 (i + 1) (by omega)
  · simp only [h40, if_false]
    refine ⟨⟨by unfold anx; rw [if_neg h40]; omega, by simp [up2_at, anx, h40], by simp [up2_at, anx, h40], fun i hi => ?_⟩, fun k hk => by rw [up2_off _ _ _ hk, up2_off _ _ _ hk], fun k hk => by rw [up2_off _ _ _ hk]⟩
    simp only [anx, h40, if_false] at hi
    by_cases hi2 : i = a + 1
    · subst hi2
      simp only [up2_at, and_self, if_true, nxt, h40, if_false, show ¬ (a + 1 ≤ a) by omega]
      exact ⟨trivial, hN⟩
    · simp only [up2_at, true_and, hi2, if_false, nxt, h40, show i ≤ a by omega, if_true]
      exact h3 i (by omega)
theorem m_act2 {st : Nat → Nat → Nat} {a u : Nat} {I : HI} (N : Nat → Nat) (ha : a + u ≤ 40) (h : MKeep st a u I) (hn : MNow I (st a)) : ∃ I' : HI, fX12_act I = some I' ∧ MKeep (nxt st a N) (anx a) 0 I' ∧ MNow I' (st a) ∧ (∀ k, k ≠ 102 → k ≠ 73 → I' k = I k) ∧ ∀ j, j ≠ 73 → j ≠ 74 → I' 73 j = I 73 j := by
  obtain ⟨h1, h2, h3, h4⟩ := h
  refine ⟨_, m_act (by omega) h1, ?_⟩
  by_cases h40 : a = 40
  · subst h40
    simp only [if_true]
    refine ⟨⟨by simp [up2_at, anx], by simp [up2_at]; rfl, fun i hi k hk => ?_, fun j hj => absurd hj (by omega)⟩, fun k hk => ?_, fun k k1 k2 => ?_, fun j j1 j2 => ?_⟩
    · simp only [anx, if_true] at hi
      simp only [up2_at, show ¬ (102 = 73) by decide, false_and, if_false, slot9, if_true, show ¬ (99 = 73) by decide, shf, show ¬ (99 = 102) by decide]
      by_cases h39 : i = 39
      · subst h39
        rw [if_pos (by omega), show 10 * 39 + k - 10 * 39 = k by omega, hn k hk]
        simp [nxt]
      · rw [if_neg (by omega), if_pos (by omega), show 10 * i + k + 10 = 10 * (i + 1) + k by omega, h3 (i + 1) (by omega) k hk]
        simp [nxt, show i < 40 by omega]
    · have e : (up2 (up2 (slot9 39 0 (up2 (shf 0 I) 73 73 (nI 39))) 73 73 (nI 40)) 73 74 0) 99 k = I 99 k := by simp [up2_at, slot9, shf]
      rw [e]
      exact hn k hk
    · funext j
      simp [up2_at, slot9, shf, k1, k2]
    · simp [up2_at, slot9, shf, j1, j2]
  · simp only [h40, if_false]
    refine ⟨⟨by simp [up2_at, anx, h40], by simp [up2_at]; rfl, fun i hi k hk => ?_, fun j hj => absurd hj (by omega)⟩, fun k hk => ?_, fun k k1 k2 => ?_, fun j j1 j2 => ?_⟩
    · simp only [anx, h40, if_false] at hi
      simp only [up2_at, show ¬ (102 = 73) by decide, false_and, if_false, slot9, if_true]
      by_cases hia : i = a
      · subst hia
        rw [if_pos (by omega), show 10 * i + k - 10 * i = k by omega, hn k hk]
        simp [nxt, h40]
      · rw [if_neg (by omega), h3 i (by omega) k hk]
        simp [nxt, h40, show i ≤ a by omega]
    · have e : (up2 (up2 (slot9 a 0 I) 73 73 (nI (a + 1))) 73 74 0) 99 k = I 99 k := by simp [up2_at, slot9]
      rw [e]
      exact hn k hk
    · funext j
      simp [up2_at, slot9, k1, k2]
    · simp [up2_at, slot9, j1, j2]
