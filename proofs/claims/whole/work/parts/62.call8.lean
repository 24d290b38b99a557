/-! image, back -/
section C8
variable {T : Nat → Nat → Nat} {q : Nat} {st : Nat → Nat → Nat} {a u : Nat} {I : HI} {L : HL}
theorem m_imgL {b : Nat} (hb : b < 3) : ∀ (m k fu : Nat) (I : HI), k + m = 9 → m < fu → ∃ I', fX12_image_18 fu (nI b) (nI k) I = some (I 99 8, I') ∧ (∀ r, r ≠ 115 → I' r = I r) ∧ ∀ j, I' 115 j = if 10 * b + k ≤ j ∧ j < 10 * b + 9 then I 99 (j - 10 * b) else I 115 j := by
  intro m
  induction m with
  | zero =>
    intro k fu I hk hf
    obtain ⟨f, rfl⟩ : ∃ f, fu = f + 1 := ⟨fu - 1, by omega⟩
    have : k = 9 := by omega
    subst this
    rw [fX12_image_18, if_pos (show (9 : Int32) ≤ nI 9 from nI_le (a := 9) (Nat.le_refl _) (by decide))]
    simp only [show (8 : Int32) = nI 8 from rfl, if_pos (inb_nI (show 8 < 10 by decide) (show 10 < 2 ^ 31 by decide)), clamp_nI (show 8 < 2 ^ 31 by decide)]
    exact ⟨I, rfl, fun _ _ => rfl, fun j => by rw [if_neg (by omega)]⟩
  | succ m ih =>
    intro k fu I hk hf
    obtain ⟨f, rfl⟩ : ∃ f, fu = f + 1 := ⟨fu - 1, by omega⟩
    have ix : (10 : Int32) * nI b + nI k = nI (10 * b + k) := by
      rw [show (10 : Int32) = nI 10 from rfl, pk_mul, nI_add]
    rw [fX12_image_18, if_neg (show ¬ (9 : Int32) ≤ nI k from nI_ge (b := 9) (by omega) (by decide)), ix]
    simp only [if_pos (inb_nI (show k < 10 by omega) (show 10 < 2 ^ 31 by decide)), if_pos (inb_nI (show 10 * b + k < 30 by omega) (show 30 < 2 ^ 31 by decide)), clamp_nI (show k < 2 ^ 31 by omega), clamp_nI (show 10 * b + k < 2 ^ 31 by omega), nI_1]
    obtain ⟨I', e, f1, h⟩ := ih (k + 1) f (up2 I 115 (10 * b + k) (I 99 k)) (by omega) (by omega)
    rw [upRow _ _ (show (99 : Nat) ≠ 115 by decide)] at e h
    refine ⟨I', e, fun r hr => by rw [f1 r hr, upRow _ _ hr], fun j => ?_⟩
    rw [h j, up2_at]
    by_cases hj : j = 10 * b + k
    · rw [if_neg (by omega), if_pos ⟨rfl, hj⟩, if_pos (by omega), show j - 10 * b = k by omega]
    · rw [if_neg (show ¬ (115 = 115 ∧ j = 10 * b + k) from fun g => hj g.2)]
      by_cases hj2 : 10 * b + (k + 1) ≤ j ∧ j < 10 * b + 9
      · rw [if_pos hj2, if_pos (by omega)]
      · rw [if_neg hj2, if_neg (by omega)]
theorem m_bakL {b : Nat} (hb : b < 3) : ∀ (m k fu : Nat) (I : HI), k + m = 9 → m < fu → ∃ I', fX12_back_20 fu (nI b) (nI k) I = some (I' 99 8, I') ∧ (∀ r, r ≠ 99 → r ≠ 73 → I' r = I r) ∧ (∀ j, j ≠ 73 → j ≠ 74 → I' 73 j = I 73 j) ∧ I' 73 73 = 0 ∧ I' 73 74 = 0 ∧ ∀ j, I' 99 j = if k ≤ j ∧ j < 9 then I 115 (10 * b + j) else I 99 j := by
  intro m
  induction m with
  | zero =>
    intro k fu I hk hf
    obtain ⟨f, rfl⟩ : ∃ f, fu = f + 1 := ⟨fu - 1, by omega⟩
    have : k = 9 := by omega
    subst this
    rw [fX12_back_20, if_pos (show (9 : Int32) ≤ nI 9 from nI_le (a := 9) (Nat.le_refl _) (by decide))]
    simp only [show (8 : Int32) = nI 8 from rfl, if_pos (inb_nI (show 8 < 10 by decide) (show 10 < 2 ^ 31 by decide)), clamp_nI (show 8 < 2 ^ 31 by decide)]
    refine ⟨_, rfl, fun r h1 h2 => by rw [upRow _ _ h2, upRow _ _ h2], fun j h1 h2 => by simp [up2_at, h1, h2], by simp [up2_at], by simp [up2_at], fun j => ?_⟩
    rw [if_neg (by omega), upRow _ _ (by decide), upRow _ _ (by decide)]
  | succ m ih =>
    intro k fu I hk hf
    obtain ⟨f, rfl⟩ : ∃ f, fu = f + 1 := ⟨fu - 1, by omega⟩
    have ix : (10 : Int32) * nI b + nI k = nI (10 * b + k) := by
      rw [show (10 : Int32) = nI 10 from rfl, pk_mul, nI_add]
    rw [fX12_back_20, if_neg (show ¬ (9 : Int32) ≤ nI k from nI_ge (b := 9) (by omega) (by decide)), ix]
    simp only [if_pos (inb_nI (show k < 10 by omega) (show 10 < 2 ^ 31 by decide)), if_pos (inb_nI (show 10 * b + k < 30 by omega) (show 30 < 2 ^ 31 by decide)), clamp_nI (show k < 2 ^ 31 by omega), clamp_nI (show 10 * b + k < 2 ^ 31 by omega), nI_1]
    obtain ⟨I', e, f1, f2, f3, f4, h⟩ := ih (k + 1) f (up2 I 99 k (I 115 (10 * b + k))) (by omega) (by omega)
    refine ⟨I', e, fun r h1 h2 => by rw [f1 r h1 h2, upRow _ _ h1], fun j h1 h2 => by rw [f2 j h1 h2, upRow _ _ (by decide)], f3, f4, fun j => ?_⟩
    rw [h j, upRow _ _ (show (115 : Nat) ≠ 99 by decide), up2_at]
    by_cases hj : j = k
    · rw [if_neg (by omega), if_pos ⟨rfl, hj⟩, if_pos (by omega), hj]
    · rw [if_neg (show ¬ (99 = 99 ∧ j = k) from fun g => hj g.2)]
      by_cases hj2 : k + 1 ≤ j ∧ j < 9
      · rw [if_pos hj2, if_pos (by omega)]
      · rw [if_neg hj2, if_neg (by omega)]
theorem g_box (v : Int32) : (∃ b, b < 3 ∧ v = nI b) ∨ ((v < 0 ∨ nI 3 ≤ v) ∧ fX12_isBox v = false) := by
  rcases pk_ix v (n := 3) (by decide) with h | h | ⟨j, hj, rfl⟩
  · right
    refine ⟨Or.inl h, ?_⟩
    unfold fX12_isBox tbn
    rw [if_pos h]; rfl
  · right
    refine ⟨Or.inr h, ?_⟩
    unfold fX12_isBox tbn
    by_cases h0 : v < 0
    · rw [if_pos h0]; rfl
    · rw [if_neg h0, if_pos (show (3 : Int32) ≤ v from h)]; rfl
  · exact Or.inl ⟨j, hj, rfl⟩
def upB (bx : Nat → Nat → Nat) (b : Nat) (N : Nat → Nat) : Nat → Nat → Nat := fun k => if k = b then N else bx k
theorem upB_at (bx : Nat → Nat → Nat) (b : Nat) (N : Nat → Nat) : upB bx b N b = N := by unfold upB; rw [if_pos rfl]
theorem upB_off {bx : Nat → Nat → Nat} {b c : Nat} {N : Nat → Nat} (h : ¬ c = b) : upB bx b N c = bx c := by unfold upB; rw [if_neg h]
theorem c_image (h : Inv T q st a u I L) (v : Int32) : ∃ r I1 L1 I2, fX11_image v I L = some (r, I1, L1) ∧ fX12_image v I1 = some (r, I2) ∧ Inv T q st a u I2 L1 := by
  obtain ⟨mf, hmf⟩ := fuel_at 1000 (by decide)
  have hR := h.rng
  have hX := h.xnow
  unfold fX11_image fX12_image
  rcases g_box v with ⟨b, hb, rfl⟩ | ⟨g1, g2⟩
  · obtain ⟨bx, m, m1, m2, m3⟩ := h.box
    have hib : fX12_isBox (nI b) = true := by
      have : b = 0 ∨ b = 1 ∨ b = 2 := by omega
      rcases this with h | h | h <;> subst h <;> decide
    obtain ⟨I', e', f', h'⟩ := m_imgL hb 9 0 FUEL (up2 (up2 I 0 8 (nI (m ||| 2 ^ b))) 114 b (b2i true)) (by omega) (by omega)
    have e99 : up2 (up2 I 0 8 (nI (m ||| 2 ^ b))) 114 b (b2i true) 99 = I 99 := by rw [upRow _ _ (by decide), upRow _ _ (by decide)]
    have e115 : up2 (up2 I 0 8 (nI (m ||| 2 ^ b))) 114 b (b2i true) 115 = I 115 := by rw [upRow _ _ (by decide), upRow _ _ (by decide)]
    rw [e99] at e' h'
    rw [e115] at h'
    have rows : ∀ r, r ≠ 0 → r ≠ 114 → r ≠ 115 → I' r = I r := fun r a1 a2 a3 => by rw [f' r a3, upRow _ _ a2, upRow _ _ a1]
    have m8 : m ||| 2 ^ b < 8 := or_lt (b := 3) m1 hb
    refine ⟨nI (st a 8), up2 I 0 8 (nI (m ||| 2 ^ b)), up2 L 56 b (lN (pk (st a))), I', ?_, ?_, ?_⟩
    · rw [if_neg (nI_pos (by omega)), if_pos (show nI b < Int32.ofNat 3 from nI_lt (b := 3) hb (by decide)), x_packed hX hR]
      simp only [Option.bind_some, Bool.false_eq_true, if_false, if_pos (inb_nI hb (show 3 < 2 ^ 31 by decide)), clamp_nI (show b < 2 ^ 31 by omega), m2, orN (show b < 31 by omega)]
      rw [upRow _ _ (show (52 : Nat) ≠ 0 by decide), hX.2.2.2.2.2]
    · rw [hib]
      simp only [b2i_eq0, Bool.true_eq_false, if_false, if_pos (inb_nI hb (show 3 < 2 ^ 31 by decide)), clamp_nI (show b < 2 ^ 31 by omega)]
      rw [show (0 : Int32) = nI 0 from rfl, e']
      simp only [Option.bind_some]
      rw [h.mnow 8 (by decide)]
    · refine h.gen (fun r hr => rows r (by unfold base at hr; rcases h.2.1 with h | h <;> omega) (by unfold base at hr; rcases h.2.1 with h | h <;> omega) (by unfold base at hr; rcases h.2.1 with h | h <;> omega)) ?_ (fun j _ => by rw [rows 73 (by decide) (by decide) (by decide)]) (fun r hr => upRow _ _ (by rcases h.2.1 with h | h <;> omega)) (h.sky.fr (rows 57 (by decide) (by decide) (by decide)) (rows 59 (by decide) (by decide) (by decide)) (upRow _ _ (by decide)) (upRow _ _ (by decide))) ?_ (h.way.fr (by rw [rows 61 (by decide) (by decide) (by decide)]) (rows 62 (by decide) (by decide) (by decide)) (rows 103 (by decide) (by decide) (by decide)) (by rw [rows 73 (by decide) (by decide) (by decide)])) (h.look.fr (fun j _ => by rw [rows 66 (by decide) (by decide) (by decide)]) (fun r a1 a2 => rows r (by omega) (by omega) (by omega)) (fun r a1 a2 => rows r (by omega) (by omega) (by omega)) (by rw [rows 73 (by decide) (by decide) (by decide)]) (by rw [rows 73 (by decide) (by decide) (by decide)]))
      · rw [f' 0 (by decide), upRow _ _ (by decide), up2_at, if_neg (by decide)]
      · refine ⟨upB bx b (st a), m ||| 2 ^ b, m8, ?_, fun c hc => ?_⟩
        · rw [f' 0 (by decide), upRow _ _ (by decide), up2_at, if_pos ⟨rfl, rfl⟩]
        · have e114 : I' 114 c = if c = b then b2i true else I 114 c := by
            rw [f' 114 (by decide), up2_at]
            by_cases hcb : c = b
            · rw [if_pos ⟨rfl, hcb⟩, if_pos hcb]
            · rw [if_neg (fun g => hcb g.2), if_neg hcb, upRow _ _ (by decide)]
          rw [e114, Nat.testBit_or, Nat.testBit_two_pow]
          obtain ⟨n1, n2⟩ := m3 c hc
          by_cases hcb : c = b
          · subst hcb
            rw [if_pos rfl, decide_eq_true rfl, Bool.or_true]
            rw [upB_at]
            refine ⟨rfl, fun _ => ⟨by rw [up2_at, if_pos ⟨rfl, rfl⟩], hR, h.nok, fun k hk => ?_⟩⟩
            rw [h' _, if_pos (by omega), show 10 * c + k - 10 * c = k by omega]
            exact h.mnow k hk
          · rw [if_neg hcb, decide_eq_false (fun g => hcb g.symm), Bool.or_false]
            refine ⟨n1, fun hm => ?_⟩
            obtain ⟨o1, o2, o3, o4⟩ := n2 hm
            rw [upB_off hcb]
            refine ⟨by rw [up2_at, if_neg (fun g => hcb g.2)]; exact o1, o2, o3, fun k hk => ?_⟩
            rw [h' _, if_neg (by omega)]
            exact o4 k hk
  · refine ⟨-1, I, L, I, ?_, by rw [g2]; rfl, h⟩
    by_cases h0 : v < 0
    · rw [if_pos h0]; rfl
    · have h3 : ¬ v < Int32.ofNat 3 := by
        have := g1.resolve_left h0
        rw [fa_le] at this
        rw [fa_lt]
        have e : (nI 3).toInt = 3 := rfl
        have e2 : (Int32.ofNat 3).toInt = 3 := rfl
        omega
      rw [if_neg h0, if_neg h3]; rfl
theorem c_back (h : Inv T q st a u I L) (v : Int32) : ∃ r I1 L1 I2 st' a' u', fX11_back v I L = some (r, I1, L1) ∧ fX12_back v I1 = some (r, I2) ∧ Inv T q st' a' u' I2 L1 := by
  obtain ⟨mf, hmf⟩ := fuel_at 1000 (by decide)
  unfold fX11_back fX12_back
  rcases g_box v with ⟨b, hb, rfl⟩ | ⟨g1, g2⟩
  · obtain ⟨bx, m, m1, m2, m3⟩ := h.box
    obtain ⟨n1, n2⟩ := m3 b hb
    have hib : fX12_isBox (nI b) = true := by
      have : b = 0 ∨ b = 1 ∨ b = 2 := by omega
      rcases this with h | h | h <;> subst h <;> decide
    have hlt : ¬ Int32.ofNat 3 ≤ nI b := nI_ge (b := 3) hb (by decide)
    cases hm : m.testBit b with
    | false =>
      refine ⟨-1, I, L, I, st, a, u, ?_, ?_, h⟩
      · rw [if_neg (nI_pos (by omega)), if_neg hlt, m2, isBit_nI (by omega), hm]; rfl
      · rw [hib]
        simp only [b2i_eq0, Bool.true_eq_false, if_false, if_pos (inb_nI hb (show 3 < 2 ^ 31 by decide)), clamp_nI (show b < 2 ^ 31 by omega), n1, hm, if_true, Option.bind_some]
    | true =>
      obtain ⟨o1, o2, o3, o4⟩ := n2 hm
      have hu := x_unpack (I := I) o2
      have hbg : fX0_begin (lN (pk (bx b))) (nowPut (bx b) I) L = some (up2 (up2 (nowPut (bx b) I) 54 1 0) 54 2 0, up2 L 55 0 (lN (pk (bx b)))) := by
        unfold fX0_begin
        rw [if_pos (by decide)]
        rfl
      have rows1 : ∀ r, r ≠ 52 → r ≠ 53 → r ≠ 54 → up2 (up2 (nowPut (bx b) I) 54 1 0) 54 2 0 r = I r := fun r a1 a2 a3 => by rw [upRow _ _ a3, upRow _ _ a3, nowPut_off a1 a2]
      obtain ⟨I', e', f1, f2, f3, f4, h'⟩ := m_bakL hb 9 0 FUEL (up2 (up2 (nowPut (bx b) I) 54 1 0) 54 2 0) (by omega) (by omega)
      rw [rows1 115 (by decide) (by decide) (by decide), rows1 99 (by decide) (by decide) (by decide)] at h'
      have rows : ∀ r, r ≠ 52 → r ≠ 53 → r ≠ 54 → r ≠ 99 → r ≠ 73 → I' r = I r := fun r a1 a2 a3 a4 a5 => by rw [f1 r a4 a5, rows1 r a1 a2 a3]
      have hMn : MNow I' (bx b) := fun k hk => by rw [h' k, if_pos ⟨Nat.zero_le _, hk⟩]; exact o4 k hk
      have r52 : I' 52 = nowPut (bx b) I 52 := by rw [f1 52 (by decide) (by decide), upRow _ _ (by decide), upRow _ _ (by decide)]
      have r53 : I' 53 = nowPut (bx b) I 53 := by rw [f1 53 (by decide) (by decide), upRow _ _ (by decide), upRow _ _ (by decide)]
      have hXn : XNow I' (bx b) := (nowPut_now (bx b) I).of r52 r53
      have hA : ActsAt (fun _ => bx b) 0 0 I' (up2 L 55 0 (lN (pk (bx b)))) := by
        refine ⟨⟨by decide, ?_, ?_, fun i hi => ⟨?_, o2⟩⟩, ⟨f3, f4, fun i hi => by omega, fun j hj => by omega⟩, hXn, hMn⟩
        · rw [f1 54 (by decide) (by decide)]; simp [up2_at]; rfl
        · rw [f1 54 (by decide) (by decide)]; simp [up2_at]; rfl
        · rw [show i = 0 by omega, up2_at, if_pos ⟨rfl, rfl⟩]
      have fr : FrA I I' L (up2 L 55 0 (lN (pk (bx b)))) := ⟨fun r a1 a2 a3 a4 _ a6 => rows r a1 a2 a3 a4 a6, fun j a1 a2 => by rw [f2 j a1 a2, rows1 73 (by decide) (by decide) (by decide)], fun r a1 => upRow _ _ a1⟩
      refine ⟨nI (bx b 8), up2 (up2 (nowPut (bx b) I) 54 1 0) 54 2 0, up2 L 55 0 (lN (pk (bx b))), I', fun _ => bx b, 0, 0, ?_, ?_, h.act hA fr (fun i _ => o3)⟩
      · rw [if_neg (nI_pos (by omega)), if_neg hlt, m2, isBit_nI (by omega), hm]
        simp only [b2i_eq0, Bool.true_eq_false, if_false, if_pos (inb_nI hb (show 3 < 2 ^ 31 by decide)), clamp_nI (show b < 2 ^ 31 by omega), Option.bind_some, Bool.false_eq_true, o1, hu, hbg]
        rw [upRow _ _ (show (52 : Nat) ≠ 54 by decide), upRow _ _ (show (52 : Nat) ≠ 54 by decide), (nowPut_now (bx b) I).2.2.2.2.2]
      · rw [hib, rows1 114 (by decide) (by decide) (by decide)]
        simp only [b2i_eq0, Bool.true_eq_false, if_false, if_pos (inb_nI hb (show 3 < 2 ^ 31 by decide)), clamp_nI (show b < 2 ^ 31 by omega), n1, hm, Option.bind_some, Bool.false_eq_true]
        rw [show fX12_back_20 FUEL (nI b) 0 (up2 (up2 (nowPut (bx b) I) 54 1 0) 54 2 0) = some (I' 99 8, I') from e']
        simp only [Option.bind_some]
        rw [hMn 8 (by decide)]
  · refine ⟨-1, I, L, I, st, a, u, ?_, by rw [g2]; rfl, h⟩
    by_cases h0 : v < 0
    · rw [if_pos h0]; rfl
    · rw [if_neg h0, if_pos (show Int32.ofNat 3 ≤ v from g1.resolve_left h0)]; rfl
end C8
