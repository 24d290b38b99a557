/-! the calls that ask: fault, about, lies, person, door, lamp, shade -/
section C1
variable {T : Nat → Nat → Nat} {q : Nat} {st : Nat → Nat → Nat} {a u : Nat} {I : HI} {L : HL}
theorem Inv.rng (h : Inv T q st a u I L) : NRng (st a) := (h.2.2.2.2.1.1.2.2.2 a (by omega)).2
theorem Inv.xnow (h : Inv T q st a u I L) : XNow I (st a) := h.2.2.2.2.1.2.2.1
theorem Inv.mnow (h : Inv T q st a u I L) : MNow I (st a) := h.2.2.2.2.1.2.2.2
theorem Inv.nok (h : Inv T q st a u I L) : NOk T (st a) := h.2.2.2.2.2.1 a (by omega)
theorem isBit_nI {n k : Nat} (hk : k < 32) : fX11_isBit (nI n) (nI k) = n.testBit k := by rw [isBit_bt _ hk, bt_nI k hk]
theorem truth_b (b : Bool) : fX12_truth (b2i b) = if b then 1 else 0 := by cases b <;> decide
theorem c_fault (h : Inv T q st a u I L) (v : Int32) : fX11_fault v I = fX12_fault v I := by
  have h9 := h.2.2.2.2.2.2.2.2.1
  unfold fX11_fault fX12_fault
  rw [h9.1, h9.2]
theorem c_about (h : Inv T q st a u I L) (v : Int32) : fX12_about v I = some (fX11_about q v I L) := by
  have hN := h.rng
  obtain ⟨x0, x1, x2, x3, x4, x5⟩ := h.xnow
  have hm := h.mnow
  obtain ⟨hO, hq, hX, hM, hA, hK, hS, hT, hF, hB, hW, hL, hLx⟩ := h
  obtain ⟨nt, t1, t2, t3, t4⟩ := hT
  obtain ⟨nw, w1, w2, w3, w4⟩ := hW
  obtain ⟨lk, nl, tl, l1, l2, l3, l4, l5, l6, l7⟩ := hL
  have r8 := hN.2.2.2.2.2.2.2.2
  have r7 := hN.2.2.2.2.2.2.2.1
  have k1 := hA.1
  have k2 := hA.2.1
  have b8 : inb (nI 8) 10 = true := inb_nI (by decide) (by decide)
  have b7 : inb (nI 7) 10 = true := inb_nI (by decide) (by decide)
  have c8 : (nI 8).toNatClampNeg = 8 := clamp_nI (by decide)
  have c7 : (nI 7).toNatClampNeg = 7 := clamp_nI (by decide)
  have e3 : fJ13_bitCount_95d88 (L q 3) = nI (fb_ct (isW T) 64) := by
    rw [x_bits]
    congr 1
    exact fb_ct_cong (fun c hc => hX.2.1.1 c hc)
  have e9 : (if nI (st a 7) = 0 then (0 : Int32) else 1) = nI (st a 7) := by
    have : st a 7 = 0 ∨ st a 7 = 1 := by omega
    rcases this with h | h <;> rw [h] <;> decide
  have e11 : nI (a + u) - nI a = nI u := by rw [pk_sub (by omega)]; congr 1; omega
  unfold fX12_about fX11_about fX4_hourOfDay
  simp only [show (8 : Int32) = nI 8 from rfl, show (7 : Int32) = nI 7 from rfl, b8, b7, c8, c7, if_true, hm 8 (by decide), hm 7 (by decide), x4, x5, hM.1.1, hM.1.2.1, hM.2.1, hM.2.2.1, hM.2.2.2.1, hM.2.2.2.2.1, hM.2.2.2.2.2.2.1, k2.1, k2.2.1, k1.2.1, k1.2.2.1, l3, l4, l5, l6, t2, t3, w2, w3, e3, e9, e11, hX.1.1, hX.1.2.1, hX.2.2.2.2.1, hX.2.2.2.2.2.2.1, hX.2.2.2.2.2.2.2.2.1, hX.2.2.2.2.2.2.2.2.2.2.2.2.1]
  simp only [apply_ite some]
theorem c_lies (h : Inv T q st a u I L) (v : Int32) : ∃ r, fX11_lies v I = some r ∧ fX12_lies v I = some r := by
  obtain ⟨n, h1, h2, h3, h4⟩ := h.2.2.2.2.2.2.2.2.2.2.1
  unfold fX11_lies fX12_lies
  rw [h2, h3]
  rcases isIn_0 (n := n) (by omega) v with ⟨k, k1, k3, k4⟩ | ⟨k1, k3⟩
  · rw [k4, k3, if_neg (nI_pos (by omega)), if_neg (nI_ge k1 (by omega))]
    simp only [Option.bind_some, Bool.false_eq_true, if_false, if_pos (inb_nI (show k < 48 by omega) (by decide)), clamp_nI (show k < 2 ^ 31 by omega), h4 k k1]
    exact ⟨_, rfl, rfl⟩
  · rw [k3]
    refine ⟨-1, ?_, rfl⟩
    by_cases h0 : v < 0
    · rw [if_pos h0]; rfl
    · rw [if_neg h0, if_pos (k1.resolve_left h0)]; rfl
theorem c_person (h : Inv T q st a u I L) (v w : Int32) : ∃ r, fX11_person q v w I = some r ∧ fX12_person v w I = some r := by
  have hN := h.rng
  obtain ⟨x0, x1, x2, x3, x4, x5⟩ := h.xnow
  have hm := h.mnow
  have h4 := h.1.2.2.2.1
  have r4 := hN.2.2.2.2.1
  unfold fX11_person fX12_person fX12_isPerson
  rcases g_thing (t := q + 13) (j := 57) (J := I) h.2.2.1.2.2.2.2.2.2.2.2.1 h.2.2.2.1.2.2.2.2.1 (by omega) v with ⟨k, k1, k2, k3, k4⟩ | ⟨k1, k2⟩
  · rw [k3, k4, k2]
    simp only [b2i_eq0, Bool.true_eq_false, if_false, if_pos (inb_nI (show k < 4 by omega) (show 4 < 2 ^ 31 by decide)), if_pos (inb_nI (show k < 10 by omega) (show 10 < 2 ^ 31 by decide)), clamp_nI (show k < 2 ^ 31 by omega), x0 k (by omega), hm k (by omega), x1, isBit_nI (show k < 32 by omega), show (4 : Int32) = nI 4 from rfl, if_pos (inb_nI (show 4 < 10 by decide) (show 10 < 2 ^ 31 by decide)), clamp_nI (show 4 < 2 ^ 31 by decide), hm 4 (by decide), sbit (show st a 4 < 2 ^ 31 by omega) (show k < 31 by omega)]
    split
    · exact ⟨_, rfl, rfl⟩
    · split
      · cases (st a 4).testBit k <;> exact ⟨_, rfl, rfl⟩
      · exact ⟨_, rfl, rfl⟩
  · rw [k1, k2]
    exact ⟨-1, rfl, rfl⟩
theorem c_door (h : Inv T q st a u I L) (v w : Int32) : ∃ r I2, fX11_door q v w I = some r ∧ fX12_door v w I = some (r, I2) ∧ Inv T q st a u I2 L := by
  have hN := h.rng
  obtain ⟨x0, x1, x2, x3, x4, x5⟩ := h.xnow
  have hm := h.mnow
  have h8 := h.1.2.1
  obtain ⟨c1, _, _⟩ := cap1 h.2.1
  have r5 := hN.2.2.2.2.2.1
  have r8 := hN.2.2.2.2.2.2.2.2
  unfold fX11_door fX12_door fX12_isDoor
  rcases g_thing (t := q + 1) (j := 55) (J := I) h.2.2.1.2.2.2.2.1 h.2.2.2.1.2.2.1 (by omega) v with ⟨k, k1, k2, k3, k4⟩ | ⟨k1, k2⟩
  · obtain ⟨I2, e2, a2, f2⟩ := m_load (n := 0) hN (by decide) hm
    have hI2 := h.fm (f2 L)
    obtain ⟨t1, t2, t3, t4, t5⟩ := h.1.2.2.2.2.2.2.1 k k1
    obtain ⟨d1, d2, d3, d4⟩ := h.2.2.1.2.2.2.2.2.1 k k1
    obtain ⟨m1, m2, m3, m4⟩ := hI2.2.2.2.1.2.2.2.2.2.2.2.1 k k1
    have hop := m_isOpen h.1 hI2.2.2.2.1 a2 k1 (Nat.mod_lt _ (by decide)) (by omega)
    have hin := x_inHrs (I := I) (t := q + 1) (i := k) (hr := st a 8 % 24) (b := T 4 k) (e := T 5 k) (by rw [c1]; omega) d3 d4 (by omega) (by omega) (by omega)
    have hod : fX4_hourOfDay I = nI (st a 8 % 24) := by
      unfold fX4_hourOfDay
      rw [x5]
      exact pk_rem (d := 24) (by omega) (by decide) (by decide)
    rw [show nI 0 = (0 : Int32) from rfl] at e2
    rw [k3, k4, e2, k2, hod, hin, c1]
    simp only [b2i_eq0, Bool.true_eq_false, if_false, Option.bind_some, if_pos (inb_nI (show k < 8 by omega) (show 8 < 2 ^ 31 by decide)), clamp_nI (show k < 2 ^ 31 by omega), show (5 : Int32) = nI 5 from rfl, if_pos (inb_nI (show 5 < 10 by decide) (show 10 < 2 ^ 31 by decide)), clamp_nI (show 5 < 2 ^ 31 by decide), hI2.mnow 5 (by decide), sbit (show st a 5 < 2 ^ 31 by omega) (show k < 31 by omega), x2, isBit_nI (show k < 32 by omega), hop, truth_b, m1, m2]
    rw [show I (q + 1 + 2) k = nI (T 2 k) from d1, show I (q + 1 + 3) k = nI (T 3 k) from d2]
    split
    · exact ⟨_, _, rfl, rfl, hI2⟩
    · split
      · exact ⟨_, _, rfl, rfl, hI2⟩
      · split
        · refine ⟨_, _, ?_, rfl, hI2⟩
          unfold opnA
          rw [Nat.add_zero]
          cases decide (T 4 k ≤ st a 8 % 24 ∧ st a 8 % 24 < T 5 k) <;> cases (st a 5).testBit k <;> rfl
        · split
          · refine ⟨_, _, ?_, rfl, hI2⟩
            cases (st a 5).testBit k <;> rfl
          · exact ⟨_, _, rfl, rfl, hI2⟩
  · rw [k1, k2]
    exact ⟨-1, I, rfl, rfl, h⟩
theorem c_lamp (h : Inv T q st a u I L) (v w : Int32) : ∃ r I2, fX11_lamp q v w I = some r ∧ fX12_lamp v w I = some (r, I2) ∧ Inv T q st a u I2 L := by
  have hN := h.rng
  obtain ⟨x0, x1, x2, x3, x4, x5⟩ := h.xnow
  have hm := h.mnow
  have h8 := h.1.2.2.1
  obtain ⟨_, c1, _⟩ := cap1 h.2.1
  have r6 := hN.2.2.2.2.2.2.1
  have r8 := hN.2.2.2.2.2.2.2.2
  unfold fX11_lamp fX12_lamp fX12_isLamp
  rcases g_thing (t := q + 7) (j := 56) (J := I) h.2.2.1.2.2.2.2.2.2.1 h.2.2.2.1.2.2.2.1 (by omega) v with ⟨k, k1, k2, k3, k4⟩ | ⟨k1, k2⟩
  · obtain ⟨I2, e2, a2, f2⟩ := m_load (n := 0) hN (by decide) hm
    have hI2 := h.fm (f2 L)
    obtain ⟨t1, t2, t3⟩ := h.1.2.2.2.2.2.2.2.1 k k1
    obtain ⟨d1, d2, d3⟩ := h.2.2.1.2.2.2.2.2.2.2.1 k k1
    obtain ⟨m1, m2, m3⟩ := hI2.2.2.2.1.2.2.2.2.2.2.2.2.1 k k1
    have hop := m_isLit h.1 hI2.2.2.2.1 a2 k1 (Nat.mod_lt _ (by decide)) (by omega) (by decide)
    have hin := x_inHrs (I := I) (t := q + 7) (i := k) (hr := st a 8 % 24) (b := T 7 k) (e := T 8 k) (by rw [c1]; omega) d2 d3 (by omega) (by omega) (by omega)
    have hod : fX4_hourOfDay I = nI (st a 8 % 24) := by
      unfold fX4_hourOfDay
      rw [x5]
      exact pk_rem (d := 24) (by omega) (by decide) (by decide)
    rw [show nI 0 = (0 : Int32) from rfl] at e2
    rw [k3, k4, e2, k2, hod, hin, c1]
    simp only [b2i_eq0, Bool.true_eq_false, if_false, Option.bind_some, if_pos (inb_nI (show k < 4 by omega) (show 4 < 2 ^ 31 by decide)), clamp_nI (show k < 2 ^ 31 by omega), show (6 : Int32) = nI 6 from rfl, if_pos (inb_nI (show 6 < 10 by decide) (show 10 < 2 ^ 31 by decide)), clamp_nI (show 6 < 2 ^ 31 by decide), hI2.mnow 6 (by decide), sbit (show st a 6 < 2 ^ 31 by omega) (show k < 31 by omega), x3, isBit_nI (show k < 32 by omega), hop, truth_b, m1]
    rw [show I (q + 7 + 2) k = nI (T 6 k) from d1]
    split
    · exact ⟨_, _, rfl, rfl, hI2⟩
    · split
      · refine ⟨_, _, ?_, rfl, hI2⟩
        unfold litA
        rw [Nat.add_zero, Nat.zero_testBit]
        cases decide (T 7 k ≤ st a 8 % 24 ∧ st a 8 % 24 < T 8 k) <;> cases (st a 6).testBit k <;> rfl
      · split
        · refine ⟨_, _, ?_, rfl, hI2⟩
          cases (st a 6).testBit k <;> rfl
        · exact ⟨_, _, rfl, rfl, hI2⟩
  · rw [k1, k2]
    exact ⟨-1, I, rfl, rfl, h⟩
theorem FX.of21 {I I' : HI} {L : HL} (h : ∀ a, a ≠ q + 19 + 2 → I' a = I a) : FX q I I' L L := ⟨fun a h1 _ _ _ => h a h1, fun _ _ _ => rfl⟩
theorem c_shade (h : Inv T q st a u I L) (v w : Int32) : ∃ r I1 I2, fX11_shade q v w I = some (r, I1) ∧ fX12_shade v w I1 = some (r, I2) ∧ Inv T q st a u I2 L := by
  have hN := h.rng
  obtain ⟨x0, x1, x2, x3, x4, x5⟩ := h.xnow
  have h8 := h.1.2.1
  obtain ⟨c1, _, _⟩ := cap1 h.2.1
  have r8 := hN.2.2.2.2.2.2.2.2
  have hF := h.1.2.2.2.2.2.2.2.2.2.1
  unfold fX11_shade fX12_shade fX12_isDoor
  rcases g_thing (t := q + 1) (j := 55) (J := I) h.2.2.1.2.2.2.2.1 h.2.2.2.1.2.2.1 (by omega) v with ⟨k, k1, k2, k3, k4⟩ | ⟨k1, k2⟩
  · rcases g_far w with ⟨n, n1, n2, n3, n4⟩ | ⟨n1, n2⟩
    · obtain ⟨I1, e1, f1⟩ := x_val (u := q + 19) (nI (T 3 k)) (nI ((st a 8 + n) % 24)) (nI ((st a 8 + n) / 24)) hF h.2.2.1.2.2.2.2.2.2.2.2.2.2.2.1
      have hS1 : SkyOk T I1 L := h.2.2.2.2.2.2.1.fr (f1 57 (by rcases h.2.1 with h | h <;> omega)) (f1 59 (by rcases h.2.1 with h | h <;> omega)) rfl rfl
      have hI1 := h.fx (FX.of21 f1) hS1
      obtain ⟨I2, e2, a2, f2⟩ := m_load (n := n) hN (by omega) hI1.mnow
      have hI2 := hI1.fm (f2 L)
      obtain ⟨I3, e3, f3⟩ := m_shade (nI (T 3 k)) (nI ((st a 8 + n) % 24)) (nI ((st a 8 + n) / 24)) hF hI2.2.2.2.1.2.2.2.2.2.2.2.2.2.2
      have hI3 := hI2.fm (FM.of81 (L := L) (L' := L) f3 (fun _ _ _ => rfl))
      refine ⟨evF T (nI (T 3 k)) (nI ((st a 8 + n) % 24)) (nI ((st a 8 + n) / 24)), I1, I3, ?_, ?_, hI3⟩
      · rw [k3, n3, k2, n2, c1]
        simp only [b2i_eq0, Bool.true_eq_false, if_false, Option.bind_some, Bool.false_eq_true, if_pos (inb_nI (show k < 8 by omega) (show 8 < 2 ^ 31 by decide)), clamp_nI (show k < 2 ^ 31 by omega), x5, nI_add, show (24 : Int32) = nI 24 from rfl]
        rw [pk_rem (by omega) (by decide) (by decide), pk_div (by omega) (by decide) (by decide), show I (q + 1 + 3) k = nI (T 3 k) from (h.2.2.1.2.2.2.2.2.1 k k1).2.1, e1]
        rfl
      · have e73 : I1 73 55 = I 73 55 := by rw [f1 73 (by rcases h.2.1 with h | h <;> omega)]
        rw [e73, k4, n4, k2, n2, e2]
        simp only [b2i_eq0, Bool.true_eq_false, if_false, Option.bind_some, Bool.false_eq_true, if_pos (inb_nI (show k < 8 by omega) (show 8 < 2 ^ 31 by decide)), clamp_nI (show k < 2 ^ 31 by omega), (hI2.2.2.2.1.2.2.2.2.2.2.2.1 k k1).2.1, a2.1, a2.2.1]
        rw [e3]
        rfl
    · rw [k3, n1]
      exact ⟨_, I, I, rfl, by rw [k4, n2]; rfl, h⟩
  · rw [k1]
    exact ⟨_, I, I, rfl, by rw [k2]; rfl, h⟩
end C1
