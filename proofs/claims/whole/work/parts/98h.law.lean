/-! the law, step by step -/
section LAW
variable {sN : Nat} {sS : Nat → Int32} {T : Nat → Nat → Nat} {q dr tl ff : Nat} {st : Nat → Nat → Nat} {a u : Nat} {I : HI} {L : HL}
theorem Inv.tape {J : HI} (h : Inv T q st a u I L) (hT : TapeOk J) (k1 : ∀ k, k ≠ 0 → k ≠ 1 → k ≠ 73 → k ≠ 74 → J k = I k) (k2 : ∀ j, j ≠ 1 → J 0 j = I 0 j ∧ J 73 j = I 73 j) : Inv T q st a u J L := by
  obtain ⟨h1, h2, h3, h4, h5, h6, h7, h8, h9, h10, h11, h12, h13⟩ := h
  have r : ∀ b, 2 ≤ b → b ≠ 73 → b ≠ 74 → J b = I b := fun b b1 b2 b3 => k1 b (by omega) (by omega) b2 b3
  have q2 : 2 ≤ q ∧ q + 22 < 48 := by rcases h2 with e | e <;> omega
  refine ⟨h1, h2, h3.fr (fun b b1 b2 => r b (by omega) (by omega) (by omega)) ⟨rfl, rfl⟩, h4.fr2 (fun b hb => r b (by omega) (by omega) (by omega)) (fun j hj => (k2 j (by omega)).2) rfl, h5.fr (r 52 (by decide) (by decide) (by decide)) (r 53 (by decide) (by decide) (by decide)) (r 54 (by decide) (by decide) (by decide)) (r 99 (by decide) (by decide) (by decide)) (r 102 (by decide) (by decide) (by decide)) (k2 73 (by decide)).2 (k2 74 (by decide)).2 rfl, h6, h7.fr (r 57 (by decide) (by decide) (by decide)) (r 59 (by decide) (by decide) (by decide)) rfl rfl, hT, ?_, h10.fr (k2 8 (by decide)).1 (r 114 (by decide) (by decide) (by decide)) (r 115 (by decide) (by decide) (by decide)) rfl, h11.fr (by rw [r 61 (by decide) (by decide) (by decide)]) (r 62 (by decide) (by decide) (by decide)) (r 103 (by decide) (by decide) (by decide)) (k2 76 (by decide)).2, h12.fr (fun j _ => by rw [r 66 (by decide) (by decide) (by decide)]) (fun b b1 b2 => r b (by omega) (by omega) (by omega)) (fun b b1 b2 => r b (by omega) (by omega) (by omega)) (k2 86 (by decide)).2 (k2 87 (by decide)).2, h13⟩
  unfold FaultOk at *
  rw [r 48 (by decide) (by decide) (by decide), (k2 2 (by decide)).2, (k2 3 (by decide)).2]
  exact h9
set_option maxRecDepth 100000 in
set_option maxHeartbeats 40000000 in
theorem law_step {i fu : Nat} (hN : sN ≤ 3072) (hi : i + 6 ≤ sN) (h : Inv T q st a u I L) (hd : isQ2 dr) (hne : dr ≠ q) (ht : isQ2 tl) (ih : ∀ (T : Nat → Nat → Nat) (q dr tl ff : Nat) (st : Nat → Nat → Nat) (a u : Nat) (I : HI) (L : HL), Inv T q st a u I L → isQ2 dr → dr ≠ q → isQ2 tl → fL_law_18 sN sS fu (nI (i + 6)) q dr q tl ff I L = some true) : fL_law_18 sN sS (fu + 1) (nI i) q dr q tl ff I L = some true := by
  have hc : ¬ ((Int32.ofNat sN) - (6 : Int32)) < nI i := by
    rw [show Int32.ofNat sN = nI sN from rfl, show (6 : Int32) = nI 6 from rfl, pk_sub (by omega)]
    exact nI_nlt (by omega) (by omega)
  have b0 : inb (nI i) sN = true := inb_nI (by omega) (by omega)
  have b1 : inb (nI i + (1 : Int32)) sN = true := by rw [nI_1]; exact inb_nI (by omega) (by omega)
  have b2 : inb (nI i + (2 : Int32)) sN = true := by rw [show (2 : Int32) = nI 2 from rfl, nI_add]; exact inb_nI (by omega) (by omega)
  have b3 : inb (nI i + (3 : Int32)) sN = true := by rw [show (3 : Int32) = nI 3 from rfl, nI_add]; exact inb_nI (by omega) (by omega)
  have b4 : inb (nI i + (4 : Int32)) sN = true := by rw [show (4 : Int32) = nI 4 from rfl, nI_add]; exact inb_nI (by omega) (by omega)
  have b5 : inb (nI i + (5 : Int32)) sN = true := by rw [show (5 : Int32) = nI 5 from rfl, nI_add]; exact inb_nI (by omega) (by omega)
  have a6 : nI i + (6 : Int32) = nI (i + 6) := nI_add i 6
  rw [fL_law_18, if_neg hc, if_pos b0]
  generalize (sS (nI i).toNatClampNeg) &&& (63 : Int32) = x
  by_cases c0 : x = (0 : Int32)
  · rw [if_pos c0]
    obtain ⟨r, I1, I2, e1, e2, e3, e4, e5⟩ := tape_feed (sS (nI i + (1 : Int32)).toNatClampNeg) (sS (nI i + (2 : Int32)).toNatClampNeg) (sS (nI i + (3 : Int32)).toNatClampNeg) (sS (nI i + (4 : Int32)).toNatClampNeg) (sS (nI i + (5 : Int32)).toNatClampNeg) h.2.2.2.2.2.2.2.1
    simp only [b1, b2, b3, b4, b5, Option.bind_some, if_true, a6, e1, e2]
    exact ih T q dr tl ff st a u I2 L (h.tape e3 e4 e5) hd hne ht
  rw [if_neg c0]
  by_cases c1 : x = (1 : Int32)
  · rw [if_pos c1]
    obtain ⟨r, I1, I2, e1, e2, e3, e4, e5⟩ := tape_end (sS (nI i + (1 : Int32)).toNatClampNeg) h.2.2.2.2.2.2.2.1
    simp only [b1, b2, b3, b4, b5, Option.bind_some, if_true, a6, obn_eq, e1, e2]
    exact ih T q dr tl ff st a u I2 L (h.tape e3 e4 e5) hd hne ht
  rw [if_neg c1]
  by_cases c2 : x = (2 : Int32)
  · rw [if_pos c2]
    obtain ⟨r, q', d', t', f', I1, L1, I2, L2, T', st', a', u', e1, g1, g2, g3, g4, e2, hI⟩ := c_quarter h hd hne tl ff
    rw [e1, Option.bind_some]
    simp only
    rw [if_pos ⟨g1, g2, g1, g4⟩, e2, Option.bind_some]
    simp only [if_true, a6]
    exact ih T' q' d' t' f' st' a' u' I2 L2 hI g2 g3 g4
  rw [if_neg c2]
  by_cases c3 : x = (3 : Int32)
  · rw [if_pos c3]
    simp only [b1, if_true, a6]
    rw [if_pos (c_fault h _)]
    exact ih T q dr tl ff st a u I L h hd hne ht
  rw [if_neg c3]
  by_cases c4 : x = (4 : Int32)
  · rw [if_pos c4]
    obtain ⟨r, I2, e1, e2, hI⟩ := c_door h (sS (nI i + (1 : Int32)).toNatClampNeg) (sS (nI i + (2 : Int32)).toNatClampNeg)
    simp only [b1, b2, b3, b4, b5, Option.bind_some, if_true, a6, e1, e2]
    exact ih T q dr tl ff st a u I2 L hI hd hne ht
  rw [if_neg c4]
  by_cases c5 : x = (5 : Int32)
  · rw [if_pos c5]
    obtain ⟨r, I2, e1, e2, hI⟩ := c_lamp h (sS (nI i + (1 : Int32)).toNatClampNeg) (sS (nI i + (2 : Int32)).toNatClampNeg)
    simp only [b1, b2, b3, b4, b5, Option.bind_some, if_true, a6, e1, e2]
    exact ih T q dr tl ff st a u I2 L hI hd hne ht
  rw [if_neg c5]
  by_cases c6 : x = (6 : Int32)
  · rw [if_pos c6]
    obtain ⟨r, e1, e2⟩ := c_person h (sS (nI i + (1 : Int32)).toNatClampNeg) (sS (nI i + (2 : Int32)).toNatClampNeg)
    simp only [b1, b2, b3, b4, b5, Option.bind_some, if_true, a6, e1, e2]
    exact ih T q dr tl ff st a u I L h hd hne ht
  rw [if_neg c6]
  by_cases c7 : x = (7 : Int32)
  · rw [if_pos c7]
    obtain ⟨r, I1, I2, e1, e2, hI⟩ := c_shade h (sS (nI i + (1 : Int32)).toNatClampNeg) (sS (nI i + (2 : Int32)).toNatClampNeg)
    simp only [b1, b2, b3, b4, b5, Option.bind_some, if_true, a6, e1, e2]
    exact ih T q dr tl ff st a u I2 L hI hd hne ht
  rw [if_neg c7]
  by_cases c8 : x = (8 : Int32)
  · rw [if_pos c8]
    obtain ⟨r, I1, L1, I2, e1, e2, hI⟩ := c_shadow h (sS (nI i + (1 : Int32)).toNatClampNeg) (sS (nI i + (2 : Int32)).toNatClampNeg)
    simp only [b1, b2, b3, b4, b5, Option.bind_some, if_true, a6, e1, e2]
    exact ih T q dr tl ff st a u I2 L1 hI hd hne ht
  rw [if_neg c8]
  by_cases c9 : x = (9 : Int32)
  · rw [if_pos c9]
    obtain ⟨bb, hbb⟩ : ∃ b, (if (sS (nI i + (2 : Int32)).toNatClampNeg) = 0 then some false else some true) = some b := by
      split <;> exact ⟨_, rfl⟩
    obtain ⟨r, I1, L1, I2, L2, e1, e2, hI⟩ := c_shades h (sS (nI i + (1 : Int32)).toNatClampNeg) (b2i bb)
    simp only [b1, b2, b3, b4, b5, Option.bind_some, if_true, a6, hbb, e1, e2]
    exact ih T q dr tl ff st a u I2 L2 hI hd hne ht
  rw [if_neg c9]
  by_cases c10 : x = (10 : Int32)
  · rw [if_pos c10]
    obtain ⟨r, I1, L1, I2, L2, e1, e2, hI⟩ := c_moves h (sS (nI i + (1 : Int32)).toNatClampNeg) (sS (nI i + (2 : Int32)).toNatClampNeg)
    simp only [b1, b2, b3, b4, b5, Option.bind_some, if_true, a6, e1, e2]
    exact ih T q dr tl ff st a u I2 L2 hI hd hne ht
  rw [if_neg c10]
  by_cases c11 : x = (11 : Int32)
  · rw [if_pos c11]
    obtain ⟨r, I1, L1, I2, L2, st', a', u', e1, e2, hI⟩ := c_go h (sS (nI i + (1 : Int32)).toNatClampNeg) (sS (nI i + (2 : Int32)).toNatClampNeg)
    simp only [b1, b2, b3, b4, b5, Option.bind_some, if_true, a6, e1, e2]
    exact ih T q dr tl ff st' a' u' I2 L2 hI hd hne ht
  rw [if_neg c11]
  by_cases c12 : x = (12 : Int32)
  · rw [if_pos c12]
    obtain ⟨r, I1, L1, I2, st', a', u', e1, e2, hI⟩ := c_hour h 
    simp only [b1, b2, b3, b4, b5, Option.bind_some, if_true, a6, e1, e2]
    exact ih T q dr tl ff st' a' u' I2 L1 hI hd hne ht
  rw [if_neg c12]
  by_cases c13 : x = (13 : Int32)
  · rw [if_pos c13]
    obtain ⟨r, I1, L1, I2, st', a', u', e1, e2, hI⟩ := c_shut h (sS (nI i + (1 : Int32)).toNatClampNeg)
    simp only [b1, b2, b3, b4, b5, Option.bind_some, if_true, a6, e1, e2]
    exact ih T q dr tl ff st' a' u' I2 L1 hI hd hne ht
  rw [if_neg c13]
  by_cases c14 : x = (14 : Int32)
  · rw [if_pos c14]
    obtain ⟨r, I1, L1, I2, st', a', u', e1, e2, hI⟩ := c_out h (sS (nI i + (1 : Int32)).toNatClampNeg)
    simp only [b1, b2, b3, b4, b5, Option.bind_some, if_true, a6, e1, e2]
    exact ih T q dr tl ff st' a' u' I2 L1 hI hd hne ht
  rw [if_neg c14]
  by_cases c15 : x = (15 : Int32)
  · rw [if_pos c15]
    obtain ⟨r, I1, L1, I2, st', a', u', e1, e2, hI⟩ := c_ecl h 
    simp only [b1, b2, b3, b4, b5, Option.bind_some, if_true, a6, e1, e2]
    exact ih T q dr tl ff st' a' u' I2 L1 hI hd hne ht
  rw [if_neg c15]
  by_cases c16 : x = (16 : Int32)
  · rw [if_pos c16]
    obtain ⟨r, I1, I2, a', u', e1, e2, hI⟩ := c_undo h
    simp only [b1, b2, b3, b4, b5, Option.bind_some, if_true, a6, e1, e2]
    exact ih T q dr tl ff st a' u' I2 L hI hd hne ht
  rw [if_neg c16]
  by_cases c17 : x = (17 : Int32)
  · rw [if_pos c17]
    obtain ⟨r, I1, I2, a', u', e1, e2, hI⟩ := c_redo h
    simp only [b1, b2, b3, b4, b5, Option.bind_some, if_true, a6, e1, e2]
    exact ih T q dr tl ff st a' u' I2 L hI hd hne ht
  rw [if_neg c17]
  by_cases c18 : x = (18 : Int32)
  · rw [if_pos c18]
    obtain ⟨r, I1, L1, I2, L2, e1, e2, hI⟩ := c_soonest h (sS (nI i + (1 : Int32)).toNatClampNeg) (sS (nI i + (2 : Int32)).toNatClampNeg)
    simp only [b1, b2, b3, b4, b5, Option.bind_some, if_true, a6, e1, e2]
    exact ih T q dr tl ff st a u I2 L2 hI hd hne ht
  rw [if_neg c18]
  by_cases c19 : x = (19 : Int32)
  · rw [if_pos c19]
    obtain ⟨r, I1, L1, I2, L2, e1, e2, hI⟩ := c_reach h (sS (nI i + (1 : Int32)).toNatClampNeg) (sS (nI i + (2 : Int32)).toNatClampNeg)
    simp only [b1, b2, b3, b4, b5, Option.bind_some, if_true, a6, e1, e2]
    exact ih T q dr tl ff st a u I2 L2 hI hd hne ht
  rw [if_neg c19]
  by_cases c20 : x = (20 : Int32)
  · rw [if_pos c20]
    obtain ⟨r, I1, L1, I2, L2, e1, e2, hI⟩ := c_meet h (sS (nI i + (1 : Int32)).toNatClampNeg) (sS (nI i + (2 : Int32)).toNatClampNeg) (sS (nI i + (3 : Int32)).toNatClampNeg)
    simp only [b1, b2, b3, b4, b5, Option.bind_some, if_true, a6, e1, e2]
    exact ih T q dr tl ff st a u I2 L2 hI hd hne ht
  rw [if_neg c20]
  by_cases c21 : x = (21 : Int32)
  · rw [if_pos c21]
    obtain ⟨r, I1, L1, I2, L2, e1, e2, hI⟩ := c_barred h (sS (nI i + (1 : Int32)).toNatClampNeg) (sS (nI i + (2 : Int32)).toNatClampNeg)
    simp only [b1, b2, b3, b4, b5, Option.bind_some, if_true, a6, e1, e2]
    exact ih T q dr tl ff st a u I2 L2 hI hd hne ht
  rw [if_neg c21]
  by_cases c22 : x = (22 : Int32)
  · rw [if_pos c22]
    obtain ⟨r, I1, L1, I2, e1, e2, hI⟩ := c_longest h (sS (nI i + (1 : Int32)).toNatClampNeg) (sS (nI i + (2 : Int32)).toNatClampNeg)
    simp only [b1, b2, b3, b4, b5, Option.bind_some, if_true, a6, e1, e2]
    exact ih T q dr tl ff st a u I2 L1 hI hd hne ht
  rw [if_neg c22]
  by_cases c23 : x = (23 : Int32)
  · rw [if_pos c23]
    obtain ⟨r, I1, L1, I2, e1, e2, hI⟩ := c_cross h (sS (nI i + (1 : Int32)).toNatClampNeg) (sS (nI i + (2 : Int32)).toNatClampNeg) (sS (nI i + (3 : Int32)).toNatClampNeg)
    simp only [b1, b2, b3, b4, b5, Option.bind_some, if_true, a6, e1, e2]
    exact ih T q dr tl ff st a u I2 L1 hI hd hne ht
  rw [if_neg c23]
  by_cases c24 : x = (24 : Int32)
  · rw [if_pos c24]
    obtain ⟨r, I1, L1, I2, L2, e1, e2, hI⟩ := c_rooms h (sS (nI i + (1 : Int32)).toNatClampNeg)
    simp only [b1, b2, b3, b4, b5, Option.bind_some, if_true, a6, e1, e2]
    exact ih T q dr tl ff st a u I2 L2 hI hd hne ht
  rw [if_neg c24]
  by_cases c25 : x = (25 : Int32)
  · rw [if_pos c25]
    obtain ⟨r, I1, L1, I2, L2, e1, e2, hI⟩ := c_hears h (sS (nI i + (1 : Int32)).toNatClampNeg) (sS (nI i + (2 : Int32)).toNatClampNeg) (sS (nI i + (3 : Int32)).toNatClampNeg)
    simp only [b1, b2, b3, b4, b5, Option.bind_some, if_true, a6, e1, e2]
    exact ih T q dr tl ff st a u I2 L2 hI hd hne ht
  rw [if_neg c25]
  by_cases c26 : x = (26 : Int32)
  · rw [if_pos c26]
    obtain ⟨r, I1, L1, I2, L2, e1, e2, hI⟩ := c_keep h (sS (nI i + (1 : Int32)).toNatClampNeg) (sS (nI i + (2 : Int32)).toNatClampNeg) (sS (nI i + (3 : Int32)).toNatClampNeg) (sS (nI i + (4 : Int32)).toNatClampNeg)
    simp only [b1, b2, b3, b4, b5, Option.bind_some, if_true, a6, e1, e2]
    exact ih T q dr tl ff st a u I2 L2 hI hd hne ht
  rw [if_neg c26]
  by_cases c27 : x = (27 : Int32)
  · rw [if_pos c27]
    obtain ⟨r, I1, L1, I2, L2, e1, e2, hI⟩ := c_free h (sS (nI i + (1 : Int32)).toNatClampNeg) (sS (nI i + (2 : Int32)).toNatClampNeg) (sS (nI i + (3 : Int32)).toNatClampNeg) (sS (nI i + (4 : Int32)).toNatClampNeg)
    simp only [b1, b2, b3, b4, b5, Option.bind_some, if_true, a6, e1, e2]
    exact ih T q dr tl ff st a u I2 L2 hI hd hne ht
  rw [if_neg c27]
  by_cases c28 : x = (28 : Int32)
  · rw [if_pos c28]
    obtain ⟨r, I1, L1, I2, L2, e1, e2, hI⟩ := c_surest h (sS (nI i + (1 : Int32)).toNatClampNeg) (sS (nI i + (2 : Int32)).toNatClampNeg) (sS (nI i + (3 : Int32)).toNatClampNeg) (sS (nI i + (4 : Int32)).toNatClampNeg)
    simp only [b1, b2, b3, b4, b5, Option.bind_some, if_true, a6, e1, e2]
    exact ih T q dr tl ff st a u I2 L2 hI hd hne ht
  rw [if_neg c28]
  by_cases c29 : x = (29 : Int32)
  · rw [if_pos c29]
    obtain ⟨r, I1, L1, I2, L2, e1, e2, hI⟩ := c_dates h (sS (nI i + (1 : Int32)).toNatClampNeg) (sS (nI i + (2 : Int32)).toNatClampNeg) (sS (nI i + (3 : Int32)).toNatClampNeg) (sS (nI i + (4 : Int32)).toNatClampNeg)
    simp only [b1, b2, b3, b4, b5, Option.bind_some, if_true, a6, e1, e2]
    exact ih T q dr tl ff st a u I2 L2 hI hd hne ht
  rw [if_neg c29]
  by_cases c30 : x = (30 : Int32)
  · rw [if_pos c30]
    obtain ⟨r, e1, e2⟩ := c_lies h (sS (nI i + (1 : Int32)).toNatClampNeg)
    simp only [b1, b2, b3, b4, b5, Option.bind_some, if_true, a6, e1, e2]
    exact ih T q dr tl ff st a u I L h hd hne ht
  rw [if_neg c30]
  by_cases c31 : x = (31 : Int32)
  · rw [if_pos c31]
    obtain ⟨bb, hbb⟩ : ∃ b, (if (sS (nI i + (3 : Int32)).toNatClampNeg) = 0 then some false else some true) = some b := by
      split <;> exact ⟨_, rfl⟩
    obtain ⟨r, I1, I2, e1, e2, hI⟩ := c_look h (sS (nI i + (1 : Int32)).toNatClampNeg) (sS (nI i + (2 : Int32)).toNatClampNeg) bb
    simp only [b1, b2, b3, b4, b5, Option.bind_some, if_true, a6, hbb, e1, e2]
    exact ih T q dr tl ff st a u I2 L hI hd hne ht
  rw [if_neg c31]
  by_cases c32 : x = (32 : Int32)
  · rw [if_pos c32]
    obtain ⟨r, I1, I2, e1, e2, hI⟩ := c_untell h (sS (nI i + (1 : Int32)).toNatClampNeg)
    simp only [b1, b2, b3, b4, b5, Option.bind_some, if_true, a6, e1, e2]
    exact ih T q dr tl ff st a u I2 L hI hd hne ht
  rw [if_neg c32]
  by_cases c33 : x = (33 : Int32)
  · rw [if_pos c33]
    obtain ⟨hI, he⟩ := c_later h (sS (nI i + (1 : Int32)).toNatClampNeg)
    simp only [b1, if_true, obn_eq, a6]
    rw [if_pos he.symm]
    exact ih T q dr tl ff st a u _ L hI hd hne ht
  rw [if_neg c33]
  by_cases c34 : x = (34 : Int32)
  · rw [if_pos c34]
    obtain ⟨r, I1, L1, I2, L2, e1, e2, hI⟩ := c_fit h (sS (nI i + (1 : Int32)).toNatClampNeg)
    simp only [b1, b2, b3, b4, b5, Option.bind_some, if_true, a6, e1, e2]
    exact ih T q dr tl ff st a u I2 L2 hI hd hne ht
  rw [if_neg c34]
  by_cases c35 : x = (35 : Int32)
  · rw [if_pos c35]
    obtain ⟨r, I1, L1, I2, L2, e1, e2, hI⟩ := c_places h (sS (nI i + (1 : Int32)).toNatClampNeg)
    simp only [b1, b2, b3, b4, b5, Option.bind_some, if_true, a6, e1, e2]
    exact ih T q dr tl ff st a u I2 L2 hI hd hne ht
  rw [if_neg c35]
  by_cases c36 : x = (36 : Int32)
  · rw [if_pos c36]
    obtain ⟨r, I1, L1, I2, L2, e1, e2, hI⟩ := c_heights h (sS (nI i + (1 : Int32)).toNatClampNeg)
    simp only [b1, b2, b3, b4, b5, Option.bind_some, if_true, a6, e1, e2]
    exact ih T q dr tl ff st a u I2 L2 hI hd hne ht
  rw [if_neg c36]
  by_cases c37 : x = (37 : Int32)
  · rw [if_pos c37]
    obtain ⟨r, I1, L1, I2, L2, e1, e2, hI⟩ := c_ask h (sS (nI i + (1 : Int32)).toNatClampNeg) (sS (nI i + (2 : Int32)).toNatClampNeg)
    simp only [b1, b2, b3, b4, b5, Option.bind_some, if_true, a6, e1, e2]
    exact ih T q dr tl ff st a u I2 L2 hI hd hne ht
  rw [if_neg c37]
  by_cases c38 : x = (38 : Int32)
  · rw [if_pos c38]
    obtain ⟨r, I1, L1, I2, e1, e2, hI⟩ := c_image h (sS (nI i + (1 : Int32)).toNatClampNeg)
    simp only [b1, b2, b3, b4, b5, Option.bind_some, if_true, a6, e1, e2]
    exact ih T q dr tl ff st a u I2 L1 hI hd hne ht
  rw [if_neg c38]
  by_cases c39 : x = (39 : Int32)
  · rw [if_pos c39]
    obtain ⟨r, I1, L1, I2, st', a', u', e1, e2, hI⟩ := c_back h (sS (nI i + (1 : Int32)).toNatClampNeg)
    simp only [b1, b2, b3, b4, b5, Option.bind_some, if_true, a6, e1, e2]
    exact ih T q dr tl ff st' a' u' I2 L1 hI hd hne ht
  rw [if_neg c39]
  by_cases c40 : x = (40 : Int32)
  · rw [if_pos c40]
    have e1 := c_about h (sS (nI i + (1 : Int32)).toNatClampNeg)
    simp only [b1, b2, b3, b4, b5, Option.bind_some, if_true, a6, e1]
    exact ih T q dr tl ff st a u I L h hd hne ht
  rw [if_neg c40]
  rw [a6]
  exact ih T q dr tl ff st a u I L h hd hne ht
theorem law_all (hN : sN ≤ 3072) : ∀ (m i fu : Nat) (T : Nat → Nat → Nat) (q dr tl ff : Nat) (st : Nat → Nat → Nat) (a u : Nat) (I : HI) (L : HL), sN < i + m → i < 4000 → m < fu → Inv T q st a u I L → isQ2 dr → dr ≠ q → isQ2 tl → fL_law_18 sN sS fu (nI i) q dr q tl ff I L = some true := by
  intro m
  induction m with
  | zero =>
    intro i fu T q dr tl ff st a u I L hm h4 hf h hd hne ht
    obtain ⟨f, rfl⟩ : ∃ f, fu = f + 1 := ⟨fu - 1, by omega⟩
    have e : (Int32.ofNat sN) - (6 : Int32) = iI ((sN : Int) - 6) := by
      rw [show Int32.ofNat sN = iI (sN : Int) from rfl, show (6 : Int32) = iI 6 from rfl, iI_sub]
    rw [fL_law_18, e, ← iI_n, if_pos ((iI_lt (by unfold sml; omega) (by unfold sml; omega)).mpr (by omega))]
  | succ m ih =>
    intro i fu T q dr tl ff st a u I L hm h4 hf h hd hne ht
    obtain ⟨f, rfl⟩ : ∃ f, fu = f + 1 := ⟨fu - 1, by omega⟩
    by_cases c : i + 6 ≤ sN
    · exact law_step hN c h hd hne ht (fun T q dr tl ff st a u I L hI hd hne ht => ih (i + 6) f T q dr tl ff st a u I L (by omega) (by omega) (by omega) hI hd hne ht)
    · have e : (Int32.ofNat sN) - (6 : Int32) = iI ((sN : Int) - 6) := by
        rw [show Int32.ofNat sN = iI (sN : Int) from rfl, show (6 : Int32) = iI 6 from rfl, iI_sub]
      rw [fL_law_18, e, ← iI_n, if_pos ((iI_lt (by unfold sml; omega) (by unfold sml; omega)).mpr (by omega))]
end LAW
