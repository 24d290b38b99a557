/-! go, image, back, later, look, untell -/
section C6
variable {T : Nat → Nat → Nat} {q : Nat} {st : Nat → Nat → Nat} {a u : Nat} {I : HI} {L : HL}
theorem c_go (h : Inv T q st a u I L) (v w : Int32) : ∃ r I1 L1 I2 L2 st' a' u', fX11_go q q v w I L = some (r, I1, L1) ∧ fX12_go v w I1 L1 = some (r, I2, L2) ∧ Inv T q st' a' u' I2 L2 := by
  have h4 := h.1.2.2.2.1
  have hR := h.rng
  have hX := h.xnow
  obtain ⟨b1, b2, b3⟩ := ShS hR
  have r4 := hR.2.2.2.2.1
  unfold fX11_go fX12_go fX12_isPerson
  rcases g_thing (t := q + 13) (j := 57) (J := I) h.2.2.1.2.2.2.2.2.2.2.2.1 h.2.2.2.1.2.2.2.2.1 (by omega) v with ⟨p, k1, k2, k3, k4⟩ | ⟨k1, k2⟩
  · rcases g_free h.1.1 h.2.2.1.1 h.2.2.1.2.1.2 h.2.2.2.1.1 w with ⟨c, c1, c2, c3, c4⟩ | ⟨c1, c2⟩
    · have c64 := grd_64 h.1 c1
      have hg4 : I 99 4 = nI (st a 4) := h.mnow 4 (by decide)
      subst k2
      subst c2
      have hp4 : p < 4 := by omega
      cases hgone : (st a 4).testBit p with
      | true =>
        refine ⟨-1, I, L, I, L, st, a, u, ?_, ?_, h⟩
        · rw [k3, c3, hX.2.1, isBit_nI (by omega), hgone]; rfl
        · simp only [k4, c4, b2i_eq0, Bool.true_eq_false, if_false, show (4 : Int32) = nI 4 from rfl, if_pos (inb_nI (show 4 < 10 by decide) (show 10 < 2 ^ 31 by decide)), clamp_nI (show 4 < 2 ^ 31 by decide), hg4, sbit (show st a 4 < 2 ^ 31 by omega) (show p < 31 by omega), hgone, if_true, Option.bind_some]
      | false =>
        have hs := h.nok p k1
        have s64 := grd_64 h.1 hs
        obtain ⟨I1, L1, e1, s1, f1, i1⟩ := h.aim
        obtain ⟨r, I2, L2, e2, r2, f2, s2, _⟩ := x_stepFrom (S2 := 0) (n := 0) (set := (1 : Int64) <<< ((nI (st a p)).toInt64 &&& 63)) h.1 h.2.1 i1.2.2.1 b1 (by decide) s1 (fun x hx => by rw [hb_cell s64] at hx; rw [hx]; exact hs)
        have i2 := i1.fx f2 (SkyNow.ok s2 h.rng)
        have x53 : I1 53 p = nI (st a p) := i1.xnow.1 p hp4
        have hb2 : hb r c = true ↔ mvA T ((st a 8 + 0) % 24) ((st a 8 + 0) / 24) (st a 5) (st a 6) 0 (decide (st a 7 = 1)) (st a p) c := by rw [r2 c c64, stA_one s64 hs, Nat.or_zero]
        have k4' : ∀ J : HI, J 73 = I 73 → fX12_isIn (nI p) 0 (J 73 57 - 1) = true := fun J hJ => by rw [hJ]; exact k4
        rw [show nI 0 = (0 : Int32) from rfl] at e2
        -- the class, up to the question
        have gx : ((if b2i (fX8_has (q + 13) (nI p) I) = 0 then some true else if b2i (fX5_canStand q (nI c) I L) = 0 then some true else if b2i (fX11_isBit (I 52 1) (nI p)) = 0 then some false else some true) : Option Bool) = some false := by
          rw [k3, c3, hX.2.1, isBit_nI (by omega), hgone]; rfl
        by_cases hmv : mvA T ((st a 8 + 0) % 24) ((st a 8 + 0) / 24) (st a 5) (st a 6) 0 (decide (st a 7 = 1)) (st a p) c
        · have hbr : hb r c = true := hb2.mpr hmv
          have ho : st a 4 ||| 2 ^ p < 16 := or_lt (b := 4) r4 hp4
          have hp : p = 0 ∨ p = 1 ∨ p = 2 ∨ p = 3 := by omega
          have hN : NRng (upN (upN (st a) p c) 4 (st a 4 ||| 2 ^ p)) := by
            obtain ⟨n0, n1, n2, n3, n4, n5, n6, n7, n8⟩ := hR
            refine ⟨?_, ?_, ?_, ?_, ?_, ?_, ?_, ?_, ?_⟩ <;> rcases hp with h | h | h | h <;> subst h <;> simp [upN] <;> omega
          have hxa : XNow (up2 (up2 I2 53 p (nI c)) 52 1 (nI (st a 4 ||| 2 ^ p))) (upN (upN (st a) p c) 4 (st a 4 ||| 2 ^ p)) := by
            obtain ⟨x0, x1, x2, x3, x4, x5⟩ := i2.xnow
            refine ⟨fun i hi => ?_, ?_, ?_, ?_, ?_, ?_⟩
            · simp only [up2_at, upN, show ¬ ((53 : Nat) = 52) by decide, false_and, if_false, true_and, show ¬ (i = 4) by omega]
              by_cases hip : i = p
              · rw [if_pos hip, if_pos hip]
              · rw [if_neg hip, if_neg hip]; exact x0 i hi
            · simp [up2_at, upN]
            · simp [up2_at, upN, show ¬ (5 = p) by omega]; exact x2
            · simp [up2_at, upN, show ¬ (6 = p) by omega]; exact x3
            · simp [up2_at, upN, show ¬ (7 = p) by omega]; exact x4
            · simp [up2_at, upN, show ¬ (8 = p) by omega]; exact x5
          obtain ⟨I3, L3, p1, p2, p3, p4, p5⟩ := act_pair2 i2.2.2.2.2.1 hN hxa (fun k c1 c2 => by rw [upRow _ _ c1, upRow _ _ c2])
          have r3 : ∀ k, k ≠ 52 → k ≠ 53 → k ≠ 54 → I3 k = I2 k := fun k a1 a2 a3 => by rw [p3 k a3, upRow _ _ a1, upRow _ _ a2]
          have hX3 : XTown T q I3 L3 := i2.2.2.1.fr (fun b b1 b2 => r3 b (by rcases h.2.1 with h | h <;> omega) (by rcases h.2.1 with h | h <;> omega) (by rcases h.2.1 with h | h <;> omega)) ⟨p4 q (by rcases h.2.1 with h | h <;> omega), p4 (q + 22) (by rcases h.2.1 with h | h <;> omega)⟩
          have e73 : I3 73 = I2 73 := r3 73 (by decide) (by decide) (by decide)
          have e99 : I3 99 = I2 99 := r3 99 (by decide) (by decide) (by decide)
          have hM3 : MTown T I3 L3 := i2.2.2.2.1.fr (fun b hb => r3 b (by omega) (by omega) (by omega)) (fun j _ => by rw [e73]) (p4 73 (by decide))
          have hMn3 : MNow I3 (st a) := by unfold MNow; rw [e99]; exact i2.mnow
          -- the reference asks
          obtain ⟨J1, g1, a1, fm1⟩ := m_load (n := 0) hR (by decide) hMn3
          have hM4 := hM3.fm (fm1 L3)
          rw [show nI 0 = (0 : Int32) from rfl] at g1
          obtain ⟨J2, M2, g2, f4, g4, sh4⟩ := m_layShadows h.1 hM4 a1 (Nat.mod_lt _ (by decide)) b3 (by decide)
          have fm2 : FM I3 J2 L3 M2 := (fm1 L3).trans (FM.of81 f4 (fun b h1 _ => g4 b h1))
          have hM5 := hM3.fm fm2
          obtain ⟨rm, e5, r5⟩ := m_movesFrom h.1 hM5 (FM.aim (L := L) (M := L) a1 (f4 73 (by decide) (by decide))) (Nat.mod_lt _ (by decide)) b2 sh4 hs
          have hbm : hb rm c = true := (r5 c c64).mpr hmv
          obtain ⟨Jm, j1, j2, j3, j4⟩ := p5 J2 M2 fm2
          have m99 : Jm 99 = I2 99 := by rw [j2 99 (by decide) (by decide), fm2.1 99 (by decide) (by decide) (by decide), e99]
          have mm : ∀ k, k < 9 → Jm 99 k = nI (st a k) := fun k hk => by rw [m99]; exact i2.mnow k hk
          obtain ⟨q1, q2⟩ := j4 (up2 (up2 Jm 99 p (nI c)) 99 4 (nI (st a 4 ||| 2 ^ p))) (fun b hb => by rw [upRow _ _ hb, upRow _ _ hb]) (fun b hb => by
            simp only [up2_at, upN, true_and]
            by_cases h4' : b = 4
            · rw [if_pos h4', if_pos h4']
            · rw [if_neg h4', if_neg h4']
              by_cases hbp : b = p
              · rw [if_pos hbp, if_pos hbp]
              · rw [if_neg hbp, if_neg hbp]; exact mm b hb)
          have hNk : NOk T (upN (upN (st a) p c) 4 (st a 4 ||| 2 ^ p)) := by
            intro p' hp'
            simp only [upN, show ¬ (p' = 4) by omega, if_false]
            by_cases hpp : p' = p
            · rw [if_pos hpp]; exact c1
            · rw [if_neg hpp]; exact h.nok p' hp'
          have iF := i2.actB q1 q2 (nxt_Q h.2.2.2.2.1.1.1 h.2.2.2.2.2.1 hNk)
          obtain ⟨rn, en, hn⟩ := m_nextTo h.1.1 iF.2.2.2.1.1 hs.1
          have hsp := x_spread (s := (1 : Int64) <<< ((nI (st a p)).toInt64 &&& 63)) h.1.1 hX3.1 hX3.2.1.2 hX3.2.2.1 (fun x hx => by rw [hb_cell s64] at hx; rw [hx]; exact hs.1) c c64
          refine ⟨if c = st a p then 0 else if nbr T (st a p) c = true then 1 else 2, I3, L3, up2 (up2 Jm 99 p (nI c)) 99 4 (nI (st a 4 ||| 2 ^ p)), M2, _, _, _, ?_, ?_, iF⟩
          · rw [gx]
            simp only [Option.bind_some, Bool.false_eq_true, if_false, e1, if_pos (inb_nI hp4 (show 4 < 2 ^ 31 by decide)), clamp_nI (show p < 2 ^ 31 by omega), x53, e2, ushr1_0 _ c64, hbr, Bool.true_eq_false]
            have e52 : up2 I2 53 p (nI c) 52 1 ||| (1 : Int32) <<< (nI p &&& 31) = nI (st a 4 ||| 2 ^ p) := by
              rw [upRow _ _ (by decide), i2.xnow.2.1, orN (by omega)]
            rw [e52, p1]
            simp only [Option.bind_some]
            rw [p2]
            simp only [Option.bind_some]
            by_cases hcs : c = st a p
            · rw [if_pos (by rw [hcs]), if_pos hcs]
            · rw [if_neg (fun g => hcs ((nI_eq (by omega) (by omega)).mp g)), if_neg hcs]
              by_cases hnb : nbr T (st a p) c = true
              · have : hb (fX5_spread q ((1 : Int64) <<< ((nI (st a p)).toInt64 &&& 63)) I3 L3) c = true := hsp.mpr ⟨⟨st a p, (hb_cell s64).mpr rfl, Or.inr hnb⟩, c1⟩
                rw [this, if_neg (by decide), if_pos hnb]
              · have : hb (fX5_spread q ((1 : Int64) <<< ((nI (st a p)).toInt64 &&& 63)) I3 L3) c = false := by
                  cases hh : hb (fX5_spread q ((1 : Int64) <<< ((nI (st a p)).toInt64 &&& 63)) I3 L3) c with
                  | false => rfl
                  | true =>
                    obtain ⟨⟨x, g1, g2⟩, _⟩ := hsp.mp hh
                    rw [hb_cell s64] at g1
                    subst g1
                    rcases g2 with g2 | g2
                    · exact absurd g2.symm hcs
                    · exact absurd g2 hnb
                rw [this, if_pos rfl, if_neg hnb]
          · have gm : fX12_isFree (nI c) I3 L3 = true := by
              rcases g_free h.1.1 h.2.2.1.1 h.2.2.1.2.1.2 hM3.1 (nI c) with ⟨_, _, _, _, g⟩ | ⟨g, _⟩
              · exact g
              · rw [c3] at g; cases g
            have e57 : I3 73 57 = I 73 57 := by rw [hM3.2.2.2.2.1, h.2.2.2.1.2.2.2.2.1]
            have h99 : J2 99 = I2 99 := by rw [fm2.1 99 (by decide) (by decide) (by decide), e99]
            simp only [e57, k4, gm, b2i_eq0, Bool.true_eq_false, if_false, show (4 : Int32) = nI 4 from rfl, if_pos (inb_nI (show 4 < 10 by decide) (show 10 < 2 ^ 31 by decide)), clamp_nI (show 4 < 2 ^ 31 by decide), hMn3 4 (by decide), sbit (show st a 4 < 2 ^ 31 by omega) (show p < 31 by omega), hgone, Bool.false_eq_true, Option.bind_some, g1, g2, if_pos (inb_nI (show p < 10 by omega) (show 10 < 2 ^ 31 by decide)), clamp_nI (show p < 2 ^ 31 by omega), h99, i2.mnow p (by omega), e5, has_hb _ c64, hbm, j1, up2_at, show ¬ (4 = p) by omega, and_false, mm 4 (by decide), orN (show p < 31 by omega), en, hn c c64, show ¬ ((0 : Int32) = 1) by decide]
            by_cases hcs : c = st a p
            · rw [if_pos (by rw [hcs]), if_pos hcs]
            · rw [if_neg (fun g => hcs ((nI_eq (by omega) (by omega)).mp g.symm)), if_neg hcs]
              cases hnb : nbr T (st a p) c <;> simp [c1.2]
        · have hbr : hb r c = false := by
            cases hh : hb r c with
            | false => rfl
            | true => exact absurd (hb2.mp hh) hmv
          obtain ⟨J1, g1, a1, i3⟩ := i2.load (n := 0) (by decide)
          rw [show nI 0 = (0 : Int32) from rfl] at g1
          obtain ⟨J2, M2, g2, f4, g4, sh4⟩ := m_layShadows h.1 i3.2.2.2.1 a1 (Nat.mod_lt _ (by decide)) b3 (by decide)
          have i4 := i3.fm (FM.of81 f4 (fun b h1 _ => g4 b h1))
          obtain ⟨rm, e5, r5⟩ := m_movesFrom h.1 i4.2.2.2.1 (FM.aim (L := L) (M := L) a1 (f4 73 (by decide) (by decide))) (Nat.mod_lt _ (by decide)) b2 sh4 hs
          have hbm : hb rm c = false := by
            cases hh : hb rm c with
            | false => rfl
            | true => exact absurd ((r5 c c64).mp hh) hmv
          have gm : fX12_isFree (nI c) I2 L2 = true := by
            rcases g_free h.1.1 h.2.2.1.1 h.2.2.1.2.1.2 i2.2.2.2.1.1 (nI c) with ⟨_, _, _, _, g⟩ | ⟨g, _⟩
            · exact g
            · rw [c3] at g; cases g
          have e57 : I2 73 57 = I 73 57 := by rw [i2.2.2.2.1.2.2.2.2.1, h.2.2.2.1.2.2.2.2.1]
          refine ⟨-1, I2, L2, J2, M2, st, a, u, ?_, ?_, i4⟩
          · rw [gx]
            simp only [Option.bind_some, Bool.false_eq_true, if_false, e1, if_pos (inb_nI hp4 (show 4 < 2 ^ 31 by decide)), clamp_nI (show p < 2 ^ 31 by omega), x53, e2, ushr1_0 _ c64, hbr, if_true]
          · simp only [e57, k4, gm, b2i_eq0, Bool.true_eq_false, if_false, show (4 : Int32) = nI 4 from rfl, if_pos (inb_nI (show 4 < 10 by decide) (show 10 < 2 ^ 31 by decide)), clamp_nI (show 4 < 2 ^ 31 by decide), i2.mnow 4 (by decide), sbit (show st a 4 < 2 ^ 31 by omega) (show p < 31 by omega), hgone, Bool.false_eq_true, Option.bind_some, g1, g2, if_pos (inb_nI (show p < 10 by omega) (show 10 < 2 ^ 31 by decide)), clamp_nI (show p < 2 ^ 31 by omega), i4.mnow p (by omega), e5, has_hb _ c64, hbm, if_true]
            rfl
    · rw [k3, c1]
      exact ⟨_, I, L, I, L, st, a, u, rfl, by rw [k4, c2]; rfl, h⟩
  · rw [k1]
    exact ⟨_, I, L, I, L, st, a, u, rfl, by rw [k2]; rfl, h⟩
end C6
