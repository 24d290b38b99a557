/-! a door's line: both sides -/
section LN6
variable {B : Nat → Nat} {n p tl : Nat} {T T' : Nat → Nat → Nat} {N : Nat → Nat → List Nat} {sh cl : Bool} {I I' I2 : HI} {L L' L2 : HL} {J J' J2 J0 : HI} {M M' M2 M0 : HL}
/-- the reference, once there is a fault -/
theorem m_door_bad {d : Nat} (hd : d < 8) (u : Int32) (h : Bd2 I J) : ∃ J', (Option.bind (fX12_told (1751738216 : Int64) (1 : Int32) (9 : Int32) (up2 J 83 d u) M) fun q6 =>
    Option.bind (
      Option.bind (
        if (up2 (up2 (up2 q6.2.1 84 d q6.1) 85 d (0 : Int32)) 86 d (24 : Int32) 73 2) = 0 then
          if (b2i (fX12_isWord (1869636974 : Int64) (up2 (up2 (up2 q6.2.1 84 d q6.1) 85 d (0 : Int32)) 86 d (24 : Int32)) q6.2.2)) = 0 then some true else some false
        else some true) fun b22 =>
      if b22 = true then some (up2 (up2 (up2 q6.2.1 84 d q6.1) 85 d (0 : Int32)) 86 d (24 : Int32), q6.2.2)
      else
        Option.bind (fX12_told (1869636974 : Int64) (0 : Int32) (23 : Int32) (up2 (up2 (up2 q6.2.1 84 d q6.1) 85 d (0 : Int32)) 86 d (24 : Int32)) q6.2.2) fun q23 =>
        Option.bind (fX12_told (29807 : Int64) ((up2 q23.2.1 85 d q23.1 85 d) + (1 : Int32)) (24 : Int32) (up2 q23.2.1 85 d q23.1) q23.2.2) fun q27 =>
        some (up2 q27.2.1 86 d q27.1, q27.2.2)) fun q21 =>
    if (q21.1 73 2) ≤ 0 then
      some (up2 q21.1 73 48 ((q21.1 73 48) + (1 : Int32)), up2 (up2 q21.2 73 43 ((q21.2 73 43) ||| ((1 : Int64) <<< ((q21.1 83 d).toInt64 &&& 63)))) 73 42 ((up2 q21.2 73 43 ((q21.2 73 43) ||| ((1 : Int64) <<< ((q21.1 83 d).toInt64 &&& 63))) 73 42) ||| (up2 q21.2 73 43 ((q21.2 73 43) ||| ((1 : Int64) <<< ((q21.1 83 d).toInt64 &&& 63))) 73 43)))
    else some (q21.1, q21.2)) = some (J', M) ∧ FMr J J' M M ∧ Bd2 I J' := by
  have hb2 := (h.up (a := 83) (i := d) (v := u) (by decide))
  rw [m_told_bad hb2.m]
  simp only [Option.bind_some]
  have hb3 := (hb2.up (a := 84) (i := d) (v := 0) (by decide))
  have hb4 := (hb3.up (a := 85) (i := d) (v := 0) (by decide))
  have hb5 := (hb4.up (a := 86) (i := d) (v := 24) (by decide))
  rw [if_neg hb5.m.2, Option.bind_some, if_pos rfl, Option.bind_some]
  simp only
  rw [if_neg hb5.m.1]
  exact ⟨_, rfl, (FMr.row (by unfold wkM; omega) (by decide)).trans ((FMr.row (by unfold wkM; omega) (by decide)).trans ((FMr.row (by unfold wkM; omega) (by decide)).trans (FMr.row (by unfold wkM; omega) (by decide)))), hb5⟩
set_option maxHeartbeats 8000000 in
theorem ln_door {I1 : HI} {L1 : HL} (h : Rel B n tl T N sh cl p I L J M) (hk : kd B n p ≠ 23) (h22 : kd B n p ≠ 22) (h4 : tnD T < 8) (ha : fX9_advance I L = some (I1, L1)) : LnOut B n tl sh cl p I L J M (fX6_readDoor tl I1 L1) (fX12_readDoor J M) := by
  obtain ⟨r0, ht, hT, hN, hX, hM, f6, f7, m61, m62, hsh⟩ := h
  obtain ⟨I1', L1', J1, M1, b1, b2, r1, g1, g2⟩ := r0.step hk
  rw [ha] at b1
  cases b1
  have pq := nx_lt (B := B) r0.1 h22
  obtain ⟨q1, q2, q3⟩ := cap_of ht
  have hX1 := hX.fa ht (XA2.of g1)
  have hM1 := hM.fb (XB2.of g2)
  have e50 : J 73 48 = nI (tnD T) := hM.2.2.2.2.2.2.1
  have x8 : I1 (tl + 1) 0 = nI (tnD T) := hX1.2.2.2.1
  have cI : (nI (tnD T)).toNatClampNeg = tnD T := clamp_nI (by omega)
  have iI8 : inb (nI (tnD T)) 8 = true := inb_nI h4 (by decide)
  unfold fX6_readDoor fX12_readDoor
  rw [e50]
  have sn := s_name r1 b2 (tt := tl + 1) (fr := 0) (m := tnD T) (F := N 0) x8 (by omega) (by omega) (by omega) (fun i hi => (hX1.2.2.2.2.1 i hi).2.2.2.2) (fun i hi => by rw [Nat.zero_add]; exact (hM1.2.2.2.2.2.2.2.2.2.2.2.1 i hi).2.2.2.2) hN.1
  rw [show nI 0 = (0 : Int32) from rfl, Nat.zero_add] at sn
  rcases sn with ⟨k20, w1, w2, I3, L3, J3, M3, a1, a2, r3, u1, u2, u3, u4, u5, u6, u7, u8⟩ | ⟨f, f0, f1, a1, a2⟩
  · rw [a1, a2]
    simp only [Option.bind_some]
    rw [if_neg (show ¬ b2i true = 0 by decide)]
    have hX3 := hX1.fa ht (XA2.of u1)
    have hM3 : DM T N J3 M3 := hM1.fr (fun j hj => u3 j (by omega)) (fun a ha => u2 a (by omega)) (fun j hj => u5 j (by omega)) (fun i hi => u7 i (by have := hT.2.1; have := hT.2.2.1; omega))
    have fm3 : FMr J J3 M M3 := (FMr.of (XB2.of g2)).trans ⟨fun a ha => u2 a (fun e => ha (Or.inl e)), fun j hj => u3 j (by unfold kp73 at hj; omega), u4, fun j j1 _ => u5 j j1⟩
    have fx3 : XA2 I I3 L L3 := (XA2.of g1).trans (XA2.of u1)
    have pq2 := (nx_le (B := B) r1.1).1
    have st := s_take r3 (w := 4) (v := 24948) (by decide) (by decide)
    rw [show nI 4 = (4 : Int32) from rfl] at st
    rcases st with ⟨_, I4, L4, J4, M4, c1, c2, r4, v1, v2⟩ | ⟨c1, c2⟩
    · rw [c1, c2]
      simp only [Option.bind_some]
      rw [if_neg (show ¬ b2i true = 0 by decide)]
      have hX4 := hX3.fa ht (XA2.of v1)
      have hM4 := hM3.fb (XB2.of v2)
      have pq3 := (nx_le (B := B) r3.1).1
      have sc := s_cell r4 ht hT hX4 hM4 (k := 3) (by decide) (v := M4 73 41 ||| M4 73 43) (fun c hc => take_d hc (hM4.2.2.1 c hc) (hM4.2.2.2.2.1 c hc))
      rw [show nI 3 = (3 : Int32) from rfl] at sc
      have e50' : J4 73 48 = nI (tnD T) := hM4.2.2.2.2.2.2.1
      simp only [e50', cI, iI8, if_true]
      rcases sc with ⟨c, q, hc, hnt, pq4, I5, L5, J5, M5, d1, d2, r5, d4, d5, v3, v4⟩ | ⟨u, I5, L5, J5, M5, d1, d2, v3, v4, hbd⟩
      · rw [d1, d2]
        simp only [Option.bind_some]
        rw [if_neg (show ¬ b2i true = 0 by decide)]
        have hX5 := hX4.fa ht v3
        have hM5 := hM4.fb v4
        have hgr : grd T c := ⟨hc, by
          cases hw : isW T c with
          | true => exact absurd (Or.inl hw) hnt
          | false => rfl⟩
        have r5' : RT2 B n q I5 L5 (up2 J5 83 (tnD T) (nI c)) M5 := r5.rowJ (by decide) (by decide)
        have fm5 : FMr J (up2 J5 83 (tnD T) (nI c)) M M5 := fm3.trans ((FMr.of ((XB2.of v2).trans v4)).trans (FMr.row (by unfold wkM; omega) (by decide)))
        have fx5 : XA2 I I5 L L5 := fx3.trans ((XA2.of v1).trans v3)
        have sh5 := s_told r5' (w := 5) (v := 1751738216) (a := 1) (b := 9) (by decide) (by decide) (by decide) (by decide)
        rw [show nI 5 = (5 : Int32) from rfl, show nI 1 = (1 : Int32) from rfl, show nI 9 = (9 : Int32) from rfl] at sh5
        rcases sh5 with ⟨k6, n6, I6, L6, I7, L7, J7, M7, t1, t2, t3, r7, t5, t6, t7, t8, t9⟩ | ⟨u, J7, M7, t3, t7, hh⟩
        · rw [t1]
          simp only [Option.bind_some]
          rw [if_neg (show ¬ b2i true = 0 by decide), t2, t3]
          simp only [Option.bind_some]
          rw [if_neg (show ¬ b2i true = 0 by decide), t5]
          have hvr : 1 ≤ vl B n (nx B n q) ∧ vl B n (nx B n q) ≤ 9 := n6.2
          generalize vl B n (nx B n q) = hv at *
          have hX7 := hX5.fa ht (XA2.ofN t6)
          have pq5 := nx_lt (B := B) r5.1 (by omega)
          have pq6 := (nx_le (B := B) (nx_le (B := B) r5.1).2).1
          generalize hq7 : nx B n (nx B n q) = q7 at *
          have r8 : RT2 B n q7 (up2 (up2 I7 48 5 0) 48 3 24) L7 (up2 (up2 (up2 J7 84 (tnD T) (nI hv)) 85 (tnD T) 0) 86 (tnD T) 24) M7 := ((((r7.fldI (by decide) (by decide)).fldI (by decide) (by decide)).rowJ (by decide) (by decide)).rowJ (by decide) (by decide)).rowJ (by decide) (by decide)
          have fx8 : XA2 I7 (up2 (up2 I7 48 5 0) 48 3 24) L7 L7 := ⟨fun x h1 _ => by rw [upRow _ _ h1, upRow _ _ h1], fun j hj => by rw [up2_at, if_neg (by omega), up2_at, if_neg (by omega)], by rw [upRow _ _ (by decide), upRow _ _ (by decide)], fun _ _ => rfl⟩
          have hX8 := hX7.fa ht fx8
          obtain ⟨I8, hI8⟩ : ∃ x : HI, x = up2 (up2 I7 48 5 0) 48 3 24 := ⟨_, rfl⟩
          obtain ⟨J8, hJ8⟩ : ∃ x : HI, x = up2 (up2 (up2 J7 84 (tnD T) (nI hv)) 85 (tnD T) 0) 86 (tnD T) 24 := ⟨_, rfl⟩
          rw [← hI8, ← hJ8] at r8
          rw [← hI8] at fx8 hX8
          rw [← hI8, ← hJ8]
          have j83 : ∀ i, J8 83 i = if i = tnD T then nI c else J5 83 i := by
            intro i
            rw [hJ8, upRow _ _ (by decide), upRow _ _ (by decide), upRow _ _ (by decide), t7.1 83 (by decide), up2_at]; simp
          have j84 : ∀ i, J8 84 i = if i = tnD T then nI hv else J5 84 i := by
            intro i
            rw [hJ8, upRow _ _ (by decide), upRow _ _ (by decide), up2_at, t7.1 84 (by decide), upRow _ _ (by decide)]; simp
          have j85 : ∀ i, J8 85 i = if i = tnD T then nI 0 else J5 85 i := by
            intro i
            rw [hJ8, upRow _ _ (by decide), up2_at, upRow _ _ (by decide), t7.1 85 (by decide), upRow _ _ (by decide)]; simp; rfl
          have j86 : ∀ i, J8 86 i = if i = tnD T then nI 24 else J5 86 i := by
            intro i
            rw [hJ8, up2_at, upRow _ _ (by decide), upRow _ _ (by decide), t7.1 86 (by decide), upRow _ _ (by decide)]; simp; rfl
          have jo : ∀ x, x ≠ 73 → ¬ (83 ≤ x ∧ x ≤ 86) → J8 x = J5 x := by
            intro x x1 x2
            rw [hJ8, upRow _ _ (by omega), upRow _ _ (by omega), upRow _ _ (by omega), t7.1 x x1, upRow _ _ (by omega)]
          have j73 : ∀ j, j ≤ 1 ∨ j = 5 ∨ 9 ≤ j → J8 73 j = J5 73 j := by
            intro j hj
            rw [hJ8, upRow _ _ (by decide), upRow _ _ (by decide), upRow _ _ (by decide), t7.2.1 j hj, upRow _ _ (by decide)]
          have fm8 : FMr J J8 M M7 := fm5.trans ((FMr.of t7).trans (by rw [hJ8]; exact (FMr.row (by unfold wkM; omega) (by decide)).trans ((FMr.row (by unfold wkM; omega) (by decide)).trans (FMr.row (by unfold wkM; omega) (by decide)))))
          have fx8' : XA2 I I8 L L7 := fx5.trans ((XA2.ofN t6).trans fx8)
          have i84 : I8 48 4 = nI c := by rw [hI8, up2_at, if_neg (by decide), up2_at, if_neg (by decide), t6.1 4 (by decide)]; exact d4
          have m75 : ∀ i, M7 75 i = if i = tnD T then lN (wd8 (ws B n (nx B n p))) else M1 75 i := by
            intro i
            rw [t7.2.2.1 75 (by decide), v4.2.2.1 75 (by decide), v2.2.2.1 75 (by decide)]
            by_cases e : i = tnD T
            · rw [if_pos e, e]; exact u6
            · rw [if_neg e]; exact u7 i e
          have m41 : ∀ j, 41 ≤ j ∧ j ≤ 43 → M7 73 j = M1 73 j := by
            intro j hj
            rw [t7.2.2.2 j (by omega), v4.2.2.2 j (by omega), v2.2.2.2 j (by omega), u5 j (by omega)]
          have j1o : ∀ x, x ≠ 73 → J5 x = J1 x := fun x hx => by rw [v4.1 x hx, v2.1 x hx, u2 x hx]
          have j173 : ∀ j, j ≤ 1 ∨ j = 5 ∨ 9 ≤ j → J5 73 j = J1 73 j := fun j hj => by rw [v4.2.1 j hj, (XB2.of v2).2.1 j hj, u3 j hj]
          have i61 : J1 73 61 = b2i sh := by rw [(XB2.of g2).2.1 61 (by decide)]; exact m61
          have i62 : J1 73 62 = b2i cl := by rw [(XB2.of g2).2.1 62 (by decide)]; exact m62
          have e49 : I8 49 4 = nI (kd B n q7) := r8.2.2.1.1
          have e82 : J8 73 2 = 0 := r8.2.2.2.2.2.2.2.1
          have k256 := r8.2.1.kd r8.1
          have x8' : I8 (tl + 1) 0 = nI (tnD T) := hX8.2.2.2.1
          simp only [e49, e82, if_true, m_isWord r8.2.2.2.2.2.1 r8.1 r8.2.2.2.2.2.2.1 (w := 6) (v := 1869636974) (by decide) (by decide)]
          by_cases k6' : kd B n q7 = 6
          · rw [if_pos (show nI (kd B n q7) = (6 : Int32) by rw [k6']; rfl), if_neg (show ¬ b2i (decide (kd B n q7 = 6)) = 0 by rw [b2i_eq0]; simp [k6']), Option.bind_some, if_neg (by decide)]
            have shh := s_hours r8 (w := 6) (r := 85) (d := tnD T) (v := 1869636974) (by decide) (by decide) (by decide)
            rw [show nI 6 = (6 : Int32) from rfl] at shh
            rcases shh with ⟨ha', hb', q', Ja, Ma, Jb, Mb, I9, L9, o1, o2, o3, o4, o5, o6, r9, o7, o8, o9, o10, o11, o12, o13, o14, o15⟩ | ⟨x1, x2, Ja, Ma, Jb, Mb, I9, L9, o4, o5, o6, o10, o11, hbd⟩
            · left
              rw [o4, o5]
              simp only [Option.bind_some, up2_eq]
              rw [o6]
              simp only [Option.bind_some]
              rw [if_neg (show ¬ b2i true = 0 by decide)]
              have hX9 := hX8.fa ht o10
              have x9' : I9 (tl + 1) 0 = nI (tnD T) := hX9.2.2.2.1
              have r9' : RT2 B n q' I9 L9 (up2 Jb 86 (tnD T) (nI hb')) Mb := r9.rowJ (by decide) (by decide)
              have e2 : up2 Jb 86 (tnD T) (nI hb') 73 2 = 0 := r9'.2.2.2.2.2.2.2.1
              have e48 : up2 Jb 86 (tnD T) (nI hb') 73 48 = nI (tnD T) := by
                rw [upRow _ _ (by decide), o13 48 (by decide), j73 48 (by decide)]
                exact hM5.2.2.2.2.2.2.1
              have e83 : up2 Jb 86 (tnD T) (nI hb') 83 (tnD T) = nI c := by
                rw [upRow _ _ (by decide), o11 83 (by decide) (by decide), j83, if_pos rfl]
              have e42 : ∀ v : Int64, up2 Mb 73 43 v 73 42 = Mb 73 42 := fun v => by rw [up2_at, if_neg (by decide)]
              rw [x_addT x9' (by omega) (by omega), o9, i84, o7, o8, u8]
              simp only [Option.bind_some, e2, e48, e83, e42, nI_1]
              rw [if_pos (by decide)]
              refine ⟨_, _, q', _, _, _, _, by omega, rfl, rfl, rel_R r9' ht hT hN hX9 hM1 hgr hvr (by omega) o2 h4 w1 w2 ?_ ?_ ?_ ?_ ?_ ?_ ?_ ?_ ?_ ?_ ?_ ?_ hsh, ?_, ?_⟩
              · intro x hx; rw [upRow _ _ (by omega), o11 x (by omega) (by omega), jo x (by omega) (by omega), j1o x (by omega)]
              · intro j hj; rw [upRow _ _ (by decide), o13 j (by omega), j73 j (by omega), j173 j (by omega)]
              · intro i; rw [upRow _ _ (by decide), o11 83 (by decide) (by decide), j83, j1o 83 (by decide)]
              · intro i; rw [upRow _ _ (by decide), o11 84 (by decide) (by decide), j84, j1o 84 (by decide)]
              · intro i
                rw [upRow _ _ (by decide), o12, j85, j1o 85 (by decide)]
                by_cases e : i = tnD T
                · rw [if_pos e, if_pos e]
                · rw [if_neg e, if_neg e, if_neg e]
              · intro i
                rw [up2_at, o11 86 (by decide) (by decide), j86, j1o 86 (by decide)]
                by_cases e : i = tnD T
                · rw [if_pos ⟨rfl, e⟩, if_pos e]
                · rw [if_neg (fun g => e g.2), if_neg e, if_neg e]
              · intro i; rw [o14 75 (by decide)]; exact m75 i
              · intro j hj; rw [o15 j (by omega)]; exact m41 j hj
              · rw [o10.2.1 6 (by decide), fx8'.2.1 6 (by decide)]; exact f6
              · rw [o10.2.1 7 (by decide), fx8'.2.1 7 (by decide)]; exact f7
              · rw [upRow _ _ (by decide), o13 61 (by decide), j73 61 (by decide), j173 61 (by decide)]; exact i61
              · rw [upRow _ _ (by decide), o13 62 (by decide), j73 62 (by decide), j173 62 (by decide)]; exact i62
              · exact (FXr.of (fx8'.trans o10)).trans (FXr.ad (by omega) (by omega) ht)
              · refine fm8.trans (FMr.trans (J' := Jb) (M' := Mb) ⟨fun x hx => o11 x (fun e => hx (Or.inl e)) (fun e => hx (by unfold wkM; omega)), fun j hj => o13 j (by unfold kp73 at hj; omega), fun x hx _ => o14 x hx, fun j hj _ => o15 j hj⟩ ((FMr.row (by unfold wkM; omega) (by decide)).trans ((FMr.fld (by unfold kp73; omega)).trans ((FMr.fldL (by omega)).trans (FMr.fldL (by omega))))))
            · right
              rw [o4, o5]
              simp only [Option.bind_some, up2_eq]
              rw [o6]
              simp only [Option.bind_some]
              have hb2 := (hbd.up (a := 86) (i := tnD T) (v := x2) (by decide))
              rw [if_pos (show b2i false = 0 by decide), if_neg hb2.m.1]
              exact ⟨_, _, _, _, rfl, rfl, FXr.of (fx8'.trans o10), fm8.trans (o11.trans (FMr.row (by unfold wkM; omega) (by decide))), hb2⟩
          · left
            rw [if_neg (show ¬ nI (kd B n q7) = (6 : Int32) from ne_lit k256 (by decide) k6'), if_pos (show b2i (decide (kd B n q7 = 6)) = 0 by rw [b2i_eq0]; simp [k6']), Option.bind_some, if_pos rfl]
            have e48 : J8 73 48 = nI (tnD T) := by
              rw [j73 48 (by decide)]
              exact hM5.2.2.2.2.2.2.1
            have e83 : J8 83 (tnD T) = nI c := by rw [j83, if_pos rfl]
            have e42 : ∀ v : Int64, up2 M7 73 43 v 73 42 = M7 73 42 := fun v => by rw [up2_at, if_neg (by decide)]
            have i85 : I8 48 5 = nI 0 := by rw [hI8, up2_at, if_neg (by decide), up2_eq]; rfl
            have i83 : I8 48 3 = nI 24 := by rw [hI8, up2_eq]; rfl
            rw [x_addT x8' (by omega) (by omega), i84, i85, i83, u8]
            simp only [Option.bind_some, e82, e48, e83, e42, up2_eq, nI_1]
            rw [if_pos (by decide)]
            refine ⟨_, _, q7, _, _, _, _, by omega, rfl, rfl, rel_R r8 ht hT hN hX8 hM1 hgr hvr (by omega) (by omega) h4 w1 w2 ?_ ?_ ?_ ?_ ?_ ?_ m75 m41 ?_ ?_ ?_ ?_ hsh, ?_, ?_⟩
            · intro x hx; rw [jo x (by omega) (by omega), j1o x (by omega)]
            · intro j hj; rw [j73 j (by omega), j173 j (by omega)]
            · intro i; rw [j83, j1o 83 (by decide)]
            · intro i; rw [j84, j1o 84 (by decide)]
            · intro i; rw [j85, j1o 85 (by decide)]
            · intro i; rw [j86, j1o 86 (by decide)]
            · rw [fx8'.2.1 6 (by decide)]; exact f6
            · rw [fx8'.2.1 7 (by decide)]; exact f7
            · rw [j73 61 (by decide), j173 61 (by decide)]; exact i61
            · rw [j73 62 (by decide), j173 62 (by decide)]; exact i62
            · exact (FXr.of fx8').trans (FXr.ad (by omega) (by omega) ht)
            · exact fm8.trans ((FMr.fld (by unfold kp73; omega)).trans ((FMr.fldL (by omega)).trans (FMr.fldL (by omega))))
        · right
          rw [t3]
          simp only [Option.bind_some]
          have key : ∀ I9, Bd2 I9 J7 → ∃ J', (Option.bind (
      Option.bind (
        if (up2 (up2 (up2 J7 84 (tnD T) u) 85 (tnD T) (0 : Int32)) 86 (tnD T) (24 : Int32) 73 2) = 0 then
          if (b2i (fX12_isWord (1869636974 : Int64) (up2 (up2 (up2 J7 84 (tnD T) u) 85 (tnD T) (0 : Int32)) 86 (tnD T) (24 : Int32)) M7)) = 0 then some true else some false
        else some true) fun b22 =>
      if b22 = true then some (up2 (up2 (up2 J7 84 (tnD T) u) 85 (tnD T) (0 : Int32)) 86 (tnD T) (24 : Int32), M7)
      else
        Option.bind (fX12_told (1869636974 : Int64) (0 : Int32) (23 : Int32) (up2 (up2 (up2 J7 84 (tnD T) u) 85 (tnD T) (0 : Int32)) 86 (tnD T) (24 : Int32)) M7) fun q23 =>
        Option.bind (fX12_told (29807 : Int64) ((up2 q23.2.1 85 (tnD T) q23.1 85 (tnD T)) + (1 : Int32)) (24 : Int32) (up2 q23.2.1 85 (tnD T) q23.1) q23.2.2) fun q27 =>
        some (up2 q27.2.1 86 (tnD T) q27.1, q27.2.2)) fun q21 =>
    if (q21.1 73 2) ≤ 0 then
      some (up2 q21.1 73 48 ((q21.1 73 48) + (1 : Int32)), up2 (up2 q21.2 73 43 ((q21.2 73 43) ||| ((1 : Int64) <<< ((q21.1 83 (tnD T)).toInt64 &&& 63)))) 73 42 ((up2 q21.2 73 43 ((q21.2 73 43) ||| ((1 : Int64) <<< ((q21.1 83 (tnD T)).toInt64 &&& 63))) 73 42) ||| (up2 q21.2 73 43 ((q21.2 73 43) ||| ((1 : Int64) <<< ((q21.1 83 (tnD T)).toInt64 &&& 63))) 73 43)))
    else some (q21.1, q21.2)) = some (J', M7) ∧ FMr J7 J' M7 M7 ∧ Bd2 I9 J' := by
            intro I9 g
            have hb3 := (g.up (a := 84) (i := tnD T) (v := u) (by decide))
            have hb4 := (hb3.up (a := 85) (i := tnD T) (v := 0) (by decide))
            have hb5 := (hb4.up (a := 86) (i := tnD T) (v := 24) (by decide))
            rw [if_neg hb5.m.2, Option.bind_some, if_pos rfl, Option.bind_some]
            simp only
            rw [if_neg hb5.m.1]
            exact ⟨_, rfl, (FMr.row (by unfold wkM; omega) (by decide)).trans ((FMr.row (by unfold wkM; omega) (by decide)).trans (FMr.row (by unfold wkM; omega) (by decide))), hb5⟩
          rcases hh with ⟨I9, t1, t2, t4⟩ | ⟨I9, L9, I10, t1, t2, t4, t5⟩
          · rw [t1]
            simp only [Option.bind_some]
            rw [if_pos (show b2i false = 0 by decide)]
            obtain ⟨J', e1, e2, e3⟩ := key _ t4
            exact ⟨_, _, _, _, rfl, e1, FXr.of (fx5.trans t2), fm5.trans ((FMr.of t7).trans e2), e3⟩
          · rw [t1]
            simp only [Option.bind_some]
            rw [if_neg (show ¬ b2i true = 0 by decide), t2]
            simp only [Option.bind_some]
            rw [if_pos (show b2i false = 0 by decide)]
            obtain ⟨J', e1, e2, e3⟩ := key _ t5
            exact ⟨_, _, _, _, rfl, e1, FXr.of (fx5.trans t4), fm5.trans ((FMr.of t7).trans e2), e3⟩
      · right
        rw [d1, d2]
        simp only [Option.bind_some]
        rw [if_pos (show b2i false = 0 by decide)]
        obtain ⟨J', e1, e2, e3⟩ := m_door_bad (M := M5) h4 u hbd
        exact ⟨_, _, _, _, rfl, e1, FXr.of (fx3.trans ((XA2.of v1).trans v3)), fm3.trans ((FMr.of ((XB2.of v2).trans v4)).trans e2), e3⟩
    · right
      have hbd : Bd2 (rfX B n (nx B n (nx B n p)) 2 I3) (rfM B n (nx B n (nx B n p)) 2 J3) := s_bd r3 (f := 2) (by decide) (by decide)
      rw [c1, c2]
      simp only [Option.bind_some]
      obtain ⟨u, e⟩ := m_rcell_bad (M := M3) hbd.m (M3 73 41 ||| M3 73 43)
      have e50' : rfM B n (nx B n (nx B n p)) 2 J3 73 48 = nI (tnD T) := by rw [rfM_j (by decide) (by decide)]; exact hM3.2.2.2.2.2.2.1
      rw [if_pos (show b2i false = 0 by decide), e]
      simp only [Option.bind_some, e50', cI, iI8, if_true]
      obtain ⟨J', e1, e2, e3⟩ := m_door_bad (M := M3) h4 u hbd
      exact ⟨_, _, _, _, rfl, e1, FXr.of (fx3.trans (XA2.rf _)), fm3.trans ((FMr.of (XB2.rf _)).trans e2), e3⟩
  · right
    have hbd : Bd2 (rfX B n (nx B n p) f I1) (rfM B n (nx B n p) f J1) := s_bd r1 f0 f1
    rw [a1, a2]
    simp only [Option.bind_some]
    obtain ⟨u, e⟩ := m_rcell_bad (M := M1) hbd.m (M1 73 41 ||| M1 73 43)
    have e50' : rfM B n (nx B n p) f J1 73 48 = nI (tnD T) := by rw [rfM_j (by decide) (by decide)]; exact hM1.2.2.2.2.2.2.1
    rw [if_pos (show b2i false = 0 by decide), m_want_bad hbd.m, Option.bind_some]
    simp only
    rw [e]
    simp only [Option.bind_some, e50', cI, iI8, if_true]
    obtain ⟨J', e1, e2, e3⟩ := m_door_bad (M := M1) h4 u hbd
    exact ⟨_, _, _, _, rfl, e1, FXr.of ((XA2.of g1).trans (XA2.rf _)), (FMr.of ((XB2.of g2).trans (XB2.rf _))).trans e2, e3⟩
end LN6
