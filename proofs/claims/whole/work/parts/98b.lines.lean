/-! line by line -/
noncomputable def lnTail (q : HI × HL) : Option (HI × HL) :=
  Option.bind (
    Option.bind (
      if (up2 q.1 73 60 (b2i true) 73 2) = 0 then
        if (up2 q.1 73 60 (b2i true) 73 6) = (59 : Int32) then
          some true
        else
          some false
      else
        some true
    ) fun b50 =>
    if b50 = true then
      some (up2 q.1 73 60 (b2i true))
    else
      obn (fX12_wrong (2 : Int32) (up2 q.1 73 60 (b2i true))) fun q51 =>
      some q51
  ) fun q49 =>
  if (q49 73 2) = 0 then
    Option.bind (fX12_token  q49 q.2) fun q52 =>
    some (q52.1, q52.2)
  else
    some (q49, q.2)
def LineOut (B : Nat → Nat) (n tl p : Nat) (I : HI) (L : HL) (J : HI) (M : HL) (rx : Option (Bool × HI × HL)) (rm : Option (HI × HL)) : Prop := (∃ T' N' sh' cl' q I' L' J' M', p < q ∧ rx = some (true, I', L') ∧ rm = some (J', M') ∧ Rel B n tl T' N' sh' cl' q I' L' J' M' ∧ J' 73 60 = 1 ∧ FXr tl I I' L L' ∧ FMr J J' M M') ∨ (∃ I' L' J' M', rx = some (false, I', L') ∧ rm = some (J', M') ∧ FXr tl I I' L L' ∧ FMr J J' M M' ∧ Bd2 I' J')
section LNS
variable {B : Nat → Nat} {n p tl : Nat} {T : Nat → Nat → Nat} {N : Nat → Nat → List Nat} {sh cl : Bool} {I : HI} {L : HL} {J : HI} {M : HL}
theorem ln_fin {rx : Option (Bool × HI × HL)} {rm : Option (HI × HL)} (h : LnOut B n tl sh cl p I L J M rx rm) : LineOut B n tl p I L J M rx (Option.bind rm lnTail) := by
  rcases h with ⟨T', N', q, I2, L2, J2, M2, h1, h2, h3, h4, h5, h6⟩ | ⟨I2, L2, J2, M2, h2, h3, h5, h6, h7⟩
  · obtain ⟨r0, ht, hT, hN, hX, hM, f6, f7, m61, m62, hsh⟩ := h4
    have r0' : RT2 B n q I2 L2 (up2 J2 73 60 (b2i true)) M2 := r0.fldJ (by decide)
    have hM' : DM T' N' (up2 J2 73 60 (b2i true)) M2 := hM.fr (fun j hj => by rw [up2_at, if_neg (by omega)]) (fun a ha => upRow _ _ (by omega)) (fun _ _ => rfl) (fun _ _ => rfl)
    have e59 : up2 J2 73 60 (b2i true) 73 6 = (59 : Int32) ↔ kd B n q = 59 := by
      have g := m_sort r0'.2.2.2.2.2.1 r0.1 r0'.2.2.2.2.2.2.1 (s := 59) (by decide)
      rw [sk_s (by decide)] at g
      exact g
    have e02 : up2 J2 73 60 (b2i true) 73 2 = 0 := r0'.2.2.2.2.2.2.2.1
    have f60 : FMr J2 (up2 J2 73 60 (b2i true)) M2 M2 := FMr.fld (by unfold kp73; omega)
    rw [h2, h3, Option.bind_some]
    unfold lnTail
    simp only
    by_cases c : kd B n q = 59
    · left
      obtain ⟨I3, L3, J3, M3, b1, b2, r3, g1, g2⟩ := r0'.step (by omega)
      have et : fX6_take (59 : Int32) I2 L2 = some (true, I3, L3) := by
        unfold fX6_take
        rw [r0.2.2.1.1, c, if_pos (show nI 59 = (59 : Int32) from rfl), b1, Option.bind_some]
      rw [et, Option.bind_some, e02, if_pos rfl, if_pos (e59.mpr c), Option.bind_some, if_pos rfl, Option.bind_some, e02, if_pos rfl, b2, Option.bind_some]
      have qq := (nx_le (B := B) r0.1).1
      refine ⟨T', N', sh, cl, nx B n q, I3, L3, J3, M3, by omega, rfl, rfl, ⟨r3, ht, hT, hN, hX.fa ht (XA2.of g1), hM'.fb (XB2.of g2), by rw [g1.1 48 (by decide)]; exact f6, by rw [g1.1 48 (by decide)]; exact f7, ?_, ?_, hsh⟩, ?_, h5.trans (FXr.of (XA2.of g1)), h6.trans (f60.trans (FMr.of (XB2.of g2)))⟩
      · rw [(XB2.of g2).2.1 61 (by decide), up2_at, if_neg (by decide)]; exact m61
      · rw [(XB2.of g2).2.1 62 (by decide), up2_at, if_neg (by decide)]; exact m62
      · rw [(XB2.of g2).2.1 60 (by decide), up2_eq]; rfl
    · right
      have et : fX6_take (59 : Int32) I2 L2 = some (false, rfX B n q 2 I2, L2) := x_take_no r0.2.1 r0.1 r0.2.2.1 (k := 59) c (by decide)
      have hbd := s_bd r0' (f := 2) (by decide) (by decide)
      rw [et, Option.bind_some, e02, if_pos rfl, if_neg (fun g => c (e59.mp g)), Option.bind_some, if_neg (by decide), obn_eq, show (2 : Int32) = nI 2 from rfl, m_wrong r0'.2.2.2.2.2.1 r0.1 r0'.2.2.2.2.2.2.1 e02, Option.bind_some, if_neg hbd.m.2]
      exact ⟨_, _, _, _, rfl, rfl, h5.trans (FXr.of (XA2.rf 2)), h6.trans (f60.trans (FMr.of (XB2.rf 2))), hbd⟩
  · right
    have hbd : Bd2 I2 (up2 J2 73 60 (b2i true)) := h7.fr rfl rfl (by rw [up2_at, if_neg (by decide)]) (by rw [up2_at, if_neg (by decide)])
    rw [h2, h3, Option.bind_some]
    unfold lnTail
    simp only
    rw [if_neg hbd.m.2, Option.bind_some, if_pos rfl, Option.bind_some, if_neg hbd.m.2]
    exact ⟨_, _, _, _, rfl, rfl, h5, h6.trans (FMr.fld (by unfold kp73; omega)), hbd⟩
noncomputable def lnBody (I : HI) (L : HL) : Option (HI × HL) :=
    Option.bind (
      if (b2i (fX12_isWord (1936292453 : Int64) I L)) = 0 then
        some true
      else
        if (I 73 59) = 0 then
          if (I 73 60) = 0 then
            some false
          else
            some true
        else
          some true
    ) fun b24 =>
    if b24 = true then
      Option.bind (
        if (b2i (fX12_isWord (2002873452 : Int64) I L)) = 0 then
          some true
        else
          if (24 : Int32) < (I 73 47) then
            some true
          else
            some false
      ) fun b25 =>
      if b25 = true then
        Option.bind (
          if (b2i (fX12_isWord (1685024626 : Int64) I L)) = 0 then
            some true
          else
            if (8 : Int32) ≤ (I 73 48) then
              some true
            else
              some false
        ) fun b26 =>
        if b26 = true then
          Option.bind (
            if (b2i (fX12_isWord (1818324336 : Int64) I L)) = 0 then
              some true
            else
              if (4 : Int32) ≤ (I 73 49) then
                some true
              else
                some false
          ) fun b27 =>
          if b27 = true then
            Option.bind (
              if (b2i (fX12_isWord (123581014175598 : Int64) I L)) = 0 then
                some true
              else
                if (4 : Int32) ≤ (I 73 50) then
                  some true
                else
                  some false
            ) fun b28 =>
            if b28 = true then
              Option.bind (
                if (b2i (fX12_isWord (495672452197 : Int64) I L)) = 0 then
                  some true
                else
                  if (I 73 61) = 0 then
                    some false
                  else
                    some true
              ) fun b29 =>
              if b29 = true then
                Option.bind (
                  if (b2i (fX12_isWord (427021006180 : Int64) I L)) = 0 then
                    some true
                  else
                    if (I 73 62) = 0 then
                      some false
                    else
                      some true
                ) fun b30 =>
                if b30 = true then
                  obn (fX12_wrong (2 : Int32) I) fun q31 =>
                  some (q31, L)
                else
                  Option.bind (fX12_told (427021006180 : Int64) (0 : Int32) (100 : Int32) (up2 I 73 62 (b2i true)) L) fun q33 =>
                  some (up2 q33.2.1 73 51 q33.1, q33.2.2)
              else
                Option.bind (fX12_readShade  (up2 I 73 61 (b2i true)) L) fun q36 =>
                some (q36.1, q36.2)
            else
              Option.bind (fX12_readPerson  I L) fun q37 =>
              some (q37.1, q37.2)
          else
            Option.bind (fX12_readLamp  I L) fun q38 =>
            some (q38.1, q38.2)
        else
          Option.bind (fX12_readDoor  I L) fun q39 =>
          some (q39.1, q39.2)
      else
        Option.bind (fX12_readWall  I L) fun q40 =>
        some (q40.1, q40.2)
    else
      Option.bind (fX12_told (1936292453 : Int64) (1 : Int32) (8 : Int32) (up2 I 73 59 (b2i true)) L) fun q42 =>
      Option.bind (fX12_told (25209 : Int64) (1 : Int32) (8 : Int32) (up2 q42.2.1 73 45 q42.1) q42.2.2) fun q44 =>
      some (up2 q44.2.1 73 46 q44.1, q44.2.2)
theorem line_eq : fX12_readLine J M = Option.bind (lnBody J M) lnTail := rfl
theorem idM (x : Option (HI × HL)) : (Option.bind x fun q => some (q.1, q.2)) = x := by cases x <;> rfl
/-- which words may begin a line -/
def mayB (T : Nat → Nat → Nat) (sh cl : Bool) (ln k : Nat) : Bool := if k = 0 then decide (ln = 0) else if k = 2 then true else if k = 3 then decide (tnD T < 8) else if k = 8 then decide (tnL T < 4) else if k = 10 then decide (tnP T < 4) else if k = 11 then !sh else if k = 12 then !cl else false
theorem x_full {tt m c : Nat} (h : I tt 0 = nI m) (hc : capT tt = c) (hm : m ≤ 8) (hc8 : c ≤ 8) : b2i (fX8_isFull tt I) = b2i (decide (¬ m < c)) := by
  unfold fX8_isFull
  rw [h, hc]
  by_cases d : m < c
  · rw [if_pos (show nI m < Int32.ofNat c from nI_lt d (by omega))]; simp [d]
  · rw [if_neg (show ¬ nI m < Int32.ofNat c from nI_nlt (by omega) (by omega))]; simp [d]
theorem x_may (h : Rel B n tl T N sh cl p I L J M) {ln : Nat} (hl : ln < 2000) : fX6_mayBegin tl (nI (kd B n p)) (nI ln) I = mayB T sh cl ln (kd B n p) := by
  obtain ⟨r0, ht, hT, hN, hX, hM, f6, f7, m61, m62, hsh⟩ := h
  obtain ⟨q1, q2, q3⟩ := cap_of ht
  have k256 := r0.2.1.kd r0.1
  have lit : ∀ c : Nat, c < 256 → ((nI (kd B n p) = nI c) ↔ kd B n p = c) := fun c hc => nI_eq (by omega) (by omega)
  have l0 : nI (kd B n p) = (0 : Int32) ↔ kd B n p = 0 := lit 0 (by decide)
  have l2 : nI (kd B n p) = (2 : Int32) ↔ kd B n p = 2 := lit 2 (by decide)
  have l3 : nI (kd B n p) = (3 : Int32) ↔ kd B n p = 3 := lit 3 (by decide)
  have l8 : nI (kd B n p) = (8 : Int32) ↔ kd B n p = 8 := lit 8 (by decide)
  have l10 : nI (kd B n p) = (10 : Int32) ↔ kd B n p = 10 := lit 10 (by decide)
  have l11 : nI (kd B n p) = (11 : Int32) ↔ kd B n p = 11 := lit 11 (by decide)
  have l12 : nI (kd B n p) = (12 : Int32) ↔ kd B n p = 12 := lit 12 (by decide)
  have ll : nI ln = (0 : Int32) ↔ ln = 0 := nI_eq (b := 0) (by omega) (by decide)
  have t2 := hT.2.1
  have t3 := hT.2.2.1
  have t4 := hT.2.2.2.1
  unfold fX6_mayBegin mayB
  rw [x_full hX.2.2.2.1 q1 t2 (by decide), x_full hX.2.2.2.2.2.1 q2 (by omega) (by decide), x_full hX.2.2.2.2.2.2.2.1 q3 (by omega) (by decide), f6, f7]
  simp only [l0, l2, l3, l8, l10, l11, l12, ll, b2i_eq0, decide_eq_false_iff_not, Decidable.not_not]
  by_cases c0 : kd B n p = 0
  · rw [if_pos c0, if_pos c0]; by_cases d : ln = 0 <;> simp [d]
  · rw [if_neg c0, if_neg c0]
    by_cases c2 : kd B n p = 2
    · rw [if_pos c2, if_pos c2]
    · rw [if_neg c2, if_neg c2]
      by_cases c3 : kd B n p = 3
      · rw [if_pos c3, if_pos c3]; by_cases d : tnD T < 8 <;> simp [d]
      · rw [if_neg c3, if_neg c3]
        by_cases c8 : kd B n p = 8
        · rw [if_pos c8, if_pos c8]; by_cases d : tnL T < 4 <;> simp [d]
        · rw [if_neg c8, if_neg c8]
          by_cases c10 : kd B n p = 10
          · rw [if_pos c10, if_pos c10]; by_cases d : tnP T < 4 <;> simp [d]
          · rw [if_neg c10, if_neg c10]
            by_cases c11 : kd B n p = 11
            · rw [if_pos c11, if_pos c11]; cases sh <;> simp
            · rw [if_neg c11, if_neg c11]
              by_cases c12 : kd B n p = 12
              · rw [if_pos c12, if_pos c12]; cases cl <;> simp
              · rw [if_neg c12, if_neg c12]
end LNS
