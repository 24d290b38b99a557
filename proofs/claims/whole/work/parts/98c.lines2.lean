/-! the loop over lines -/
def LineSt (ln : Nat) (J : HI) (T : Nat → Nat → Nat) : Prop := (ln = 0 → J 73 59 = 0 ∧ J 73 60 = 0 ∧ tnD T = 0 ∧ tnL T = 0 ∧ tnP T = 0 ∧ ∀ c, isW T c = false) ∧ (0 < ln → J 73 60 = 1)
section LNL
variable {B : Nat → Nat} {n p tl : Nat} {T : Nat → Nat → Nat} {N : Nat → Nat → List Nat} {sh cl : Bool} {I : HI} {L : HL} {J : HI} {M : HL}
theorem body_sel {k ln : Nat} (A0 A2 A3 A8 A10 A11 A12 AW : Option (HI × HL)) {w0 w2 w3 w8 w10 w11 w12 : Bool} (h0 : w0 = decide (k = 0)) (h2 : w2 = decide (k = 2)) (h3 : w3 = decide (k = 3)) (h8 : w8 = decide (k = 8)) (h10 : w10 = decide (k = 10)) (h11 : w11 = decide (k = 11)) (h12 : w12 = decide (k = 12)) {y59 y60 y47 y48 y49 y50 y61 y62 : Int32} (hs1 : ln = 0 → y59 = 0 ∧ y60 = 0) (hs2 : 0 < ln → y60 = 1) (e47 : ¬ (24 : Int32) < y47) (e48 : (8 : Int32) ≤ y48 ↔ ¬ tnD T < 8) (e49 : (4 : Int32) ≤ y49 ↔ ¬ tnL T < 4) (e50 : (4 : Int32) ≤ y50 ↔ ¬ tnP T < 4) (m61 : y61 = b2i sh) (m62 : y62 = b2i cl) : (Option.bind (if b2i w0 = 0 then some true else if y59 = 0 then if y60 = 0 then some false else some true else some true) fun b24 => if b24 = true then Option.bind (if b2i w2 = 0 then some true else if (24 : Int32) < y47 then some true else some false) fun b25 => if b25 = true then Option.bind (if b2i w3 = 0 then some true else if (8 : Int32) ≤ y48 then some true else some false) fun b26 => if b26 = true then Option.bind (if b2i w8 = 0 then some true else if (4 : Int32) ≤ y49 then some true else some false) fun b27 => if b27 = true then Option.bind (if b2i w10 = 0 then some true else if (4 : Int32) ≤ y50 then some true else some false) fun b28 => if b28 = true then Option.bind (if b2i w11 = 0 then some true else if y61 = 0 then some false else some true) fun b29 => if b29 = true then Option.bind (if b2i w12 = 0 then some true else if y62 = 0 then some false else some true) fun b30 => if b30 = true then AW else A12 else A11 else A10 else A8 else A3 else A2 else A0) = if mayB T sh cl ln k = false then AW else if k = 0 then A0 else if k = 2 then A2 else if k = 3 then A3 else if k = 8 then A8 else if k = 10 then A10 else if k = 11 then A11 else A12 := by
  subst h0 h2 h3 h8 h10 h11 h12 m61 m62
  simp only [b2i_eq0, decide_eq_false_iff_not, e47, e48, e49, e50, if_false]
  unfold mayB
  by_cases c0 : k = 0
  · simp only [c0, Nat.reduceEqDiff, not_false_eq_true, not_true_eq_false, if_true, if_false, Option.bind_some]
    by_cases d : ln = 0
    · obtain ⟨s1, s2⟩ := hs1 d
      simp only [s1, s2, d, if_true, Option.bind_some, Bool.false_eq_true, if_false, decide_true, Bool.true_eq_false]
    · have s2 := hs2 (by omega)
      have : (if y59 = 0 then if y60 = 0 then some false else some true else some true) = some true := by
        rw [s2, if_neg (show ¬ (1 : Int32) = 0 by decide), ite_self]
      simp only [this, d, Option.bind_some, if_true, decide_false]
  · by_cases c2 : k = 2
    · simp only [c2, Nat.reduceEqDiff, not_false_eq_true, not_true_eq_false, if_true, if_false, Option.bind_some, Bool.false_eq_true, Bool.true_eq_false]
    · by_cases c3 : k = 3
      · simp only [c3, Nat.reduceEqDiff, not_false_eq_true, not_true_eq_false, if_true, if_false, Option.bind_some]
        by_cases d : tnD T < 8
        · simp only [d, not_true_eq_false, if_false, Option.bind_some, Bool.false_eq_true, decide_true, Bool.true_eq_false]
        · simp only [d, not_false_eq_true, if_true, Option.bind_some, decide_false]
      · by_cases c8 : k = 8
        · simp only [c8, Nat.reduceEqDiff, not_false_eq_true, not_true_eq_false, if_true, if_false, Option.bind_some]
          by_cases d : tnL T < 4
          · simp only [d, not_true_eq_false, if_false, Option.bind_some, Bool.false_eq_true, decide_true, Bool.true_eq_false]
          · simp only [d, not_false_eq_true, if_true, Option.bind_some, decide_false]
        · by_cases c10 : k = 10
          · simp only [c10, Nat.reduceEqDiff, not_false_eq_true, not_true_eq_false, if_true, if_false, Option.bind_some]
            by_cases d : tnP T < 4
            · simp only [d, not_true_eq_false, if_false, Option.bind_some, Bool.false_eq_true, decide_true, Bool.true_eq_false]
            · simp only [d, not_false_eq_true, if_true, Option.bind_some, decide_false]
          · by_cases c11 : k = 11
            · simp only [c11, Nat.reduceEqDiff, not_false_eq_true, not_true_eq_false, if_true, if_false, Option.bind_some]
              cases sh with
              | true => simp
              | false => simp
            · by_cases c12 : k = 12
              · simp only [c12, Nat.reduceEqDiff, not_false_eq_true, not_true_eq_false, if_true, if_false, Option.bind_some]
                cases cl with
                | true => simp
                | false => simp
              · simp only [c0, c2, c3, c8, c10, c11, c12, not_false_eq_true, if_true, if_false, Option.bind_some]
theorem m_body (h : Rel B n tl T N sh cl p I L J M) {ln : Nat} (hst : LineSt ln J T) : lnBody J M = if mayB T sh cl ln (kd B n p) = false then some (rfM B n p 2 J, M) else if kd B n p = 0 then (Option.bind (fX12_told (1936292453 : Int64) (1 : Int32) (8 : Int32) (up2 J 73 59 (b2i true)) M) fun q42 => Option.bind (fX12_told (25209 : Int64) (1 : Int32) (8 : Int32) (up2 q42.2.1 73 45 q42.1) q42.2.2) fun q44 => some (up2 q44.2.1 73 46 q44.1, q44.2.2)) else if kd B n p = 2 then fX12_readWall J M else if kd B n p = 3 then fX12_readDoor J M else if kd B n p = 8 then fX12_readLamp J M else if kd B n p = 10 then fX12_readPerson J M else if kd B n p = 11 then fX12_readShade (up2 J 73 61 (b2i true)) M else (Option.bind (fX12_told (427021006180 : Int64) (0 : Int32) (100 : Int32) (up2 J 73 62 (b2i true)) M) fun q33 => some (up2 q33.2.1 73 51 q33.1, q33.2.2)) := by
  obtain ⟨r0, ht, hT, hN, hX, hM, f6, f7, m61, m62, hsh⟩ := h
  have hTM := r0.2.2.2.2.2.1
  have hMT := r0.2.2.2.2.2.2.1
  have t2 := hT.2.1
  have t3 := hT.2.2.1
  have t4 := hT.2.2.2.1
  have e47 : ¬ (24 : Int32) < J 73 47 := by rw [hM.2.2.2.2.2.1]; exact nI_nlt (a := 24) hsh.2 (by decide)
  have e48 : (8 : Int32) ≤ J 73 48 ↔ ¬ tnD T < 8 := by
    rw [hM.2.2.2.2.2.2.1]
    by_cases d : tnD T < 8
    · exact ⟨fun g => absurd g (nI_ge (b := 8) d (by decide)), fun g => absurd d g⟩
    · exact ⟨fun _ => d, fun _ => nI_le (a := 8) (by omega) (by omega)⟩
  have e49 : (4 : Int32) ≤ J 73 49 ↔ ¬ tnL T < 4 := by
    rw [hM.2.2.2.2.2.2.2.1]
    by_cases d : tnL T < 4
    · exact ⟨fun g => absurd g (nI_ge (b := 4) d (by decide)), fun g => absurd d g⟩
    · exact ⟨fun _ => d, fun _ => nI_le (a := 4) (by omega) (by omega)⟩
  have e50 : (4 : Int32) ≤ J 73 50 ↔ ¬ tnP T < 4 := by
    rw [hM.2.2.2.2.2.2.2.2.1]
    by_cases d : tnP T < 4
    · exact ⟨fun g => absurd g (nI_ge (b := 4) d (by decide)), fun g => absurd d g⟩
    · exact ⟨fun _ => d, fun _ => nI_le (a := 4) (by omega) (by omega)⟩
  have ew : fX12_wrong (2 : Int32) J = rfM B n p 2 J := m_wrong hTM r0.1 hMT r0.2.2.2.2.2.2.2.1 2
  unfold lnBody
  rw [idM, idM, idM, idM, idM, obn_eq, ew]
  exact body_sel _ _ _ _ _ _ _ _ (m_isWord hTM r0.1 hMT (by decide) (by decide)) (m_isWord hTM r0.1 hMT (by decide) (by decide)) (m_isWord hTM r0.1 hMT (by decide) (by decide)) (m_isWord hTM r0.1 hMT (by decide) (by decide)) (m_isWord hTM r0.1 hMT (by decide) (by decide)) (m_isWord hTM r0.1 hMT (by decide) (by decide)) (m_isWord hTM r0.1 hMT (by decide) (by decide)) (fun g => ⟨(hst.1 g).1, (hst.1 g).2.1⟩) hst.2 e47 e48 e49 e50 m61 m62
theorem ln_one {t0 f0 : Nat} (h : Rel B n tl T N sh cl p I L J M) {ln : Nat} (hst : LineSt ln J T) (hln : ln ≤ n) (hmay : mayB T sh cl ln (kd B n p) = true) (fu zf : Nat) : ∃ rx z2, fX6_readInto_45 tl t0 f0 (fu + 1) (nI n) 1 (nI ln) zf I L = Option.bind rx (fun q => fX6_readInto_45 tl t0 f0 fu (nI n) (b2i q.1) (nI (ln + 1)) z2 q.2.1 q.2.2) ∧ LineOut B n tl p I L J M rx (fX12_readLine J M) := by
  have hb := m_body h hst
  rw [hmay, if_neg (by decide)] at hb
  rw [line_eq, hb]
  obtain ⟨r0, ht, hT, hN, hX, hM, f6, f7, m61, m62, hsh⟩ := id h
  have k256 := r0.2.1.kd r0.1
  have n16 := r0.le
  have k7 : kd B n p = 0 ∨ kd B n p = 2 ∨ kd B n p = 3 ∨ kd B n p = 8 ∨ kd B n p = 10 ∨ kd B n p = 11 ∨ kd B n p = 12 := by
    unfold mayB at hmay
    by_cases c : kd B n p = 0 ∨ kd B n p = 2 ∨ kd B n p = 3 ∨ kd B n p = 8 ∨ kd B n p = 10 ∨ kd B n p = 11 ∨ kd B n p = 12
    · exact c
    · exfalso
      rw [if_neg (by omega), if_neg (by omega), if_neg (by omega), if_neg (by omega), if_neg (by omega), if_neg (by omega), if_neg (by omega)] at hmay
      cases hmay
  obtain ⟨I1, L1, J1, M1, a1, _⟩ := r0.step (by omega)
  have e4 : I 49 4 = nI (kd B n p) := r0.2.2.1.1
  have hx : fX6_readInto_45 tl t0 f0 (fu + 1) (nI n) 1 (nI ln) zf I L = (if kd B n p = 0 then Option.bind (fX6_readSize tl I1 L1) fun q10 => fX6_readInto_45 tl t0 f0 fu (nI n) (b2i q10.1) (nI (ln + 1)) zf q10.2.1 q10.2.2 else if kd B n p = 2 then Option.bind (fX6_readWalls tl I1 L1) fun q12 => fX6_readInto_45 tl t0 f0 fu (nI n) (b2i q12.1) (nI (ln + 1)) zf q12.2.1 q12.2.2 else if kd B n p = 3 then Option.bind (fX6_readDoor tl I1 L1) fun q14 => fX6_readInto_45 tl t0 f0 fu (nI n) (b2i q14.1) (nI (ln + 1)) zf q14.2.1 q14.2.2 else if kd B n p = 8 then Option.bind (fX6_readLamp tl I1 L1) fun q16 => fX6_readInto_45 tl t0 f0 fu (nI n) (b2i q16.1) (nI (ln + 1)) zf q16.2.1 q16.2.2 else if kd B n p = 10 then Option.bind (fX6_readPerson tl I1 L1) fun q18 => fX6_readInto_45 tl t0 f0 fu (nI n) (b2i q18.1) (nI (ln + 1)) zf q18.2.1 q18.2.2 else if kd B n p = 11 then Option.bind (fX6_readShade tl zf I1 L1) fun q20 => fX6_readInto_45 tl t0 f0 fu (nI n) (b2i q20.1) (nI (ln + 1)) q20.2.1 q20.2.2.1 q20.2.2.2 else Option.bind (fX6_readCloud tl I1 L1) fun q21 => fX6_readInto_45 tl t0 f0 fu (nI n) (b2i q21.1) (nI (ln + 1)) zf q21.2.1 q21.2.2) := by
    have lit : ∀ c : Nat, c < 256 → ((nI (kd B n p) = nI c) ↔ kd B n p = c) := fun c hc => nI_eq (by omega) (by omega)
    have l0 : nI (kd B n p) = (0 : Int32) ↔ kd B n p = 0 := lit 0 (by decide)
    have l2 : nI (kd B n p) = (2 : Int32) ↔ kd B n p = 2 := lit 2 (by decide)
    have l3 : nI (kd B n p) = (3 : Int32) ↔ kd B n p = 3 := lit 3 (by decide)
    have l8 : nI (kd B n p) = (8 : Int32) ↔ kd B n p = 8 := lit 8 (by decide)
    have l10 : nI (kd B n p) = (10 : Int32) ↔ kd B n p = 10 := lit 10 (by decide)
    have l11 : nI (kd B n p) = (11 : Int32) ↔ kd B n p = 11 := lit 11 (by decide)
    rw [fX6_readInto_45, if_neg (nI_nlt hln (by omega)), if_neg (by decide), e4, if_neg (show ¬ nI (kd B n p) = (22 : Int32) from ne_lit (c := 22) k256 (by decide) (by omega)), Option.bind_some, if_neg (by decide), x_may h (by omega), hmay, if_neg (by decide), a1, Option.bind_some, nI_1]
    simp only [l0, l2, l3, l8, l10, l11]
  rw [hx]
  rcases k7 with c | c | c | c | c | c | c
  · have l0 : ln = 0 := by unfold mayB at hmay; rw [if_pos c] at hmay; simpa using hmay
    obtain ⟨_, _, s3, s4, s5, s6⟩ := hst.1 l0
    rw [if_pos c, if_pos c]
    exact ⟨_, zf, rfl, ln_fin (ln_size h c s3 s4 s5 s6 a1)⟩
  · rw [if_neg (by omega), if_pos c, if_neg (by omega), if_pos c]
    exact ⟨_, zf, rfl, ln_fin (ln_wall h (by omega) (by omega) a1)⟩
  · have l0 : tnD T < 8 := by unfold mayB at hmay; rw [if_neg (by omega), if_neg (by omega), if_pos c] at hmay; simpa using hmay
    rw [if_neg (by omega), if_neg (by omega), if_pos c, if_neg (by omega), if_neg (by omega), if_pos c]
    exact ⟨_, zf, rfl, ln_fin (ln_door h (by omega) (by omega) l0 a1)⟩
  · have l0 : tnL T < 4 := by unfold mayB at hmay; rw [if_neg (by omega), if_neg (by omega), if_neg (by omega), if_pos c] at hmay; simpa using hmay
    rw [if_neg (by omega), if_neg (by omega), if_neg (by omega), if_pos c, if_neg (by omega), if_neg (by omega), if_neg (by omega), if_pos c]
    exact ⟨_, zf, rfl, ln_fin (ln_lamp h (by omega) (by omega) l0 a1)⟩
  · have l0 : tnP T < 4 := by unfold mayB at hmay; rw [if_neg (by omega), if_neg (by omega), if_neg (by omega), if_neg (by omega), if_pos c] at hmay; simpa using hmay
    rw [if_neg (by omega), if_neg (by omega), if_neg (by omega), if_neg (by omega), if_pos c, if_neg (by omega), if_neg (by omega), if_neg (by omega), if_neg (by omega), if_pos c]
    exact ⟨_, zf, rfl, ln_fin (ln_person h (by omega) (by omega) l0 a1)⟩
  · have l0 : sh = false := by unfold mayB at hmay; rw [if_neg (by omega), if_neg (by omega), if_neg (by omega), if_neg (by omega), if_neg (by omega), if_pos c] at hmay; simpa using hmay
    subst l0
    rw [if_neg (by omega), if_neg (by omega), if_neg (by omega), if_neg (by omega), if_neg (by omega), if_pos c, if_neg (by omega), if_neg (by omega), if_neg (by omega), if_neg (by omega), if_neg (by omega), if_pos c]
    obtain ⟨rx, e1, e2⟩ := ln_shade (zf := zf) h c a1
    refine ⟨rx, tl + 19, ?_, ln_fin e2⟩
    rw [e1]
    cases rx with
    | none => rfl
    | some q => rfl
  · have l0 : cl = false := by unfold mayB at hmay; rw [if_neg (by omega), if_neg (by omega), if_neg (by omega), if_neg (by omega), if_neg (by omega), if_neg (by omega), if_pos c] at hmay; simpa using hmay
    rw [if_neg (by omega), if_neg (by omega), if_neg (by omega), if_neg (by omega), if_neg (by omega), if_neg (by omega), if_neg (by omega), if_neg (by omega), if_neg (by omega), if_neg (by omega), if_neg (by omega), if_neg (by omega)]
    exact ⟨_, zf, rfl, ln_fin (ln_cloud h c a1)⟩
/-- all lines -/
theorem ln_all {t0 f0 : Nat} : ∀ (m ln p zf : Nat) (T : Nat → Nat → Nat) (N : Nat → Nat → List Nat) (sh cl : Bool) (I : HI) (L : HL) (J : HI) (M : HL) (fu fu2 : Nat), Rel B n tl T N sh cl p I L J M → LineSt ln J T → ln ≤ p → n ≤ p + m → m + 2 ≤ fu → m + 2 ≤ fu2 → ∃ res J' M', fX6_readInto_45 tl t0 f0 fu (nI n) 1 (nI ln) zf I L = some res ∧ fX12_readAll_114 fu2 J M = some (J', M') ∧ FMr J J' M M' ∧ ((∃ z2 I' L' T' N' sh' cl' q, res = .inl (1, z2, I', L') ∧ Rel B n tl T' N' sh' cl' q I' L' J' M' ∧ FXr tl I I' L L') ∨ (∃ z2 I' L', (res = .inl (0, z2, I', L') ∨ res = .inr (false, z2, I', L')) ∧ FXr tl I I' L L' ∧ Bd2 I' J')) := by
  intro m
  induction m with
  | zero =>
    intro ln p zf T N sh cl I L J M fu fu2 h hst hlp hm hf hf2
    obtain ⟨f, rfl⟩ : ∃ f, fu = f + 1 := ⟨fu - 1, by omega⟩
    obtain ⟨f2, rfl⟩ : ∃ f, fu2 = f + 1 := ⟨fu2 - 1, by omega⟩
    obtain ⟨r0, _⟩ := id h
    have n16 := r0.le
    have pn : p = n := by have := r0.1; omega
    have k22 : kd B n p = 22 := by
      have := tS_le (B := B) r0.1
      unfold kd
      rw [if_pos (by omega)]
    have e4 : I 49 4 = (22 : Int32) := by rw [r0.2.2.1.1, k22]; rfl
    have e6 : J 73 6 = 0 := by rw [r0.2.2.2.2.2.2.1.1, k22]; rfl
    refine ⟨.inl (1, zf, I, L), J, M, ?_, ?_, FMr.refl, Or.inl ⟨zf, I, L, T, N, sh, cl, p, rfl, h, FXr.refl⟩⟩
    · rw [fX6_readInto_45, if_neg (nI_nlt (by omega) (by omega)), if_neg (by decide), if_pos e4, Option.bind_some, if_pos rfl]
    · rw [fX12_readAll_114, r0.2.2.2.2.2.2.2.1, if_pos rfl, e6, if_pos rfl, Option.bind_some, if_pos rfl]
  | succ m ih =>
    intro ln p zf T N sh cl I L J M fu fu2 h hst hlp hm hf hf2
    obtain ⟨f, rfl⟩ : ∃ f, fu = f + 1 := ⟨fu - 1, by omega⟩
    obtain ⟨f2, rfl⟩ : ∃ f, fu2 = f + 1 := ⟨fu2 - 1, by omega⟩
    obtain ⟨r0, _⟩ := id h
    have n16 := r0.le
    have pn := r0.1
    have k256 := r0.2.1.kd r0.1
    have e02 : J 73 2 = 0 := r0.2.2.2.2.2.2.2.1
    by_cases k22 : kd B n p = 22
    · have e4 : I 49 4 = (22 : Int32) := by rw [r0.2.2.1.1, k22]; rfl
      have e6 : J 73 6 = 0 := by rw [r0.2.2.2.2.2.2.1.1, k22]; rfl
      refine ⟨.inl (1, zf, I, L), J, M, ?_, ?_, FMr.refl, Or.inl ⟨zf, I, L, T, N, sh, cl, p, rfl, h, FXr.refl⟩⟩
      · rw [fX6_readInto_45, if_neg (nI_nlt (by omega) (by omega)), if_neg (by decide), if_pos e4, Option.bind_some, if_pos rfl]
      · rw [fX12_readAll_114, e02, if_pos rfl, e6, if_pos rfl, Option.bind_some, if_pos rfl]
    · have e4 : I 49 4 = nI (kd B n p) := r0.2.2.1.1
      have n6 : ¬ J 73 6 = 0 := by
        have g := m_sort r0.2.2.2.2.2.1 r0.1 r0.2.2.2.2.2.2.1 (s := 0) (by decide)
        rw [sk_0] at g
        exact fun e => k22 (g.mp e)
      have eR : fX12_readAll_114 (f2 + 1) J M = Option.bind (fX12_readLine J M) fun q24 => fX12_readAll_114 f2 q24.1 q24.2 := by
        rw [fX12_readAll_114, e02, if_pos rfl, if_neg n6, Option.bind_some, if_neg (by decide)]
      obtain ⟨f3, hf3⟩ : ∃ f3, f2 = f3 + 1 := ⟨f2 - 1, by omega⟩
      have badR : ∀ J' M', isBd J' → fX12_readAll_114 f2 J' M' = some (J', M') := fun J' M' g => by
        rw [hf3, fX12_readAll_114, if_neg g.2, Option.bind_some, if_pos rfl]
      cases hmay : mayB T sh cl ln (kd B n p) with
      | false =>
        have hb := m_body h hst
        rw [hmay, if_pos rfl] at hb
        have hbd : Bd2 (rfX B n p 2 I) (up2 (rfM B n p 2 J) 73 60 (b2i true)) := (s_bd r0 (f := 2) (by decide) (by decide)).fr rfl rfl (by rw [up2_at, if_neg (by decide)]) (by rw [up2_at, if_neg (by decide)])
        refine ⟨.inr (false, zf, rfX B n p 2 I, L), up2 (rfM B n p 2 J) 73 60 (b2i true), M, ?_, ?_, (FMr.of (XB2.rf 2)).trans (FMr.fld (by unfold kp73; omega)), Or.inr ⟨zf, rfX B n p 2 I, L, Or.inr rfl, FXr.of (XA2.rf 2), hbd⟩⟩
        · rw [fX6_readInto_45, if_neg (nI_nlt (by omega) (by omega)), if_neg (by decide), e4, if_neg (show ¬ nI (kd B n p) = (22 : Int32) from ne_lit (c := 22) k256 (by decide) k22), Option.bind_some, if_neg (by decide), x_may h (by omega), hmay, if_pos (by decide), obn_eq, show (2 : Int32) = nI 2 from rfl, x_refuse r0.2.2.1 k256]
        · rw [eR, line_eq, hb, Option.bind_some]
          unfold lnTail
          simp only
          rw [if_neg hbd.m.2, Option.bind_some, if_pos rfl, Option.bind_some, if_neg hbd.m.2, Option.bind_some]
          exact badR _ _ hbd.m
      | true =>
        obtain ⟨rx, z2, e1, e2⟩ := ln_one (t0 := t0) (f0 := f0) h hst (by omega) hmay f zf
        rw [e1, eR]
        rcases e2 with ⟨T', N', sh', cl', q, I', L', J', M', q1, q2, q3, q4, q5, q6, q7⟩ | ⟨I', L', J', M', q2, q3, q6, q7, q8⟩
        · rw [q2, q3, Option.bind_some, Option.bind_some, show b2i true = 1 from rfl]
          obtain ⟨res, J2, M2, w1, w2, w3, w4⟩ := ih (ln + 1) q z2 T' N' sh' cl' I' L' J' M' f f2 q4 ⟨fun g => by omega, fun _ => q5⟩ (by omega) (by omega) (by omega) (by omega)
          refine ⟨res, J2, M2, w1, w2, q7.trans w3, ?_⟩
          rcases w4 with ⟨z3, I3, L3, T3, N3, s3, c3, q3, v1, v2, v3⟩ | ⟨z3, I3, L3, v1, v2, v3⟩
          · exact Or.inl ⟨z3, I3, L3, T3, N3, s3, c3, q3, v1, v2, q6.trans v3⟩
          · exact Or.inr ⟨z3, I3, L3, v1, q6.trans v2, v3⟩
        · rw [q2, q3, Option.bind_some, Option.bind_some, show b2i false = 0 from rfl]
          simp only
          obtain ⟨f4, hf4⟩ : ∃ f4, f = f4 + 1 := ⟨f - 1, by omega⟩
          refine ⟨.inl (0, z2, I', L'), J', M', ?_, badR _ _ q8.m, q7, Or.inr ⟨z2, I', L', Or.inl rfl, q6, q8⟩⟩
          have : (if nI n < nI (ln + 1) then some true else if (0 : Int32) = 0 then some true else if I' 49 4 = (22 : Int32) then some true else some false) = some true := by
            rw [if_pos rfl, ite_self]
          rw [hf4, fX6_readInto_45, this, Option.bind_some, if_pos rfl]
end LNL
