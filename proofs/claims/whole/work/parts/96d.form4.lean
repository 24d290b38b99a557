/-! the formula: the reference between units -/
section FR4
variable {B : Nat → Nat} {n p : Nat} {J J' J2 : HI} {M M' M2 : HL} {D : List (Nat × Nat)} {K S R : List Nat} {u : Nat}
theorem sg_ok {k : Nat} (h : sgOf k ≠ 0) : okOp (sgOf k) ∧ k ≠ 41 ∧ k ≠ 23 ∧ k ≠ 22 := by
  unfold sgOf at *
  unfold okOp
  split
  · omega
  · rename_i c; rw [if_neg c] at h
    split
    · omega
    · rename_i c; rw [if_neg c] at h
      split
      · omega
      · rename_i c; rw [if_neg c] at h; exact absurd rfl h
theorem rs_sel (h : MS B n p J M) (fv : Nat) (hb8 : (if (J 73 6) = (41 : Int32) then Option.bind (fX12_hasBracket J) fun q9 => if (b2i q9) = 0 then some true else some false else some true) = some true) : fX12_readShade_30 (fv + 1) (1 : Int32) J M = Option.bind (if (fX12_sign J M) = 0 then some true else if (fX12_tight (fX12_sign J M)) = (4 : Int32) then Option.bind (fX12_hasRelation J) fun q11 => if (b2i q11) = 0 then some false else some true else some false) fun b10 => if b10 = true then fX12_readShade_30 fv (0 : Int32) J M else Option.bind (fX12_close (fX12_tight (fX12_sign J M)) J) fun q12 => if inb (q12 73 19) 160 = true then Option.bind (fX12_token (up2 (up2 q12 80 (q12 73 19).toNatClampNeg (fX12_sign J M)) 73 19 ((up2 q12 80 (q12 73 19).toNatClampNeg (fX12_sign J M) 73 19) + (1 : Int32))) M) fun q16 => Option.bind (fX12_unit q16.1 q16.2) fun q17 => fX12_readShade_30 fv (1 : Int32) q17.1 q17.2 else none := by
  rw [fX12_readShade_30, if_neg (by decide), h.2.2.2.1, if_pos rfl, Option.bind_some, if_neg (by decide), hb8, Option.bind_some, if_pos rfl]
theorem S_op {l s : Nat} (h : MS B n p J M) (hF : FM2 D (R ++ S) u J) (hv : ∀ x, x ∈ R ++ S → vS x) (hl : (R ++ S).length < 140) (hR : RV l R) (hS : topOK l S) (hs : sgOf (kd B n p) = s) (hs0 : s ≠ 0) (hsl : tg s = l) (hrel : tg s = 4 → hasRel (R ++ S) = false) (hD : D.length + R.length < 300) (fv : Nat) : ∃ J' M', fX12_readShade_30 (fv + 1) (1 : Int32) J M = rU FUEL fv J' M' ∧ MS B n (nx B n p) J' M' ∧ FM2 (D ++ R.map st1) (s :: S) u J' ∧ FMf J J' M M' := by
  obtain ⟨so, k41, k23, k22⟩ := sg_ok (k := kd B n p) (by rw [hs]; exact hs0)
  rw [hs] at so
  have hs256 : s < 256 := by unfold okOp at so; omega
  have es := m_sign h
  rw [hs] at es
  have et : fX12_tight (nI s) = nI l := by rw [← hsl]; exact m_tight ⟨s, hs256⟩
  have l7 := tg_lt s
  have lS : S.length ≤ (R ++ S).length := by simp
  obtain ⟨f0, hf0⟩ := fuel_at 200 (by decide)
  obtain ⟨J2, c1, c2, c3, c4, c5, c6⟩ := m_close (l := l) (S := S) (by omega) hS (fun x hx => hv x (by simp [hx])) (by omega) R FUEL D J hR hF.1 hF.2.1 hF.2.2.1 (by omega) (by omega) (by simp at hl; omega)
  obtain ⟨J3, hJ3⟩ : ∃ y : HI, y = up2 (up2 J2 80 S.length (nI s)) 73 19 (nI (S.length + 1)) := ⟨_, rfl⟩
  have k73 : ∀ j, j ≠ 19 → J3 73 j = J2 73 j := fun j hj => by rw [hJ3, up2_at, if_neg (by omega), upRow _ _ (by decide)]
  have ko : ∀ a, a ≠ 73 → a ≠ 80 → J3 a = J2 a := fun a h1 h2 => by rw [hJ3, upRow _ _ h1, upRow _ _ h2]
  have h3 : MS B n p J3 M := h.fr (fun j hj => by rw [k73 j (by omega), c6 j (by omega) (by omega) (by omega)]) (by rw [ko 74 (by decide) (by decide), c5 74 (by decide) (by decide) (by decide)])
  have F3 : FM2 (D ++ R.map st1) (s :: S) u J3 := by
    refine ⟨c2.fr (k73 17 (by decide)) (ko 76 (by decide) (by decide)) (ko 77 (by decide) (by decide)), c3.push (by rw [hJ3, up2_eq]) (fun i => by rw [hJ3, upRow _ _ (by decide), up2_at]; simp), ?_, ?_, ?_⟩
    · rw [k73 23 (by decide), c4, wd, if_neg (by unfold okOp at so; omega), Nat.zero_add]
    · rw [k73 20 (by decide), c6 20 (by decide) (by decide) (by decide)]; exact hF.2.2.2.1
    · rw [k73 22 (by decide), c6 22 (by decide) (by decide) (by decide)]; exact hF.2.2.2.2
  have f3 : FMf J J3 M M := ⟨fun a x1 x2 x3 x4 => by rw [ko a x1 x4, c5 a x1 x2 x3], fun j hj => by rw [k73 j (by omega), c6 j (by omega) (by omega) (by omega)], fun _ _ => rfl, fun _ _ => rfl⟩
  obtain ⟨J', M', b1, b2, b3⟩ := h3.tok k23
  refine ⟨J', M', ?_, b2, F3.fb b3, f3.trans (FMf.of (XB2.of b3))⟩
  rw [rs_sel h fv (by rw [if_neg (show ¬ J 73 6 = (41 : Int32) from fun g => k41 ((h.srt (s := 41) (by decide) (by decide)).mp g))])]
  have b10 : (if (fX12_sign J M) = 0 then some true else if (fX12_tight (fX12_sign J M)) = (4 : Int32) then Option.bind (fX12_hasRelation J) fun q11 => if (b2i q11) = 0 then some false else some true else some false) = some false := by
    rw [es, et, if_neg (show ¬ nI s = (0 : Int32) from fun g => hs0 ((nI_eq (b := 0) (by omega) (by decide)).mp g))]
    by_cases c : l = 4
    · rw [if_pos (show nI l = (4 : Int32) by rw [c]; rfl), m_hasRel hF.2.1 hv (by omega), Option.bind_some, hrel (by omega), if_pos (by decide)]
    · rw [if_neg (show ¬ nI l = (4 : Int32) from ne_lit (c := 4) (by omega) (by decide) c)]
  have ecl : fX12_close (nI l) J = some J2 := by
    unfold fX12_close
    rw [c1, Option.bind_some]
  have e19 : up2 J2 80 S.length (nI s) 73 19 = nI S.length := by rw [upRow _ _ (by decide)]; exact c3.1
  rw [b10, Option.bind_some, if_neg (by decide), es, et, ecl, Option.bind_some, c3.1, if_pos (inb_nI (show S.length < 160 by omega) (by decide))]
  simp only [clamp_nI (show S.length < 2 ^ 31 by omega), e19, nI_1]
  rw [← hJ3, b1, Option.bind_some]
  simp only
  rw [unit_eq]
  unfold rU
  cases fX12_unit_2 FUEL (1 : Int32) J' M' with
  | none => rfl
  | some q => rfl
theorem S_close (h : MS B n p J M) (hF : FM2 D (R ++ 20 :: S) u J) (hv : ∀ x, x ∈ R ++ 20 :: S → vS x) (hl : (R ++ 20 :: S).length < 140) (hR : ∀ x, x ∈ R → x ≠ 20) (hk : kd B n p = 41) (hD : D.length + R.length < 300) (fv : Nat) : ∃ J' M', fX12_readShade_30 (fv + 1) (1 : Int32) J M = fX12_readShade_30 fv (1 : Int32) J' M' ∧ MS B n (nx B n p) J' M' ∧ FM2 (D ++ R.map st1) S u J' ∧ FMf J J' M M' := by
  have lS : (20 :: S).length ≤ (R ++ 20 :: S).length := by simp
  obtain ⟨f0, hf0⟩ := fuel_at 200 (by decide)
  obtain ⟨J2, c1, c2, c3, c4, c5, c6⟩ := m_close (l := 0) (S := 20 :: S) (by omega) (Or.inl rfl) (fun x hx => hv x (List.mem_append_right _ hx)) (by omega) R FUEL D J (fun x hx => ⟨hR x hx, Nat.zero_le _, hv x (List.mem_append_left _ hx)⟩) hF.1 hF.2.1 hF.2.2.1 (by omega) (by omega) (by simp at hl; omega)
  obtain ⟨J3, hJ3⟩ : ∃ y : HI, y = up2 (up2 J2 73 19 (nI S.length)) 73 23 (nI (wd S)) := ⟨_, rfl⟩
  have k73 : ∀ j, j ≠ 19 → j ≠ 23 → J3 73 j = J2 73 j := fun j h1 h2 => by rw [hJ3, up2_at, if_neg (by omega), up2_at, if_neg (by omega)]
  have ko : ∀ a, a ≠ 73 → J3 a = J2 a := fun a h1 => by rw [hJ3, upRow _ _ h1, upRow _ _ h1]
  have h3 : MS B n p J3 M := h.fr (fun j hj => by rw [k73 j (by omega) (by omega), c6 j (by omega) (by omega) (by omega)]) (by rw [ko 74 (by decide), c5 74 (by decide) (by decide) (by decide)])
  have F3 : FM2 (D ++ R.map st1) S u J3 := by
    refine ⟨c2.fr (k73 17 (by decide) (by decide)) (ko 76 (by decide)) (ko 77 (by decide)), c3.pop (by rw [hJ3, up2_at, if_neg (by decide), up2_eq]) (ko 80 (by decide)), by rw [hJ3, up2_eq], ?_, ?_⟩
    · rw [k73 20 (by decide) (by decide), c6 20 (by decide) (by decide) (by decide)]; exact hF.2.2.2.1
    · rw [k73 22 (by decide) (by decide), c6 22 (by decide) (by decide) (by decide)]; exact hF.2.2.2.2
  have f3 : FMf J J3 M M := ⟨fun a x1 x2 x3 x4 => by rw [ko a x1, c5 a x1 x2 x3], fun j hj => by rw [k73 j (by omega) (by omega), c6 j (by omega) (by omega) (by omega)], fun _ _ => rfl, fun _ _ => rfl⟩
  obtain ⟨J', M', b1, b2, b3⟩ := h3.tok (by omega)
  refine ⟨J', M', ?_, b2, F3.fb b3, f3.trans (FMf.of (XB2.of b3))⟩
  have ecl : fX12_close (0 : Int32) J = some J2 := by
    unfold fX12_close
    rw [show (0 : Int32) = nI 0 from rfl, c1, Option.bind_some]
  have e19 : J2 73 19 - (1 : Int32) = nI S.length := by rw [c3.1, List.length_cons, nI_m1 (by omega), Nat.add_sub_cancel]
  have e23 : up2 J2 73 19 (nI S.length) 73 23 - (1 : Int32) = nI (wd S) := by rw [up2_at, if_neg (by decide), c4, wd, if_pos (Or.inl rfl), nI_m1 (by omega), Nat.add_sub_cancel_left]
  rw [fX12_readShade_30, if_neg (by decide), h.2.2.2.1, if_pos rfl, Option.bind_some, if_neg (by decide), if_pos (show J 73 6 = (41 : Int32) from (h.srt (by decide) (by decide)).mpr hk), m_hasBr hF.2.1 hv (by omega), Option.bind_some, if_neg (show ¬ b2i (decide (20 ∈ R ++ 20 :: S)) = 0 by rw [b2i_eq0]; simp), Option.bind_some, if_neg (by decide), ecl, Option.bind_some]
  simp only [e19, e23]
  rw [← hJ3, b1, Option.bind_some]
theorem S_stop (h : MS B n p J M) (hF : FM2 D K u J) (hv : ∀ x, x ∈ K → vS x) (hl : K.length < 140) (hk : kd B n p = 41 → 20 ∉ K) (hs : sgOf (kd B n p) = 0 ∨ (tg (sgOf (kd B n p)) = 4 ∧ hasRel K = true)) (fv : Nat) : fX12_readShade_30 (fv + 2) (1 : Int32) J M = some (J, M) := by
  have es := m_sign h
  rw [rs_sel h (fv + 1)]
  · have b10 : (if (fX12_sign J M) = 0 then some true else if (fX12_tight (fX12_sign J M)) = (4 : Int32) then Option.bind (fX12_hasRelation J) fun q11 => if (b2i q11) = 0 then some false else some true else some false) = some true := by
      by_cases c : sgOf (kd B n p) = 0
      · rw [es, c, if_pos (show nI 0 = (0 : Int32) from rfl)]
      · obtain ⟨so, _⟩ := sg_ok c
        have hs256 : sgOf (kd B n p) < 256 := by unfold okOp at so; omega
        obtain ⟨h1, h2⟩ := hs.resolve_left c
        have et : fX12_tight (nI (sgOf (kd B n p))) = nI 4 := by rw [← h1]; exact m_tight ⟨_, hs256⟩
        rw [es, et, if_neg (show ¬ nI (sgOf (kd B n p)) = (0 : Int32) from fun g => c ((nI_eq (b := 0) (by omega) (by decide)).mp g)), if_pos (show nI 4 = (4 : Int32) from rfl), m_hasRel hF.2.1 hv (by omega), Option.bind_some, h2, if_neg (by decide)]
    rw [b10, Option.bind_some, if_pos rfl, fX12_readShade_30, if_pos rfl, Option.bind_some, if_pos rfl]
  · by_cases c : kd B n p = 41
    · rw [if_pos (show J 73 6 = (41 : Int32) from (h.srt (by decide) (by decide)).mpr c), m_hasBr hF.2.1 hv (by omega), Option.bind_some, if_pos (show b2i (decide (20 ∈ K)) = 0 by rw [b2i_eq0]; simp [hk c])]
    · rw [if_neg (show ¬ J 73 6 = (41 : Int32) from fun g => c ((h.srt (s := 41) (by decide) (by decide)).mp g))]
/-! lists -/
theorem rel_no : ∀ R : List Nat, RV 5 R → topOK 4 S → hasRel (R ++ S) = false := by
  intro R
  induction R with
  | nil =>
    intro _ h
    cases S with
    | nil => rfl
    | cons x t =>
      rw [List.nil_append, hasRel]
      rcases h with e | e
      · rw [if_pos e]
      · split
        · rfl
        · rw [if_neg (by omega)]; simp; omega
  | cons x t ih =>
    intro h hS
    obtain ⟨h1, h2, _⟩ := h x (by simp)
    rw [List.cons_append, hasRel, if_neg h1, if_pos (by omega)]
    exact ih (fun y hy => h y (by simp [hy])) hS
theorem rel_yes {r : Nat} (hr : tg r = 4) (h20 : r ≠ 20) : ∀ R : List Nat, RV 5 R → hasRel (R ++ r :: S) = true := by
  intro R
  induction R with
  | nil => intro _; rw [List.nil_append, hasRel, if_neg h20, if_neg (by omega)]; simp [hr]
  | cons x t ih =>
    intro h
    obtain ⟨h1, h2, _⟩ := h x (by simp)
    rw [List.cons_append, hasRel, if_neg h1, if_pos (by omega)]
    exact ih (fun y hy => h y (by simp [hy]))
end FR4
