/-! the formula: the reference's steps -/
noncomputable def uR (J : HI) (M : HL) : Option (HI × HL) :=
  if (J 73 2) ≤ 0 then
    Option.bind (
      Option.bind (
        if (J 73 6) = (2 : Int32) then
          some true
        else
          if (fX12_asked J M) < 0 then
            some false
          else
            some true
      ) fun b21 =>
      if b21 = true then
        if (b2i (fX12_isFull J)) = 0 then
          some J
        else
          obn (fX12_wrong (2 : Int32) J) fun q22 =>
          some q22
      else
        obn (fX12_wrong (2 : Int32) J) fun q23 =>
        some q23
    ) fun q20 =>
    if (q20 73 2) ≤ 0 then
      obn (fX12_countUnit  q20) fun q24 =>
      Option.bind (
        if 0 ≤ (fX12_asked J M) then
          some true
        else
          some false
      ) fun q25 =>
      Option.bind (
        if 0 ≤ (fX12_asked J M) then
          some (fX12_asked J M)
        else
          some (q24 73 8)
      ) fun q26 =>
      Option.bind (fX12_add (b2i q25) q26 q24) fun q27 =>
      Option.bind (fX12_token  q27 M) fun q28 =>
      some (q28.1, q28.2)
    else
      some (q20, M)
  else
    some (J, M)
theorem unit_eq (J : HI) (M : HL) : fX12_unit J M = Option.bind (fX12_unit_2 FUEL (1 : Int32) J M) fun q => uR q.1 q.2 := rfl
noncomputable def rU (fu fv : Nat) (J : HI) (M : HL) : Option (HI × HL) := Option.bind (fX12_unit_2 fu (1 : Int32) J M) fun q => Option.bind (uR q.1 q.2) fun q17 => fX12_readShade_30 fv (1 : Int32) q17.1 q17.2
def BdM (B : Nat → Nat) (n p : Nat) (J : HI) : Prop := J 73 2 = nI (flt B n p 2) ∧ J 73 3 = nI (tS B n p)
section FR3
variable {B : Nat → Nat} {n p : Nat} {J J' J2 : HI} {M M' M2 : HL} {D : List (Nat × Nat)} {K S R : List Nat} {u : Nat}
theorem MS.fr (h : MS B n p J M) (h73 : ∀ j, 2 ≤ j ∧ j ≤ 8 → J' 73 j = J 73 j) (h74 : J' 74 = J 74) : MS B n p J' M := by
  obtain ⟨a1, a2, a3, a4, a5⟩ := h
  refine ⟨a1, a2.fr (h73 5 (by omega)) h74, ?_, by rw [h73 2 (by omega)]; exact a4, by rw [h73 3 (by omega)]; exact a5⟩
  unfold MT at *
  rw [h73 6 (by omega), h73 7 (by omega), h73 4 (by omega), h73 8 (by omega)]
  exact a3
theorem MS.tok (h : MS B n p J M) (hk : kd B n p ≠ 23) : ∃ J' M', fX12_token J M = some (J', M') ∧ MS B n (nx B n p) J' M' ∧ LxB J J' M M' := by
  obtain ⟨a1, a2, a3, a4, a5⟩ := h
  obtain ⟨J', M', b1, b2, b3⟩ := m_tok' a2 a1 a3 hk
  exact ⟨J', M', b1, ⟨(nx_le a1).2, a2.fb b3, b2, by rw [b3.2.1 2 (by decide) (by decide) (by decide) (by decide)]; exact a4, by rw [b3.2.1 3 (by decide) (by decide) (by decide) (by decide)]; exact a5⟩, b3⟩
theorem MS.bd (h : MS B n p J M) : BdM B n p (rfM B n p 2 J) := ⟨rfM_2 2, rfM_3 2⟩
theorem BdM.m (h : BdM B n p J) : isBd J := bad_nI (flt_pos (by decide)) (flt_lt (by decide)) h.1
theorem MS.srt (h : MS B n p J M) {s : Nat} (h1 : 24 ≤ s) (h2 : s < 256) : J 73 6 = nI s ↔ kd B n p = s := by rw [m_sort h.2.1 h.1 h.2.2.1 h2, sk_s h1]
theorem MS.srt2 (h : MS B n p J M) : J 73 6 = (2 : Int32) ↔ kd B n p = 21 := by
  have g := m_sort h.2.1 h.1 h.2.2.1 (s := 2) (by decide)
  rw [sk_2] at g
  exact g
theorem MS.kd (h : MS B n p J M) : kd B n p < 256 := h.2.1.kd h.1
/-- once there is a fault, nothing is read -/
theorem bad_unit2 (h : isBd J) (fu : Nat) : fX12_unit_2 (fu + 1) (1 : Int32) J M = some (J, M) := by
  rw [fX12_unit_2, if_neg (by decide), if_neg h.2, Option.bind_some, if_pos rfl]
theorem bad_uR (h : isBd J) : uR J M = some (J, M) := by
  unfold uR
  rw [if_neg h.1]
theorem bad_rs (h : isBd J) (fv : Nat) : fX12_readShade_30 (fv + 1) (1 : Int32) J M = some (J, M) := by
  rw [fX12_readShade_30, if_neg (by decide), if_neg h.2, Option.bind_some, if_pos rfl]
theorem bad_rU {fu fv : Nat} (e : fX12_unit_2 fu (1 : Int32) J M = some (J', M')) (h : isBd J') : rU fu (fv + 1) J M = some (J', M') := by
  unfold rU
  rw [e, Option.bind_some]
  simp only
  rw [bad_uR h, Option.bind_some]
  simp only
  rw [bad_rs h]
/-- what is opened -/
def opJ (x : Nat) (K : List Nat) (w : Nat) (J : HI) : HI := up2 (up2 (up2 J 80 K.length (nI x)) 73 19 (nI (K.length + 1))) 73 23 (nI (w + 1))
theorem opJ_eq {x w : Nat} (h : SkM K J) (hw : J 73 23 = nI w) (hl : K.length < 150) : fX12_openUp (nI x) J M = if (opJ x K w J 73 2) = 0 then Option.bind (fX12_token (opJ x K w J) M) (fun q5 => some (q5.1, q5.2)) else some (opJ x K w J, M) := by
  unfold fX12_openUp
  rw [h.1, if_pos (inb_nI (show K.length < 160 by omega) (by decide))]
  have e1 : up2 J 80 K.length (nI x) 73 19 = nI K.length := by rw [upRow _ _ (by decide)]; exact h.1
  have e2 : up2 (up2 J 80 K.length (nI x)) 73 19 (nI (K.length + 1)) 73 23 = nI w := by rw [up2_at, if_neg (by decide), upRow _ _ (by decide)]; exact hw
  simp only [clamp_nI (show K.length < 2 ^ 31 by omega), e1, nI_1, e2]
  rfl
theorem opJ_73 {x w j : Nat} (h1 : j ≠ 19) (h2 : j ≠ 23) : opJ x K w J 73 j = J 73 j := by unfold opJ; rw [up2_at, if_neg (by omega), up2_at, if_neg (by omega), upRow _ _ (by decide)]
theorem opJ_o {x w a : Nat} (h1 : a ≠ 73) (h2 : a ≠ 80) : opJ x K w J a = J a := by unfold opJ; rw [upRow _ _ h1, upRow _ _ h1, upRow _ _ h2]
theorem opJ_f {x w : Nat} : FMf J (opJ x K w J) M M := ⟨fun a h1 _ _ h4 => opJ_o h1 h4, fun j hj => opJ_73 (by omega) (by omega), fun _ _ => rfl, fun _ _ => rfl⟩
theorem opJ_k {x w : Nat} (h : SkM K J) : SkM (x :: K) (opJ x K w J) := by
  refine h.push ?_ (fun i => ?_)
  · unfold opJ; rw [up2_at, if_neg (by decide), up2_eq]
  · unfold opJ; rw [upRow _ _ (by decide), upRow _ _ (by decide), up2_at]; simp
theorem opJ_F {x : Nat} (h : FM2 D K u J) (hx : x = 20 ∨ x = 21) : FM2 D (x :: K) u (opJ x K (wd K) J) := by
  obtain ⟨a1, a2, a3, a4, a5⟩ := h
  refine ⟨a1.fr (opJ_73 (by decide) (by decide)) (opJ_o (by decide) (by decide)) (opJ_o (by decide) (by decide)), opJ_k a2, ?_, by rw [opJ_73 (by decide) (by decide)]; exact a4, by rw [opJ_73 (by decide) (by decide)]; exact a5⟩
  unfold opJ
  rw [up2_eq, wd, if_pos hx, Nat.add_comm]
theorem U_not (h : MS B n p J M) (hF : FM2 D K u J) (hv : ∀ x, x ∈ K → vS x) (hl : K.length < 150) (hk : kd B n p = 15) (hm : mayN K = true) (hw : wd K ≤ 6) (fu : Nat) : ∃ J' M', fX12_unit_2 (fu + 1) (1 : Int32) J M = fX12_unit_2 fu (1 : Int32) J' M' ∧ MS B n (nx B n p) J' M' ∧ FM2 D (21 :: K) u J' ∧ FMf J J' M M' := by
  have h1 : MS B n p (opJ 21 K (wd K) J) M := h.fr (fun j hj => opJ_73 (by omega) (by omega)) (opJ_o (by decide) (by decide))
  obtain ⟨J', M', b1, b2, b3⟩ := h1.tok (by omega)
  refine ⟨J', M', ?_, b2, (opJ_F hF (Or.inr rfl)).fb b3, opJ_f.trans (FMf.of (XB2.of b3))⟩
  have eo := opJ_eq (M := M) (x := 21) hF.2.1 hF.2.2.1 hl
  rw [h1.2.2.2.1, if_pos rfl, b1, Option.bind_some, show nI 21 = (21 : Int32) from rfl] at eo
  rw [fX12_unit_2, if_neg (by decide), h.2.2.2.1, if_pos rfl, Option.bind_some, if_neg (by decide), m_isWord h.2.1 h.1 h.2.2.1 (w := 15) (v := 7237492) (by decide) (by decide), if_neg (show ¬ b2i (decide (kd B n p = 15)) = 0 by rw [b2i_eq0]; simp [hk]), m_mayNot hF.2.1 hv hl, Option.bind_some, hm, if_neg (show ¬ b2i true = 0 by decide), Option.bind_some, if_neg (by decide), hF.2.2.1, if_pos (show nI (wd K) ≤ (6 : Int32) from nI_le (b := 6) hw (by decide)), Option.bind_some, eo, Option.bind_some]
theorem U_not_bad (h : MS B n p J M) (hF : FM2 D K u J) (hv : ∀ x, x ∈ K → vS x) (hl : K.length < 150) (hk : kd B n p = 15) (hm : mayN K = true) (hw : ¬ wd K ≤ 6) (hw2 : wd K < 100) (fu : Nat) : ∃ J', fX12_unit_2 (fu + 2) (1 : Int32) J M = some (J', M) ∧ BdM B n p J' ∧ FMf J J' M M := by
  have hb : BdM B n p (opJ 21 K (wd K) (rfM B n p 2 J)) := ⟨by rw [opJ_73 (by decide) (by decide)]; exact rfM_2 2, by rw [opJ_73 (by decide) (by decide)]; exact rfM_3 2⟩
  refine ⟨opJ 21 K (wd K) (rfM B n p 2 J), ?_, hb, (FMf.of (XB2.rf 2)).trans opJ_f⟩
  have eo := opJ_eq (M := M) (J := rfM B n p 2 J) (x := 21) (hF.2.1.fr (rfM_j (by decide) (by decide)) (rfM_o (by decide))) (by rw [rfM_j (by decide) (by decide)]; exact hF.2.2.1) hl
  rw [if_neg hb.m.2, show nI 21 = (21 : Int32) from rfl] at eo
  rw [fX12_unit_2, if_neg (by decide), h.2.2.2.1, if_pos rfl, Option.bind_some, if_neg (by decide), m_isWord h.2.1 h.1 h.2.2.1 (w := 15) (v := 7237492) (by decide) (by decide), if_neg (show ¬ b2i (decide (kd B n p = 15)) = 0 by rw [b2i_eq0]; simp [hk]), m_mayNot hF.2.1 hv hl, Option.bind_some, hm, if_neg (show ¬ b2i true = 0 by decide), Option.bind_some, if_neg (by decide), hF.2.2.1, if_neg (show ¬ nI (wd K) ≤ (6 : Int32) from nI_ge (a := 6) (by omega) (by omega)), obn_eq, show (2 : Int32) = nI 2 from rfl, m_wrong h.2.1 h.1 h.2.2.1 h.2.2.2.1, Option.bind_some, eo, Option.bind_some]
  exact bad_unit2 hb.m fu
theorem not15 (h : MS B n p J M) (hF : FM2 D K u J) (hv : ∀ x, x ∈ K → vS x) (hl : K.length < 150) (hk : kd B n p = 15 → mayN K = false) : (if (b2i (fX12_isWord (7237492 : Int64) J M)) = 0 then some true else Option.bind (fX12_mayNot J) fun q3 => if (b2i q3) = 0 then some true else some false) = some true := by
  rw [m_isWord h.2.1 h.1 h.2.2.1 (w := 15) (v := 7237492) (by decide) (by decide)]
  by_cases c : kd B n p = 15
  · rw [if_neg (show ¬ b2i (decide (kd B n p = 15)) = 0 by rw [b2i_eq0]; simp [c]), m_mayNot hF.2.1 hv hl, Option.bind_some, hk c, if_pos (by decide)]
  · rw [if_pos (show b2i (decide (kd B n p = 15)) = 0 by rw [b2i_eq0]; simp [c])]
def cuJ (u : Nat) (J : HI) : HI := up2 (up2 J 73 20 (nI (u + 1))) 73 22 (nI (u + 1))
theorem cuJ_eq (h1 : J 73 20 = nI u) (h2 : J 73 22 = nI u) : fX12_countUnit J = cuJ u J := by
  unfold fX12_countUnit cuJ
  have e : up2 J 73 20 (nI (u + 1)) 73 22 = nI u := by rw [up2_at, if_neg (by decide)]; exact h2
  simp only [h1, nI_1, e]
theorem cuJ_73 {j : Nat} (h1 : j ≠ 20) (h2 : j ≠ 22) : cuJ u J 73 j = J 73 j := by unfold cuJ; rw [up2_at, if_neg (by omega), up2_at, if_neg (by omega)]
theorem cuJ_o {a : Nat} (h1 : a ≠ 73) : cuJ u J a = J a := by unfold cuJ; rw [upRow _ _ h1, upRow _ _ h1]
theorem cuJ_f : FMf J (cuJ u J) M M := ⟨fun a h1 _ _ _ => cuJ_o h1, fun j hj => cuJ_73 (by omega) (by omega), fun _ _ => rfl, fun _ _ => rfl⟩
theorem cuJ_F (h : FM2 D K u J) : FM2 D K (u + 1) (cuJ u J) := by
  obtain ⟨a1, a2, a3, a4, a5⟩ := h
  refine ⟨a1.fr (cuJ_73 (by decide) (by decide)) (cuJ_o (by decide)) (cuJ_o (by decide)), a2.fr (cuJ_73 (by decide) (by decide)) (cuJ_o (by decide)), by rw [cuJ_73 (by decide) (by decide)]; exact a3, ?_, ?_⟩
  · unfold cuJ; rw [up2_at, if_neg (by decide), up2_eq]
  · unfold cuJ; rw [up2_eq]
theorem U_br (h : MS B n p J M) (hF : FM2 D K u J) (hv : ∀ x, x ∈ K → vS x) (hl : K.length < 150) (hk : kd B n p = 40) (hu : u < 30) (hw : wd K ≤ 6) (fu : Nat) : ∃ J' M', fX12_unit_2 (fu + 1) (1 : Int32) J M = fX12_unit_2 fu (1 : Int32) J' M' ∧ MS B n (nx B n p) J' M' ∧ FM2 D (20 :: K) (u + 1) J' ∧ FMf J J' M M' := by
  have hF1 := cuJ_F hF
  have h1 : MS B n p (opJ 20 K (wd K) (cuJ u J)) M := h.fr (fun j hj => by rw [opJ_73 (by omega) (by omega), cuJ_73 (by omega) (by omega)]) (by rw [opJ_o (by decide) (by decide), cuJ_o (by decide)])
  obtain ⟨J', M', b1, b2, b3⟩ := h1.tok (by omega)
  refine ⟨J', M', ?_, b2, (opJ_F hF1 (Or.inl rfl)).fb b3, cuJ_f.trans (opJ_f.trans (FMf.of (XB2.of b3)))⟩
  have eo := opJ_eq (M := M) (x := 20) hF1.2.1 hF1.2.2.1 hl
  rw [h1.2.2.2.1, if_pos rfl, b1, Option.bind_some, show nI 20 = (20 : Int32) from rfl] at eo
  have ef := m_isFull hF.2.2.2.1 hF.2.2.2.2 (by omega)
  rw [fX12_unit_2, if_neg (by decide), h.2.2.2.1, if_pos rfl, Option.bind_some, if_neg (by decide), not15 h hF hv hl (by omega), Option.bind_some, if_pos rfl, if_pos (show J 73 6 = (40 : Int32) from (h.srt (by decide) (by decide)).mpr hk), ef, if_pos (show b2i (decide (u = 30)) = 0 by rw [b2i_eq0]; simp; omega), hF.2.2.1, if_pos (show nI (wd K) ≤ (6 : Int32) from nI_le (b := 6) hw (by decide)), Option.bind_some, if_neg (by decide), Option.bind_some, obn_eq, cuJ_eq hF.2.2.2.1 hF.2.2.2.2, eo, Option.bind_some]
theorem U_br_bad (h : MS B n p J M) (hF : FM2 D K u J) (hv : ∀ x, x ∈ K → vS x) (hl : K.length < 150) (hk : kd B n p = 40) (hu30 : u ≤ 30) (hw : ¬ (u < 30 ∧ wd K ≤ 6)) (hw2 : wd K < 100) (fu : Nat) : ∃ J', fX12_unit_2 (fu + 2) (1 : Int32) J M = some (J', M) ∧ BdM B n p J' ∧ FMf J J' M M := by
  have hFr : FM2 D K u (rfM B n p 2 J) := hF.fr (fun j hj => rfM_j (by omega) (by omega)) (fun a ha => rfM_o (by omega))
  have hF1 := cuJ_F hFr
  have hb : BdM B n p (opJ 20 K (wd K) (cuJ u (rfM B n p 2 J))) := ⟨by rw [opJ_73 (by decide) (by decide), cuJ_73 (by decide) (by decide)]; exact rfM_2 2, by rw [opJ_73 (by decide) (by decide), cuJ_73 (by decide) (by decide)]; exact rfM_3 2⟩
  refine ⟨opJ 20 K (wd K) (cuJ u (rfM B n p 2 J)), ?_, hb, (FMf.of (XB2.rf 2)).trans (cuJ_f.trans opJ_f)⟩
  have eo := opJ_eq (M := M) (x := 20) hF1.2.1 hF1.2.2.1 hl
  rw [if_neg hb.m.2, show nI 20 = (20 : Int32) from rfl] at eo
  have ef := m_isFull hF.2.2.2.1 hF.2.2.2.2 (by omega)
  have ec : (if b2i (decide (u = 30)) = 0 then if nI (wd K) ≤ (6 : Int32) then some false else some true else some true) = some true := by
    by_cases c : u = 30
    · rw [if_neg (by rw [b2i_eq0]; simp [c])]
    · rw [if_pos (by rw [b2i_eq0]; simp [c]), if_neg (show ¬ nI (wd K) ≤ (6 : Int32) from nI_ge (a := 6) (by omega) (by omega))]
  rw [fX12_unit_2, if_neg (by decide), h.2.2.2.1, if_pos rfl, Option.bind_some, if_neg (by decide), not15 h hF hv hl (by omega), Option.bind_some, if_pos rfl, if_pos (show J 73 6 = (40 : Int32) from (h.srt (by decide) (by decide)).mpr hk), ef, hF.2.2.1, ec, Option.bind_some, if_pos rfl, obn_eq, show (2 : Int32) = nI 2 from rfl, m_wrong h.2.1 h.1 h.2.2.1 h.2.2.2.1, Option.bind_some, obn_eq, cuJ_eq hFr.2.2.2.1 hFr.2.2.2.2, eo, Option.bind_some]
  exact bad_unit2 hb.m fu
/-- neither not nor a bracket -/
theorem U_out (h : MS B n p J M) (hF : FM2 D K u J) (hv : ∀ x, x ∈ K → vS x) (hl : K.length < 150) (hk : kd B n p = 15 → mayN K = false) (h40 : kd B n p ≠ 40) (fu : Nat) : fX12_unit_2 (fu + 2) (1 : Int32) J M = some (J, M) := by
  rw [fX12_unit_2, if_neg (by decide), h.2.2.2.1, if_pos rfl, Option.bind_some, if_neg (by decide), not15 h hF hv hl hk, Option.bind_some, if_pos rfl, if_neg (show ¬ J 73 6 = (40 : Int32) from fun g => h40 ((h.srt (s := 40) (by decide) (by decide)).mp g)), fX12_unit_2, if_pos rfl, Option.bind_some, if_pos rfl]
/-- what a unit is -/
def uSt (B : Nat → Nat) (n p : Nat) : Nat × Nat := if kd B n p = 21 then (0, vl B n p) else (1, kd B n p - 16)
def isU (k : Nat) : Prop := k = 21 ∨ k = 16 ∨ k = 17 ∨ k = 18
theorem U_num (h : MS B n p J M) (hF : FM2 D K u J) (hv : ∀ x, x ∈ K → vS x) (hl : K.length < 150) (hk : isU (kd B n p)) (hu : u < 30) (hD : D.length < 300) (fu fv : Nat) : ∃ J' M', rU (fu + 2) fv J M = fX12_readShade_30 fv (1 : Int32) J' M' ∧ MS B n (nx B n p) J' M' ∧ FM2 (D ++ [uSt B n p]) K (u + 1) J' ∧ FMf J J' M M' := by
  unfold isU at hk
  have hF1 := cuJ_F hF
  have c17 : cuJ u J 73 17 = nI D.length := hF1.1.1
  obtain ⟨J3, hJ3⟩ : ∃ y : HI, y = up2 (up2 (up2 (cuJ u J) 76 D.length (nI (uSt B n p).1)) 77 D.length (nI (uSt B n p).2)) 73 17 (nI (D.length + 1)) := ⟨_, rfl⟩
  have h3 : MS B n p J3 M := h.fr (fun j hj => by rw [hJ3, up2_at, if_neg (by omega), upRow _ _ (by decide), upRow _ _ (by decide), cuJ_73 (by omega) (by omega)]) (by rw [hJ3, upRow _ _ (by decide), upRow _ _ (by decide), upRow _ _ (by decide), cuJ_o (by decide)])
  have f3 : FMf J J3 M M := by
    refine cuJ_f.trans (J' := cuJ u J) (M' := M) ⟨fun a x1 x2 x3 x4 => ?_, fun j hj => ?_, fun _ _ => rfl, fun _ _ => rfl⟩
    · rw [hJ3, upRow _ _ x1, upRow _ _ x3, upRow _ _ x2]
    · rw [hJ3, up2_at, if_neg (by omega), upRow _ _ (by decide), upRow _ _ (by decide)]
  have F3 : FM2 (D ++ [uSt B n p]) K (u + 1) J3 := by
    obtain ⟨a1, a2, a3, a4, a5⟩ := hF1
    have k73 : ∀ j, j ≠ 17 → J3 73 j = cuJ u J 73 j := fun j hj => by rw [hJ3, up2_at, if_neg (by omega), upRow _ _ (by decide), upRow _ _ (by decide)]
    refine ⟨?_, a2.fr (k73 19 (by decide)) (by rw [hJ3, upRow _ _ (by decide), upRow _ _ (by decide), upRow _ _ (by decide)]), by rw [k73 23 (by decide)]; exact a3, by rw [k73 20 (by decide)]; exact a4, by rw [k73 22 (by decide)]; exact a5⟩
    refine a1.snoc (a := (uSt B n p).1) (b := (uSt B n p).2) ?_ (fun i => ?_) (fun i => ?_)
    · rw [hJ3, up2_eq]
    · rw [hJ3, upRow _ _ (by decide), upRow _ _ (by decide), up2_at]; simp
    · rw [hJ3, upRow _ _ (by decide), up2_at, upRow _ _ (by decide)]; simp
  obtain ⟨J', M', b1, b2, b3⟩ := h3.tok (by omega)
  refine ⟨J', M', ?_, b2, F3.fb b3, f3.trans (FMf.of (XB2.of b3))⟩
  have ea := m_asked h
  have ef := m_isFull hF.2.2.2.1 hF.2.2.2.2 (by omega)
  have eadd := m_add (J := cuJ u J) (a := (uSt B n p).1) (b := (uSt B n p).2) c17 (by omega)
  rw [← hJ3] at eadd
  unfold rU
  rw [U_out h hF hv hl (by omega) (by omega), Option.bind_some]
  simp only
  have key : uR J M = some (J', M') := by
    unfold uR
    rw [h.2.2.2.1, if_pos (by decide), ef, if_pos (show b2i (decide (u = 30)) = 0 by rw [b2i_eq0]; simp; omega)]
    rcases hk with c | c
    · have hu1 : uSt B n p = (0, vl B n p) := by unfold uSt; rw [if_pos c]
      have e8 : cuJ u J 73 8 = nI (vl B n p) := by rw [cuJ_73 (by decide) (by decide)]; exact h.2.2.1.2.2.2.1 c
      rw [hu1] at eadd
      have ea1 : fX12_asked J M = -1 := by
        rw [ea, if_neg (show ¬ kd B n p = 16 by omega), if_neg (show ¬ kd B n p = 17 by omega), if_neg (show ¬ kd B n p = 18 by omega)]
      rw [ea1, if_pos (h.srt2.mpr c), Option.bind_some, if_pos rfl, Option.bind_some, h.2.2.2.1, if_pos (show (0 : Int32) ≤ 0 by decide), obn_eq, cuJ_eq hF.2.2.2.1 hF.2.2.2.2, if_neg (show ¬ (0 : Int32) ≤ -1 by decide), Option.bind_some, if_neg (show ¬ (0 : Int32) ≤ -1 by decide), Option.bind_some, e8, show b2i false = nI 0 from rfl, eadd, Option.bind_some, b1, Option.bind_some]
    · have hu1 : uSt B n p = (1, kd B n p - 16) := by unfold uSt; rw [if_neg (by omega)]
      have ea2 : fX12_asked J M = nI (kd B n p - 16) := by
        rw [ea]
        rcases c with c | c | c <;> simp [c]
      rw [hu1] at eadd
      rw [ea2, if_neg (fun g => by have := h.srt2.mp g; omega), if_neg (nI_pos (by omega)), Option.bind_some, if_pos rfl, Option.bind_some, h.2.2.2.1, if_pos (by decide), obn_eq, cuJ_eq hF.2.2.2.1 hF.2.2.2.2, if_pos (nI_pos' (by omega)), Option.bind_some, if_pos (nI_pos' (by omega)), Option.bind_some, show b2i true = nI 1 from rfl, eadd, Option.bind_some, b1, Option.bind_some]
  rw [key, Option.bind_some]
theorem U_bad (h : MS B n p J M) (hF : FM2 D K u J) (hv : ∀ x, x ∈ K → vS x) (hl : K.length < 150) (hk : kd B n p = 15 → mayN K = false) (h40 : kd B n p ≠ 40) (hu30 : u ≤ 30) (hbad : ¬ (isU (kd B n p) ∧ u < 30)) (fu fv : Nat) : ∃ J', rU (fu + 2) (fv + 1) J M = some (J', M) ∧ BdM B n p J' ∧ FMf J J' M M := by
  unfold isU at hbad
  refine ⟨rfM B n p 2 J, ?_, h.bd, FMf.of (XB2.rf 2)⟩
  have ea := m_asked h
  have ef := m_isFull hF.2.2.2.1 hF.2.2.2.2 (by omega)
  unfold rU
  rw [U_out h hF hv hl hk h40, Option.bind_some]
  simp only
  have key : uR J M = some (rfM B n p 2 J, M) := by
    unfold uR
    rw [h.2.2.2.1, if_pos (by decide), ef]
    have ew : fX12_wrong (2 : Int32) J = rfM B n p 2 J := m_wrong h.2.1 h.1 h.2.2.1 h.2.2.2.1 2
    rw [ew]
    simp only [obn_eq]
    have e1 : (Option.bind (Option.bind (if J 73 6 = (2 : Int32) then some true else if fX12_asked J M < 0 then some false else some true) fun b21 => if b21 = true then if b2i (decide (u = 30)) = 0 then some J else some (rfM B n p 2 J) else some (rfM B n p 2 J)) fun q20 => (if (q20 73 2) ≤ 0 then some q20 else some q20 : Option HI)) = some (rfM B n p 2 J) := by
      by_cases c : u = 30
      · rw [if_neg (show ¬ b2i (decide (u = 30)) = 0 by rw [b2i_eq0]; simp [c])]
        by_cases d : J 73 6 = (2 : Int32)
        · rw [if_pos d]; simp
        · rw [if_neg d]
          by_cases g : fX12_asked J M < 0
          · rw [if_pos g]; simp
          · rw [if_neg g]; simp
      · have d : ¬ J 73 6 = (2 : Int32) := fun g => hbad ⟨Or.inl (h.srt2.mp g), by omega⟩
        have g : fX12_asked J M < 0 := by
          rw [ea, if_neg (fun e => hbad ⟨by omega, by omega⟩), if_neg (fun e => hbad ⟨by omega, by omega⟩), if_neg (fun e => hbad ⟨by omega, by omega⟩)]
          decide
        rw [if_neg d, if_pos g]; simp
    cases hq : (Option.bind (if J 73 6 = (2 : Int32) then some true else if fX12_asked J M < 0 then some false else some true) fun b21 => if b21 = true then if b2i (decide (u = 30)) = 0 then some J else some (rfM B n p 2 J) else some (rfM B n p 2 J)) with
    | none => rw [hq] at e1; cases e1
    | some y =>
      rw [hq, Option.bind_some, ite_self] at e1
      cases e1
      rw [Option.bind_some, if_neg h.bd.m.1]
  rw [key, Option.bind_some]
  simp only
  rw [bad_rs h.bd.m]
end FR3
