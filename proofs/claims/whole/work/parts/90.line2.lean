/-! a person's line -/
section LN2
variable {B : Nat → Nat} {n p tl : Nat} {T T' : Nat → Nat → Nat} {N : Nat → Nat → List Nat} {sh cl : Bool} {I I' I2 : HI} {L L' L2 : HL} {J J' J2 J0 : HI} {M M' M2 M0 : HL}
def TP (T : Nat → Nat → Nat) (c : Nat) : Nat → Nat → Nat := up2 (up2 T 9 (tnP T) c) 0 4 (tnP T + 1)
def NP (T : Nat → Nat → Nat) (N : Nat → Nat → List Nat) (w : List Nat) : Nat → Nat → List Nat := up2 N 2 (tnP T) w
theorem TP_9 {c i : Nat} (hi : i < tnP T + 1) : (i = tnP T ∧ TP T c 9 i = c) ∨ (i < tnP T ∧ TP T c 9 i = T 9 i) := by
  rcases Nat.lt_or_ge i (tnP T) with g | g
  · right
    refine ⟨g, ?_⟩
    unfold TP
    rw [upRow _ _ (by decide), up2_at, if_neg (by omega)]
  · left
    have : i = tnP T := by omega
    refine ⟨this, ?_⟩
    unfold TP
    rw [upRow _ _ (by decide), this, up2_eq]
theorem TP_ok {c : Nat} (h : TOk T) (hc : grd T c) (h4 : tnP T < 4) : TOk (TP T c) := by
  obtain ⟨a1, a2, a3, a4, a5, a6, a7, a8, a9, a10, a11⟩ := h
  refine ⟨a1, a2, a3, ?_, a5, a6, a7, a8, ?_, a10.cg rfl (fun _ => rfl) (fun _ => rfl), a11⟩
  · show tnP T + 1 ≤ 4
    omega
  · intro i hi
    rcases TP_9 (c := c) (show i < tnP T + 1 from hi) with ⟨_, e⟩ | ⟨g, e⟩
    · rw [e]; exact hc
    · rw [e]; exact a9 i g
theorem NP_ok {c : Nat} {w : List Nat} (h : NmOk T N) (h1 : lets w) (h2 : w.length ≤ 8) : NmOk (TP T c) (NP T N w) := by
  refine ⟨h.1, h.2.1, fun d hd => ?_⟩
  have hd' : d < tnP T + 1 := hd
  unfold NP
  by_cases e : d = tnP T
  · rw [e, up2_eq]; exact ⟨h1, h2⟩
  · rw [up2_at, if_neg (by omega)]; exact h.2.2 d (by omega)
theorem DX_P {c : Nat} {w : List Nat} {x1 x2 x3 : Int32} (h : DX T N tl I L) (ht : isQ2 tl) : DX (TP T c) (NP T N w) tl (addI (tl + 13) (tnP T) (nI c) x1 x2 x3 I) (up2 L (tl + 13 + 1) (tnP T) (lN (nm5 w))) := by
  obtain ⟨a1, a2, a3, a4, a5, a6, a7, a8, a9, a10, a11, a12⟩ := h
  have k : ∀ x, x < tl + 13 ∨ tl + 19 ≤ x → addI (tl + 13) (tnP T) (nI c) x1 x2 x3 I x = I x := by
    intro x hx
    unfold addI
    rw [upRow _ _ (by omega), upRow _ _ (by omega), upRow _ _ (by omega), upRow _ _ (by omega), upRow _ _ (by omega)]
  have kl : ∀ x, x ≠ tl + 14 → up2 L (tl + 13 + 1) (tnP T) (lN (nm5 w)) x = L x := fun x hx => upRow _ _ (by omega)
  unfold DX XSize
  rw [k tl (by omega), k (tl + 1) (by omega), k (tl + 3) (by omega), k (tl + 4) (by omega), k (tl + 5) (by omega), k (tl + 6) (by omega), k (tl + 7) (by omega), k (tl + 9) (by omega), k (tl + 11) (by omega), k (tl + 12) (by omega), k (tl + 19) (by omega), kl tl (by omega), kl (tl + 2) (by omega), kl (tl + 8) (by omega)]
  refine ⟨a1, a2, a3, a4, a5, a6, a7, ?_, ?_, ?_, a11, ?_⟩
  · unfold addI
    rw [up2_eq]
    rfl
  · intro i hi
    have e15 : addI (tl + 13) (tnP T) (nI c) x1 x2 x3 I (tl + 15) i = if i = tnP T then nI c else I (tl + 15) i := by
      unfold addI
      rw [upRow _ _ (by omega), upRow _ _ (by omega), upRow _ _ (by omega), upRow _ _ (by omega), up2_at]
      by_cases e : i = tnP T
      · rw [if_pos ⟨rfl, e⟩, if_pos e]
      · rw [if_neg (fun g => e g.2), if_neg e]
    have e14 : up2 L (tl + 13 + 1) (tnP T) (lN (nm5 w)) (tl + 14) i = if i = tnP T then lN (nm5 w) else L (tl + 14) i := by
      rw [up2_at]
      by_cases e : i = tnP T
      · rw [if_pos ⟨rfl, e⟩, if_pos e]
      · rw [if_neg (fun g => e g.2), if_neg e]
    rw [e15, e14]
    unfold NP
    rcases TP_9 (c := c) (show i < tnP T + 1 from hi) with ⟨g, e⟩ | ⟨g, e⟩
    · rw [e, if_pos g, if_pos g, g, up2_eq]
      exact ⟨rfl, rfl⟩
    · rw [e, if_neg (by omega), if_neg (by omega), up2_at, if_neg (by omega)]
      exact a9 i g
  · have := a10.cg (T' := TP T c) rfl (fun _ => rfl) (fun _ => rfl)
    unfold XForm at *
    rw [k (tl + 19) (by omega), k (tl + 19 + 1) (by omega)]
    exact this
  · rw [datd_cg (T := T) (T' := TP T c) rfl (fun _ => rfl) (fun _ => rfl)]
    exact a12
theorem DM_P {c : Nat} {w : List Nat} (h : DM T N J M) (h64 : c < 64) (hJ : ∀ a, a = 76 ∨ a = 77 ∨ (83 ≤ a ∧ a ≤ 89) → J' a = J a) (h73 : ∀ j, j = 17 ∨ j = 20 ∨ (45 ≤ j ∧ j ≤ 51 ∧ j ≠ 50) → J' 73 j = J 73 j) (h50 : J' 73 50 = nI (tnP T + 1)) (h90 : ∀ i, J' 90 i = if i = tnP T then nI c else J 90 i) (h75 : ∀ i, M' 75 i = if i = 12 + tnP T then lN (wd8 w) else M 75 i) (h41 : M' 73 41 = M 73 41) (h43 : M' 73 43 = M 73 43) (h42 : M' 73 42 = M 73 42 ||| ((1 : Int64) <<< ((nI c).toInt64 &&& 63))) (hT : TOk T) (h4 : tnP T < 4) : DM (TP T c) (NP T N w) J' M' := by
  obtain ⟨a1, a2, a3, a4, a5, a6, a7, a8, a9, a10, a11, a12, a13, a14, a15⟩ := h
  have t2 := hT.2.1
  have t3 := hT.2.2.1
  unfold DM
  rw [h73 17 (by omega), h73 20 (by omega), h73 45 (by omega), h73 46 (by omega), h73 47 (by omega), h73 48 (by omega), h73 49 (by omega), h73 51 (by omega), hJ 76 (by omega), hJ 77 (by omega), hJ 83 (by omega), hJ 84 (by omega), hJ 85 (by omega), hJ 86 (by omega), hJ 87 (by omega), hJ 88 (by omega), hJ 89 (by omega), h41, h43, h42, h50]
  refine ⟨a1, a2, a3, ?_, a5, a6, a7, a8, rfl, a10, a11, ?_, ?_, ?_, a15⟩
  · intro x hx
    rw [hb_or, hb_one h64 x hx, Bool.or_eq_true, a4 x hx, decide_eq_true_eq]
    unfold stand
    constructor
    · rintro ((g | g | ⟨i, i1, i2⟩) | g)
      · exact Or.inl g
      · exact Or.inr (Or.inl g)
      · refine Or.inr (Or.inr ⟨i, show i < tnP T + 1 by omega, ?_⟩)
        rcases TP_9 (c := c) (show i < tnP T + 1 by omega) with ⟨q, _⟩ | ⟨_, e⟩
        · omega
        · rw [e]; exact i2
      · refine Or.inr (Or.inr ⟨tnP T, show tnP T < tnP T + 1 by omega, ?_⟩)
        rcases TP_9 (c := c) (show tnP T < tnP T + 1 by omega) with ⟨_, e⟩ | ⟨q, _⟩
        · rw [e]; exact g.symm
        · omega
    · rintro (g | g | ⟨i, i1, i2⟩)
      · exact Or.inl (Or.inl g)
      · exact Or.inl (Or.inr (Or.inl g))
      · rcases TP_9 (c := c) (show i < tnP T + 1 from i1) with ⟨_, e⟩ | ⟨q, e⟩
        · rw [e] at i2; exact Or.inr i2.symm
        · rw [e] at i2; exact Or.inl (Or.inr (Or.inr ⟨i, q, i2⟩))
  · intro d hd
    have hd' : d < tnD T := hd
    rw [h75 d, if_neg (by omega)]
    exact a12 d hd'
  · intro d hd
    have hd' : d < tnL T := hd
    rw [h75 (8 + d), if_neg (by omega)]
    exact a13 d hd'
  · intro d hd
    rw [h75 (12 + d), h90 d]
    unfold NP
    rcases TP_9 (c := c) (show d < tnP T + 1 from hd) with ⟨g, e⟩ | ⟨g, e⟩
    · rw [e, if_pos g, if_pos (by omega), g, up2_eq]
      exact ⟨rfl, rfl⟩
    · rw [e, if_neg (by omega), if_neg (by omega), up2_at, if_neg (by omega)]
      exact a14 d g
theorem take_w {k c : Nat} (hc : c < 64) (h2 : k ≠ 2) (h3 : k ≠ 3) : taken T k c ↔ isW T c = true := by
  unfold taken
  constructor
  · rintro (g | ⟨g, _⟩ | ⟨g, _⟩)
    · exact g
    · exact absurd g h2
    · exact absurd g h3
  · exact Or.inl
theorem addI_ne {tt m x : Nat} {c h a b : Int32} (hx : x < tt ∨ tt + 6 ≤ x) : addI tt m c h a b I x = I x := by
  unfold addI
  rw [upRow _ _ (by omega), upRow _ _ (by omega), upRow _ _ (by omega), upRow _ _ (by omega), upRow _ _ (by omega)]
set_option maxHeartbeats 4000000 in
theorem ln_person {I1 : HI} {L1 : HL} (h : Rel B n tl T N sh cl p I L J M) (hk : kd B n p ≠ 23) (h22 : kd B n p ≠ 22) (h4 : tnP T < 4) (ha : fX9_advance I L = some (I1, L1)) : LnOut B n tl sh cl p I L J M (fX6_readPerson tl I1 L1) (fX12_readPerson J M) := by
  obtain ⟨r0, ht, hT, hN, hX, hM, f6, f7, m61, m62, hsh⟩ := h
  obtain ⟨I1', L1', J1, M1, b1, b2, r1, g1, g2⟩ := r0.step hk
  rw [ha] at b1
  cases b1
  have pq := nx_lt (B := B) r0.1 h22
  obtain ⟨_, q2, q3⟩ := cap_of ht
  have hX1 := hX.fa ht (XA2.of g1)
  have hM1 := hM.fb (XB2.of g2)
  have e50 : J 73 50 = nI (tnP T) := hM.2.2.2.2.2.2.2.2.1
  have x8 : I1 (tl + 13) 0 = nI (tnP T) := hX1.2.2.2.2.2.2.2.1
  unfold fX6_readPerson fX12_readPerson
  rw [e50]
  have sn := s_name r1 b2 (tt := tl + 13) (fr := 12) (m := tnP T) (F := N 2) x8 (by omega) (by omega) (by omega) (fun i hi => (hX1.2.2.2.2.2.2.2.2.1 i hi).2) (fun i hi => (hM1.2.2.2.2.2.2.2.2.2.2.2.2.2.1 i hi).2) hN.2.2
  rw [show nI 12 = (12 : Int32) from rfl] at sn
  rcases sn with ⟨k20, w1, w2, I3, L3, J3, M3, a1, a2, r3, u1, u2, u3, u4, u5, u6, u7, u8⟩ | ⟨f, f0, f1, a1, a2⟩
  · rw [a1, a2]
    simp only [Option.bind_some]
    rw [if_neg (show ¬ b2i true = 0 by decide)]
    have hX3 := hX1.fa ht (XA2.of u1)
    have hM3 : DM T N J3 M3 := hM1.fr (fun j hj => u3 j (by omega)) (fun a ha => u2 a (by omega)) (fun j hj => u5 j (by omega)) (fun i hi => u7 i (by have := hT.2.1; have := hT.2.2.1; omega))
    have fm3 : FMr J J3 M M3 := (FMr.of (XB2.of g2)).trans ⟨fun a ha => u2 a (fun e => ha (Or.inl e)), fun j hj => u3 j (by unfold kp73 at hj; omega), u4, fun j j1 _ => u5 j j1⟩
    have fx3 : XA2 I I3 L L3 := (XA2.of g1).trans (XA2.of u1)
    have pq2 := (nx_le (B := B) r1.1).1
    have st := s_take r3 (w := 4) (v := 24948) (by decide) (by decide)
    rw [show nI 4 = (4 : Int32) from rfl] at st
    rcases st with ⟨_, I4, L4, J4, M4, c1, c2, r4, v1, v2⟩ | ⟨c1, c2⟩
    · rw [c1, c2]
      simp only [Option.bind_some]
      rw [if_neg (show ¬ b2i true = 0 by decide)]
      have hX4 := hX3.fa ht (XA2.of v1)
      have hM4 := hM3.fb (XB2.of v2)
      have pq3 := (nx_le (B := B) r3.1).1
      have sc := s_cell r4 ht hT hX4 hM4 (k := 10) (by decide) (v := M4 73 41) (fun c hc => by rw [hM4.2.2.1 c hc, take_w hc (by decide) (by decide)])
      rw [show nI 10 = (10 : Int32) from rfl] at sc
      have e50' : J4 73 50 = nI (tnP T) := hM4.2.2.2.2.2.2.2.2.1
      rcases sc with ⟨c, q, hc, hnt, pq4, I5, L5, J5, M5, d1, d2, r5, d4, d5, v3, v4⟩ | ⟨u, I5, L5, J5, M5, d1, d2, v3, v4, hbd⟩
      · left
        rw [d1, d2]
        simp only [Option.bind_some]
        rw [if_neg (show ¬ b2i true = 0 by decide)]
        have hX5 := hX4.fa ht v3
        have hM5 := hM4.fb v4
        have e50'' : J5 73 50 = nI (tnP T) := hM5.2.2.2.2.2.2.2.2.1
        have x8' : I5 (tl + 13) 0 = nI (tnP T) := hX5.2.2.2.2.2.2.2.1
        have c64 : c < 64 := by have := tC_le hT.1; omega
        have e2 : up2 J5 90 (tnP T) (nI c) 73 2 = 0 := by rw [upRow _ _ (by decide)]; exact r5.2.2.2.2.2.2.2.1
        have e5 : up2 J5 90 (tnP T) (nI c) 73 50 = nI (tnP T) := by rw [upRow _ _ (by decide)]; exact e50''
        rw [x_addT x8' (by omega) (by omega), d4, u8]
        simp only [Option.bind_some, e50', clamp_nI (show tnP T < 2 ^ 31 by omega), inb_nI h4 (show 4 < 2 ^ 31 by decide), if_true, e2, e5, up2_eq, nI_1]
        rw [if_pos (by decide)]
        have hgr : grd T c := ⟨hc, by
          cases hw : isW T c with
          | true => exact absurd (Or.inl hw) hnt
          | false => rfl⟩
        refine ⟨TP T c, NP T N (ws B n (nx B n p)), q, _, _, _, _, by omega, rfl, rfl, ⟨?_, ht, TP_ok hT hgr h4, NP_ok hN w1 w2, DX_P hX5 ht, ?_, ?_, ?_, ?_, ?_, hsh⟩, ?_, ?_⟩
        · refine ⟨r5.1, r5.2.1.fr (addI_ne (by rcases ht with e | e <;> omega)) (by rw [addI_ne (by rcases ht with e | e <;> omega)]) (upRow _ _ (by rcases ht with e | e <;> omega)), ?_, ?_, ?_, r5.2.2.2.2.2.1.fr ?_ ?_, ?_, ?_, ?_⟩
          · have := r5.2.2.1
            unfold XT at *
            rw [addI_ne (by rcases ht with e | e <;> omega), upRow L5 _ (show 49 ≠ tl + 13 + 1 by rcases ht with e | e <;> omega)]
            exact this
          · rw [addI_ne (by rcases ht with e | e <;> omega)]; exact r5.2.2.2.1
          · rw [addI_ne (by rcases ht with e | e <;> omega)]; exact r5.2.2.2.2.1
          · simp [up2_at]
          · rw [upRow _ _ (by decide), upRow _ _ (by decide)]
          · have := r5.2.2.2.2.2.2.1
            unfold MT at *
            simp [up2_at]
            exact this
          · simp [up2_at]; exact r5.2.2.2.2.2.2.2.1
          · simp [up2_at]; exact r5.2.2.2.2.2.2.2.2
        · refine DM_P hM5 c64 ?_ ?_ ?_ ?_ ?_ ?_ ?_ ?_ hT h4
          · intro a ha; rw [upRow _ _ (by omega), upRow _ _ (by omega)]
          · intro j hj; rw [up2_at, if_neg (by omega), upRow _ _ (by decide)]
          · rw [up2_eq]
          · intro i; rw [upRow _ _ (by decide), up2_at]
            by_cases e : i = tnP T
            · rw [if_pos ⟨rfl, e⟩, if_pos e]
            · rw [if_neg (fun g => e g.2), if_neg e]
          · intro i
            rw [upRow _ _ (by decide), v4.2.2.1 75 (by decide), v2.2.2.1 75 (by decide)]
            by_cases e : i = 12 + tnP T
            · rw [if_pos e, e]; exact u6
            · rw [if_neg e]
          · rw [up2_at, if_neg (by decide)]
          · rw [up2_at, if_neg (by decide)]
          · rw [up2_eq]
        · rw [addI_ne (by rcases ht with e | e <;> omega), v3.2.1 6 (by decide), v1.1 48 (by decide), fx3.2.1 6 (by decide)]; exact f6
        · rw [addI_ne (by rcases ht with e | e <;> omega), v3.2.1 7 (by decide), v1.1 48 (by decide), fx3.2.1 7 (by decide)]; exact f7
        · rw [up2_at, if_neg (by decide), upRow _ _ (by decide), v4.2.1 61 (by decide), (XB2.of v2).2.1 61 (by decide), u3 61 (by decide), (XB2.of g2).2.1 61 (by decide)]; exact m61
        · rw [up2_at, if_neg (by decide), upRow _ _ (by decide), v4.2.1 62 (by decide), (XB2.of v2).2.1 62 (by decide), u3 62 (by decide), (XB2.of g2).2.1 62 (by decide)]; exact m62
        · exact (FXr.of (fx3.trans ((XA2.of v1).trans v3))).trans (FXr.ad (by omega) (by omega) ht)
        · exact fm3.trans ((FMr.of ((XB2.of v2).trans v4)).trans ((FMr.row (by unfold wkM; omega) (by decide)).trans ((FMr.fld (by unfold kp73; omega)).trans (FMr.fldL (by omega)))))
      · right
        rw [d1, d2]
        simp only [Option.bind_some]
        rw [if_pos (show b2i false = 0 by decide), e50', if_pos (inb_nI h4 (by decide))]
        have hb2 := (hbd.up (a := 90) (i := (nI (tnP T)).toNatClampNeg) (v := u) (by decide))
        rw [if_neg hb2.m.1]
        exact ⟨_, _, _, _, rfl, rfl, FXr.of (fx3.trans ((XA2.of v1).trans v3)), fm3.trans ((FMr.of ((XB2.of v2).trans v4)).trans (FMr.row (by unfold wkM; omega) (by decide))), hb2⟩
    · right
      have hbd := s_bd r3 (f := 2) (by decide) (by decide)
      rw [c1, c2]
      simp only [Option.bind_some]
      obtain ⟨x, e⟩ := m_rcell_bad (M := M3) hbd.m (M3 73 41)
      have e50' : rfM B n (nx B n (nx B n p)) 2 J3 73 50 = nI (tnP T) := by rw [rfM_j (by decide) (by decide)]; exact hM3.2.2.2.2.2.2.2.2.1
      rw [if_pos (show b2i false = 0 by decide), e, Option.bind_some, e50', if_pos (inb_nI h4 (by decide))]
      have hb2 := (hbd.up (a := 90) (i := (nI (tnP T)).toNatClampNeg) (v := x) (by decide))
      simp only [if_neg hb2.m.1]
      exact ⟨_, _, _, _, rfl, rfl, FXr.of (fx3.trans (XA2.rf _)), fm3.trans ((FMr.of (XB2.rf _)).trans (FMr.row (by unfold wkM; omega) (by decide))), hb2⟩
  · right
    have hbd := s_bd r1 f0 f1
    rw [a1, a2]
    simp only [Option.bind_some]
    obtain ⟨x, e⟩ := m_rcell_bad (M := M1) hbd.m (M1 73 41)
    have e50' : rfM B n (nx B n p) f J1 73 50 = nI (tnP T) := by rw [rfM_j (by decide) (by decide)]; exact hM1.2.2.2.2.2.2.2.2.1
    rw [if_pos (show b2i false = 0 by decide), m_want_bad hbd.m, Option.bind_some]
    simp only
    rw [e, Option.bind_some, e50', if_pos (inb_nI h4 (by decide))]
    have hb2 := (hbd.up (a := 90) (i := (nI (tnP T)).toNatClampNeg) (v := x) (by decide))
    simp only [if_neg hb2.m.1]
    exact ⟨_, _, _, _, rfl, rfl, FXr.of ((XA2.of g1).trans (XA2.rf _)), (FMr.of ((XB2.of g2).trans (XB2.rf _))).trans (FMr.row (by unfold wkM; omega) (by decide)), hb2⟩
end LN2
