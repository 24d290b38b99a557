/-! a lamp's line -/
section LN4
variable {B : Nat → Nat} {n p tl : Nat} {T T' : Nat → Nat → Nat} {N : Nat → Nat → List Nat} {sh cl : Bool} {I I' I2 : HI} {L L' L2 : HL} {J J' J2 J0 : HI} {M M' M2 M0 : HL}
def TQ (T : Nat → Nat → Nat) (c a b : Nat) : Nat → Nat → Nat := up2 (up2 (up2 (up2 T 6 (tnL T) c) 7 (tnL T) a) 8 (tnL T) b) 0 3 (tnL T + 1)
def NQ (T : Nat → Nat → Nat) (N : Nat → Nat → List Nat) (w : List Nat) : Nat → Nat → List Nat := up2 N 1 (tnL T) w
theorem TQ_6 {c a b i : Nat} (hi : i < tnL T + 1) : (i = tnL T ∧ TQ T c a b 6 i = c ∧ TQ T c a b 7 i = a ∧ TQ T c a b 8 i = b) ∨ (i < tnL T ∧ TQ T c a b 6 i = T 6 i ∧ TQ T c a b 7 i = T 7 i ∧ TQ T c a b 8 i = T 8 i) := by
  rcases Nat.lt_or_ge i (tnL T) with g | g
  · right
    have : i ≠ tnL T := by omega
    refine ⟨g, ?_, ?_, ?_⟩ <;> simp [TQ, up2_at, this]
  · left
    have : i = tnL T := by omega
    refine ⟨this, ?_, ?_, ?_⟩ <;> simp [TQ, up2_at, this]
theorem TQ_ok {c a b : Nat} (h : TOk T) (hc : grd T c) (ha : a ≤ 24) (hb' : b ≤ 24) (h4 : tnL T < 4) : TOk (TQ T c a b) := by
  obtain ⟨a1, a2, a3, a4, a5, a6, a7, a8, a9, a10, a11⟩ := h
  refine ⟨a1, a2, ?_, a4, a5, a6, a7, ?_, a9, a10.cg rfl (fun _ => rfl) (fun _ => rfl), a11⟩
  · show tnL T + 1 ≤ 4
    omega
  · intro i hi
    rcases TQ_6 (c := c) (a := a) (b := b) (show i < tnL T + 1 from hi) with ⟨_, e1, e2, e3⟩ | ⟨g, e1, e2, e3⟩
    · rw [e1, e2, e3]; exact ⟨hc, ha, hb'⟩
    · rw [e1, e2, e3]; exact a8 i g
theorem NQ_ok {c a b : Nat} {w : List Nat} (h : NmOk T N) (h1 : lets w) (h2 : w.length ≤ 8) : NmOk (TQ T c a b) (NQ T N w) := by
  refine ⟨h.1, fun d hd => ?_, h.2.2⟩
  have hd' : d < tnL T + 1 := hd
  unfold NQ
  by_cases e : d = tnL T
  · rw [e, up2_eq]; exact ⟨h1, h2⟩
  · rw [up2_at, if_neg (by omega)]; exact h.2.1 d (by omega)
theorem addI_at {tt m i : Nat} {c h a b : Int32} : (addI tt m c h a b I (tt + 2) i = if i = m then c else I (tt + 2) i) ∧ (addI tt m c h a b I (tt + 3) i = if i = m then h else I (tt + 3) i) ∧ (addI tt m c h a b I (tt + 4) i = if i = m then a else I (tt + 4) i) ∧ (addI tt m c h a b I (tt + 5) i = if i = m then b else I (tt + 5) i) := by
  unfold addI
  refine ⟨?_, ?_, ?_, ?_⟩
  · rw [upRow _ _ (by omega), upRow _ _ (by omega), upRow _ _ (by omega), upRow _ _ (by omega), up2_at]; simp
  · rw [upRow _ _ (by omega), upRow _ _ (by omega), upRow _ _ (by omega), up2_at, upRow _ _ (by omega)]; simp
  · rw [upRow _ _ (by omega), upRow _ _ (by omega), up2_at, upRow _ _ (by omega), upRow _ _ (by omega)]; simp
  · rw [upRow _ _ (by omega), up2_at, upRow _ _ (by omega), upRow _ _ (by omega), upRow _ _ (by omega)]; simp
theorem DX_Q {c a b : Nat} {w : List Nat} {x1 : Int32} (h : DX T N tl I L) (ht : isQ2 tl) : DX (TQ T c a b) (NQ T N w) tl (addI (tl + 7) (tnL T) (nI c) x1 (nI a) (nI b) I) (up2 L (tl + 7 + 1) (tnL T) (lN (nm5 w))) := by
  obtain ⟨a1, a2, a3, a4, a5, a6, a7, a8, a9, a10, a11, a12⟩ := h
  have k : ∀ x, x < tl + 7 ∨ tl + 13 ≤ x → addI (tl + 7) (tnL T) (nI c) x1 (nI a) (nI b) I x = I x := fun x hx => addI_ne (by omega)
  have kl : ∀ x, x ≠ tl + 8 → up2 L (tl + 7 + 1) (tnL T) (lN (nm5 w)) x = L x := fun x hx => upRow _ _ (by omega)
  unfold DX XSize
  rw [k tl (by omega), k (tl + 1) (by omega), k (tl + 3) (by omega), k (tl + 4) (by omega), k (tl + 5) (by omega), k (tl + 6) (by omega), k (tl + 13) (by omega), k (tl + 15) (by omega), k (tl + 19) (by omega), kl tl (by omega), kl (tl + 2) (by omega), kl (tl + 14) (by omega)]
  refine ⟨a1, a2, a3, a4, a5, ?_, ?_, a8, a9, ?_, a11, ?_⟩
  · unfold addI
    rw [up2_eq]
    rfl
  · intro i hi
    obtain ⟨q1, q2, q3, q4⟩ := addI_at (I := I) (tt := tl + 7) (m := tnL T) (i := i) (c := nI c) (h := x1) (a := nI a) (b := nI b)
    have e14 : up2 L (tl + 7 + 1) (tnL T) (lN (nm5 w)) (tl + 8) i = if i = tnL T then lN (nm5 w) else L (tl + 8) i := by
      rw [up2_at]
      by_cases e : i = tnL T
      · rw [if_pos ⟨rfl, e⟩, if_pos e]
      · rw [if_neg (fun g => e g.2), if_neg e]
    rw [show tl + 9 = tl + 7 + 2 by omega, show tl + 11 = tl + 7 + 4 by omega, show tl + 12 = tl + 7 + 5 by omega, q1, q3, q4, e14]
    unfold NQ
    rcases TQ_6 (c := c) (a := a) (b := b) (show i < tnL T + 1 from hi) with ⟨g, e1, e2, e3⟩ | ⟨g, e1, e2, e3⟩
    · rw [e1, e2, e3, if_pos g, if_pos g, if_pos g, if_pos g, g, up2_eq]
      exact ⟨rfl, rfl, rfl, rfl⟩
    · rw [e1, e2, e3, if_neg (by omega), if_neg (by omega), if_neg (by omega), if_neg (by omega), up2_at, if_neg (by omega)]
      exact a7 i g
  · have := a10.cg (T' := TQ T c a b) rfl (fun _ => rfl) (fun _ => rfl)
    unfold XForm at *
    rw [k (tl + 19) (by omega), k (tl + 19 + 1) (by omega)]
    exact this
  · rw [datd_cg (T := T) (T' := TQ T c a b) rfl (fun _ => rfl) (fun _ => rfl)]
    exact a12
theorem DM_Q {c a b : Nat} {w : List Nat} (h : DM T N J M) (h64 : c < 64) (hJ : ∀ x, x = 76 ∨ x = 77 ∨ (83 ≤ x ∧ x ≤ 86) ∨ x = 90 → J' x = J x) (h73 : ∀ j, j = 17 ∨ j = 20 ∨ (45 ≤ j ∧ j ≤ 51 ∧ j ≠ 49) → J' 73 j = J 73 j) (h50 : J' 73 49 = nI (tnL T + 1)) (h87 : ∀ i, J' 87 i = if i = tnL T then nI c else J 87 i) (h88 : ∀ i, J' 88 i = if i = tnL T then nI a else J 88 i) (h89 : ∀ i, J' 89 i = if i = tnL T then nI b else J 89 i) (h75 : ∀ i, M' 75 i = if i = 8 + tnL T then lN (wd8 w) else M 75 i) (h41 : M' 73 41 = M 73 41) (h43 : M' 73 43 = M 73 43) (h42 : M' 73 42 = M 73 42 ||| ((1 : Int64) <<< ((nI c).toInt64 &&& 63))) (hT : TOk T) (h4 : tnL T < 4) : DM (TQ T c a b) (NQ T N w) J' M' := by
  obtain ⟨a1, a2, a3, a4, a5, a6, a7, a8, a9, a10, a11, a12, a13, a14, a15⟩ := h
  have t2 := hT.2.1
  have t3 := hT.2.2.1
  unfold DM
  rw [h73 17 (by omega), h73 20 (by omega), h73 45 (by omega), h73 46 (by omega), h73 47 (by omega), h73 48 (by omega), h73 50 (by omega), h73 51 (by omega), hJ 76 (by omega), hJ 77 (by omega), hJ 83 (by omega), hJ 84 (by omega), hJ 85 (by omega), hJ 86 (by omega), hJ 90 (by omega), h41, h43, h42, h50]
  refine ⟨a1, a2, a3, ?_, a5, a6, a7, rfl, a9, a10, a11, ?_, ?_, ?_, a15⟩
  · intro x hx
    rw [hb_or, hb_one h64 x hx, Bool.or_eq_true, a4 x hx, decide_eq_true_eq]
    unfold stand
    constructor
    · rintro ((g | ⟨i, i1, i2⟩ | g) | g)
      · exact Or.inl g
      · refine Or.inr (Or.inl ⟨i, show i < tnL T + 1 by omega, ?_⟩)
        rcases TQ_6 (c := c) (a := a) (b := b) (show i < tnL T + 1 by omega) with ⟨q, _⟩ | ⟨_, e, _⟩
        · omega
        · rw [e]; exact i2
      · exact Or.inr (Or.inr g)
      · refine Or.inr (Or.inl ⟨tnL T, show tnL T < tnL T + 1 by omega, ?_⟩)
        rcases TQ_6 (c := c) (a := a) (b := b) (show tnL T < tnL T + 1 by omega) with ⟨_, e, _⟩ | ⟨q, _⟩
        · rw [e]; exact g.symm
        · omega
    · rintro (g | ⟨i, i1, i2⟩ | g)
      · exact Or.inl (Or.inl g)
      · rcases TQ_6 (c := c) (a := a) (b := b) (show i < tnL T + 1 from i1) with ⟨_, e, _⟩ | ⟨q, e, _⟩
        · rw [e] at i2; exact Or.inr i2.symm
        · rw [e] at i2; exact Or.inl (Or.inr (Or.inl ⟨i, q, i2⟩))
      · exact Or.inl (Or.inr (Or.inr g))
  · intro d hd
    have hd' : d < tnD T := hd
    rw [h75 d, if_neg (by omega)]
    exact a12 d hd'
  · intro d hd
    rw [h75 (8 + d), h87 d, h88 d, h89 d]
    unfold NQ
    rcases TQ_6 (c := c) (a := a) (b := b) (show d < tnL T + 1 from hd) with ⟨g, e1, e2, e3⟩ | ⟨g, e1, e2, e3⟩
    · rw [e1, e2, e3, if_pos g, if_pos g, if_pos g, if_pos (by omega), g, up2_eq]
      exact ⟨rfl, rfl, rfl, rfl⟩
    · rw [e1, e2, e3, if_neg (by omega), if_neg (by omega), if_neg (by omega), if_neg (by omega), up2_at, if_neg (by omega)]
      exact a13 d g
  · intro d hd
    have hd' : d < tnP T := hd
    rw [h75 (12 + d), if_neg (by omega)]
    exact a14 d hd'
set_option maxHeartbeats 4000000 in
theorem ln_lamp {I1 : HI} {L1 : HL} (h : Rel B n tl T N sh cl p I L J M) (hk : kd B n p ≠ 23) (h22 : kd B n p ≠ 22) (h4 : tnL T < 4) (ha : fX9_advance I L = some (I1, L1)) : LnOut B n tl sh cl p I L J M (fX6_readLamp tl I1 L1) (fX12_readLamp J M) := by
  obtain ⟨r0, ht, hT, hN, hX, hM, f6, f7, m61, m62, hsh⟩ := h
  obtain ⟨I1', L1', J1, M1, b1, b2, r1, g1, g2⟩ := r0.step hk
  rw [ha] at b1
  cases b1
  have pq := nx_lt (B := B) r0.1 h22
  obtain ⟨_, q2, q3⟩ := cap_of ht
  have hX1 := hX.fa ht (XA2.of g1)
  have hM1 := hM.fb (XB2.of g2)
  have e50 : J 73 49 = nI (tnL T) := hM.2.2.2.2.2.2.2.1
  have x8 : I1 (tl + 7) 0 = nI (tnL T) := hX1.2.2.2.2.2.1
  unfold fX6_readLamp fX12_readLamp
  rw [e50]
  have sn := s_name r1 b2 (tt := tl + 7) (fr := 8) (m := tnL T) (F := N 1) x8 (by omega) (by omega) (by omega) (fun i hi => (hX1.2.2.2.2.2.2.1 i hi).2.2.2) (fun i hi => (hM1.2.2.2.2.2.2.2.2.2.2.2.2.1 i hi).2.2.2) hN.2.1
  rw [show nI 8 = (8 : Int32) from rfl] at sn
  rcases sn with ⟨k20, w1, w2, I3, L3, J3, M3, a1, a2, r3, u1, u2, u3, u4, u5, u6, u7, u8⟩ | ⟨f, f0, f1, a1, a2⟩
  · rw [a1, a2]
    simp only [Option.bind_some]
    rw [if_neg (show ¬ b2i true = 0 by decide)]
    have hX3 := hX1.fa ht (XA2.of u1)
    have hM3 : DM T N J3 M3 := hM1.fr (fun j hj => u3 j (by omega)) (fun a ha => u2 a (by omega)) (fun j hj => u5 j (by omega)) (fun i hi => u7 i (by have := hT.2.1; have := hT.2.2.1; omega))
    have fm3 : FMr J J3 M M3 := (FMr.of (XB2.of g2)).trans ⟨fun a ha => u2 a (fun e => ha (Or.inl e)), fun j hj => u3 j (by unfold kp73 at hj; omega), u4, fun j j1 _ => u5 j j1⟩
    have fx3 : XA2 I I3 L L3 := (XA2.of g1).trans (XA2.of u1)
    have pq2 := (nx_le (B := B) r1.1).1
    have st := s_take r3 (w := 4) (v := 24948) (by decide) (by decide)
    rw [show nI 4 = (4 : Int32) from rfl] at st
    rcases st with ⟨_, I4, L4, J4, M4, c1, c2, r4, v1, v2⟩ | ⟨c1, c2⟩
    · rw [c1, c2]
      simp only [Option.bind_some]
      rw [if_neg (show ¬ b2i true = 0 by decide)]
      have hX4 := hX3.fa ht (XA2.of v1)
      have hM4 := hM3.fb (XB2.of v2)
      have pq3 := (nx_le (B := B) r3.1).1
      have sc := s_cell r4 ht hT hX4 hM4 (k := 8) (by decide) (v := M4 73 41) (fun c hc => by rw [hM4.2.2.1 c hc, take_w hc (by decide) (by decide)])
      rw [show nI 8 = (8 : Int32) from rfl] at sc
      have e50' : J4 73 49 = nI (tnL T) := hM4.2.2.2.2.2.2.2.1
      simp only [e50', clamp_nI (show tnL T < 2 ^ 31 by omega), inb_nI h4 (show 4 < 2 ^ 31 by decide), if_true]
      rcases sc with ⟨c, q, hc, hnt, pq4, I5, L5, J5, M5, d1, d2, r5, d4, d5, v3, v4⟩ | ⟨u, I5, L5, J5, M5, d1, d2, v3, v4, hbd⟩
      · rw [d1, d2]
        simp only [Option.bind_some]
        rw [if_neg (show ¬ b2i true = 0 by decide)]
        have hX5 := hX4.fa ht v3
        have hM5 := hM4.fb v4
        have r5' : RT2 B n q I5 L5 (up2 J5 87 (tnL T) (nI c)) M5 := r5.rowJ (by decide) (by decide)
        have shh := s_hours r5' (w := 9) (r := 88) (d := tnL T) (v := 7104884) (by decide) (by decide) (by decide)
        rw [show nI 9 = (9 : Int32) from rfl] at shh
        have fm5 : FMr J (up2 J5 87 (tnL T) (nI c)) M M5 := fm3.trans ((FMr.of ((XB2.of v2).trans v4)).trans (FMr.row (by unfold wkM; omega) (by decide)))
        have fx5 : XA2 I I5 L L5 := fx3.trans ((XA2.of v1).trans v3)
        rcases shh with ⟨ha', hb', q', Ja, Ma, Jb, Mb, I6, L6, o1, o2, o3, o4, o5, o6, r6, o7, o8, o9, o10, o11, o12, o13, o14, o15⟩ | ⟨x1, x2, Ja, Ma, Jb, Mb, I6, L6, o4, o5, o6, o10, o11, hbd⟩
        · left
          rw [o4, o5]
          simp only [Option.bind_some, up2_eq]
          rw [o6]
          simp only [Option.bind_some]
          rw [if_neg (show ¬ b2i true = 0 by decide)]
          have hX6 := hX5.fa ht o10
          have x8' : I6 (tl + 7) 0 = nI (tnL T) := hX6.2.2.2.2.2.1
          have c64 : c < 64 := by have := tC_le hT.1; omega
          have e2 : up2 Jb 89 (tnL T) (nI hb') 73 2 = 0 := by rw [upRow _ _ (by decide)]; exact r6.2.2.2.2.2.2.2.1
          have e49 : up2 Jb 89 (tnL T) (nI hb') 73 49 = nI (tnL T) := by
            rw [upRow _ _ (by decide), o13 49 (by decide), upRow _ _ (by decide)]
            exact hM5.2.2.2.2.2.2.2.1
          have e87 : up2 Jb 89 (tnL T) (nI hb') 87 (tnL T) = nI c := by
            rw [upRow _ _ (by decide), o11 87 (by decide) (by decide), up2_eq]
          rw [x_addT x8' (by omega) (by omega), o9, d4, o7, o8, u8]
          simp only [Option.bind_some, e2, e49, e87, nI_1]
          rw [if_pos (by decide)]
          have hgr : grd T c := ⟨hc, by
            cases hw : isW T c with
            | true => exact absurd (Or.inl hw) hnt
            | false => rfl⟩
          refine ⟨TQ T c ha' hb', NQ T N (ws B n (nx B n p)), q', _, _, _, _, by omega, rfl, rfl, ⟨?_, ht, TQ_ok hT hgr (by omega) o2 h4, NQ_ok hN w1 w2, DX_Q hX6 ht, ?_, ?_, ?_, ?_, ?_, hsh⟩, ?_, ?_⟩
          · refine ⟨r6.1, r6.2.1.fr (addI_ne (by rcases ht with e | e <;> omega)) (by rw [addI_ne (by rcases ht with e | e <;> omega)]) (upRow _ _ (by rcases ht with e | e <;> omega)), ?_, ?_, ?_, r6.2.2.2.2.2.1.fr ?_ ?_, ?_, ?_, ?_⟩
            · have := r6.2.2.1
              unfold XT at *
              rw [addI_ne (by rcases ht with e | e <;> omega), upRow L6 _ (show 49 ≠ tl + 7 + 1 by rcases ht with e | e <;> omega)]
              exact this
            · rw [addI_ne (by rcases ht with e | e <;> omega)]; exact r6.2.2.2.1
            · rw [addI_ne (by rcases ht with e | e <;> omega)]; exact r6.2.2.2.2.1
            · simp [up2_at]
            · rw [upRow _ _ (by decide), upRow _ _ (by decide)]
            · have := r6.2.2.2.2.2.2.1
              unfold MT at *
              simp [up2_at]
              exact this
            · simp [up2_at]; exact r6.2.2.2.2.2.2.2.1
            · simp [up2_at]; exact r6.2.2.2.2.2.2.2.2
          · refine DM_Q hM5 c64 ?_ ?_ ?_ ?_ ?_ ?_ ?_ ?_ ?_ ?_ hT h4
            · intro x hx; rw [upRow _ _ (by omega), upRow _ _ (by omega), o11 x (by omega) (by omega), upRow _ _ (by omega)]
            · intro j hj; rw [up2_at, if_neg (by omega), upRow _ _ (by decide), o13 j (by omega), upRow _ _ (by decide)]
            · rw [up2_eq]
            · intro i; rw [upRow _ _ (by decide), upRow _ _ (by decide), o11 87 (by decide) (by decide), up2_at]; simp
            · intro i; rw [upRow _ _ (by decide), upRow _ _ (by decide), o12 i, upRow _ _ (by decide)]
            · intro i; rw [upRow _ _ (by decide), up2_at, o11 89 (by decide) (by decide), upRow _ _ (by decide)]; simp
            · intro i
              rw [upRow _ _ (by decide), o14 75 (by decide), v4.2.2.1 75 (by decide), v2.2.2.1 75 (by decide)]
              by_cases e : i = 8 + tnL T
              · rw [if_pos e, e]; exact u6
              · rw [if_neg e]
            · rw [up2_at, if_neg (by decide), o15 41 (by decide)]
            · rw [up2_at, if_neg (by decide), o15 43 (by decide)]
            · rw [up2_eq, o15 42 (by decide)]
          · rw [addI_ne (by rcases ht with e | e <;> omega), o10.2.1 6 (by decide), fx5.2.1 6 (by decide)]; exact f6
          · rw [addI_ne (by rcases ht with e | e <;> omega), o10.2.1 7 (by decide), fx5.2.1 7 (by decide)]; exact f7
          · rw [up2_at, if_neg (by decide), upRow _ _ (by decide), o13 61 (by decide), upRow _ _ (by decide), v4.2.1 61 (by decide), (XB2.of v2).2.1 61 (by decide), u3 61 (by decide), (XB2.of g2).2.1 61 (by decide)]; exact m61
          · rw [up2_at, if_neg (by decide), upRow _ _ (by decide), o13 62 (by decide), upRow _ _ (by decide), v4.2.1 62 (by decide), (XB2.of v2).2.1 62 (by decide), u3 62 (by decide), (XB2.of g2).2.1 62 (by decide)]; exact m62
          · exact (FXr.of (fx5.trans o10)).trans (FXr.ad (by omega) (by omega) ht)
          · refine fm5.trans (FMr.trans (J' := Jb) (M' := Mb) ⟨fun x hx => o11 x (fun e => hx (Or.inl e)) (fun e => hx (by unfold wkM; omega)), fun j hj => o13 j (by unfold kp73 at hj; omega), fun x hx _ => o14 x hx, fun j hj _ => o15 j hj⟩ ((FMr.row (by unfold wkM; omega) (by decide)).trans ((FMr.fld (by unfold kp73; omega)).trans (FMr.fldL (by omega)))))
        · right
          rw [o4, o5]
          simp only [Option.bind_some, up2_eq]
          rw [o6]
          simp only [Option.bind_some]
          have hb2 := (hbd.up (a := 89) (i := tnL T) (v := x2) (by decide))
          rw [if_pos (show b2i false = 0 by decide), if_neg hb2.m.1]
          exact ⟨_, _, _, _, rfl, rfl, FXr.of (fx5.trans o10), fm5.trans (o11.trans (FMr.row (by unfold wkM; omega) (by decide))), hb2⟩
      · right
        rw [d1, d2]
        simp only [Option.bind_some]
        rw [if_pos (show b2i false = 0 by decide)]
        have hb2 := (hbd.up (a := 87) (i := tnL T) (v := u) (by decide))
        rw [m_told_bad hb2.m]
        simp only [Option.bind_some, up2_eq]
        have hb3 := (hb2.up (a := 88) (i := tnL T) (v := 0) (by decide))
        rw [m_told_bad hb3.m]
        simp only [Option.bind_some]
        have hb4 := (hb3.up (a := 89) (i := tnL T) (v := 0) (by decide))
        rw [if_neg hb4.m.1]
        exact ⟨_, _, _, _, rfl, rfl, FXr.of (fx3.trans ((XA2.of v1).trans v3)), fm3.trans ((FMr.of ((XB2.of v2).trans v4)).trans ((FMr.row (by unfold wkM; omega) (by decide)).trans ((FMr.row (by unfold wkM; omega) (by decide)).trans (FMr.row (by unfold wkM; omega) (by decide))))), hb4⟩
    · right
      have hbd := s_bd r3 (f := 2) (by decide) (by decide)
      rw [c1, c2]
      simp only [Option.bind_some]
      obtain ⟨u, e⟩ := m_rcell_bad (M := M3) hbd.m (M3 73 41)
      have e50' : rfM B n (nx B n (nx B n p)) 2 J3 73 49 = nI (tnL T) := by rw [rfM_j (by decide) (by decide)]; exact hM3.2.2.2.2.2.2.2.1
      rw [if_pos (show b2i false = 0 by decide), e]
      simp only [Option.bind_some, e50', clamp_nI (show tnL T < 2 ^ 31 by omega), inb_nI h4 (show 4 < 2 ^ 31 by decide), if_true]
      have hb2 := (hbd.up (a := 87) (i := tnL T) (v := u) (by decide))
      rw [m_told_bad hb2.m]
      simp only [Option.bind_some, up2_eq]
      have hb3 := (hb2.up (a := 88) (i := tnL T) (v := 0) (by decide))
      rw [m_told_bad hb3.m]
      simp only [Option.bind_some]
      have hb4 := (hb3.up (a := 89) (i := tnL T) (v := 0) (by decide))
      rw [if_neg hb4.m.1]
      exact ⟨_, _, _, _, rfl, rfl, FXr.of (fx3.trans (XA2.rf _)), fm3.trans ((FMr.of (XB2.rf _)).trans ((FMr.row (by unfold wkM; omega) (by decide)).trans ((FMr.row (by unfold wkM; omega) (by decide)).trans (FMr.row (by unfold wkM; omega) (by decide))))), hb4⟩
  · right
    have hbd := s_bd r1 f0 f1
    rw [a1, a2]
    simp only [Option.bind_some]
    obtain ⟨u, e⟩ := m_rcell_bad (M := M1) hbd.m (M1 73 41)
    have e50' : rfM B n (nx B n p) f J1 73 49 = nI (tnL T) := by rw [rfM_j (by decide) (by decide)]; exact hM1.2.2.2.2.2.2.2.1
    rw [if_pos (show b2i false = 0 by decide), m_want_bad hbd.m, Option.bind_some]
    simp only
    rw [e]
    simp only [Option.bind_some, e50', clamp_nI (show tnL T < 2 ^ 31 by omega), inb_nI h4 (show 4 < 2 ^ 31 by decide), if_true]
    have hb2 := (hbd.up (a := 87) (i := tnL T) (v := u) (by decide))
    rw [m_told_bad hb2.m]
    simp only [Option.bind_some, up2_eq]
    have hb3 := (hb2.up (a := 88) (i := tnL T) (v := 0) (by decide))
    rw [m_told_bad hb3.m]
    simp only [Option.bind_some]
    have hb4 := (hb3.up (a := 89) (i := tnL T) (v := 0) (by decide))
    rw [if_neg hb4.m.1]
    exact ⟨_, _, _, _, rfl, rfl, FXr.of ((XA2.of g1).trans (XA2.rf _)), (FMr.of ((XB2.of g2).trans (XB2.rf _))).trans ((FMr.row (by unfold wkM; omega) (by decide)).trans ((FMr.row (by unfold wkM; omega) (by decide)).trans (FMr.row (by unfold wkM; omega) (by decide)))), hb4⟩
end LN4
