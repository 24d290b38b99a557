/-! a door's line -/
section LN5
variable {B : Nat → Nat} {n p tl : Nat} {T T' : Nat → Nat → Nat} {N : Nat → Nat → List Nat} {sh cl : Bool} {I I' I2 : HI} {L L' L2 : HL} {J J' J2 J0 : HI} {M M' M2 M0 : HL}
def TR (T : Nat → Nat → Nat) (c h a b : Nat) : Nat → Nat → Nat := up2 (up2 (up2 (up2 (up2 T 2 (tnD T) c) 3 (tnD T) h) 4 (tnD T) a) 5 (tnD T) b) 0 2 (tnD T + 1)
def NR (T : Nat → Nat → Nat) (N : Nat → Nat → List Nat) (w : List Nat) : Nat → Nat → List Nat := up2 N 0 (tnD T) w
theorem TR_2 {c h a b i : Nat} (hi : i < tnD T + 1) : (i = tnD T ∧ TR T c h a b 2 i = c ∧ TR T c h a b 3 i = h ∧ TR T c h a b 4 i = a ∧ TR T c h a b 5 i = b) ∨ (i < tnD T ∧ TR T c h a b 2 i = T 2 i ∧ TR T c h a b 3 i = T 3 i ∧ TR T c h a b 4 i = T 4 i ∧ TR T c h a b 5 i = T 5 i) := by
  rcases Nat.lt_or_ge i (tnD T) with g | g
  · right
    have : i ≠ tnD T := by omega
    refine ⟨g, ?_, ?_, ?_, ?_⟩ <;> simp [TR, up2_at, this]
  · left
    have : i = tnD T := by omega
    refine ⟨this, ?_, ?_, ?_, ?_⟩ <;> simp [TR, up2_at, this]
theorem TR_ok {c h a b : Nat} (hT : TOk T) (hc : grd T c) (hh : 1 ≤ h ∧ h ≤ 9) (ha : a ≤ 24) (hb' : b ≤ 24) (h4 : tnD T < 8) : TOk (TR T c h a b) := by
  obtain ⟨a1, a2, a3, a4, a5, a6, a7, a8, a9, a10, a11⟩ := hT
  refine ⟨a1, ?_, a3, a4, a5, a6, ?_, a8, a9, a10.cg rfl (fun _ => rfl) (fun _ => rfl), a11⟩
  · show tnD T + 1 ≤ 8
    omega
  · intro i hi
    rcases TR_2 (c := c) (h := h) (a := a) (b := b) (show i < tnD T + 1 from hi) with ⟨_, e1, e2, e3, e4⟩ | ⟨g, e1, e2, e3, e4⟩
    · rw [e1, e2, e3, e4]; exact ⟨hc, hh.1, hh.2, ha, hb'⟩
    · rw [e1, e2, e3, e4]; exact a7 i g
theorem NR_ok {c h a b : Nat} {w : List Nat} (hN : NmOk T N) (h1 : lets w) (h2 : w.length ≤ 8) : NmOk (TR T c h a b) (NR T N w) := by
  refine ⟨fun d hd => ?_, hN.2.1, hN.2.2⟩
  have hd' : d < tnD T + 1 := hd
  unfold NR
  by_cases e : d = tnD T
  · rw [e, up2_eq]; exact ⟨h1, h2⟩
  · rw [up2_at, if_neg (by omega)]; exact hN.1 d (by omega)
theorem DX_R {c h a b : Nat} {w : List Nat} (hX : DX T N tl I L) (ht : isQ2 tl) : DX (TR T c h a b) (NR T N w) tl (addI (tl + 1) (tnD T) (nI c) (nI h) (nI a) (nI b) I) (up2 L (tl + 1 + 1) (tnD T) (lN (nm5 w))) := by
  obtain ⟨a1, a2, a3, a4, a5, a6, a7, a8, a9, a10, a11, a12⟩ := hX
  have k : ∀ x, x < tl + 1 ∨ tl + 7 ≤ x → addI (tl + 1) (tnD T) (nI c) (nI h) (nI a) (nI b) I x = I x := fun x hx => addI_ne (by omega)
  have kl : ∀ x, x ≠ tl + 2 → up2 L (tl + 1 + 1) (tnD T) (lN (nm5 w)) x = L x := fun x hx => upRow _ _ (by omega)
  unfold DX XSize
  rw [k tl (by omega), k (tl + 7) (by omega), k (tl + 9) (by omega), k (tl + 11) (by omega), k (tl + 12) (by omega), k (tl + 13) (by omega), k (tl + 15) (by omega), k (tl + 19) (by omega), kl tl (by omega), kl (tl + 8) (by omega), kl (tl + 14) (by omega)]
  refine ⟨a1, a2, a3, ?_, ?_, a6, a7, a8, a9, ?_, a11, ?_⟩
  · unfold addI
    rw [up2_eq]
    rfl
  · intro i hi
    obtain ⟨q1, q2, q3, q4⟩ := addI_at (I := I) (tt := tl + 1) (m := tnD T) (i := i) (c := nI c) (h := nI h) (a := nI a) (b := nI b)
    have e14 : up2 L (tl + 1 + 1) (tnD T) (lN (nm5 w)) (tl + 2) i = if i = tnD T then lN (nm5 w) else L (tl + 2) i := by
      rw [up2_at]
      by_cases e : i = tnD T
      · rw [if_pos ⟨rfl, e⟩, if_pos e]
      · rw [if_neg (fun g => e g.2), if_neg e]
    rw [show tl + 3 = tl + 1 + 2 by omega, show tl + 4 = tl + 1 + 3 by omega, show tl + 5 = tl + 1 + 4 by omega, show tl + 6 = tl + 1 + 5 by omega, q1, q2, q3, q4, e14]
    unfold NR
    rcases TR_2 (c := c) (h := h) (a := a) (b := b) (show i < tnD T + 1 from hi) with ⟨g, e1, e2, e3, e4⟩ | ⟨g, e1, e2, e3, e4⟩
    · rw [e1, e2, e3, e4, if_pos g, if_pos g, if_pos g, if_pos g, if_pos g, g, up2_eq]
      exact ⟨rfl, rfl, rfl, rfl, rfl⟩
    · rw [e1, e2, e3, e4, if_neg (by omega), if_neg (by omega), if_neg (by omega), if_neg (by omega), if_neg (by omega), up2_at, if_neg (by omega)]
      exact a5 i g
  · have := a10.cg (T' := TR T c h a b) rfl (fun _ => rfl) (fun _ => rfl)
    unfold XForm at *
    rw [k (tl + 19) (by omega), k (tl + 19 + 1) (by omega)]
    exact this
  · rw [datd_cg (T := T) (T' := TR T c h a b) rfl (fun _ => rfl) (fun _ => rfl)]
    exact a12
theorem dst_R {c h a b x : Nat} : dstand (TR T c h a b) x ↔ (dstand T x ∨ x = c) := by
  unfold dstand
  constructor
  · rintro ⟨i, i1, i2⟩
    rcases TR_2 (c := c) (h := h) (a := a) (b := b) (show i < tnD T + 1 from i1) with ⟨_, e, _⟩ | ⟨q, e, _⟩
    · rw [e] at i2; exact Or.inr i2.symm
    · rw [e] at i2; exact Or.inl ⟨i, q, i2⟩
  · rintro (⟨i, i1, i2⟩ | g)
    · refine ⟨i, show i < tnD T + 1 by omega, ?_⟩
      rcases TR_2 (c := c) (h := h) (a := a) (b := b) (show i < tnD T + 1 by omega) with ⟨q, _⟩ | ⟨_, e, _⟩
      · omega
      · rw [e]; exact i2
    · refine ⟨tnD T, show tnD T < tnD T + 1 by omega, ?_⟩
      rcases TR_2 (c := c) (h := h) (a := a) (b := b) (show tnD T < tnD T + 1 by omega) with ⟨_, e, _⟩ | ⟨q, _⟩
      · rw [e]; exact g.symm
      · omega
theorem DM_R {c h a b : Nat} {w : List Nat} (hM : DM T N J M) (h64 : c < 64) (hJ : ∀ x, x = 76 ∨ x = 77 ∨ (87 ≤ x ∧ x ≤ 90) → J' x = J x) (h73 : ∀ j, j = 17 ∨ j = 20 ∨ (45 ≤ j ∧ j ≤ 51 ∧ j ≠ 48) → J' 73 j = J 73 j) (h50 : J' 73 48 = nI (tnD T + 1)) (h83 : ∀ i, J' 83 i = if i = tnD T then nI c else J 83 i) (h84 : ∀ i, J' 84 i = if i = tnD T then nI h else J 84 i) (h85 : ∀ i, J' 85 i = if i = tnD T then nI a else J 85 i) (h86 : ∀ i, J' 86 i = if i = tnD T then nI b else J 86 i) (h75 : ∀ i, M' 75 i = if i = tnD T then lN (wd8 w) else M 75 i) (h41 : M' 73 41 = M 73 41) (h43 : M' 73 43 = M 73 43 ||| ((1 : Int64) <<< ((nI c).toInt64 &&& 63))) (h42 : M' 73 42 = M 73 42 ||| (M 73 43 ||| ((1 : Int64) <<< ((nI c).toInt64 &&& 63)))) (hT : TOk T) (h4 : tnD T < 8) : DM (TR T c h a b) (NR T N w) J' M' := by
  obtain ⟨a1, a2, a3, a4, a5, a6, a7, a8, a9, a10, a11, a12, a13, a14, a15⟩ := hM
  have t2 := hT.2.1
  have t3 := hT.2.2.1
  unfold DM
  rw [h73 17 (by omega), h73 20 (by omega), h73 45 (by omega), h73 46 (by omega), h73 47 (by omega), h73 49 (by omega), h73 50 (by omega), h73 51 (by omega), hJ 76 (by omega), hJ 77 (by omega), hJ 87 (by omega), hJ 88 (by omega), hJ 89 (by omega), hJ 90 (by omega), h41, h43, h42, h50]
  refine ⟨a1, a2, a3, ?_, ?_, a6, rfl, a8, a9, a10, a11, ?_, ?_, ?_, a15⟩
  · intro x hx
    rw [hb_or, hb_or, hb_one h64 x hx, Bool.or_eq_true, Bool.or_eq_true, a4 x hx, a5 x hx, decide_eq_true_eq, ← dst_R (h := h) (a := a) (b := b)]
    constructor
    · rintro ((g | g | g) | g)
      · exact Or.inl (dst_R.mpr (Or.inl g))
      · exact Or.inr (Or.inl g)
      · exact Or.inr (Or.inr g)
      · exact Or.inl g
    · rintro (g | g | g)
      · exact Or.inr g
      · exact Or.inl (Or.inr (Or.inl g))
      · exact Or.inl (Or.inr (Or.inr g))
  · intro x hx
    rw [hb_or, hb_one h64 x hx, Bool.or_eq_true, a5 x hx, decide_eq_true_eq, dst_R]
  · intro d hd
    rw [h75 d, h83 d, h84 d, h85 d, h86 d]
    unfold NR
    rcases TR_2 (c := c) (h := h) (a := a) (b := b) (show d < tnD T + 1 from hd) with ⟨g, e1, e2, e3, e4⟩ | ⟨g, e1, e2, e3, e4⟩
    · rw [e1, e2, e3, e4, if_pos g, if_pos g, if_pos g, if_pos g, if_pos g, g, up2_eq]
      exact ⟨rfl, rfl, rfl, rfl, rfl⟩
    · rw [e1, e2, e3, e4, if_neg (by omega), if_neg (by omega), if_neg (by omega), if_neg (by omega), if_neg (by omega), up2_at, if_neg (by omega)]
      exact a12 d g
  · intro d hd
    have hd' : d < tnL T := hd
    rw [h75 (8 + d), if_neg (by omega)]
    exact a13 d hd'
  · intro d hd
    have hd' : d < tnP T := hd
    rw [h75 (12 + d), if_neg (by omega)]
    exact a14 d hd'
theorem rel_R {c h a b q : Nat} {w : List Nat} (r : RT2 B n q I L J M) (ht : isQ2 tl) (hT : TOk T) (hN : NmOk T N) (hX : DX T N tl I L) (hM : DM T N J0 M0) (hgr : grd T c) (hh : 1 ≤ h ∧ h ≤ 9) (ha : a ≤ 24) (hb' : b ≤ 24) (h4 : tnD T < 8) (w1 : lets w) (w2 : w.length ≤ 8) (hJ : ∀ x, x = 76 ∨ x = 77 ∨ (87 ≤ x ∧ x ≤ 90) → J x = J0 x) (h73 : ∀ j, j = 17 ∨ j = 20 ∨ (45 ≤ j ∧ j ≤ 51 ∧ j ≠ 48) → J 73 j = J0 73 j) (h83 : ∀ i, J 83 i = if i = tnD T then nI c else J0 83 i) (h84 : ∀ i, J 84 i = if i = tnD T then nI h else J0 84 i) (h85 : ∀ i, J 85 i = if i = tnD T then nI a else J0 85 i) (h86 : ∀ i, J 86 i = if i = tnD T then nI b else J0 86 i) (h75 : ∀ i, M 75 i = if i = tnD T then lN (wd8 w) else M0 75 i) (h41 : ∀ j, 41 ≤ j ∧ j ≤ 43 → M 73 j = M0 73 j) (f6 : I 48 6 = b2i sh) (f7 : I 48 7 = b2i cl) (m61 : J 73 61 = b2i sh) (m62 : J 73 62 = b2i cl) (hsh : (sh = false → tNS T = 0 ∧ T 0 6 = 0) ∧ fb_ct (isW T) 64 ≤ 24) : Rel B n tl (TR T c h a b) (NR T N w) sh cl q (addI (tl + 1) (tnD T) (nI c) (nI h) (nI a) (nI b) I) (up2 L (tl + 1 + 1) (tnD T) (lN (nm5 w))) (up2 J 73 48 (nI (tnD T + 1))) (up2 (up2 M 73 43 (M 73 43 ||| ((1 : Int64) <<< ((nI c).toInt64 &&& 63)))) 73 42 (M 73 42 ||| (M 73 43 ||| ((1 : Int64) <<< ((nI c).toInt64 &&& 63))))) := by
  have c64 : c < 64 := hT.c64 hgr
  refine ⟨?_, ht, TR_ok hT hgr hh ha hb' h4, NR_ok hN w1 w2, DX_R hX ht, ?_, ?_, ?_, ?_, ?_, hsh⟩
  · refine ⟨r.1, r.2.1.fr (addI_ne (by rcases ht with e | e <;> omega)) (by rw [addI_ne (by rcases ht with e | e <;> omega)]) (upRow _ _ (by rcases ht with e | e <;> omega)), ?_, ?_, ?_, r.2.2.2.2.2.1.fr ?_ ?_, ?_, ?_, ?_⟩
    · have := r.2.2.1
      unfold XT at *
      rw [addI_ne (by rcases ht with e | e <;> omega), upRow L _ (show 49 ≠ tl + 1 + 1 by rcases ht with e | e <;> omega)]
      exact this
    · rw [addI_ne (by rcases ht with e | e <;> omega)]; exact r.2.2.2.1
    · rw [addI_ne (by rcases ht with e | e <;> omega)]; exact r.2.2.2.2.1
    · simp [up2_at]
    · rw [upRow _ _ (by decide)]
    · have := r.2.2.2.2.2.2.1
      unfold MT at *
      simp [up2_at]
      exact this
    · simp [up2_at]; exact r.2.2.2.2.2.2.2.1
    · simp [up2_at]; exact r.2.2.2.2.2.2.2.2
  · refine DM_R hM c64 ?_ ?_ ?_ ?_ ?_ ?_ ?_ ?_ ?_ ?_ ?_ hT h4
    · intro x hx; rw [upRow _ _ (by omega)]; exact hJ x hx
    · intro j hj; rw [up2_at, if_neg (by omega)]; exact h73 j hj
    · rw [up2_eq]
    · intro i; rw [upRow _ _ (by decide)]; exact h83 i
    · intro i; rw [upRow _ _ (by decide)]; exact h84 i
    · intro i; rw [upRow _ _ (by decide)]; exact h85 i
    · intro i; rw [upRow _ _ (by decide)]; exact h86 i
    · intro i; rw [upRow _ _ (by decide), upRow _ _ (by decide)]; exact h75 i
    · rw [up2_at, if_neg (by decide), up2_at, if_neg (by decide)]; exact h41 41 (by omega)
    · rw [up2_at, if_neg (by decide), up2_eq, h41 43 (by omega)]
    · rw [up2_eq, h41 42 (by omega), h41 43 (by omega)]
  · rw [addI_ne (by rcases ht with e | e <;> omega)]; exact f6
  · rw [addI_ne (by rcases ht with e | e <;> omega)]; exact f7
  · rw [up2_at, if_neg (by decide)]; exact m61
  · rw [up2_at, if_neg (by decide)]; exact m62
theorem take_d {c : Nat} {s t : Int64} (hc : c < 64) (h1 : hb s c = isW T c) (h2 : hb t c = true ↔ dstand T c) : hb (s ||| t) c = true ↔ taken T 3 c := by
  rw [hb_or, Bool.or_eq_true, h1, h2]
  unfold taken
  constructor
  · rintro (g | g)
    · exact Or.inl g
    · exact Or.inr (Or.inr ⟨rfl, g⟩)
  · rintro (g | ⟨g, _⟩ | ⟨_, g⟩)
    · exact Or.inl g
    · cases g
    · exact Or.inr g
end LN5
