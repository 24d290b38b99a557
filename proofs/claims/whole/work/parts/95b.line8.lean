/-! walls -/
section LN8
variable {B : Nat → Nat} {n p tl : Nat} {T T' : Nat → Nat → Nat} {N : Nat → Nat → List Nat} {sh cl : Bool} {I I' I2 : HI} {L L' L2 : HL} {J J' J2 J0 : HI} {M M' M2 M0 : HL}
def TV (T : Nat → Nat → Nat) (c : Nat) : Nat → Nat → Nat := up2 T 1 c 1
theorem TV_w {c k : Nat} : isW (TV T c) k = if k = c then true else isW T k := by
  unfold isW TV
  rw [up2_at]
  by_cases e : k = c
  · rw [if_pos ⟨rfl, e⟩, if_pos e]; rfl
  · rw [if_neg (fun g => e g.2), if_neg e]
theorem TV_ct {c : Nat} (hc : c < 64) (h : isW T c = false) : fb_ct (isW (TV T c)) 64 = fb_ct (isW T) 64 + 1 := by
  have e : isW (TV T c) = fun k => if k = c then true else isW T k := funext fun k => TV_w
  have := fb_ct_upd (isW T) true hc
  rw [h] at this
  rw [e]
  simpa using this
theorem TV_g {c x : Nat} (h : grd T x) (hx : x ≠ c) : grd (TV T c) x := ⟨h.1, by rw [TV_w, if_neg hx]; exact h.2⟩
theorem TV_ok {c : Nat} (hT : TOk T) (hc : c < tC T) (hn : ¬ stand T c) : TOk (TV T c) := by
  obtain ⟨a1, a2, a3, a4, a5, a6, a7, a8, a9, a10, a11⟩ := hT
  refine ⟨a1, a2, a3, a4, a5, a6, fun d hd => ⟨TV_g (a7 d hd).1 (fun e => hn (Or.inl ⟨d, hd, e⟩)), (a7 d hd).2⟩, fun d hd => ⟨TV_g (a8 d hd).1 (fun e => hn (Or.inr (Or.inl ⟨d, hd, e⟩))), (a8 d hd).2⟩, fun d hd => TV_g (a9 d hd) (fun e => hn (Or.inr (Or.inr ⟨d, hd, e⟩))), a10.cg rfl (fun _ => rfl) (fun _ => rfl), ?_⟩
  intro x hx
  rw [TV_w] at hx
  by_cases e : x = c
  · rw [e]; exact hc
  · rw [if_neg e] at hx; exact a11 x hx
theorem rel_V {c : Nat} (h : Rel B n tl T N sh cl p I L J M) (hc : c < tC T) (hn : ¬ taken T 2 c) (h24 : fb_ct (isW T) 64 < 24) : Rel B n tl (TV T c) N sh cl p I (up2 L tl 3 (L tl 3 ||| ((1 : Int64) <<< ((nI c).toInt64 &&& 63)))) (up2 J 73 47 (nI (fb_ct (isW T) 64 + 1))) (up2 M 73 41 (M 73 41 ||| ((1 : Int64) <<< ((nI c).toInt64 &&& 63)))) := by
  obtain ⟨r0, ht, hT, hN, hX, hM, f6, f7, m61, m62, hsh⟩ := h
  have h64 : c < 64 := by have := tC_le hT.1; omega
  have hw : isW T c = false := by
    cases hh : isW T c with
    | true => exact absurd (Or.inl hh) hn
    | false => rfl
  have hns : ¬ stand T c := fun g => hn (Or.inr (Or.inl ⟨rfl, g⟩))
  have bit : ∀ (s : Int64), (∀ x, x < 64 → hb s x = isW T x) → ∀ x, x < 64 → hb (s ||| ((1 : Int64) <<< ((nI c).toInt64 &&& 63))) x = isW (TV T c) x := by
    intro s hs x hx
    rw [hb_or, hb_one h64 x hx, hs x hx, TV_w]
    by_cases e : x = c
    · simp [e]
    · simp [e]
  refine ⟨?_, ht, TV_ok hT hc hns, hN, ?_, ?_, f6, f7, ?_, ?_, hsh.1, by rw [TV_ct h64 hw]; omega⟩
  · obtain ⟨a1, a2, a3, a4, a5, a6, a7, a8, a9⟩ := (s_rowTL r0 ht (a := tl) (i := 3) (v := L tl 3 ||| ((1 : Int64) <<< ((nI c).toInt64 &&& 63))) (by omega)).fldJ (j := 47) (v := nI (fb_ct (isW T) 64 + 1)) (by decide)
    refine ⟨a1, a2, a3, a4, a5, a6, ?_, a8, a9⟩
    unfold MT at *
    have : up2 M 73 41 (M 73 41 ||| ((1 : Int64) <<< ((nI c).toInt64 &&& 63))) 73 9 = M 73 9 := by rw [up2_at, if_neg (by decide)]
    rw [this]
    exact a7
  · obtain ⟨a1, a2, a3, a4, a5, a6, a7, a8, a9, a10, a11, a12⟩ := hX
    have hf := a10.cg (T' := TV T c) rfl (fun _ => rfl) (fun _ => rfl)
    unfold DX at *
    rw [up2_eq, upRow L _ (show tl + 2 ≠ tl by omega), upRow L _ (show tl + 8 ≠ tl by omega), upRow L _ (show tl + 14 ≠ tl by omega), datd_cg (T := T) (T' := TV T c) rfl (fun _ => rfl) (fun _ => rfl)]
    exact ⟨a1, bit _ a2, a3, a4, a5, a6, a7, a8, a9, hf, a11, a12⟩
  · obtain ⟨a1, a2, a3, a4, a5, a6, a7, a8, a9, a10, a11, a12, a13, a14, a15⟩ := hM
    have k2 : ∀ j, j ≠ 47 → up2 J 73 47 (nI (fb_ct (isW T) 64 + 1)) 73 j = J 73 j := fun j hj => by rw [up2_at, if_neg (by omega)]
    have k : ∀ x, x ≠ 73 → up2 J 73 47 (nI (fb_ct (isW T) 64 + 1)) x = J x := fun x hx => upRow _ _ hx
    have kM : ∀ j, j ≠ 41 → up2 M 73 41 (M 73 41 ||| ((1 : Int64) <<< ((nI c).toInt64 &&& 63))) 73 j = M 73 j := fun j hj => by rw [up2_at, if_neg (by omega)]
    unfold DM
    rw [k2 45 (by omega), k2 46 (by omega), up2_eq, k2 48 (by omega), k2 49 (by omega), k2 50 (by omega), k2 51 (by omega), k2 20 (by omega), k2 17 (by omega), up2_eq, k 76 (by omega), k 77 (by omega), k 83 (by omega), k 84 (by omega), k 85 (by omega), k 86 (by omega), k 87 (by omega), k 88 (by omega), k 89 (by omega), k 90 (by omega), kM 42 (by omega), kM 43 (by omega), upRow M _ (show 75 ≠ 73 by decide), TV_ct h64 hw]
    exact ⟨a1, a2, bit _ a3, a4, a5, rfl, a7, a8, a9, a10, a11, a12, a13, a14, a15⟩
  · rw [up2_at, if_neg (by decide)]; exact m61
  · rw [up2_at, if_neg (by decide)]; exact m62
theorem LnOut.pre {q : Nat} {rx : Option (Bool × HI × HL)} {rm : Option (HI × HL)} (fx : FXr tl I I' L L') (fm : FMr J J' M M') (hpq : p ≤ q) (h : LnOut B n tl sh cl q I' L' J' M' rx rm) : LnOut B n tl sh cl p I L J M rx rm := by
  rcases h with ⟨T', N', q', I2, L2, J2, M2, h1, h2, h3, h4, h5, h6⟩ | ⟨I2, L2, J2, M2, h2, h3, h5, h6, h7⟩
  · exact Or.inl ⟨T', N', q', I2, L2, J2, M2, by omega, h2, h3, h4, fx.trans h5, fm.trans h6⟩
  · exact Or.inr ⟨I2, L2, J2, M2, h2, h3, fx.trans h5, fm.trans h6, h7⟩
theorem take_v {c : Nat} {s t : Int64} (h1 : hb s c = isW T c) (h2 : hb t c = true ↔ stand T c) : hb (s ||| t) c = true ↔ taken T 2 c := by
  rw [hb_or, Bool.or_eq_true, h1, h2]
  unfold taken
  constructor
  · rintro (g | g)
    · exact Or.inl g
    · exact Or.inr (Or.inl ⟨rfl, g⟩)
  · rintro (g | ⟨_, g⟩ | ⟨g, _⟩)
    · exact Or.inl g
    · exact Or.inr g
    · cases g
set_option maxHeartbeats 4000000 in
theorem wl_loop : ∀ (m i p fu fu2 : Nat) (T : Nat → Nat → Nat) (I : HI) (L : HL) (J : HI) (M : HL), Rel B n tl T N sh cl p I L J M → fb_ct (isW T) 64 + m = 24 → i ≤ fb_ct (isW T) 64 → m + 2 ≤ fu → m + 2 ≤ fu2 → LnOut B n tl sh cl p I L J M (fX6_readWalls_2 tl fu (nI i) I L) (fX12_readWall_6 fu2 (1 : Int32) J M) := by
  intro m
  induction m with
  | zero =>
    intro i p fu fu2 T I L J M h hm hi hf hf2
    obtain ⟨f, rfl⟩ : ∃ f, fu = f + 1 := ⟨fu - 1, by omega⟩
    obtain ⟨f2, rfl⟩ : ∃ f2, fu2 = f2 + 1 := ⟨fu2 - 1, by omega⟩
    obtain ⟨r0, ht, hT, hN, hX, hM, _⟩ := h
    have e47 : J 73 47 = nI (fb_ct (isW T) 64) := hM.2.2.2.2.2.1
    have ebc : fJ13_bitCount_95d88 (L tl 3) = nI (fb_ct (isW T) 64) := by
      rw [x_bits, fb_ct_cong hX.2.1]
    have hbd := s_bd r0 (f := 2) (by decide) (by decide)
    right
    rw [fX6_readWalls_2, fX12_readWall_6, ebc, if_neg (show ¬ (24 : Int32) < nI i from nI_nlt (a := 24) (by omega) (by decide)), if_neg (show ¬ nI (fb_ct (isW T) 64) < (24 : Int32) from nI_nlt (b := 24) (by omega) (by omega)), obn_eq, show (2 : Int32) = nI 2 from rfl, x_refuse r0.2.2.1 (r0.2.1.kd r0.1), if_neg (by decide), r0.2.2.2.2.2.2.2.1, if_pos rfl, Option.bind_some, if_neg (by decide), e47, if_pos (show nI (fb_ct (isW T) 64) = (24 : Int32) by rw [show fb_ct (isW T) 64 = 24 by omega]; rfl), obn_eq, m_wrong r0.2.2.2.2.2.1 r0.1 r0.2.2.2.2.2.2.1 r0.2.2.2.2.2.2.2.1, Option.bind_some]
    obtain ⟨u, e⟩ := m_rcell_bad (M := M) hbd.m (M 73 41 ||| M 73 42)
    rw [e, Option.bind_some]
    simp only
    rw [if_neg hbd.m.1]
    exact ⟨_, _, _, _, rfl, rfl, FXr.of (XA2.rf _), FMr.of (XB2.rf _), hbd⟩
  | succ m ih =>
    intro i p fu fu2 T I L J M h hm hi hf hf2
    obtain ⟨f, rfl⟩ : ∃ f, fu = f + 1 := ⟨fu - 1, by omega⟩
    obtain ⟨f2, rfl⟩ : ∃ f2, fu2 = f2 + 1 := ⟨fu2 - 1, by omega⟩
    obtain ⟨r0, ht, hT, hN, hX, hM, f6, f7, m61, m62, hsh⟩ := id h
    have e47 : J 73 47 = nI (fb_ct (isW T) 64) := hM.2.2.2.2.2.1
    have ebc : fJ13_bitCount_95d88 (L tl 3) = nI (fb_ct (isW T) 64) := by
      rw [x_bits, fb_ct_cong hX.2.1]
    have e02 : J 73 2 = 0 := r0.2.2.2.2.2.2.2.1
    rw [fX6_readWalls_2, fX12_readWall_6, ebc, if_neg (show ¬ (24 : Int32) < nI i from nI_nlt (a := 24) (by omega) (by decide)), if_pos (show nI (fb_ct (isW T) 64) < (24 : Int32) from nI_lt (b := 24) (by omega) (by decide)), if_neg (by decide), e02, if_pos rfl, Option.bind_some, if_neg (by decide), e47, if_neg (show ¬ nI (fb_ct (isW T) 64) = (24 : Int32) from ne_lit (c := 24) (by omega) (by decide) (by omega)), Option.bind_some]
    have sc := s_cell r0 ht hT hX hM (k := 2) (by decide) (v := M 73 41 ||| M 73 42) (fun c hc => take_v (hM.2.2.1 c hc) (hM.2.2.2.1 c hc))
    rw [show nI 2 = (2 : Int32) from rfl] at sc
    rcases sc with ⟨c, q, hc, hnt, pq4, I5, L5, J5, M5, d1, d2, r5, d4, d5, v3, v4⟩ | ⟨u, I5, L5, J5, M5, d1, d2, v3, v4, hbd⟩
    · rw [d1, d2]
      simp only [Option.bind_some]
      have hX5 := hX.fa ht v3
      have hM5 := hM.fb v4
      have rl : Rel B n tl T N sh cl q I5 L5 J5 M5 := ⟨r5, ht, hT, hN, hX5, hM5, by rw [v3.2.1 6 (by decide)]; exact f6, by rw [v3.2.1 7 (by decide)]; exact f7, by rw [v4.2.1 61 (by decide)]; exact m61, by rw [v4.2.1 62 (by decide)]; exact m62, hsh⟩
      have rv := rel_V rl hc hnt (by omega)
      have e47' : J5 73 47 = nI (fb_ct (isW T) 64) := hM5.2.2.2.2.2.1
      have h64 : c < 64 := by have := tC_le hT.1; omega
      have hw : isW T c = false := by
        cases hh : isW T c with
        | true => exact absurd (Or.inl hh) hnt
        | false => rfl
      have hct := TV_ct h64 hw
      rw [if_neg (show ¬ b2i true = 0 by decide), r5.2.2.2.2.2.2.2.1, if_pos (show (0 : Int32) ≤ 0 by decide), d4]
      simp only [e47', nI_1]
      have e6 : up2 J5 73 47 (nI (fb_ct (isW T) 64 + 1)) 73 6 = (2 : Int32) ↔ kd B n q = 21 := by
        have g := m_sort rv.1.2.2.2.2.2.1 r5.1 rv.1.2.2.2.2.2.2.1 (s := 2) (by decide)
        rw [sk_2] at g
        exact g
      have e4 : I5 49 4 = nI (kd B n q) := r5.2.2.1.1
      have fx : FXr tl I I5 L (up2 L5 tl 3 (L5 tl 3 ||| ((1 : Int64) <<< ((nI c).toInt64 &&& 63)))) := (FXr.of v3).trans (FXr.rowTL (by omega))
      have fm : FMr J (up2 J5 73 47 (nI (fb_ct (isW T) 64 + 1))) M (up2 M5 73 41 (M5 73 41 ||| ((1 : Int64) <<< ((nI c).toInt64 &&& 63)))) := (FMr.of v4).trans ((FMr.fld (by unfold kp73; omega)).trans (FMr.fldL (by omega)))
      by_cases k21 : kd B n q = 21
      · rw [if_pos (show I5 49 4 = (21 : Int32) by rw [e4, k21]; rfl)]
        simp only [if_pos (e6.mpr k21)]
        exact LnOut.pre fx fm (by omega) (ih (i + 1) q f f2 (TV T c) I5 _ _ _ rv (by omega) (by omega) (by omega) (by omega))
      · rw [if_neg (show ¬ I5 49 4 = (21 : Int32) by rw [e4]; exact ne_lit (r5.2.1.kd r5.1) (by decide) k21)]
        simp only [if_neg (fun g => k21 (e6.mp g))]
        obtain ⟨f3, rfl⟩ : ∃ f3, f2 = f3 + 1 := ⟨f2 - 1, by omega⟩
        rw [fX12_readWall_6, if_pos rfl, Option.bind_some, if_pos rfl]
        exact Or.inl ⟨_, N, q, _, _, _, _, pq4, rfl, rfl, rv, fx, fm⟩
    · right
      rw [d1, d2]
      simp only [Option.bind_some]
      rw [if_pos (show b2i false = 0 by decide), if_neg hbd.m.1]
      exact ⟨_, _, _, _, rfl, rfl, FXr.of v3, FMr.of v4, hbd⟩
theorem ln_wall (h : Rel B n tl T N sh cl p I L J M) {I1 : HI} {L1 : HL} (hk : kd B n p ≠ 23) (h22 : kd B n p ≠ 22) (ha : fX9_advance I L = some (I1, L1)) : LnOut B n tl sh cl p I L J M (fX6_readWalls tl I1 L1) (fX12_readWall J M) := by
  obtain ⟨r0, ht, hT, hN, hX, hM, f6, f7, m61, m62, hsh⟩ := h
  obtain ⟨I1', L1', J1, M1, b1, b2, r1, g1, g2⟩ := r0.step hk
  rw [ha] at b1
  cases b1
  have pq := nx_lt (B := B) r0.1 h22
  have rl : Rel B n tl T N sh cl (nx B n p) I1 L1 J1 M1 := ⟨r1, ht, hT, hN, hX.fa ht (XA2.of g1), hM.fb (XB2.of g2), by rw [g1.1 48 (by decide)]; exact f6, by rw [g1.1 48 (by decide)]; exact f7, by rw [(XB2.of g2).2.1 61 (by decide)]; exact m61, by rw [(XB2.of g2).2.1 62 (by decide)]; exact m62, hsh⟩
  obtain ⟨fu, hfu⟩ := fuel_at 100 (by decide)
  have h24 := hsh.2
  have := wl_loop (24 - fb_ct (isW T) 64) 0 (nx B n p) FUEL FUEL T I1 L1 J1 M1 rl (by omega) (by omega) (by omega) (by omega)
  have h2 := LnOut.pre (FXr.of (XA2.of g1)) (FMr.of (XB2.of g2)) (by omega : p ≤ nx B n p) this
  have e1 : fX6_readWalls tl I1 L1 = fX6_readWalls_2 tl FUEL (nI 0) I1 L1 := by
    unfold fX6_readWalls
    rw [show (0 : Int32) = nI 0 from rfl]
    cases fX6_readWalls_2 tl FUEL (nI 0) I1 L1 with
    | none => rfl
    | some x => rfl
  have e2 : fX12_readWall J M = fX12_readWall_6 FUEL (1 : Int32) J1 M1 := by
    unfold fX12_readWall
    rw [b2, Option.bind_some]
    cases fX12_readWall_6 FUEL (1 : Int32) J1 M1 with
    | none => rfl
    | some x => rfl
  rw [e1, e2]
  exact h2
end LN8
