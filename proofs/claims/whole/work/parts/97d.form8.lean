/-! the formula: term, sum, one, both, either -/
section FM8
variable {B : Nat → Nat} {n p ff : Nat}
theorem lit_no {I : HI} {k c : Nat} (h : I 49 4 = nI k) (hk : k < 256) (hc : c < 256) (hn : k ≠ c) : ¬ I 49 4 = nI c := by rw [h]; exact ne_lit hk hc hn
theorem i30 {i : Nat} (h : i < 30) : ¬ (30 : Int32) ≤ nI i := nI_ge (b := 30) h (by decide)
def opT (k : Nat) : Bool := decide (k = 42) || decide (k = 47) || decide (k = 37)
def opS (k : Nat) : Bool := decide (k = 43) || decide (k = 45)
def opB (k : Nat) : Bool := decide (k = 14)
def opE (k : Nat) : Bool := decide (k = 13)
theorem opT_no {k : Nat} (h : opT k = false) : k ≠ 42 ∧ k ≠ 47 ∧ k ≠ 37 := by unfold opT at h; simp at h; omega
theorem opT_yes {k : Nat} (h : opT k = true) : k = 42 ∨ k = 47 ∨ k = 37 := by unfold opT at h; simp at h; omega
theorem opS_no {k : Nat} (h : opS k = false) : k ≠ 43 ∧ k ≠ 45 := by unfold opS at h; simp at h; omega
theorem opS_yes {k : Nat} (h : opS k = true) : k = 43 ∨ k = 45 := by unfold opS at h; simp at h; omega
theorem opB_no {k : Nat} (h : opB k = false) : k ≠ 14 := by unfold opB at h; simp at h; exact h
theorem opB_yes {k : Nat} (h : opB k = true) : k = 14 := by unfold opB at h; simp at h; exact h
theorem opE_no {k : Nat} (h : opE k = false) : k ≠ 13 := by unfold opE at h; simp at h; exact h
theorem opE_yes {k : Nat} (h : opE k = true) : k = 13 := by unfold opE at h; simp at h; exact h
theorem i2b_0 : i2b 0 = some false := by decide
theorem i2b_1 : i2b 1 = some true := by decide
theorem sp_term {E : Int32 → HI → HL → Option (Bool × HI × HL)} {kk : Nat} (hf : isFF ff) (hX : XSp B n ff (fX2_readUnit ff E) 7 7 true kk) : XSp B n ff (fX2_readTerm ff E) 6 6 true kk := by
  refine sp_comp (ops := opT) (loop := fX2_readTerm_8 ff E) hf hX ?_ (by decide) (by decide) (by decide) (by decide) ?_ ?_ ?_ ?_
  · intro k hk
    rcases opT_yes hk with e | e | e <;> rw [e] <;> decide
  · intro k K h hk
    exact ⟨fun _ => opT_no hk, by omega, by omega, by omega, by omega⟩
  · intro fu v i I L k hi h4 hk ho
    obtain ⟨h1, h2, h3⟩ := opT_no ho
    rw [fX2_readTerm_8, if_neg (i30 hi), if_neg (by decide), Option.bind_some, if_neg (by decide), if_neg (show ¬ I 49 4 = (42 : Int32) from lit_no h4 hk (by decide) h1), if_neg (show ¬ I 49 4 = (47 : Int32) from lit_no h4 hk (by decide) h2), if_neg (show ¬ I 49 4 = (37 : Int32) from lit_no h4 hk (by decide) h3), Option.bind_some, if_neg (by decide), i2b_1, Option.bind_some]
  · intro fu v i I L
    rw [fX2_readTerm_8, if_pos rfl, ite_self, Option.bind_some, if_pos rfl, i2b_0, Option.bind_some]
  · intro fu v i I L k hi h4 hk ho
    rw [fX2_readTerm_8, if_neg (i30 hi), if_neg (by decide), Option.bind_some, if_neg (by decide)]
    have : (if I 49 4 = (42 : Int32) then some true else if I 49 4 = (47 : Int32) then some true else if I 49 4 = (37 : Int32) then some true else some false) = some true := by
      rcases opT_yes ho with e | e | e <;> rw [h4, e] <;> rfl
    rw [this, Option.bind_some, if_pos rfl, h4]
theorem sp_sum {E : Int32 → HI → HL → Option (Bool × HI × HL)} {kk : Nat} (hf : isFF ff) (hX : XSp B n ff (fX2_readTerm ff E) 6 6 true kk) : XSp B n ff (fX2_readSum ff E) 5 5 true kk := by
  refine sp_comp (ops := opS) (loop := fX2_readSum_8 ff E) hf hX ?_ (by decide) (by decide) (by decide) (by decide) ?_ ?_ ?_ ?_
  · intro k hk
    rcases opS_yes hk with e | e <;> rw [e] <;> decide
  · intro k K h hk
    exact ⟨fun _ => h.1 (by omega), fun _ => opS_no hk, by omega, by omega, by omega⟩
  · intro fu v i I L k hi h4 hk ho
    obtain ⟨h1, h2⟩ := opS_no ho
    rw [fX2_readSum_8, if_neg (i30 hi), if_neg (by decide), Option.bind_some, if_neg (by decide), if_neg (show ¬ I 49 4 = (43 : Int32) from lit_no h4 hk (by decide) h1), if_neg (show ¬ I 49 4 = (45 : Int32) from lit_no h4 hk (by decide) h2), Option.bind_some, if_neg (by decide), i2b_1, Option.bind_some]
  · intro fu v i I L
    rw [fX2_readSum_8, if_pos rfl, ite_self, Option.bind_some, if_pos rfl, i2b_0, Option.bind_some]
  · intro fu v i I L k hi h4 hk ho
    rw [fX2_readSum_8, if_neg (i30 hi), if_neg (by decide), Option.bind_some, if_neg (by decide)]
    have : (if I 49 4 = (43 : Int32) then some true else if I 49 4 = (45 : Int32) then some true else some false) = some true := by
      rcases opS_yes ho with e | e <;> rw [h4, e] <;> rfl
    rw [this, Option.bind_some, if_pos rfl, h4]
theorem sp_both {E : Int32 → HI → HL → Option (Bool × HI × HL)} {kk : Nat} (hf : isFF ff) (hX : XSp B n ff (fX2_readOne ff E RF) 3 4 false kk) : XSp B n ff (fX2_readBoth ff E) 2 2 false kk := by
  refine sp_comp (ops := opB) (loop := fX2_readBoth_8 ff E) hf hX ?_ (by decide) (by decide) (by decide) (by decide) ?_ ?_ ?_ ?_
  · intro k hk
    rw [opB_yes hk]; decide
  · intro k K h hk
    exact ⟨fun _ => h.1 (by omega), fun _ => h.2.1 (by omega), fun _ => h.2.2.1 (by omega), fun _ => opB_no hk, by omega⟩
  · intro fu v i I L k hi h4 hk ho
    rw [fX2_readBoth_8, if_neg (i30 hi), if_neg (by decide), if_neg (show ¬ I 49 4 = (14 : Int32) from lit_no h4 hk (by decide) (opB_no ho)), Option.bind_some, if_pos rfl, i2b_1, Option.bind_some]
  · intro fu v i I L
    rw [fX2_readBoth_8, if_pos rfl, ite_self, Option.bind_some, if_pos rfl, i2b_0, Option.bind_some]
  · intro fu v i I L k hi h4 hk ho
    have e14 := opB_yes ho
    rw [fX2_readBoth_8, if_neg (i30 hi), if_neg (by decide), if_pos (show I 49 4 = (14 : Int32) by rw [h4, e14]; rfl), Option.bind_some, if_neg (by decide), e14]
    rfl
theorem sp_either {E : Int32 → HI → HL → Option (Bool × HI × HL)} {kk : Nat} (hf : isFF ff) (hX : XSp B n ff (fX2_readBoth ff E) 2 2 false kk) : XSp B n ff (fX2_readEither ff E) 1 1 false kk := by
  refine sp_comp (ops := opE) (loop := fX2_readEither_8 ff E) hf hX ?_ (by decide) (by decide) (by decide) (by decide) ?_ ?_ ?_ ?_
  · intro k hk
    rw [opE_yes hk]; decide
  · intro k K h hk
    exact ⟨fun _ => h.1 (by omega), fun _ => h.2.1 (by omega), fun _ => h.2.2.1 (by omega), fun _ => h.2.2.2.1 (by omega), fun _ => opE_no hk⟩
  · intro fu v i I L k hi h4 hk ho
    rw [fX2_readEither_8, if_neg (i30 hi), if_neg (by decide), if_neg (show ¬ I 49 4 = (13 : Int32) from lit_no h4 hk (by decide) (opE_no ho)), Option.bind_some, if_pos rfl, i2b_1, Option.bind_some]
  · intro fu v i I L
    rw [fX2_readEither_8, if_pos rfl, ite_self, Option.bind_some, if_pos rfl, i2b_0, Option.bind_some]
  · intro fu v i I L k hi h4 hk ho
    have e13 := opE_yes ho
    rw [fX2_readEither_8, if_neg (i30 hi), if_neg (by decide), if_pos (show I 49 4 = (13 : Int32) by rw [h4, e13]; rfl), Option.bind_some, if_neg (by decide), e13]
    rfl
theorem mayN_4 {S : List Nat} (h : topOK 4 S) : mayN S = true := by
  cases S with
  | nil => rfl
  | cons x t =>
    unfold mayN
    rcases h with e | e <;> simp [e]
set_option maxHeartbeats 4000000 in
theorem sp_one {E : Int32 → HI → HL → Option (Bool × HI × HL)} {kk : Nat} (hf : isFF ff) (hX : XSp B n ff (fX2_readSum ff E) 5 5 true kk) : ∀ f (p : Nat) (C : List (Nat × Nat)) (S : List Nat) (u e t : Nat) (I : HI) (L : HL) (J : HI) (M : HL) (fu fv : Nat), UR B n ff p C S u e t I L J M → topOK 4 S → 10 ≤ f + wd S → 10 ≤ kk + wd S → n + 5 ≤ fu + p → n + 5 ≤ fv + p → XOut B n ff 3 S (u + 1) e (p + 1) I L J M (fX2_readOne ff E f (nI (wd S)) I L) (rU fu fv J M) := by
  intro f
  induction f with
  | zero =>
    intro p C S u e t I L J M fu fv h hS hf1 hkk hfu hfv
    have := h.2.2.2.2.2.2.2.2.1
    omega
  | succ f ih =>
    intro p C S u e t I L J M fu fv h hS hf1 hkk hfu hfv
    obtain ⟨x1, x2, m1, m2, ok, ev, eu, u30, w7, z9, zc, tw, nb, vs⟩ := id h
    have k256 := x1.2.1.kd x1.1
    have pn := x1.1
    have hl : S.length < 140 := by rw [len_wd]; omega
    have e4 : I 49 4 = nI (kd B n p) := x1.2.2.1.1
    by_cases k15 : kd B n p = 15
    · by_cases hw : wd S ≤ 6
      · obtain ⟨fu', rfl⟩ : ∃ f, fu = f + 1 := ⟨fu - 1, by omega⟩
        obtain ⟨J1, M1, b1, b2, b3, b4⟩ := U_not m1 m2 vs (by omega) k15 (mayN_4 hS) hw fu'
        obtain ⟨I1, L1, c1, c2, c3⟩ := x1.adv (by omega)
        have pq := nx_lt (B := B) pn (by omega)
        have hwd : wd (21 :: S) = wd S + 1 := by rw [wd, if_pos (Or.inr rfl)]; omega
        have ur1 : UR B n ff (nx B n p) C (21 :: S) u e (t + 1) I1 L1 J1 M1 := by
          refine ⟨c2, x2.fa hf c3, b2, b3, ok, ev, eu, u30, by omega, ?_, zc, by omega, ?_, ?_⟩
          · rw [nnb, if_neg (by decide)]; omega
          · rw [nbin, if_pos (Or.inr rfl)]; omega
          · intro x hx
            rcases List.mem_cons.mp hx with g | g
            · exact Or.inr (Or.inl g)
            · exact vs x g
        have out := ih (nx B n p) C (21 :: S) u e (t + 1) I1 L1 J1 M1 fu' fv ur1 (Or.inr (by decide)) (by omega) (by omega) (by omega) (by omega)
        rw [hwd, ← rU_of b1] at out
        rw [fX2_readOne, e4, if_pos (show nI (kd B n p) = (15 : Int32) by rw [k15]; rfl), if_pos (show nI (wd S) < (7 : Int32) from nI_lt (b := 7) (by omega) (by decide)), c1, Option.bind_some, nI_1]
        simp only
        rcases out with ⟨q, R, D, C1, u1, I2, L2, J2, M2, fv2, o1, o2, o3, o4, o5, o6, o7, o8, o9⟩ | ⟨q, I2, L2, J2, M2, o1, o2, o3, o4, ⟨m, o5, o5'⟩, o6, o7, o8⟩
        · left
          obtain ⟨w1, w2, w3, w4, w5, w6, w7', w8, w9, w10, w11, w12, w13, w14⟩ := id o3
          have hC1 : C1.length < 270 := by
            rw [w5]
            rw [nnb_app, nnb_rv R w6, nnb, if_neg (by decide)] at w12
            simp
            omega
          obtain ⟨I3, d1, d2, d3⟩ := x_deed (k := 15) (s := 21) w2 hC1 (by decide) (Or.inl ⟨rfl, rfl⟩)
          have e1 : (R ++ [21]) ++ S = R ++ 21 :: S := by simp
          rw [o1, Option.bind_some]
          simp only
          rw [show (15 : Int32) = nI 15 from rfl, d1, Option.bind_some]
          refine ⟨q, R ++ [21], D, C1 ++ [st1 21], u1, I3, L2, J2, M2, fv2, rfl, o2, ⟨w1.fr (fun a ha => d3 a (by rcases hf with e | e <;> omega) (by rcases hf with e | e <;> omega)), d2, w3, by rw [e1]; exact w4, by rw [w5]; simp, ?_, okL_snoc w7' ?_, ?_, w9, w10, by rw [e1]; exact w11, by rw [e1]; exact w12, by rw [e1]; exact w13, by rw [e1]; exact w14⟩, o4, by omega, by rw [e1]; exact o6, o7, (FXf.of c3).trans (o8.trans ⟨fun a _ h2 h3 => d3 a h2 h3, by rw [d3 49 (by rcases hf with e | e <;> omega) (by rcases hf with e | e <;> omega)], fun _ _ => rfl⟩), b4.trans o9⟩
          · intro x hx
            rcases List.mem_append.mp hx with g | g
            · exact w6 x g
            · rw [List.mem_singleton.mp g]
              exact ⟨by decide, by decide, Or.inr (Or.inl rfl)⟩
          · rw [w8]
            exact Or.inr (Or.inr (Or.inl ⟨rfl, by omega, by omega⟩))
          · rw [evL_snoc, w8]
            rfl
        · right
          obtain ⟨I3, d1, d2, d3⟩ := x_deed_any (k := 0) o5 o5' (nI 15)
          rw [o1, Option.bind_some]
          simp only
          rw [show (15 : Int32) = nI 15 from rfl, d1, Option.bind_some]
          refine ⟨q, I3, L2, J2, M2, rfl, o2, o3, ?_, d2, (FXf.of c3).trans (o6.trans ⟨fun a _ h2 h3 => d3 a h2 h3, by rw [d3 49 (by rcases hf with e | e <;> omega) (by rcases hf with e | e <;> omega)], fun _ _ => rfl⟩), b4.trans o7, o8⟩
          unfold XT at *
          rw [d3 49 (by rcases hf with e | e <;> omega) (by rcases hf with e | e <;> omega)]
          exact o4
      · right
        obtain ⟨fu', rfl⟩ : ∃ f, fu = f + 2 := ⟨fu - 2, by omega⟩
        obtain ⟨fv', rfl⟩ : ∃ f, fv = f + 1 := ⟨fv - 1, by omega⟩
        obtain ⟨J1, b1, b2, b3⟩ := U_not_bad m1 m2 vs (by omega) k15 (mayN_4 hS) hw (by omega) fu'
        refine fl_here x1 x2 (by omega) ?_ (bad_rU b1 b2.m) b2 b3
        rw [fX2_readOne, e4, if_pos (show nI (kd B n p) = (15 : Int32) by rw [k15]; rfl), if_neg (show ¬ nI (wd S) < (7 : Int32) from nI_nlt (b := 7) (by omega) (by omega))]
    · rw [fX2_readOne, e4, if_neg (show ¬ nI (kd B n p) = (15 : Int32) from ne_lit (c := 15) k256 (by decide) k15)]
      rcases hX p C S u e t I L J M fu fv h (hS.mono (by omega)) (fun _ g => absurd g k15) hkk hfu hfv with ⟨q, R, D, C1, u1, I1, L1, J1, M1, fv1, o1, o2, o3, o4, o5, o6, o7, o8, o9⟩ | ⟨q, I1, L1, J1, M1, o1, o2, o3⟩
      · rw [o1, Option.bind_some, o2]
        simp only
        rw [if_neg (show ¬ b2i true = 0 by decide)]
        obtain ⟨y1, y2, y3, y4, y5, y6, y7⟩ := id o3
        have k2 := y1.2.1.kd y1.1
        have e42 : I1 49 4 = nI (kd B n q) := y1.2.2.1.1
        by_cases cr : kd B n q = 60 ∨ kd B n q = 62 ∨ kd B n q = 61
        · have hsg : sgOf (kd B n q) ≠ 0 ∧ tg (sgOf (kd B n q)) = 4 := by
            rcases cr with c | c | c <;> rw [c] <;> decide
          have : (if I1 49 4 = (60 : Int32) then some true else if I1 49 4 = (62 : Int32) then some true else if I1 49 4 = (61 : Int32) then some true else some false) = some true := by
            rcases cr with c | c | c <;> rw [e42, c] <;> rfl
          rw [this, Option.bind_some, if_pos rfl, e42]
          obtain ⟨I2, L2, c1, out⟩ := sp_op (l := 4) hf hX (by decide) o3 hS rfl hsg.1 hsg.2 (by decide) (by decide) (fun _ => rel_no R y6 hS) (by decide) hkk o7
          rw [c1, Option.bind_some]
          simp only
          rcases out with ⟨q2, R1, D1, C2, u2, I3, I4, L3, J3, M3, fv3, r1, r2, r3, r4, r5, r6, r7, r8, r9, r10, r11⟩ | ⟨_, I3, I4, L3, J3, M3, r1, r2, r3, _⟩
          · left
            rw [r1, Option.bind_some]
            simp only
            rw [r2, Option.bind_some]
            obtain ⟨v1, v2, v3, v4, v5, v6, v7⟩ := r4
            have e1 : (R1 ++ [sgOf (kd B n q)]) ++ S = R1 ++ sgOf (kd B n q) :: S := by simp
            refine ⟨q2, R1 ++ [sgOf (kd B n q)], D1, C2, u2, I4, L3, J3, M3, fv3, rfl, r3, ⟨v1, v2, v3, v4, v5, v6.mono (by omega), v7⟩, by omega, by omega, ?_, r9, o8.trans r10, o9.trans r11⟩
            rw [e1]
            exact ⟨fun _ => r8.1 (by omega), fun _ => r8.2.1 (by omega), fun _ _ => rel_yes hsg.2 (kdOf_sg hsg.1).2.2 R1 r7, by omega, by omega⟩
          · right
            rw [r1, Option.bind_some]
            simp only
            rw [r2, Option.bind_some]
            exact FlOut.pre r3 o8 o9
        · have : (if I1 49 4 = (60 : Int32) then some true else if I1 49 4 = (62 : Int32) then some true else if I1 49 4 = (61 : Int32) then some true else some false) = some false := by
            rw [if_neg (show ¬ I1 49 4 = (60 : Int32) from lit_no (c := 60) e42 k2 (by decide) (by omega)), if_neg (show ¬ I1 49 4 = (62 : Int32) from lit_no (c := 62) e42 k2 (by decide) (by omega)), if_neg (show ¬ I1 49 4 = (61 : Int32) from lit_no (c := 61) e42 k2 (by decide) (by omega))]
          rw [this, Option.bind_some, if_neg (by decide)]
          exact Or.inl ⟨q, R, D, C1, u1, I1, L1, J1, M1, fv1, rfl, rfl, ⟨y1, y2, y3, y4, y5, y6.mono (by omega), y7⟩, o4, o5, ⟨fun _ => o6.1 (by omega), fun _ => o6.2.1 (by omega), fun _ g => absurd g cr, by omega, by omega⟩, o7, o8, o9⟩
      · right
        rw [o1, Option.bind_some]
        simp only
        rw [if_pos (show b2i false = 0 by decide)]
        exact ⟨q, I1, L1, J1, M1, rfl, o2, o3⟩
/-- the whole recursion -/
theorem sp_RE (hf : isFF ff) : ∀ k, XSp B n ff (fRE ff k) 1 1 false k := by
  intro k
  induction k with
  | zero =>
    intro p C S u e t I L J M fu fv h hS hN hkk hfu hfv
    have := h.2.2.2.2.2.2.2.2.1
    omega
  | succ k ih =>
    have h1 := sp_unit hf ih
    have h2 := sp_sum hf (sp_term hf h1)
    have h3 : XSp B n ff (fX2_readOne ff (fRE ff k) RF) 3 4 false (k + 1) := by
      intro p C S u e t I L J M fu fv h hS hN hkk hfu hfv
      exact sp_one hf h2 RF p C S u e t I L J M fu fv h hS (by rw [RF_eq]; omega) hkk hfu hfv
    have h4 := sp_either hf (sp_both hf h3)
    intro p C S u e t I L J M fu fv h hS hN hkk hfu hfv
    exact h4 p C S u e t I L J M fu fv h hS hN hkk hfu hfv
end FM8
