/-! the formula: the class's recursion against the reference's stack -/
def stopL (l k : Nat) (K : List Nat) : Prop := (l ≤ 6 → k ≠ 42 ∧ k ≠ 47 ∧ k ≠ 37) ∧ (l ≤ 5 → k ≠ 43 ∧ k ≠ 45) ∧ (l ≤ 3 → (k = 60 ∨ k = 62 ∨ k = 61) → hasRel K = true) ∧ (l ≤ 2 → k ≠ 14) ∧ (l ≤ 1 → k ≠ 13)
def UR (B : Nat → Nat) (n ff p : Nat) (C : List (Nat × Nat)) (S : List Nat) (u e t : Nat) (I : HI) (L : HL) (J : HI) (M : HL) : Prop := XS2 B n p I L ∧ FX2 C u ff I ∧ MS B n p J M ∧ FM2 C S u J ∧ okL C ∧ evL C = e ∧ e ≤ u ∧ u ≤ 30 ∧ wd S ≤ 7 ∧ C.length + nnb S ≤ 9 * u + 1 + t ∧ C.length ≤ 9 * u ∧ t ≤ wd S ∧ nbin S ≤ u ∧ (∀ x, x ∈ S → vS x)
def SR (B : Nat → Nat) (n ff l p : Nat) (S R : List Nat) (D C : List (Nat × Nat)) (u e : Nat) (I : HI) (L : HL) (J : HI) (M : HL) : Prop := XS2 B n p I L ∧ FX2 C u ff I ∧ MS B n p J M ∧ FM2 D (R ++ S) u J ∧ C = D ++ R.map st1 ∧ RV l R ∧ okL C ∧ evL C = e + 1 ∧ e + 1 ≤ u ∧ u ≤ 30 ∧ wd (R ++ S) ≤ 7 ∧ D.length + nnb (R ++ S) ≤ 9 * u ∧ nbin (R ++ S) + 1 ≤ u ∧ (∀ x, x ∈ R ++ S → vS x)
def FlOut (B : Nat → Nat) (n ff : Nat) (I : HI) (L : HL) (J : HI) (M : HL) (rx : Option (Bool × HI × HL)) (ru : Option (HI × HL)) : Prop := ∃ q I' L' J' M', rx = some (false, I', L') ∧ ru = some (J', M') ∧ q ≤ n ∧ XT B n q I' L' ∧ (∃ m, m ≤ 270 ∧ I' ff 2 = nI m) ∧ FXf ff I I' L L' ∧ FMf J J' M M' ∧ (BdM B n q J' ∨ (MS B n q J' M' ∧ ∃ D K u', FM2 D K u' J' ∧ 20 ∈ K ∧ (∀ x, x ∈ K → vS x) ∧ K.length < 140))
def XOut (B : Nat → Nat) (n ff l : Nat) (S : List Nat) (u0 e p0 : Nat) (I : HI) (L : HL) (J : HI) (M : HL) (rx : Option (Bool × HI × HL)) (ru : Option (HI × HL)) : Prop := (∃ q R D C u I' L' J' M' fv, rx = some (true, I', L') ∧ ru = fX12_readShade_30 fv (1 : Int32) J' M' ∧ SR B n ff l q S R D C u e I' L' J' M' ∧ u0 ≤ u ∧ p0 ≤ q ∧ stopL l (kd B n q) (R ++ S) ∧ n + 5 ≤ fv + q ∧ FXf ff I I' L L' ∧ FMf J J' M M') ∨ FlOut B n ff I L J M rx ru
def XSp (B : Nat → Nat) (n ff : Nat) (X : Int32 → HI → HL → Option (Bool × HI × HL)) (l ct : Nat) (nd : Bool) (kk : Nat) : Prop := ∀ (p : Nat) (C : List (Nat × Nat)) (S : List Nat) (u e t : Nat) (I : HI) (L : HL) (J : HI) (M : HL) (fu fv : Nat), UR B n ff p C S u e t I L J M → topOK ct S → (nd = true → kd B n p = 15 → mayN S = false) → 10 ≤ kk + wd S → n + 5 ≤ fu + p → n + 5 ≤ fv + p → XOut B n ff l S (u + 1) e (p + 1) I L J M (X (nI (wd S)) I L) (rU fu fv J M)
section FM6
variable {B : Nat → Nat} {n p ff : Nat} {I I' I2 : HI} {L L' L2 : HL} {J J' J2 : HI} {M M' M2 : HL} {C D : List (Nat × Nat)} {S R K : List Nat} {u e t : Nat}
theorem FlOut.pre {rx : Option (Bool × HI × HL)} {ru : Option (HI × HL)} (h : FlOut B n ff I' L' J' M' rx ru) (fx : FXf ff I I' L L') (fm : FMf J J' M M') : FlOut B n ff I L J M rx ru := by
  obtain ⟨q, I1, L1, J1, M1, h1, h2, h3, h4, h5, h6, h7, h8⟩ := h
  exact ⟨q, I1, L1, J1, M1, h1, h2, h3, h4, h5, fx.trans h6, fm.trans h7, h8⟩
theorem XOut.pre {l u0 p0 u1 p1 : Nat} {rx : Option (Bool × HI × HL)} {ru : Option (HI × HL)} (h : XOut B n ff l S u1 e p1 I' L' J' M' rx ru) (hu : u0 ≤ u1) (hp : p0 ≤ p1) (fx : FXf ff I I' L L') (fm : FMf J J' M M') : XOut B n ff l S u0 e p0 I L J M rx ru := by
  rcases h with ⟨q, R, D, C, u, I1, L1, J1, M1, fv, h1, h2, h3, h4, h5, h6, h7, h8, h9⟩ | h
  · exact Or.inl ⟨q, R, D, C, u, I1, L1, J1, M1, fv, h1, h2, h3, by omega, by omega, h6, h7, fx.trans h8, fm.trans h9⟩
  · exact Or.inr (h.pre fx fm)
theorem nnb_rv {l : Nat} : ∀ R : List Nat, RV l R → nnb R = R.length
  | [], _ => rfl
  | x :: t, h => by
    rw [nnb, if_neg (h x (by simp)).1, nnb_rv t (fun y hy => h y (by simp [hy])), List.length_cons]
    omega
theorem RV.mono {l l2 : Nat} (h : RV l2 R) (hl : l ≤ l2) : RV l R := fun x hx => ⟨(h x hx).1, by have := (h x hx).2.1; omega, (h x hx).2.2⟩
theorem topOK.mono {l l2 : Nat} (h : topOK l S) (hl : l ≤ l2) : topOK l2 S := by
  cases S with
  | nil => trivial
  | cons x t =>
    rcases h with g | g
    · exact Or.inl g
    · exact Or.inr (by omega)
theorem SR.len {l : Nat} (h : SR B n ff l p S R D C u e I L J M) : (R ++ S).length < 140 ∧ D.length + R.length ≤ 270 ∧ C.length ≤ D.length + R.length := by
  obtain ⟨_, _, _, _, h5, h6, _, _, _, h10, h11, h12, h13, _⟩ := h
  refine ⟨by rw [len_wd]; omega, ?_, by rw [h5]; simp⟩
  rw [nnb_app, nnb_rv R h6] at h12
  omega
/-- neither the class nor the reference can read on: they stop at the same place -/
theorem fl_here (h : XS2 B n p I L) (hF : FX2 C u ff I) (hC : C.length ≤ 270) {rx : Option (Bool × HI × HL)} {ru : Option (HI × HL)} (h1 : rx = some (false, I, L)) (h2 : ru = some (J', M)) (h3 : BdM B n p J') (h4 : FMf J J' M M) : FlOut B n ff I L J M rx ru := ⟨p, I, L, J', M, h1, h2, h.1, h.2.2.1, ⟨C.length, hC, hF.1.1⟩, FXf.refl, h4, Or.inl h3⟩
theorem rU_of {fu fu2 fv : Nat} (h : fX12_unit_2 fu (1 : Int32) J M = fX12_unit_2 fu2 (1 : Int32) J' M') : rU fu fv J M = rU fu2 fv J' M' := by
  unfold rU
  rw [h]
set_option maxHeartbeats 4000000 in
theorem sp_unit {E : Int32 → HI → HL → Option (Bool × HI × HL)} {kk : Nat} (hf : isFF ff) (hE : XSp B n ff E 1 1 false kk) : XSp B n ff (fX2_readUnit ff E) 7 7 true (kk + 1) := by
  intro p C S u e t I L J M fu fv h hS hN hkk hfu hfv
  obtain ⟨x1, x2, m1, m2, ok, ev, eu, u30, w7, z9, zc, tw, nb, vs⟩ := id h
  have hC : u < 30 → C.length < 270 := fun hu => by omega
  have hC2 : C.length ≤ 280 := by omega
  have hl : S.length < 140 := by rw [len_wd]; omega
  have k256 := x1.2.1.kd x1.1
  have pn := x1.1
  have e4 : I 49 4 = nI (kd B n p) := x1.2.2.1.1
  have hC270 : C.length ≤ 270 := by omega
  by_cases hU : isU (kd B n p) ∧ u < 30
  · obtain ⟨hU, hu⟩ := hU
    obtain ⟨I', L', a1, a2, a3, a4⟩ := x_unitU (E := E) (v := nI (wd S)) hf x1 x2 hU hu (hC hu)
    obtain ⟨fu', rfl⟩ : ∃ f, fu = f + 2 := ⟨fu - 2, by omega⟩
    obtain ⟨J', M', b1, b2, b3, b4⟩ := U_num m1 m2 vs (by omega) hU hu (by omega) fu' fv
    have pq := nx_lt (B := B) pn (by unfold isU at hU; omega)
    have hst : stOk (evL C) (uSt B n p) := by
      rw [ev]
      unfold uSt stOk
      unfold isU at hU
      by_cases c : kd B n p = 21
      · rw [if_pos c]
        have := vl_lt pn c
        exact Or.inl ⟨rfl, by simp only; omega, by omega⟩
      · rw [if_neg c]
        exact Or.inr (Or.inl ⟨rfl, by simp only; omega, by omega⟩)
    have hev : evL (C ++ [uSt B n p]) = e + 1 := by
      rw [evL_snoc, ev]
      unfold stepD
      rw [if_pos (by unfold uSt; split <;> simp)]
    refine Or.inl ⟨nx B n p, [], C ++ [uSt B n p], C ++ [uSt B n p], u + 1, I', L', J', M', fv, a1, b1, ⟨a2, a3, b2, b3, by simp, fun x hx => (by cases hx), okL_snoc ok hst, hev, by omega, by omega, w7, ?_, by simpa using nb, vs⟩, by omega, by omega, ⟨by omega, by omega, by omega, by omega, by omega⟩, by omega, a4, b4⟩
    rw [List.nil_append, List.length_append]
    simp only [List.length_cons, List.length_nil]
    omega
  · by_cases k40 : kd B n p = 40
    · by_cases hb : u < 30 ∧ wd S ≤ 6
      · obtain ⟨hu, hw6⟩ := hb
        obtain ⟨fu', rfl⟩ : ∃ f, fu = f + 1 := ⟨fu - 1, by omega⟩
        obtain ⟨J1, M1, b1, b2, b3, b4⟩ := U_br m1 m2 vs (by omega) k40 hu hw6 fu'
        have x1' : XS2 B n p (up2 I ff 3 (nI (u + 1))) L := x1.fr (fun a ha => upRow _ _ (by rcases hf with e | e <;> omega))
        have x2' : FX2 C (u + 1) ff (up2 I ff 3 (nI (u + 1))) := by
          refine ⟨⟨by rw [up2_at, if_neg (by omega)]; exact x2.1.1, fun k hk => by rw [upRow _ _ (by omega)]; exact x2.1.2 k hk⟩, up2_eq _ _ _ _, by rw [up2_at, if_neg (by omega)]; exact x2.2.2⟩
        obtain ⟨I1, L1, c1, c2, c3⟩ := x1'.adv (by omega)
        have pq := nx_lt (B := B) pn (by omega)
        have fx1 : FXf ff I I1 L L1 := FXf.trans (I' := up2 I ff 3 (nI (u + 1))) (L' := L) ⟨fun a _ h2 _ => upRow _ _ h2, by rw [upRow _ _ (by rcases hf with e | e <;> omega)], fun _ _ => rfl⟩ (FXf.of c3)
        have ur1 : UR B n ff (nx B n p) C (20 :: S) (u + 1) e 0 I1 L1 J1 M1 := by
          refine ⟨c2, x2'.fa hf c3, b2, b3, ok, ev, by omega, by omega, ?_, ?_, by omega, by omega, ?_, ?_⟩
          · rw [wd, if_pos (Or.inl rfl)]; omega
          · rw [nnb, if_pos rfl]; omega
          · rw [nbin, if_pos (Or.inl rfl)]; omega
          · intro x hx
            rcases List.mem_cons.mp hx with g | g
            · exact Or.inl g
            · exact vs x g
        have hwd : wd (20 :: S) = wd S + 1 := by rw [wd, if_pos (Or.inl rfl)]; omega
        have out := hE (nx B n p) C (20 :: S) (u + 1) e 0 I1 L1 J1 M1 fu' fv ur1 (Or.inl rfl) (by intro g; cases g) (by omega) (by omega) (by omega)
        rw [hwd, ← rU_of b1] at out
        have ex : fX2_readUnit ff E (nI (wd S)) I L = Option.bind (E (nI (wd S + 1)) I1 L1) fun q16 => Option.bind (if (b2i q16.1) = 0 then some true else if (q16.2.1 49 4) = (41 : Int32) then some false else some true) fun b17 => if b17 = true then some (false, q16.2.1, q16.2.2) else Option.bind (fX9_advance q16.2.1 q16.2.2) fun q18 => some (true, q18.1, q18.2) := by
          unfold fX2_readUnit
          rw [x2.2.1, if_pos (show nI u < (30 : Int32) from nI_lt (b := 30) hu (by decide)), e4, if_neg (show ¬ nI (kd B n p) = (16 : Int32) from ne_lit (c := 16) k256 (by decide) (by omega)), if_neg (show ¬ nI (kd B n p) = (17 : Int32) from ne_lit (c := 17) k256 (by decide) (by omega)), if_neg (show ¬ nI (kd B n p) = (18 : Int32) from ne_lit (c := 18) k256 (by decide) (by omega)), if_neg (show ¬ nI (kd B n p) = (21 : Int32) from ne_lit (c := 21) k256 (by decide) (by omega)), if_pos (show nI (kd B n p) = (40 : Int32) by rw [k40]; rfl), if_pos (show nI (wd S) < (7 : Int32) from nI_lt (b := 7) (by omega) (by decide)), nI_1, nI_1]
          simp only [c1, Option.bind_some]
        rw [ex]
        rcases out with ⟨q, R, D, C', u', I2, L2, J2, M2, fv2, o1, o2, o3, o4, o5, o6, o7, o8, o9⟩ | ⟨q, I2, L2, J2, M2, o1, o2, o3⟩
        · rw [o1, Option.bind_some]
          simp only
          obtain ⟨y1, y2, y3, y4, y5, y6, y7, y8, y9, y10, y11, y12, y13, y14⟩ := id o3
          obtain ⟨ln1, ln2, ln3⟩ := o3.len
          have k2 := y1.2.1.kd y1.1
          have e42 : I2 49 4 = nI (kd B n q) := y1.2.2.1.1
          rw [if_neg (show ¬ b2i true = 0 by decide)]
          simp only [e42]
          by_cases k41 : kd B n q = 41
          · rw [if_pos (show nI (kd B n q) = (41 : Int32) by rw [k41]; rfl), Option.bind_some, if_neg (by decide)]
            obtain ⟨I3, L3, d1, d2, d3⟩ := y1.adv (by omega)
            obtain ⟨fv3, rfl⟩ : ∃ f, fv2 = f + 1 := ⟨fv2 - 1, by have := y1.1; omega⟩
            obtain ⟨J3, M3, f1, f2, f3, f4⟩ := S_close y3 y4 y14 ln1 (fun x hx => (y6 x hx).1) k41 (by omega) fv3
            have qq := nx_lt (B := B) y1.1 (by omega)
            rw [← y5] at f3
            rw [nnb_app, nnb_rv R y6, nnb, if_pos rfl] at y12
            rw [nbin_app, nbin, if_pos (Or.inl rfl)] at y13
            refine Or.inl ⟨nx B n q, [], C', C', u', I3, L3, J3, M3, fv3, by rw [d1, Option.bind_some], by rw [o2, f1], ⟨d2, y2.fa hf d3, f2, f3, by simp, fun x hx => (by cases hx), y7, y8, y9, y10, w7, ?_, ?_, vs⟩, by omega, by omega, ⟨by omega, by omega, by omega, by omega, by omega⟩, by omega, fx1.trans (o8.trans (FXf.of d3)), b4.trans (o9.trans f4)⟩
            · rw [List.nil_append]; omega
            · rw [List.nil_append]; omega
          · right
            rw [if_neg (show ¬ nI (kd B n q) = (41 : Int32) from ne_lit (c := 41) k2 (by decide) k41), Option.bind_some, if_pos rfl]
            obtain ⟨fv3, rfl⟩ : ∃ f, fv2 = f + 2 := ⟨fv2 - 2, by have := y1.1; omega⟩
            have hs : sgOf (kd B n q) = 0 ∨ (tg (sgOf (kd B n q)) = 4 ∧ hasRel (R ++ 20 :: S) = true) := by
              obtain ⟨z1, z2, z3, z4, z5⟩ := o6
              have z1 := z1 (by omega)
              have z2 := z2 (by omega)
              have z3 := z3 (by omega)
              have z4 := z4 (by omega)
              have z5 := z5 (by omega)
              unfold sgOf
              rw [if_neg z4, if_neg z5]
              by_cases c : kd B n q = 60 ∨ kd B n q = 62 ∨ kd B n q = 61
              · right
                rw [if_pos (by omega)]
                refine ⟨?_, z3 c⟩
                rcases c with c | c | c <;> rw [c] <;> rfl
              · left
                rw [if_neg (by omega)]
            exact ⟨q, I2, L2, J2, M2, rfl, by rw [o2]; exact S_stop y3 y4 y14 ln1 (fun g => absurd g k41) hs fv3, y1.1, y1.2.2.1, ⟨C'.length, by omega, y2.1.1⟩, fx1.trans o8, b4.trans o9, Or.inr ⟨y3, D, R ++ 20 :: S, u', y4, by simp, y14, ln1⟩⟩
        · right
          rw [o1, Option.bind_some]
          simp only
          rw [if_pos (show b2i false = 0 by decide), Option.bind_some, if_pos rfl]
          exact FlOut.pre ⟨q, I2, L2, J2, M2, rfl, o2, o3⟩ fx1 b4
      · right
        obtain ⟨fu', rfl⟩ : ∃ f, fu = f + 2 := ⟨fu - 2, by omega⟩
        obtain ⟨fv', rfl⟩ : ∃ f, fv = f + 1 := ⟨fv - 1, by omega⟩
        obtain ⟨J1, b1, b2, b3⟩ := U_br_bad m1 m2 vs (by omega) k40 u30 hb (by omega) fu'
        refine fl_here x1 x2 hC270 ?_ (bad_rU b1 b2.m) b2 b3
        unfold fX2_readUnit
        by_cases hu : u < 30
        · rw [x2.2.1, if_pos (show nI u < (30 : Int32) from nI_lt (b := 30) hu (by decide)), e4, if_neg (show ¬ nI (kd B n p) = (16 : Int32) from ne_lit (c := 16) k256 (by decide) (by omega)), if_neg (show ¬ nI (kd B n p) = (17 : Int32) from ne_lit (c := 17) k256 (by decide) (by omega)), if_neg (show ¬ nI (kd B n p) = (18 : Int32) from ne_lit (c := 18) k256 (by decide) (by omega)), if_neg (show ¬ nI (kd B n p) = (21 : Int32) from ne_lit (c := 21) k256 (by decide) (by omega)), if_pos (show nI (kd B n p) = (40 : Int32) by rw [k40]; rfl), if_neg (show ¬ nI (wd S) < (7 : Int32) from nI_nlt (b := 7) (by omega) (by omega))]
        · rw [x2.2.1, if_neg (show ¬ nI u < (30 : Int32) from nI_nlt (b := 30) (by omega) (by omega))]
    · right
      obtain ⟨fu', rfl⟩ : ∃ f, fu = f + 2 := ⟨fu - 2, by omega⟩
      obtain ⟨fv', rfl⟩ : ∃ f, fv = f + 1 := ⟨fv - 1, by omega⟩
      obtain ⟨J1, b1, b2, b3⟩ := U_bad m1 m2 vs (by omega) (hN rfl) k40 u30 hU fu' fv'
      refine fl_here x1 x2 hC270 ?_ b1 b2 b3
      unfold fX2_readUnit
      by_cases hu : u < 30
      · have hU' : ¬ isU (kd B n p) := fun g => hU ⟨g, hu⟩
        unfold isU at hU'
        rw [x2.2.1, if_pos (show nI u < (30 : Int32) from nI_lt (b := 30) hu (by decide)), e4, if_neg (show ¬ nI (kd B n p) = (16 : Int32) from ne_lit (c := 16) k256 (by decide) (by omega)), if_neg (show ¬ nI (kd B n p) = (17 : Int32) from ne_lit (c := 17) k256 (by decide) (by omega)), if_neg (show ¬ nI (kd B n p) = (18 : Int32) from ne_lit (c := 18) k256 (by decide) (by omega)), if_neg (show ¬ nI (kd B n p) = (21 : Int32) from ne_lit (c := 21) k256 (by decide) (by omega)), if_neg (show ¬ nI (kd B n p) = (40 : Int32) from ne_lit (c := 40) k256 (by decide) k40)]
      · rw [x2.2.1, if_neg (show ¬ nI u < (30 : Int32) from nI_nlt (b := 30) (by omega) (by omega))]
end FM6
