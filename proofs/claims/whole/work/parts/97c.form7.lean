/-! the formula: the class's loops -/
section FM7
variable {B : Nat → Nat} {n p ff : Nat} {I I' I2 : HI} {L L' L2 : HL} {J J' J2 : HI} {M M' M2 : HL} {C D : List (Nat × Nat)} {S R K : List Nat} {u e t : Nat}
set_option maxHeartbeats 4000000 in
/-- one sign more, on both sides: what is behind it is read -/
theorem sp_op {X : Int32 → HI → HL → Option (Bool × HI × HL)} {l l1 l2 ct2 kk s fv : Nat} {nd2 : Bool} (hf : isFF ff) (hX : XSp B n ff X l2 ct2 nd2 kk) (hl1 : l ≤ l1) (h : SR B n ff l1 p S R D C u e I L J M) (hS : topOK l S) (hs : sgOf (kd B n p) = s) (hs0 : s ≠ 0) (hsl : tg s = l) (hlc : l < ct2) (hll : l ≤ l2) (hrel : tg s = 4 → hasRel (R ++ S) = false) (hnd : nd2 = true → 4 ≤ l) (hkk : 10 ≤ kk + wd S) (hfv : n + 5 ≤ fv + p) : ∃ I1 L1, fX9_advance I L = some (I1, L1) ∧ ((∃ q R1 D1 C1 u1 I2 I3 L3 J3 M3 fv3, X (nI (wd S)) I1 L1 = some (true, I2, L3) ∧ fX1_addDeed ff (nI (kd B n p)) I2 = some I3 ∧ fX12_readShade_30 fv (1 : Int32) J M = fX12_readShade_30 fv3 (1 : Int32) J3 M3 ∧ SR B n ff l q S (R1 ++ [s]) D1 C1 u1 e I3 L3 J3 M3 ∧ u + 1 ≤ u1 ∧ p + 1 ≤ q ∧ RV l2 R1 ∧ stopL l2 (kd B n q) (R1 ++ s :: S) ∧ n + 5 ≤ fv3 + q ∧ FXf ff I I3 L L3 ∧ FMf J J3 M M3) ∨ (∃ q I2 I3 L3 J3 M3, X (nI (wd S)) I1 L1 = some (false, I2, L3) ∧ fX1_addDeed ff (nI (kd B n p)) I2 = some I3 ∧ FlOut B n ff I L J M (some (false, I3, L3)) (fX12_readShade_30 fv (1 : Int32) J M) ∧ q = kd B n p ∧ J3 = J ∧ M3 = M)) := by
  obtain ⟨y1, y2, y3, y4, y5, y6, y7, y8, y9, y10, y11, y12, y13, y14⟩ := id h
  obtain ⟨ln1, ln2, ln3⟩ := h.len
  obtain ⟨so, k41, k23, k22⟩ := sg_ok (k := kd B n p) (by rw [hs]; exact hs0)
  obtain ⟨ko1, ko2, ko3⟩ := kdOf_sg (k := kd B n p) (by rw [hs]; exact hs0)
  rw [hs] at so ko1 ko2 ko3
  have k256 := y1.2.1.kd y1.1
  have pq := nx_lt (B := B) y1.1 k22
  have pn := (nx_le (B := B) y1.1).2
  obtain ⟨fv', rfl⟩ : ∃ f, fv = f + 1 := ⟨fv - 1, by omega⟩
  obtain ⟨J1, M1, b1, b2, b3, b4⟩ := S_op y3 y4 y14 ln1 (y6.mono hl1) hS hs hs0 hsl hrel (by omega) fv'
  rw [← y5] at b3
  obtain ⟨I1, L1, c1, c2, c3⟩ := y1.adv k23
  have hws : wd (s :: S) = wd S := by rw [wd, if_neg (by omega), Nat.zero_add]
  rw [wd_app] at y11
  rw [nnb_app, nnb_rv R y6] at y12
  rw [nbin_app] at y13
  have ur1 : UR B n ff (nx B n p) C (s :: S) u (e + 1) 0 I1 L1 J1 M1 := by
    refine ⟨c2, y2.fa hf c3, b2, b3, y7, y8, y9, y10, by rw [hws]; omega, ?_, by omega, by omega, ?_, ?_⟩
    · rw [nnb, if_neg ko3]; omega
    · rw [nbin, if_neg (by omega)]; omega
    · intro x hx
      rcases List.mem_cons.mp hx with g | g
      · rw [g]; exact Or.inr (Or.inr so)
      · exact y14 x (List.mem_append_right _ g)
  have hFU := FUEL_ge
  have n16 := y1.2.1.1.1
  have out := hX (nx B n p) C (s :: S) u (e + 1) 0 I1 L1 J1 M1 FUEL fv' ur1 (Or.inr (by omega)) (fun g _ => by
    have := hnd g
    unfold mayN
    simp [ko3]
    omega) (by rw [hws]; exact hkk) (by omega) (by omega)
  rw [hws, ← b1] at out
  refine ⟨I1, L1, c1, ?_⟩
  rcases out with ⟨q, R1, D1, C1, u1, I2, L2, J2, M2, fv2, o1, o2, o3, o4, o5, o6, o7, o8, o9⟩ | ⟨q, I2, L2, J2, M2, o1, o2, o3, o4, ⟨m, o5, o5'⟩, o6, o7, o8⟩
  · left
    obtain ⟨w1, w2, w3, w4, w5, w6, w7, w8, w9, w10, w11, w12, w13, w14⟩ := id o3
    have hC1 : C1.length < 270 := by
      rw [w5]
      rw [nnb_app, nnb_rv R1 w6, nnb, if_neg ko3] at w12
      simp
      omega
    obtain ⟨I3, d1, d2, d3⟩ := x_deed (k := kd B n p) (s := s) w2 hC1 k256 (Or.inr ⟨ko2, ko1⟩)
    have e1 : (R1 ++ [s]) ++ S = R1 ++ s :: S := by simp
    have est : st1 s = (3, s) := by unfold st1; rw [if_neg ko2]
    refine ⟨q, R1, D1, C1 ++ [st1 s], u1, I2, I3, L2, J2, M2, fv2, o1, d1, o2, ⟨w1.fr (fun a ha => d3 a (by rcases hf with e | e <;> omega) (by rcases hf with e | e <;> omega)), d2, w3, by rw [e1]; exact w4, by rw [w5]; simp, ?_, okL_snoc w7 ?_, ?_, by omega, w10, by rw [e1]; exact w11, by rw [e1]; exact w12, by rw [e1]; exact w13, by rw [e1]; exact w14⟩, o4, by omega, w6, o6, o7, (FXf.of c3).trans (o8.trans ⟨fun a _ h2 h3 => d3 a h2 h3, by rw [d3 49 (by rcases hf with e | e <;> omega) (by rcases hf with e | e <;> omega)], fun _ _ => rfl⟩), b4.trans o9⟩
    · intro x hx
      rcases List.mem_append.mp hx with g | g
      · exact w6.mono hll x g
      · rw [List.mem_singleton.mp g]
        exact ⟨ko3, by omega, Or.inr (Or.inr so)⟩
    · rw [w8, est]
      exact Or.inr (Or.inr (Or.inr ⟨rfl, so, by omega, by omega⟩))
    · rw [evL_snoc, w8, est]
      unfold stepD
      simp
  · right
    obtain ⟨I3, d1, d2, d3⟩ := x_deed_any (k := 0) o5 o5' (nI (kd B n p))
    refine ⟨kd B n p, I2, I3, L2, J, M, o1, d1, ⟨q, I3, L2, J2, M2, rfl, o2, o3, ?_, d2, (FXf.of c3).trans (o6.trans ⟨fun a _ h2 h3 => d3 a h2 h3, by rw [d3 49 (by rcases hf with e | e <;> omega) (by rcases hf with e | e <;> omega)], fun _ _ => rfl⟩), b4.trans o7, o8⟩, rfl, rfl, rfl⟩
    unfold XT at *
    rw [d3 49 (by rcases hf with e | e <;> omega) (by rcases hf with e | e <;> omega)]
    exact o4
set_option maxHeartbeats 4000000 in
theorem sp_loop {X : Int32 → HI → HL → Option (Bool × HI × HL)} {loop : Nat → Int32 → Int32 → Int32 → HI → HL → Option (Bool × HI × HL)} {ops : Nat → Bool} {l l2 ct2 kk : Nat} {nd2 : Bool} (hf : isFF ff) (hX : XSp B n ff X l2 ct2 nd2 kk) (hops : ∀ k, ops k = true → sgOf k ≠ 0 ∧ tg (sgOf k) = l) (hl4 : l ≠ 4) (hlc : l < ct2) (hll : l ≤ l2) (hnd : nd2 = true → 4 ≤ l) (hstop : ∀ k K, stopL l2 k K → ops k = false → stopL l k K)
    (eqS : ∀ (fu : Nat) (v : Int32) (i : Nat) (I : HI) (L : HL) (k : Nat), i < 30 → I 49 4 = nI k → k < 256 → ops k = false → loop (fu + 1) v 1 (nI i) I L = some (true, I, L))
    (eqB : ∀ (fu : Nat) (v : Int32) (i : Nat) (I : HI) (L : HL), loop (fu + 1) v 0 (nI i) I L = some (false, I, L))
    (eqO : ∀ (fu : Nat) (v : Int32) (i : Nat) (I : HI) (L : HL) (k : Nat), i < 30 → I 49 4 = nI k → k < 256 → ops k = true → loop (fu + 1) v 1 (nI i) I L = Option.bind (fX9_advance I L) fun q5 => Option.bind (X v q5.1 q5.2) fun q6 => Option.bind (fX1_addDeed ff (nI k) q6.2.1) fun q7 => loop fu v (b2i q6.1) (nI i + 1) q7 q6.2.2) : ∀ (m i p u e fu fv : Nat) (R : List Nat) (D C : List (Nat × Nat)) (I : HI) (L : HL) (J : HI) (M : HL), SR B n ff l p S R D C u e I L J M → stopL l2 (kd B n p) (R ++ S) → topOK l S → n ≤ p + m → i + 1 ≤ u → m + 2 ≤ fu → n + 5 ≤ fv + p → 10 ≤ kk + wd S → XOut B n ff l S u e p I L J M (loop fu (nI (wd S)) 1 (nI i) I L) (fX12_readShade_30 fv (1 : Int32) J M) := by
  intro m
  induction m with
  | zero =>
    intro i p u e fu fv R D C I L J M h hst hS hm hi hfu hfv hkk
    obtain ⟨fu', rfl⟩ : ∃ f, fu = f + 1 := ⟨fu - 1, by omega⟩
    obtain ⟨y1, _⟩ := id h
    have u30 := h.2.2.2.2.2.2.2.2.2.1
    cases ho : ops (kd B n p) with
    | true =>
      have k22 := (sg_ok (hops _ ho).1).2.2.2
      have := nx_lt (B := B) y1.1 k22
      have := (nx_le (B := B) y1.1).2
      omega
    | false => exact Or.inl ⟨p, R, D, C, u, I, L, J, M, fv, eqS fu' _ i I L _ (by omega) y1.2.2.1.1 (y1.2.1.kd y1.1) ho, rfl, h, Nat.le_refl _, Nat.le_refl _, hstop _ _ hst ho, hfv, FXf.refl, FMf.refl⟩
  | succ m ih =>
    intro i p u e fu fv R D C I L J M h hst hS hm hi hfu hfv hkk
    obtain ⟨fu', rfl⟩ : ∃ f, fu = f + 1 := ⟨fu - 1, by omega⟩
    obtain ⟨y1, _⟩ := id h
    have u30 := h.2.2.2.2.2.2.2.2.2.1
    cases ho : ops (kd B n p) with
    | false => exact Or.inl ⟨p, R, D, C, u, I, L, J, M, fv, eqS fu' _ i I L _ (by omega) y1.2.2.1.1 (y1.2.1.kd y1.1) ho, rfl, h, Nat.le_refl _, Nat.le_refl _, hstop _ _ hst ho, hfv, FXf.refl, FMf.refl⟩
    | true =>
      obtain ⟨hs0, hsl⟩ := hops _ ho
      rw [eqO fu' _ i I L _ (by omega) y1.2.2.1.1 (y1.2.1.kd y1.1) ho]
      obtain ⟨I1, L1, c1, out⟩ := sp_op hf hX (Nat.le_refl _) h hS rfl hs0 hsl hlc hll (fun g => absurd (hsl.symm.trans g) hl4) hnd hkk hfv
      rw [c1, Option.bind_some]
      simp only
      rcases out with ⟨q, R1, D1, C1, u1, I2, I3, L3, J3, M3, fv3, o1, o2, o3, o4, o5, o6, _, o7, o8, o9, o10⟩ | ⟨q, I2, I3, L3, J3, M3, o1, o2, o3, _⟩
      · rw [o1, Option.bind_some]
        simp only
        rw [o2, Option.bind_some, nI_1, show b2i true = 1 from rfl, o3]
        have e1 : (R1 ++ [sgOf (kd B n p)]) ++ S = R1 ++ sgOf (kd B n p) :: S := by simp
        have := ih (i + 1) q u1 e fu' fv3 (R1 ++ [sgOf (kd B n p)]) D1 C1 I3 L3 J3 M3 o4 (by rw [e1]; exact o7) hS (by omega) (by omega) (by omega) o8 hkk
        exact this.pre (by omega) (by omega) o9 o10
      · right
        obtain ⟨fu2, rfl⟩ : ∃ f, fu' = f + 1 := ⟨fu' - 1, by omega⟩
        rw [o1, Option.bind_some]
        simp only
        rw [o2, Option.bind_some, nI_1, show b2i false = 0 from rfl, eqB]
        exact o3
/-- a first part and the loop behind it -/
theorem sp_comp {X : Int32 → HI → HL → Option (Bool × HI × HL)} {loop : Nat → Int32 → Int32 → Int32 → HI → HL → Option (Bool × HI × HL)} {ops : Nat → Bool} {l l2 ct2 kk : Nat} {nd2 : Bool} (hf : isFF ff) (hX : XSp B n ff X l2 ct2 nd2 kk) (hops : ∀ k, ops k = true → sgOf k ≠ 0 ∧ tg (sgOf k) = l) (hl4 : l ≠ 4) (hlc : l < ct2) (hll : l ≤ l2) (hnd : nd2 = true → 4 ≤ l) (hstop : ∀ k K, stopL l2 k K → ops k = false → stopL l k K)
    (eqS : ∀ (fu : Nat) (v : Int32) (i : Nat) (I : HI) (L : HL) (k : Nat), i < 30 → I 49 4 = nI k → k < 256 → ops k = false → loop (fu + 1) v 1 (nI i) I L = some (true, I, L))
    (eqB : ∀ (fu : Nat) (v : Int32) (i : Nat) (I : HI) (L : HL), loop (fu + 1) v 0 (nI i) I L = some (false, I, L))
    (eqO : ∀ (fu : Nat) (v : Int32) (i : Nat) (I : HI) (L : HL) (k : Nat), i < 30 → I 49 4 = nI k → k < 256 → ops k = true → loop (fu + 1) v 1 (nI i) I L = Option.bind (fX9_advance I L) fun q5 => Option.bind (X v q5.1 q5.2) fun q6 => Option.bind (fX1_addDeed ff (nI k) q6.2.1) fun q7 => loop fu v (b2i q6.1) (nI i + 1) q7 q6.2.2) : XSp B n ff (fun v I L => Option.bind (X v I L) fun q1 => Option.bind (loop FUEL v (b2i q1.1) (0 : Int32) q1.2.1 q1.2.2) fun q9 => some (q9.1, q9.2.1, q9.2.2)) l l nd2 kk := by
  intro p C S u e t I L J M fu fv h hS hN hkk hfu hfv
  have n16 := h.1.2.1.1.1
  have hFU := FUEL_ge
  have idb : ∀ x : Option (Bool × HI × HL), (Option.bind x fun q9 => some (q9.1, q9.2.1, q9.2.2)) = x := fun x => by cases x <;> rfl
  simp only [idb]
  rcases hX p C S u e t I L J M fu fv h (hS.mono (by omega)) hN hkk hfu hfv with ⟨q, R, D, C1, u1, I1, L1, J1, M1, fv1, o1, o2, o3, o4, o5, o6, o7, o8, o9⟩ | ⟨q, I1, L1, J1, M1, o1, o2, o3⟩
  · rw [o1, Option.bind_some, o2]
    simp only
    have o3' : SR B n ff l q S R D C1 u1 e I1 L1 J1 M1 := by
      obtain ⟨y1, y2, y3, y4, y5, y6, y7⟩ := o3
      exact ⟨y1, y2, y3, y4, y5, y6.mono hll, y7⟩
    have := sp_loop hf hX hops hl4 hlc hll hnd hstop eqS eqB eqO n 0 q u1 e FUEL fv1 R D C1 I1 L1 J1 M1 o3' o6 hS (by omega) (by omega) (by omega) o7 hkk
    exact this.pre (by omega) (by omega) o8 o9
  · right
    obtain ⟨f, hfe⟩ := fuel_at 1 (by decide)
    rw [o1, Option.bind_some]
    simp only
    rw [show b2i false = 0 from rfl, show (0 : Int32) = nI 0 from rfl, show loop FUEL (nI (wd S)) (nI 0) (nI 0) I1 L1 = some (false, I1, L1) by rw [hfe]; exact eqB f _ 0 I1 L1]
    exact ⟨q, I1, L1, J1, M1, rfl, o2, o3⟩
end FM7
