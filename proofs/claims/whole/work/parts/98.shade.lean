/-! the shade's line -/
def TF (T : Nat → Nat → Nat) (C : List (Nat × Nat)) (u : Nat) : Nat → Nat → Nat := fun i k => if i = 10 then (C.getD k (0, 0)).1 else if i = 11 then (C.getD k (0, 0)).2 else if i = 0 then (if k = 7 then C.length else if k = 6 then u else T 0 k) else T i k
theorem TF_ev {T : Nat → Nat → Nat} {C : List (Nat × Nat)} {u : Nat} : ∀ k, k ≤ C.length → evD (TF T C u) k = evL (C.take k) := by
  intro k
  induction k with
  | zero => intro _; rfl
  | succ k ih =>
    intro hk
    have e : C.take (k + 1) = C.take k ++ [C.getD k (0, 0)] := by
      rw [List.take_succ, List.getD_eq_getElem?_getD]
      have : C[k]? = some C[k] := List.getElem?_eq_getElem (by omega)
      rw [this]; rfl
    rw [e, evL_snoc, ← ih (by omega), evD]
    rfl
theorem TF_dat {T : Nat → Nat → Nat} {C : List (Nat × Nat)} {u : Nat} : datd (TF T C u) = dat C := by
  have h : datd (TF T C u) = (List.range C.length).any fun k => (C.getD k (0, 0)).1 == 1 && (C.getD k (0, 0)).2 == 2 := rfl
  rw [h]
  unfold dat
  rw [Bool.eq_iff_iff, List.any_eq_true, List.any_eq_true]
  constructor
  · rintro ⟨k, k1, k2⟩
    have k3 := List.mem_range.mp k1
    rw [List.getD_eq_getElem?_getD, List.getElem?_eq_getElem k3] at k2
    exact ⟨C[k], List.getElem_mem k3, by simpa using k2⟩
  · rintro ⟨x, x1, x2⟩
    obtain ⟨k, k1, k2⟩ := List.mem_iff_getElem.mp x1
    refine ⟨k, List.mem_range.mpr k1, ?_⟩
    rw [List.getD_eq_getElem?_getD, List.getElem?_eq_getElem k1, Option.getD_some, k2]
    simpa using x2
theorem TF_ok {T : Nat → Nat → Nat} {C : List (Nat × Nat)} {u : Nat} (h : TOk T) (hu : u ≤ 60) (hC : C.length ≤ 270) (hk : okL C) (h1 : 1 ≤ evL C) : TOk (TF T C u) := by
  obtain ⟨a1, a2, a3, a4, a5, a6, a7, a8, a9, a10, a11⟩ := h
  refine ⟨a1, a2, a3, a4, a5, hu, a7, a8, a9, ⟨hC, ?_, ?_⟩, a11⟩
  · intro k hk'
    have k2 : k < C.length := hk'
    have := hk k k2
    rw [← TF_ev (T := T) (u := u) k (by omega)] at this
    exact this
  · right
    have e : tNS (TF T C u) = C.length := rfl
    rw [e, TF_ev C.length (Nat.le_refl _), List.take_length]
    exact h1
section SHD
variable {B : Nat → Nat} {n p tl : Nat} {T : Nat → Nat → Nat} {N : Nat → Nat → List Nat} {cl : Bool} {I : HI} {L : HL} {J : HI} {M : HL}
theorem FXf.r {ff : Nat} {I' : HI} {L' : HL} (h : FXf ff I I' L L') (h1 : tl ≤ ff) (h2 : ff + 1 ≤ tl + 22) : FXr tl I I' L L' := ⟨fun a x1 x2 x3 => h.1 a x2 (by omega) (by omega), h.2.1, fun a x1 _ => h.2.2 a x1⟩
set_option maxHeartbeats 4000000 in
theorem ln_shade {I1 : HI} {L1 : HL} {zf : Nat} (h : Rel B n tl T N false cl p I L J M) (hk : kd B n p = 11) (ha : fX9_advance I L = some (I1, L1)) : ∃ rx, fX6_readShade tl zf I1 L1 = Option.bind rx (fun q => some (q.1, tl + 19, q.2.1, q.2.2)) ∧ LnOut B n tl true cl p I L J M rx (fX12_readShade (up2 J 73 61 (b2i true)) M) := by
  obtain ⟨r0, ht, hT, hN, hX, hM, f6, f7, m61, m62, hsh⟩ := h
  have hff : isFF (tl + 19) := by
    rcases ht with e | e
    · subst e; exact Or.inl rfl
    · subst e; exact Or.inr rfl
  obtain ⟨t7, t6⟩ := hsh.1 rfl
  have r0' : RT2 B n p I L (up2 J 73 61 (b2i true)) M := r0.fldJ (by decide)
  obtain ⟨I1', L1', J1, M1, b1, b2, r1, g1, g2⟩ := r0'.step (by omega)
  rw [ha] at b1
  cases b1
  have pq := nx_lt (B := B) r0.1 (by omega)
  have n16 := r0.le
  have hFU := FUEL_ge
  have hX1 := hX.fa ht (XA2.of g1)
  obtain ⟨v1, v2, v3, v4, v5, v6, v7, v8, v9⟩ := id r1
  -- the start, on both sides
  have x1 : XS2 B n (nx B n p) (up2 I1 48 6 (b2i true)) L1 := by
    obtain ⟨c1, c2, c3, c4, c5, _⟩ := r1.fldI (j := 6) (v := b2i true) (by decide) (by decide)
    exact ⟨c1, c2, c3, c4, c5⟩
  have hX1' : DX T N tl (up2 I1 48 6 (b2i true)) L1 := hX1.fr (fun a h1 h2 => upRow _ _ (by rcases ht with e | e <;> omega)) (fun _ _ _ => rfl)
  have x2 : FX2 [] 0 (tl + 19) (up2 I1 48 6 (b2i true)) := by
    obtain ⟨a1, a2, a3, a4, a5, a6, a7, a8, a9, a10, a11, a12⟩ := hX1'
    refine ⟨⟨?_, fun k hk => ?_⟩, ?_, ?_⟩
    · rw [a10.1, t7]; rfl
    · simp at hk
    · rw [a11, t6]
    · rw [a12]
      have : datd T = false := by unfold datd; rw [t7]; rfl
      rw [this]; rfl
  obtain ⟨J2, hJ2⟩ : ∃ y : HI, y = up2 (up2 (up2 (up2 J1 73 17 (0 : Int32)) 73 19 (0 : Int32)) 73 23 (0 : Int32)) 73 22 (0 : Int32) := ⟨_, rfl⟩
  have j73 : ∀ j, j ≠ 17 → j ≠ 19 → j ≠ 23 → j ≠ 22 → J2 73 j = J1 73 j := fun j q1 q2 q3 q4 => by rw [hJ2, up2_at, if_neg (by omega), up2_at, if_neg (by omega), up2_at, if_neg (by omega), up2_at, if_neg (by omega)]
  have jo : ∀ a, a ≠ 73 → J2 a = J1 a := fun a ha => by rw [hJ2, upRow _ _ ha, upRow _ _ ha, upRow _ _ ha, upRow _ _ ha]
  have m1 : MS B n (nx B n p) J2 M1 := by
    have : MS B n (nx B n p) J1 M1 := ⟨v1, v6, v7, v8, v9⟩
    exact this.fr (fun j hj => j73 j (by omega) (by omega) (by omega) (by omega)) (jo 74 (by decide))
  have fm1 : FMf (up2 J 73 61 (b2i true)) J2 M M1 := (FMf.of (XB2.of g2)).trans ⟨fun a x _ _ _ => jo a x, fun j hj => j73 j (by omega) (by omega) (by omega) (by omega), fun _ _ => rfl, fun _ _ => rfl⟩
  have e20 : J2 73 20 = nI 0 := by
    rw [j73 20 (by decide) (by decide) (by decide) (by decide), (XB2.of g2).2.1 20 (by decide), up2_at, if_neg (by decide), hM.2.2.2.2.2.2.2.2.2.2.1, t6]
  have m2 : FM2 [] [] 0 J2 := by
    refine ⟨⟨?_, fun k hk => ?_⟩, ⟨?_, trivial⟩, ?_, e20, ?_⟩
    · rw [hJ2]; simp [up2_at]; rfl
    · simp at hk
    · rw [hJ2]; simp [up2_at]; rfl
    · rw [hJ2]; simp [up2_at]; rfl
    · rw [hJ2]; simp [up2_at]; rfl
  have ur : UR B n (tl + 19) (nx B n p) [] [] 0 0 0 (up2 I1 48 6 (b2i true)) L1 J2 M1 := ⟨x1, x2, m1, m2, fun k hk => (by simp at hk), rfl, by omega, by omega, by decide, by decide, by decide, by decide, by decide, fun x hx => (by cases hx)⟩
  have out := sp_RE (B := B) (n := n) hff RF (nx B n p) [] [] 0 0 0 _ L1 J2 M1 FUEL FUEL ur trivial (by intro g; cases g) (by rw [RF_eq]; omega) (by omega) (by omega)
  rw [show nI (wd []) = (0 : Int32) from rfl] at out
  have fx1 : FXr tl I (up2 I1 48 6 (b2i true)) L L1 := (FXr.of (XA2.of g1)).trans ⟨fun x h1 _ _ => upRow _ _ h1, by rw [upRow _ _ (by decide)], fun _ _ _ => rfl⟩
  have eM : fX12_readShade (up2 J 73 61 (b2i true)) M = Option.bind (rU FUEL FUEL J2 M1) fun q22 => Option.bind (Option.bind (if (q22.1 73 2) = 0 then Option.bind (fX12_hasBracket q22.1) fun q28 => if (b2i q28) = 0 then some true else some false else some true) fun b27 => if b27 = true then some q22.1 else obn (fX12_wrong (2 : Int32) q22.1) fun q29 => some q29) fun q26 => if (q26 73 2) = 0 then Option.bind (fX12_close (0 : Int32) q26) fun q30 => some (q30, q22.2) else some (q26, q22.2) := by
    unfold fX12_readShade
    rw [b2, Option.bind_some]
    simp only
    rw [← hJ2, unit_eq]
    unfold rU
    cases fX12_unit_2 FUEL (1 : Int32) J2 M1 with
    | none => rfl
    | some q =>
      simp only [Option.bind_some]
      cases uR q.1 q.2 with
      | none => rfl
      | some q17 => rfl
  refine ⟨Option.bind (fRE (tl + 19) RF (0 : Int32) (up2 I1 48 6 (b2i true)) L1) fun q1 => if (b2i q1.1) = 0 then obn (fX6_refuse (2 : Int32) q1.2.1) fun q4 => some (q4.1, q4.2, q1.2.2) else Option.bind (fX6_take (59 : Int32) q1.2.1 q1.2.2) fun q3 => some (q3.1, q3.2.1, q3.2.2), ?_, ?_⟩
  · unfold fX6_readShade fX2_readFormula
    simp only
    cases fRE (tl + 19) RF (0 : Int32) (up2 I1 48 6 (b2i true)) L1 with
    | none => rfl
    | some q1 =>
      simp only [Option.bind_some]
      by_cases c : b2i q1.1 = 0
      · rw [if_pos c, if_pos c, obn_eq, obn_eq, Option.bind_some]
      · rw [if_neg c, if_neg c]
        cases fX6_take (59 : Int32) q1.2.1 q1.2.2 with
        | none => rfl
        | some q3 => rfl
  · rw [eM]
    have fj0 : FMr J (up2 J 73 61 (b2i true)) M M := FMr.fld (by unfold kp73; omega)
    rcases out with ⟨q, R, D, C, u, I2, L2, J3, M3, fv, o1, o2, o3, o4, o5, o6, o7, o8, o9⟩ | ⟨q, I2, L2, J3, M3, o1, o2, o3, o4, _, o6, o7, o8⟩
    · left
      obtain ⟨ln1, ln2, ln3⟩ := o3.len
      obtain ⟨y1, y2, y3, y4, y5, y6, y7, y8, y9, y10, y11, y12, y13, y14⟩ := o3
      rw [List.append_nil] at y4 y14 ln1 o6
      obtain ⟨fv2, rfl⟩ : ∃ f, fv = f + 2 := ⟨fv - 2, by have := y1.1; omega⟩
      have h20 : 20 ∉ R := fun g => (y6 20 g).1 rfl
      have hs : sgOf (kd B n q) = 0 ∨ (tg (sgOf (kd B n q)) = 4 ∧ hasRel R = true) := by
        obtain ⟨z1, z2, z3, z4, z5⟩ := o6
        have z1 := z1 (by omega)
        have z2 := z2 (by omega)
        have z3 := z3 (by omega)
        have z4 := z4 (by omega)
        have z5 := z5 (by omega)
        unfold sgOf
        rw [if_neg z4, if_neg z5]
        by_cases c : kd B n q = 60 ∨ kd B n q = 62 ∨ kd B n q = 61
        · right
          rw [if_pos (by omega)]
          refine ⟨?_, z3 c⟩
          rcases c with c | c | c <;> rw [c] <;> rfl
        · left
          rw [if_neg (by omega)]
      have es := S_stop y3 y4 y14 (by omega) (fun _ => h20) hs fv2
      obtain ⟨f0, hf0⟩ := fuel_at 200 (by decide)
      obtain ⟨J4, c1, c2, c3, c4, c5, c6⟩ := m_close (l := 0) (S := []) (by omega) trivial (fun x hx => (by cases hx)) (by decide) R FUEL D J3 (y6.mono (by omega)) y4.1 (by rw [List.append_nil]; exact y4.2.1) (by rw [List.append_nil]; exact y4.2.2.1) (by rw [List.append_nil]; omega) (by omega) (by omega)
      have ecl : fX12_close (0 : Int32) J3 = some J4 := by
        unfold fX12_close
        rw [show (0 : Int32) = nI 0 from rfl, c1, Option.bind_some]
      rw [← y5] at c2
      rw [o1, Option.bind_some, o2, es, Option.bind_some]
      simp only
      rw [if_neg (show ¬ b2i true = 0 by decide), y3.2.2.2.1, if_pos rfl, m_hasBr y4.2.1 y14 (by omega), Option.bind_some, if_pos (show b2i (decide (20 ∈ R)) = 0 by rw [b2i_eq0]; simp [h20]), Option.bind_some, if_pos rfl, Option.bind_some, y3.2.2.2.1, if_pos rfl, ecl, Option.bind_some]
      have fm4 : FMf (up2 J 73 61 (b2i true)) J4 M M3 := fm1.trans (o9.trans ⟨fun a x1 x2 x3 _ => c5 a x1 x2 x3, fun j hj => c6 j (by omega) (by omega) (by omega), fun _ _ => rfl, fun _ _ => rfl⟩)
      have ms4 : MS B n q J4 M3 := y3.fr (fun j hj => c6 j (by omega) (by omega) (by omega)) (c5 74 (by decide) (by decide) (by decide))
      have hlt : tl + 20 < 48 := by rcases ht with e | e <;> omega
      refine ⟨TF T C u, N, q, I2, L2, J4, M3, by omega, rfl, rfl, ⟨⟨y1.1, y1.2.1, y1.2.2.1, y1.2.2.2.1, y1.2.2.2.2, ms4.2.1, ms4.2.2.1, ms4.2.2.2.1, ms4.2.2.2.2⟩, ht, TF_ok hT (by omega) (by omega) y7 (by omega), hN, ?_, ?_, ?_, ?_, ?_, ?_, (fun g => by cases g), hsh.2⟩, fx1.trans (o8.r (by omega) (by omega)), fj0.trans fm4.r⟩
      · obtain ⟨a1, a2, a3, a4, a5, a6, a7, a8, a9, a10, a11, a12⟩ := hX1'
        have k : ∀ x, tl ≤ x → x ≤ tl + 18 → I2 x = up2 I1 48 6 (b2i true) x := fun x h1 h2 => o8.1 x (by omega) (by omega) (by omega)
        have kl : ∀ x, x < 49 → L2 x = L1 x := fun x hx => o8.2.2 x (by omega)
        unfold DX XSize XForm
        rw [k tl (by omega) (by omega), k (tl + 1) (by omega) (by omega), k (tl + 3) (by omega) (by omega), k (tl + 4) (by omega) (by omega), k (tl + 5) (by omega) (by omega), k (tl + 6) (by omega) (by omega), k (tl + 7) (by omega) (by omega), k (tl + 9) (by omega) (by omega), k (tl + 11) (by omega) (by omega), k (tl + 12) (by omega) (by omega), k (tl + 13) (by omega) (by omega), k (tl + 15) (by omega) (by omega), kl tl (by omega), kl (tl + 2) (by omega), kl (tl + 8) (by omega), kl (tl + 14) (by omega), TF_dat]
        exact ⟨a1, a2, a3, a4, a5, a6, a7, a8, a9, ⟨y2.1.1, y2.1.2⟩, y2.2.1, y2.2.2⟩
      · obtain ⟨a1, a2, a3, a4, a5, a6, a7, a8, a9, a10, a11, a12, a13, a14, a15⟩ := hM
        have k73 : ∀ j, 24 ≤ j ∧ j ≠ 61 → J4 73 j = J 73 j := fun j hj => by rw [fm4.2.1 j (by omega), up2_at, if_neg (by omega)]
        have ko : ∀ x, 83 ≤ x → J4 x = J x := fun x hx => by rw [fm4.1 x (by omega) (by omega) (by omega) (by omega), upRow _ _ (by omega)]
        have kM : ∀ j, j ≠ 9 → M3 73 j = M 73 j := fm4.2.2.2
        have e20' : J4 73 20 = nI u := by rw [c6 20 (by decide) (by decide) (by decide)]; exact y4.2.2.2.1
        unfold DM
        rw [k73 45 (by omega), k73 46 (by omega), k73 47 (by omega), k73 48 (by omega), k73 49 (by omega), k73 50 (by omega), k73 51 (by omega), e20', ko 83 (by omega), ko 84 (by omega), ko 85 (by omega), ko 86 (by omega), ko 87 (by omega), ko 88 (by omega), ko 89 (by omega), ko 90 (by omega), kM 41 (by decide), kM 42 (by decide), kM 43 (by decide), fm4.2.2.1 75 (by decide)]
        exact ⟨a1, a2, a3, a4, a5, a6, a7, a8, a9, a10, rfl, a12, a13, a14, c2.1, c2.2⟩
      · rw [o8.1 48 (by decide) (by omega) (by omega), up2_eq]
      · rw [o8.1 48 (by decide) (by omega) (by omega), up2_at, if_neg (by decide), g1.1 48 (by decide)]; exact f7
      · rw [fm4.2.1 61 (by decide), up2_eq]
      · rw [fm4.2.1 62 (by decide), up2_at, if_neg (by decide)]; exact m62
    · right
      have hlt : tl + 20 < 48 := by rcases ht with e | e <;> omega
      have k256 : kd B n q < 256 := kd_lt (fun i hi => (x1.2.1.1.2.2 i hi).1) o3
      have hpl := tS_le (B := B) o3
      rw [o1, Option.bind_some, o2, Option.bind_some]
      simp only
      rw [if_pos (show b2i false = 0 by decide), obn_eq, show (2 : Int32) = nI 2 from rfl, x_refuse o4 k256]
      simp only
      have fx : FXr tl I (rfX B n q 2 I2) L L2 := fx1.trans ((o6.r (by omega) (by omega)).trans (FXr.of (XA2.rf 2)))
      have fin : ∀ J5 : HI, BdM B n q J5 → Bd2 (rfX B n q 2 I2) J5 := fun J5 g => ⟨flt B n q 2, tS B n q, flt_pos (by decide), flt_lt (by decide), by omega, rfX_8 2, rfX_9 2, g.1, g.2⟩
      rcases o8 with o8 | ⟨o8, D, K, u', o9, o10, o11, o12⟩
      · rw [if_neg o8.m.2, Option.bind_some, if_pos rfl, Option.bind_some, if_neg o8.m.2]
        exact ⟨_, _, _, _, rfl, rfl, fx, fj0.trans ((fm1.trans o7).r), fin _ o8⟩
      · rw [o8.2.2.2.1, if_pos rfl, m_hasBr o9.2.1 o11 (by omega), Option.bind_some, if_neg (show ¬ b2i (decide (20 ∈ K)) = 0 by rw [b2i_eq0]; simp [o10]), Option.bind_some, if_neg (by decide), obn_eq, m_wrong o8.2.1 o8.1 o8.2.2.1 o8.2.2.2.1, Option.bind_some, if_neg o8.bd.m.2]
        exact ⟨_, _, _, _, rfl, rfl, fx, fj0.trans ((fm1.trans o7).r.trans (FMr.of (XB2.rf 2))), fin _ o8.bd⟩
end SHD
