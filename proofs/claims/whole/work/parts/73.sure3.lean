/-! the surest way: the reference -/
section SU3
variable {T : Nat → Nat → Nat} {q : Nat} {N : Nat → Nat} {I : HI} {L : HL} {S O B : Nat} {K : Bool}
theorem m_s54 {to : Nat} {v x y z : Int32} (ht : to < 64) : ∀ (m c fu : Nat) (L : HL), c + m = 64 → m < fu → (∀ e, e < c → L 106 e = lN (if e = to then 1 else 0)) → ∃ L', fX12_surest_54 fu v (nI to) x y z (nI c) I L = some L' ∧ (∀ b, b ≠ 106 → L' b = L b) ∧ ∀ e, e < 64 → L' 106 e = lN (if e = to then 1 else 0) := by
  intro m
  induction m with
  | zero =>
    intro c fu L hc hf h
    obtain ⟨f, rfl⟩ : ∃ f, fu = f + 1 := ⟨fu - 1, by omega⟩
    rw [fX12_surest_54, if_pos (show (64 : Int32) ≤ nI c from nI_le (a := 64) (by omega) (by omega))]
    exact ⟨L, rfl, fun _ _ => rfl, fun e he => h e (by omega)⟩
  | succ m ih =>
    intro c fu L hc hf h
    obtain ⟨f, rfl⟩ : ∃ f, fu = f + 1 := ⟨fu - 1, by omega⟩
    rw [fX12_surest_54, if_neg (show ¬ (64 : Int32) ≤ nI c from nI_ge (b := 64) (by omega) (by decide)), nI_1]
    simp only [if_pos (inb_nI (show c < 64 by omega) (show 64 < 2 ^ 31 by decide)), clamp_nI (show c < 2 ^ 31 by omega)]
    have go : ∀ v' : Int64, v' = lN (if c = to then 1 else 0) → ∃ L', fX12_surest_54 f v (nI to) x y z (nI (c + 1)) I (up2 L 106 c v') = some L' ∧ (∀ b, b ≠ 106 → L' b = L b) ∧ ∀ e, e < 64 → L' 106 e = lN (if e = to then 1 else 0) := by
      intro v' hv
      obtain ⟨L', e1, f1, g1⟩ := ih (c + 1) f (up2 L 106 c v') (by omega) (by omega) (fun e he => by
        rw [up2_at]
        by_cases hec : e = c
        · rw [if_pos ⟨rfl, hec⟩, hv, hec]
        · rw [if_neg (fun g => hec g.2)]; exact h e (by omega))
      exact ⟨L', e1, fun b hb => by rw [f1 b hb, upRow _ _ hb], g1⟩
    by_cases hct : c = to
    · rw [if_pos (by rw [hct])]
      exact go 1 (by rw [if_pos hct]; rfl)
    · rw [if_neg (fun g => hct ((nI_eq (by omega) (by omega)).mp g))]
      exact go 0 (by rw [if_neg hct]; rfl)
theorem bst_tC (hO : TOk T) {x : Int64} {o : Nat → Nat} (hx : GS T x) : bstN x o (tC T) = bstN x o 64 := by
  have hC := tC_le hO.1
  have := bst_gap (x := x) (o := o) (p := tC T) (64 - tC T) (fun i h1 _ => by
    cases hh : hb x i with
    | false => rfl
    | true => have := (hx i hh).1; omega)
  rw [show tC T + (64 - tC T) = 64 by omega] at this
  exact this.symm
theorem mv_row (hO : TOk T) {hr dt k c r : Nat} (hh : hr = (N 8 + r) % 24) (hd : dt = (N 8 + r) / 24) (hc : grd T c) (hm : MMov T hr dt (N 5) (N 6) 0 K k (tC T) L) : L 101 (64 * k + c) = stD T N r K c := by
  apply hb_ext
  intro e he
  have h1 := hm c hc.1 e he
  have h2 := stp_iff (s := N 8) (S := N 5) (O := N 6) (B := 0) (K := K) (n := r) (e := e) hO (one_GS hO hc)
  have h3 : (∃ x, hb (oneI c) x = true ∧ mvN T (N 8) (N 5) (N 6) 0 K r x e) ↔ mvN T (N 8) (N 5) (N 6) 0 K r c e := by
    constructor
    · rintro ⟨x, g1, g2⟩
      rw [one_iff (grd_64 hO hc)] at g1
      subst g1; exact g2
    · intro g; exact ⟨c, (one_iff (grd_64 hO hc)).mpr rfl, g⟩
  rw [h3] at h2
  have h4 : hb (L 101 (64 * k + c)) e = true ↔ hb (stD T N r K c) e = true := by
    unfold stD
    rw [h1, h2]
    unfold mvN
    rw [hh, hd]
    exact ⟨fun g => g.2, fun g => ⟨hc, g⟩⟩
  cases x : hb (L 101 (64 * k + c)) e <;> cases y : hb (stD T N r K c) e <;> simp_all
theorem m_s144 (hO : TOk T) {r to t : Nat} {v x y z : Int32} {o : Nat → Nat} (ht : grd T to) (htt : t ≤ 7) (hoi : OI T to t o) : ∀ (m c fu : Nat) (L : HL), c + m = tC T → m < fu → MTown T I L → (∀ e, e < 64 → L 106 e = lN (o e)) → (∀ e, grd T e → L 101 (64 * 1 + e) = stD T N r true e ∧ L 101 (64 * 0 + e) = stD T N r (decide (N 7 = 1)) e) → (∀ e, e < c → L 107 e = lN (nxO T N r o e)) → ∃ L', fX12_surest_144 fu v (nI to) x y (lN (100 ^ (t + 1))) z (nI c) I L = some L' ∧ (∀ b, b ≠ 107 → L' b = L b) ∧ ∀ e, e < tC T → L' 107 e = lN (nxO T N r o e) := by
  have hC := tC_le hO.1
  have hcl := hO.2.2.2.2.1
  have hp := p100 (t := t) (by omega)
  have ho : ∀ e, e < 64 → o e < 2 ^ 63 := fun e he => by have := hoi.1 e he; omega
  intro m
  induction m with
  | zero =>
    intro c fu L hc hf hM h106 h101 h107
    obtain ⟨f, rfl⟩ : ∃ f, fu = f + 1 := ⟨fu - 1, by omega⟩
    rw [fX12_surest_144, m_size hM.1, if_pos (nI_le (by omega) (by omega))]
    exact ⟨L, rfl, fun _ _ => rfl, fun e he => h107 e (by omega)⟩
  | succ m ih =>
    intro c fu L hc hf hM h106 h101 h107
    obtain ⟨f, rfl⟩ : ∃ f, fu = f + 1 := ⟨fu - 1, by omega⟩
    have hc4 : c < tC T := by omega
    have go : ∀ v' : Int64, v' = lN (nxO T N r o c) → ∃ L', fX12_surest_144 f v (nI to) x y (lN (100 ^ (t + 1))) z (nI (c + 1)) I (up2 L 107 c v') = some L' ∧ (∀ b, b ≠ 107 → L' b = L b) ∧ ∀ e, e < tC T → L' 107 e = lN (nxO T N r o e) := by
      intro v' hv
      obtain ⟨L', e1, f1, g1⟩ := ih (c + 1) f (up2 L 107 c v') (by omega) (by omega) (hM.fr (fun _ _ => rfl) (fun _ _ => rfl) (upRow _ _ (by decide))) (fun e he => by rw [upRow _ _ (by decide)]; exact h106 e he) (fun e he => by rw [upRow _ _ (by decide)]; exact h101 e he) (fun e he => by
        rw [up2_at]
        by_cases hec : e = c
        · rw [if_pos ⟨rfl, hec⟩, hv, hec]
        · rw [if_neg (fun g => hec g.2)]; exact h107 e (by omega))
      exact ⟨L', e1, fun b hb => by rw [f1 b hb, upRow _ _ hb], g1⟩
    rw [fX12_surest_144, m_size hM.1, if_neg (nI_ge hc4 (by omega)), nI_1, has_hb _ (by omega), hM.1.2.2 c (by omega)]
    simp only [if_pos (inb_nI (show c < 64 by omega) (show 64 < 2 ^ 31 by decide)), clamp_nI (show c < 2 ^ 31 by omega), b2i_eq0]
    by_cases hct : c = to
    · rw [if_pos (by rw [hct])]
      refine go _ ?_
      rw [hct, (nx_OI (N := N) (k := r) hO ht hoi).2.1]
    · have t64 := grd_64 hO ht
      rw [if_neg (fun g => hct ((nI_eq (by omega) (by omega)).mp g))]
      cases hw : isW T c with
      | true =>
        simp only [Bool.true_eq_false, if_false]
        refine go 0 ?_
        unfold nxO bsD
        rw [if_neg (by rw [hw]; simp), if_neg (by rw [hw]; simp)]
        rfl
      | false =>
        have hg : grd T c := ⟨hc4, hw⟩
        have b1 := m_bestOf (k := 1) hO hM (by decide) (show c < 64 by omega) h106 ho
        have b0 := m_bestOf (k := 0) hO hM (by decide) (show c < 64 by omega) h106 ho
        rw [(h101 c hg).1, bst_tC hO (show GS T (stD T N r true c) from stp_GS hO (one_GS hO hg))] at b1
        rw [(h101 c hg).2, bst_tC hO (show GS T (stD T N r (decide (N 7 = 1)) c) from stp_GS hO (one_GS hO hg))] at b0
        rw [if_pos rfl, show fX12_bestOf (nI c) 1 I L = _ from b1]
        simp only [Option.bind_some]
        rw [show fX12_bestOf (nI c) 0 I L = _ from b0]
        simp only [Option.bind_some, hM.2.2.2.2.2.1]
        refine go _ ?_
        rw [show (100 : Int32) - nI (T 0 5) = nI (100 - T 0 5) from pk_sub (a := 100) hcl, nI_l (by omega), nI_l (by omega), lN_mul, lN_mul, lN_addn]
        unfold nxO bsD
        rw [if_pos (show c < tC T ∧ isW T c = false from hg), if_pos (show c < tC T ∧ isW T c = false from hg)]
theorem m_s231 (hO : TOk T) {v w x y z : Int32} {al : Int64} {p : Nat → Int64} : ∀ (m c fu : Nat) (L : HL), c + m = tC T → m < fu → MTown T I L → (∀ e, e < tC T → L 107 e = p e) → ∃ L', fX12_surest_231 fu v w x y al z (nI c) I L = some L' ∧ (∀ b, b ≠ 106 → L' b = L b) ∧ ∀ e, L' 106 e = if c ≤ e ∧ e < tC T then p e else L 106 e := by
  have hC := tC_le hO.1
  intro m
  induction m with
  | zero =>
    intro c fu L hc hf hM h107
    obtain ⟨f, rfl⟩ : ∃ f, fu = f + 1 := ⟨fu - 1, by omega⟩
    rw [fX12_surest_231, m_size hM.1, if_pos (nI_le (by omega) (by omega))]
    exact ⟨L, rfl, fun _ _ => rfl, fun e => by rw [if_neg (by omega)]⟩
  | succ m ih =>
    intro c fu L hc hf hM h107
    obtain ⟨f, rfl⟩ : ∃ f, fu = f + 1 := ⟨fu - 1, by omega⟩
    have hc4 : c < tC T := by omega
    rw [fX12_surest_231, m_size hM.1, if_neg (nI_ge hc4 (by omega)), nI_1]
    simp only [if_pos (inb_nI (show c < 64 by omega) (show 64 < 2 ^ 31 by decide)), clamp_nI (show c < 2 ^ 31 by omega), h107 c hc4]
    obtain ⟨L', e1, f1, g1⟩ := ih (c + 1) f (up2 L 106 c (p c)) (by omega) (by omega) (hM.fr (fun _ _ => rfl) (fun _ _ => rfl) (upRow _ _ (by decide))) (fun e he => by rw [upRow _ _ (by decide)]; exact h107 e he)
    refine ⟨L', e1, fun b hb => by rw [f1 b hb, upRow _ _ hb], fun e => ?_⟩
    rw [g1 e, up2_at]
    by_cases hec : e = c
    · rw [if_neg (by omega), if_pos ⟨rfl, hec⟩, if_pos (by omega), hec]
    · rw [if_neg (show ¬ (106 = 106 ∧ e = c) from fun g => hec g.2)]
      by_cases h2 : c + 1 ≤ e ∧ e < tC T
      · rw [if_pos h2, if_pos (by omega)]
      · rw [if_neg h2, if_neg (by omega)]
def FMs (I I' : HI) (L L' : HL) : Prop := (∀ a, a ≠ 73 → a ≠ 81 → a ≠ 82 → I' a = I a) ∧ (∀ j, ¬ (64 ≤ j ∧ j ≤ 69) → I' 73 j = I 73 j) ∧ ∀ a, a ≠ 100 → a ≠ 101 → a ≠ 106 → a ≠ 107 → L' a = L a
theorem FMs.trans {I J P : HI} {L M Q : HL} (h : FMs I J L M) (g : FMs J P M Q) : FMs I P L Q := ⟨fun a h1 h2 h3 => by rw [g.1 a h1 h2 h3, h.1 a h1 h2 h3], fun j hj => by rw [g.2.1 j hj, h.2.1 j hj], fun a h1 h2 h3 h4 => by rw [g.2.2 a h1 h2 h3 h4, h.2.2 a h1 h2 h3 h4]⟩
theorem FM.s {I J : HI} {L M : HL} (h : FM I J L M) : FMs I J L M := ⟨h.1, h.2.1, fun a h1 h2 _ _ => h.2.2 a h1 h2⟩
theorem MTown.fms {I J : HI} {L M : HL} (h : MTown T I L) (f : FMs I J L M) : MTown T J M :=
  h.fr (fun a h1 => f.1 a (by omega) (by omega) (by omega)) (fun j hj => f.2.1 j (by omega)) (f.2.2 73 (by omega) (by omega) (by omega) (by omega))
theorem m_wgL (hO : TOk T) (hN : NRng N) {v y : Int32} {to : Nat} (ht : grd T to) : ∀ (r t fu : Nat) (o : Nat → Nat) (I : HI) (L : HL), r + t ≤ 8 → r < fu → MTown T I L → MNow I N → (∃ hr dt K', MAim hr dt (N 5) (N 6) 0 K' I) → OI T to t o → (∀ e, e < 64 → L 106 e = lN (o e)) → ∃ I' L', fX12_surest_93 fu v (nI to) y (b2i (decide (N 7 = 1))) (lN (100 ^ t)) (nI r - 1) I L = some (lN (100 ^ (t + r)), I', L') ∧ FMs I I' L L' ∧ (∀ e, e < 64 → L' 106 e = lN (odS T N r o e)) ∧ OI T to (t + r) (odS T N r o) := by
  obtain ⟨mf, hmf⟩ := fuel_at 1000 (by decide)
  have hC := tC_le hO.1
  obtain ⟨b1, b2, b3⟩ := ShS hN
  intro r
  induction r with
  | zero =>
    intro t fu o I L hr hf hM hm hA hoi h106
    obtain ⟨f, rfl⟩ : ∃ f, fu = f + 1 := ⟨fu - 1, by omega⟩
    rw [fX12_surest_93, if_pos (by decide)]
    exact ⟨I, L, rfl, (FM.refl I L).s, h106, hoi⟩
  | succ r ih =>
    intro t fu o I L hr hf hM hm hA hoi h106
    obtain ⟨f, rfl⟩ : ∃ f, fu = f + 1 := ⟨fu - 1, by omega⟩
    obtain ⟨hr0, dt0, K0, a0⟩ := hA
    obtain ⟨a1, f1⟩ := m_setHour (w := N 8 + r) (by omega) a0
    have i2b' : i2b (b2i (decide (N 7 = 1))) = some (decide (N 7 = 1)) := by cases decide (N 7 = 1) <;> rfl
    generalize hJ1 : fX12_setHour (nI (N 8 + r)) I = J1 at *
    have setK : ∀ (J : HI) (K' : Bool) (hr dt : Nat) (K'' : Bool), MAim hr dt (N 5) (N 6) 0 K'' J → MAim hr dt (N 5) (N 6) 0 K' (up2 J 73 69 (b2i K')) ∧ ∀ L, FM J (up2 J 73 69 (b2i K')) L L := by
      intro J K' hr dt K'' hA
      constructor
      · unfold MAim at *
        simp only [up2_at, Nat.reduceEqDiff, and_false, if_false, and_self, if_true]
        exact ⟨hA.1, hA.2.1, hA.2.2.1, hA.2.2.2.1, hA.2.2.2.2.1, trivial⟩
      · intro L
        exact ⟨fun r h1 _ _ => upRow _ _ h1, fun j hj => by rw [up2_at, if_neg (by omega)], fun _ _ _ => rfl⟩
    obtain ⟨a2, f2⟩ := setK J1 (decide (N 7 = 1)) _ _ _ a1
    have hM2 := (hM.fm (f1 L)).fm (f2 L)
    have hmod : (N 8 + r) % 24 < 24 := Nat.mod_lt _ (by decide)
    obtain ⟨J3, L3, e3, f3, g3, k3, m3⟩ := m_layMoves (k := 0) hO hM2 a2 hmod b2 b3 (by decide) (by decide)
    have fm3 := FM.of81 f3 g3
    have hM3 := hM2.fm fm3
    obtain ⟨a4, f4⟩ := setK J3 true _ _ _ (FM.aim (L := L) (M := L) a2 (f3 73 (by decide) (by decide)))
    have hM4 := hM3.fm (f4 L3)
    obtain ⟨J5, L5, e5, f5, g5, k5, m5⟩ := m_layMoves (k := 1) hO hM4 a4 hmod b2 b3 (by decide) (by decide)
    have fm5 := FM.of81 f5 g5
    have hM5 := hM4.fm fm5
    have fmA : FM I J5 L L5 := ((((f1 L).trans (f2 L)).trans fm3).trans (f4 L3)).trans fm5
    have m3' : MMov T ((N 8 + r) % 24) ((N 8 + r) / 24) (N 5) (N 6) 0 (decide (N 7 = 1)) 0 (tC T) L5 := by
      intro c hc e he
      rw [k5 _ (by omega)]
      exact m3 c hc e he
    have h106' : ∀ e, e < 64 → L5 106 e = lN (o e) := fun e he => by rw [fmA.2.2 106 (by decide) (by decide)]; exact h106 e he
    obtain ⟨L6, e6, f6, v6⟩ := m_s144 (N := N) (r := r) (v := v) (x := y) (y := b2i (decide (N 7 = 1))) (z := nI r) (I := J5) hO ht (by omega) hoi (tC T) 0 FUEL L5 (by omega) (by omega) hM5 h106' (fun e he => ⟨mv_row hO rfl rfl he m5, mv_row hO rfl rfl he m3'⟩) (fun e he => absurd he (Nat.not_lt_zero e))
    have hM6 : MTown T J5 L6 := hM5.fr (fun _ _ => rfl) (fun _ _ => rfl) (f6 73 (by decide))
    obtain ⟨L7, e7, f7, v7⟩ := m_s231 (v := v) (w := nI to) (x := y) (y := b2i (decide (N 7 = 1))) (z := nI r) (al := lN (100 ^ (t + 1))) (p := fun e => lN (nxO T N r o e)) hO (tC T) 0 FUEL L6 (by omega) (by omega) hM6 v6
    have fs : FMs I J5 L L7 := ⟨fmA.1, fmA.2.1, fun b h1 h2 h3 h4 => by rw [f7 b h3, f6 b h4, fmA.2.2 b h1 h2]⟩
    have hnx := nx_OI (N := N) (k := r) hO ht hoi
    rw [nI_pred, fX12_surest_93, if_neg (nI_pos (by omega))]
    simp only [show (8 : Int32) = nI 8 from rfl, if_pos (inb_nI (show 8 < 10 by decide) (show 10 < 2 ^ 31 by decide)), clamp_nI (show 8 < 2 ^ 31 by decide), hm 8 (by decide), nI_add]
    rw [obn_eq, hJ1, i2b']
    simp only [Option.bind_some]
    rw [show fX12_layMoves 0 (up2 J1 73 69 (b2i (decide (N 7 = 1)))) L = _ from e3]
    simp only [Option.bind_some]
    rw [show fX12_layMoves 1 (up2 J3 73 69 (b2i true)) L3 = _ from e5]
    simp only [Option.bind_some]
    rw [show lN (100 ^ t) * (100 : Int64) = lN (100 ^ (t + 1)) by rw [show (100 : Int64) = lN 100 from rfl, lN_mul, Nat.pow_succ]]
    rw [show fX12_surest_144 FUEL v (nI to) y (b2i (decide (N 7 = 1))) (lN (100 ^ (t + 1))) (nI r) 0 J5 L5 = _ from e6]
    simp only [Option.bind_some]
    rw [show fX12_surest_231 FUEL v (nI to) y (b2i (decide (N 7 = 1))) (lN (100 ^ (t + 1))) (nI r) 0 J5 L6 = _ from e7]
    simp only [Option.bind_some]
    rw [show nI r + (-1 : Int32) = nI r - 1 from (Int32.sub_eq_add_neg _ _).symm]
    obtain ⟨I8, L8, e8, f8, v8, o8⟩ := ih (t + 1) f (nxO T N r o) J5 L7 (by omega) (by omega) (hM.fms fs) (hm.fm (L := L) (M := L) ⟨fs.1, fs.2.1, fun _ _ _ => rfl⟩) ⟨_, _, _, FM.aim (L := L) (M := L) a4 (f5 73 (by decide) (by decide))⟩ hnx (fun e he => by
      rw [v7 e]
      by_cases hec : e < tC T
      · rw [if_pos ⟨Nat.zero_le _, hec⟩]
      · rw [if_neg (fun g => hec g.2), f6 106 (by decide), h106' e he, hoi.2.2 e (by omega), hnx.2.2 e (by omega)])
    refine ⟨I8, L8, ?_, fs.trans f8, v8, by rw [show t + (r + 1) = t + 1 + r by omega]; exact o8⟩
    rw [e8, show t + 1 + r = t + (r + 1) by omega]
end SU3
section SU4
variable {T : Nat → Nat → Nat} {q : Nat} {st : Nat → Nat → Nat} {a u : Nat} {I : HI} {L : HL}
theorem Inv.ls {J : HI} {M : HL} (h : Inv T q st a u I L) (hI : J = I) (hL : ∀ b, b ≠ 61 → b ≠ 64 → b ≠ 65 → b ≠ 106 → b ≠ 107 → M b = L b) : Inv T q st a u J M := by
  subst hI
  exact h.gen (fun _ _ => rfl) rfl (fun _ _ => rfl) (fun b hb => hL b (by rcases h.2.1 with h | h <;> omega) (by rcases h.2.1 with h | h <;> omega) (by rcases h.2.1 with h | h <;> omega) (by rcases h.2.1 with h | h <;> omega) (by rcases h.2.1 with h | h <;> omega)) (h.sky.fr rfl rfl (hL 57 (by decide) (by decide) (by decide) (by decide) (by decide)) (hL 58 (by decide) (by decide) (by decide) (by decide) (by decide))) (h.box.fr rfl rfl rfl (hL 56 (by decide) (by decide) (by decide) (by decide) (by decide))) h.way h.look
theorem c_surest (h : Inv T q st a u I L) (v w x y : Int32) : ∃ r I1 L1 I2 L2, fX11_surest q q v w x y I L = some (r, I1, L1) ∧ fX12_surest v w x y I1 L1 = some (r, I2, L2) ∧ Inv T q st a u I2 L2 := by
  obtain ⟨mf, hmf⟩ := fuel_at 1000 (by decide)
  have hO := h.1
  have hq := h.2.1
  have hR := h.rng
  obtain ⟨b1, b2, b3⟩ := ShS hR
  unfold fX11_surest fX12_surest
  rcases g_jour (m := 8) (by decide) hO.1 h.2.2.1.1 h.2.2.1.2.1.2 h.2.2.2.1.1 v w x with ⟨c, d, n, c1, d1, n1, n2, e1, e2, e3, j1, j2, j3, j4⟩ | ⟨j1, j2⟩
  · rcases g_choice y with ⟨w1, w2, w3⟩ | ⟨w1, w2⟩
    · subst e1
      subst e2
      subst e3
      have d64 := grd_64 hO d1
      have c64 := grd_64 hO c1
      have oi0 : OI T d 0 (fun e => if e = d then 1 else 0) := by
        refine ⟨fun e _ => ?_, ?_, fun e he => ?_⟩
        · simp only; split <;> simp
        · simp
        · have := d1.1; simp only; rw [if_neg (by omega)]
      obtain ⟨I1, L1, a1, s1, f1, i1⟩ := h.aim
      -- the class weighs
      obtain ⟨L2, k2, g2, v2⟩ := x_fillL (a := 64) (N := 64) (v := (0 : Int64)) (L := L1) (by decide)
      have xa1 : XA T q (st a 8) (st a 5) (st a 6) 0 (decide (st a 7 = 1)) I1 L1 := ⟨i1.2.2.1, s1⟩
      have xa2 : XA T q (st a 8) (st a 5) (st a 6) 0 (decide (st a 7 = 1)) I1 (up2 (up2 L2 64 d 1) 61 6 1) := xa1.frL hq (fun b h1 h2 _ => by rw [upRow _ _ h1, upRow _ _ h2, g2 b h2])
      obtain ⟨I3, L3, k3, x3, f3, v3, t3, o3⟩ := x_wgL (v := nI c) (to := d) hO hq hR d1 n 0 FUEL (fun e => if e = d then 1 else 0) I1 (up2 (up2 L2 64 d 1) 61 6 1) (by omega) (by omega) xa2 oi0 (fun e he => by
        rw [upRow _ _ (by decide), up2_at]
        by_cases hed : e = d
        · rw [if_pos ⟨rfl, hed⟩]; simp only [if_pos hed]; rfl
        · rw [if_neg (fun g => hed g.2), v2 e, if_pos he]; simp only [if_neg hed]; rfl) (by simp [up2_at]; rfl)
      rw [Nat.zero_add] at t3 o3
      generalize hod : odS T (st a) n (fun e => if e = d then 1 else 0) = od at *
      have hp := p100 (t := n) (by omega)
      have hpos : 0 < 100 ^ n := Nat.pow_pos (by decide)
      have hoc := o3.1 c c64
      have hg1 : Nat.gcd (100 ^ n) (od c) ≤ 100 ^ n := Nat.le_of_dvd hpos (Nat.gcd_dvd_left _ _)
      have hg0 : 0 < Nat.gcd (100 ^ n) (od c) := Nat.gcd_pos_of_pos_left _ hpos
      have gx := x_gcdL 54 (100 ^ n) (od c) 0 FUEL (by omega) (by omega) (by decide) (by decide) (by omega)
      have gm := m_gcdL 54 (100 ^ n) (od c) FUEL (by omega) (by omega) (by decide) (by omega)
      generalize hg : Nat.gcd (100 ^ n) (od c) = g at *
      -- the heap that the class leaves
      have hx : ∃ L4, fX10_weighOdds q (nI c) (nI d) (nI n) I1 L1 = some (I3, L4) ∧ L4 61 5 = lN (od c / g) ∧ L4 61 6 = lN (100 ^ n / g) ∧ ∀ b, b ≠ 61 → L4 b = L3 b := by
        have hdk : fX7_isDark I1 = some (decide (st a 7 = 1)) := by
          unfold fX7_isDark
          rw [s1.2.2.2.2.1]
          cases decide (st a 7 = 1) <;> rfl
        unfold fX10_weighOdds
        rw [hdk]
        simp only [Option.bind_some, k2, if_pos (inb_nI d64 (show 64 < 2 ^ 31 by decide)), clamp_nI (show d < 2 ^ 31 by omega), i1.2.2.1.2.2.2.1, k3, if_pos (inb_nI c64 (show 64 < 2 ^ 31 by decide)), clamp_nI (show c < 2 ^ 31 by omega), v3 c c64, up2_at, Nat.reduceEqDiff, and_false, and_self, if_true, if_false, t3]
        unfold fX10_commonDivisor
        rw [show fX10_commonDivisor_9 FUEL (lN (100 ^ n)) (lN (od c)) 0 = _ from gx]
        simp only [Option.bind_some]
        by_cases hle : g ≤ 1
        · have e1g : g = 1 := by omega
          rw [if_pos (show lN g ≤ 1 from (pk_lLE (b := 1) (by omega) (by decide)).mpr hle)]
          refine ⟨_, rfl, ?_, ?_, fun b hb => upRow _ _ hb⟩
          · rw [e1g, Nat.div_one]; simp [up2_at]
          · rw [e1g, Nat.div_one, up2_at, if_neg (by decide), t3]
        · have ne : ¬ lN g = 0 := fun z => by have := (lN_eq0 (by omega)).mp z; omega
          rw [if_neg (show ¬ lN g ≤ 1 from fun z => hle ((pk_lLE (b := 1) (by omega) (by decide)).mp z)), if_neg ne, if_neg ne]
          refine ⟨_, rfl, ?_, ?_, fun b hb => by rw [upRow _ _ hb, upRow _ _ hb, upRow _ _ hb]⟩
          · simp only [up2_at, Nat.reduceEqDiff, and_false, if_false, and_self, if_true]
            rw [pk_lDiv (by omega) hg0 (by omega)]
          · simp only [up2_at, Nat.reduceEqDiff, and_false, if_false, and_self, if_true]
            rw [pk_lDiv (by omega) hg0 (by omega)]
      obtain ⟨L4, k4, u5, u6, f4⟩ := hx
      have i4 : Inv T q st a u I3 L4 := by
        have fxI : FX q I1 I3 L1 (fun b => if b = 61 ∨ b = 64 ∨ b = 65 then L1 b else L3 b) := by
          refine ⟨f3.1, fun b h1 h2 => ?_⟩
          by_cases hb : b = 61 ∨ b = 64 ∨ b = 65
          · simp only [if_pos hb]
          · simp only [if_neg hb]
            rw [f3.2 b h1 h2 (by omega) (by omega) (by omega), upRow _ _ (by omega), upRow _ _ (by omega), g2 b (by omega)]
        have xk : SkyOk T I3 (fun b => if b = 61 ∨ b = 64 ∨ b = 65 then L1 b else L3 b) := (x3.sky (by omega) b3 (by decide)).fr rfl rfl (by simp) (by simp)
        refine (i1.fx fxI xk).ls rfl (fun b h1 h2 h3 _ _ => ?_)
        rw [f4 b h1]
        simp only [if_neg (show ¬ (b = 61 ∨ b = 64 ∨ b = 65) by omega)]
      -- the reference
      obtain ⟨J1, m1, a2, i5⟩ := i4.load (n := 0) (by decide)
      obtain ⟨M1, n3, p3, r3⟩ := m_s54 (I := J1) (to := d) (v := nI c) (x := nI n) (y := y) (z := b2i (decide (st a 7 = 1))) d64 64 0 FUEL L4 (by omega) (by omega) (fun e he => absurd he (Nat.not_lt_zero e))
      have hM1 : MTown T J1 M1 := i5.2.2.2.1.fr (fun _ _ => rfl) (fun _ _ => rfl) (p3 73 (by decide))
      obtain ⟨J2, M2, n4, f5, v5, o5⟩ := m_wgL (v := nI c) (y := y) hO hR d1 n 0 FUEL (fun e => if e = d then 1 else 0) J1 M1 (by omega) (by omega) hM1 i5.mnow ⟨_, _, _, a2⟩ oi0 r3
      rw [hod] at v5
      rw [Nat.zero_add] at n4
      have iF : Inv T q st a u J2 M2 := by
        have fmI : FM J1 J2 L4 (fun b => if b = 106 ∨ b = 107 then L4 b else M2 b) := by
          refine ⟨f5.1, f5.2.1, fun b h1 h2 => ?_⟩
          by_cases hb : b = 106 ∨ b = 107
          · simp only [if_pos hb]
          · simp only [if_neg hb]
            rw [f5.2.2 b h1 h2 (by omega) (by omega), p3 b (by omega)]
        refine (i5.fm fmI).ls rfl (fun b _ _ _ h4 h5 => ?_)
        simp only [if_neg (show ¬ (b = 106 ∨ b = 107) by omega)]
      have ne : ¬ lN g = 0 := fun z => by have := (lN_eq0 (by omega)).mp z; omega
      have fr : ∀ z, fX12_isFree z I3 L4 = fX12_isFree z I L := fun z => isFree_same h.2.2.2.1.1 i4.2.2.2.1.1 z
      refine ⟨if y = 0 then lN (od c / g) else lN (100 ^ n / g), I3, L4, J2, M2, ?_, ?_, iF⟩
      · rw [show fX11_isJourney q (nI c) (nI d) (nI n) 8 I L = true from j1, w2, a1]
        simp only [b2i_eq0, Bool.true_eq_false, if_false, Option.bind_some, Bool.false_eq_true, k4, u5, u6]
        by_cases hy : y = 0
        · rw [if_pos hy, if_pos hy]
        · rw [if_neg hy, if_neg hy]
      · rw [fr, fr, j2, j3, show fX12_isIn (nI n) 1 8 = true from j4, w3, show fX12_load 0 I3 = some J1 from m1]
        simp only [b2i_eq0, Bool.true_eq_false, if_false, Option.bind_some, Bool.false_eq_true]
        rw [show J1 73 69 = b2i (decide (st a 7 = 1)) from a2.2.2.2.2.2]
        rw [show fX12_surest_54 FUEL (nI c) (nI d) (nI n) y (b2i (decide (st a 7 = 1))) 0 J1 L4 = _ from n3]
        simp only [Option.bind_some]
        rw [show fX12_surest_93 FUEL (nI c) (nI d) y (b2i (decide (st a 7 = 1))) 1 (nI n - 1) J1 M1 = _ from n4]
        simp only [Option.bind_some, if_pos (inb_nI c64 (show 64 < 2 ^ 31 by decide)), clamp_nI (show c < 2 ^ 31 by omega), v5 c c64]
        unfold fX12_common
        rw [gm]
        simp only [Option.bind_some, if_neg ne]
        rw [pk_lDiv (show od c < 2 ^ 63 by omega) hg0 (by omega), pk_lDiv (show 100 ^ n < 2 ^ 63 by omega) hg0 (by omega)]
        by_cases hy : y = 0
        · rw [if_pos hy, if_pos hy]
        · rw [if_neg hy, if_neg hy]
    · rw [show fX11_isJourney q v w x 8 I L = true from j1, w1]
      exact ⟨_, I, L, I, L, rfl, by rw [j2, j3, show fX12_isIn x 1 8 = true from j4, w2]; rfl, h⟩
  · rw [show fX11_isJourney q v w x 8 I L = false from j1]
    refine ⟨_, I, L, I, L, rfl, ?_, h⟩
    rcases j2 with j | j | j
    · rw [j]; rfl
    · rw [j]; cases fX12_isFree v I L <;> rfl
    · rw [show fX12_isIn x 1 8 = false from j]; cases fX12_isFree v I L <;> cases fX12_isFree w I L <;> rfl
end SU4
