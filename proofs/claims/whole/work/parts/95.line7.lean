/-! size, cloud and walls -/
section LN7
variable {B : Nat → Nat} {n p tl : Nat} {T T' : Nat → Nat → Nat} {N : Nat → Nat → List Nat} {sh cl : Bool} {I I' I2 : HI} {L L' L2 : HL} {J J' J2 J0 : HI} {M M' M2 M0 : HL}
theorem RT2.fldJ {j : Nat} {v : Int32} (h : RT2 B n p I L J M) (h1 : j < 2 ∨ 9 ≤ j) : RT2 B n p I L (up2 J 73 j v) M := by
  obtain ⟨a1, a2, a3, a4, a5, a6, a7, a8, a9⟩ := h
  refine ⟨a1, a2, a3, a4, a5, a6.fr (by rw [up2_at, if_neg (by omega)]) (upRow _ _ (by decide)), ?_, ?_, ?_⟩
  · unfold MT at *
    rw [up2_at, if_neg (by omega), up2_at, if_neg (by omega), up2_at, if_neg (by omega), up2_at, if_neg (by omega)]
    exact a7
  · rw [up2_at, if_neg (by omega)]; exact a8
  · rw [up2_at, if_neg (by omega)]; exact a9
theorem XB2.fld {j : Nat} {v : Int32} : (∀ a, a ≠ 73 → up2 J 73 j v a = J a) := fun a ha => upRow _ _ ha
theorem s_rowT (h : RT2 B n p I L J M) (ht : isQ2 tl) {a i : Nat} {v : Int32} (ha : tl ≤ a ∧ a ≤ tl + 22) : RT2 B n p (up2 I a i v) L J M := by
  obtain ⟨a1, a2, a3, a4, a5, a6⟩ := h
  have h1 : ∀ x, x = 1 ∨ x = 48 ∨ x = 49 → up2 I a i v x = I x := fun x hx => upRow _ _ (by rcases ht with e | e <;> omega)
  refine ⟨a1, a2.fr (h1 1 (by omega)) (by rw [h1 49 (by omega)]) rfl, ?_, ?_, ?_, a6⟩
  · unfold XT at *
    rw [h1 49 (by omega)]
    exact a3
  · rw [h1 48 (by omega)]; exact a4
  · rw [h1 48 (by omega)]; exact a5
theorem FXr.rowT {a i : Nat} {v : Int32} (ht : isQ2 tl) (ha : tl ≤ a ∧ a ≤ tl + 22) : FXr tl I (up2 I a i v) L L := ⟨fun x _ _ hx => upRow _ _ (fun e => hx (e ▸ ha)), by rw [upRow _ _ (by rcases ht with e | e <;> omega)], fun _ _ _ => rfl⟩
theorem s_rowTL (h : RT2 B n p I L J M) (ht : isQ2 tl) {a i : Nat} {v : Int64} (ha : tl ≤ a ∧ a ≤ tl + 22) : RT2 B n p I (up2 L a i v) J M := by
  obtain ⟨a1, a2, a3, a4, a5, a6⟩ := h
  refine ⟨a1, a2.fr rfl rfl (upRow _ _ (by rcases ht with e | e <;> omega)), ?_, a4, a5, a6⟩
  unfold XT at *
  rw [upRow L _ (show 49 ≠ a by rcases ht with e | e <;> omega)]
  exact a3
theorem FXr.rowTL {a i : Nat} {v : Int64} (ha : tl ≤ a ∧ a ≤ tl + 22) : FXr tl I I L (up2 L a i v) := ⟨fun _ _ _ _ => rfl, rfl, fun x _ hx => upRow _ _ (fun e => hx (e ▸ ha))⟩
theorem want_tok (h : RT2 B n p I L J M) {w : Nat} (hw : w < 19) {v : Int64} (hv : v = lN (wd8 (wL w))) (hk : kd B n p = w) : fX12_want v J M = fX12_token J M := by
  obtain ⟨h1, h2, h3, h4, h5, h6, h7, h8, h9⟩ := h
  unfold fX12_want
  rw [h8, if_pos (by decide), m_isWord h6 h1 h7 hw hv, if_neg (show ¬ b2i (decide (kd B n p = w)) = 0 by rw [b2i_eq0]; simp [hk])]
  cases fX12_token J M with
  | none => rfl
  | some x => rfl
def TC (T : Nat → Nat → Nat) (v : Nat) : Nat → Nat → Nat := up2 T 0 5 v
set_option maxHeartbeats 4000000 in
theorem ln_cloud {I1 : HI} {L1 : HL} (h : Rel B n tl T N sh cl p I L J M) (hk : kd B n p = 12) (ha : fX9_advance I L = some (I1, L1)) : LnOut B n tl sh true p I L J M (fX6_readCloud tl I1 L1) (Option.bind (fX12_told (427021006180 : Int64) (0 : Int32) (100 : Int32) (up2 J 73 62 (b2i true)) M) fun q33 => some (up2 q33.2.1 73 51 q33.1, q33.2.2)) := by
  obtain ⟨r0, ht, hT, hN, hX, hM, f6, f7, m61, m62, hsh⟩ := h
  have r0' : RT2 B n p I L (up2 J 73 62 (b2i true)) M := r0.fldJ (by decide)
  have hM0 : DM T N (up2 J 73 62 (b2i true)) M := hM.fr (fun j hj => by rw [up2_at, if_neg (by omega)]) (fun a ha => upRow _ _ (by omega)) (fun _ _ => rfl) (fun _ _ => rfl)
  obtain ⟨I1', L1', J1, M1, b1, b2, r1, g1, g2⟩ := r0'.step (by omega)
  rw [ha] at b1
  cases b1
  have pq := nx_lt (B := B) r0.1 (by omega)
  have hX1 := hX.fa ht (XA2.of g1)
  have hM1 := hM0.fb (XB2.of g2)
  have r1' : RT2 B n (nx B n p) (up2 I1 48 7 (b2i true)) L1 J1 M1 := r1.fldI (by decide) (by decide)
  unfold fX6_readCloud fX12_told
  rw [want_tok r0' (w := 12) (by decide) (by decide) hk, b2]
  simp only [Option.bind_some]
  have f0 : FXr tl I (up2 I1 48 7 (b2i true)) L L1 := (FXr.of (XA2.of g1)).trans ⟨fun x h1 _ _ => upRow _ _ h1, by rw [upRow _ _ (by decide)], fun _ _ _ => rfl⟩
  have fm0 : FMr J J1 M M1 := (FMr.fld (by unfold kp73; omega)).trans (FMr.of (XB2.of g2))
  have sn := s_num0 r1' (b := 100) (by decide)
  rw [show nI 100 = (100 : Int32) from rfl] at sn
  rcases sn with ⟨c, I3, L3, J3, M3, a1, a2, r3, a4, a5, a6⟩ | ⟨c, a1, u, a2⟩
  · left
    rw [a1, a2]
    simp only [Option.bind_some]
    rw [if_neg (show ¬ b2i true = 0 by decide), a4]
    have v100 : vl B n (nx B n p) ≤ 100 := c.2.2
    generalize vl B n (nx B n p) = v at *
    have hX3 : DX T N tl I3 L3 := by
      refine DX.fa (I := up2 I1 48 7 (b2i true)) (L := L1) (hX1.fr (fun a h1 h2 => upRow _ _ (by rcases ht with e | e <;> omega)) (fun _ _ _ => rfl)) ht (XA2.ofN a5)
    have hM3 := hM1.fb (XB2.of a6)
    have pq2 := (nx_le (B := B) r1.1).1
    refine ⟨TC T v, N, _, _, _, _, _, by omega, rfl, rfl, ⟨(s_rowT r3 ht (by omega)).fldJ (by decide), ht, ?_, hN, ?_, ?_, ?_, ?_, ?_, ?_, hsh⟩, ?_, ?_⟩
    · obtain ⟨a1, a2, a3, a4, a5, a6, a7, a8, a9, a10, a11⟩ := hT
      exact ⟨a1, a2, a3, a4, v100, a6, a7, a8, a9, a10.cg rfl (fun _ => rfl) (fun _ => rfl), a11⟩
    · obtain ⟨a1, a2, a3, a4, a5, a6, a7, a8, a9, a10, a11, a12⟩ := hX3
      have k : ∀ x, x ≠ tl → up2 I3 tl 10 (nI v) x = I3 x := fun x hx => upRow _ _ hx
      have k2 : ∀ j, j ≠ 10 → up2 I3 tl 10 (nI v) tl j = I3 tl j := fun j hj => by rw [up2_at, if_neg (by omega)]
      have hf := a10.cg (T' := TC T v) rfl (fun _ => rfl) (fun _ => rfl)
      unfold DX XSize XForm at *
      rw [k2 0 (by omega), k2 1 (by omega), k2 2 (by omega), up2_eq, k (tl + 1) (by omega), k (tl + 3) (by omega), k (tl + 4) (by omega), k (tl + 5) (by omega), k (tl + 6) (by omega), k (tl + 7) (by omega), k (tl + 9) (by omega), k (tl + 11) (by omega), k (tl + 12) (by omega), k (tl + 13) (by omega), k (tl + 15) (by omega), k (tl + 19) (by omega), k (tl + 19 + 1) (by omega), datd_cg (T := T) (T' := TC T v) rfl (fun _ => rfl) (fun _ => rfl)]
      exact ⟨a1, a2, rfl, a4, a5, a6, a7, a8, a9, hf, a11, a12⟩
    · obtain ⟨a1, a2, a3, a4, a5, a6, a7, a8, a9, a10, a11, a12, a13, a14, a15⟩ := hM3
      have k2 : ∀ j, j ≠ 51 → up2 J3 73 51 (nI v) 73 j = J3 73 j := fun j hj => by rw [up2_at, if_neg (by omega)]
      have k : ∀ x, x ≠ 73 → up2 J3 73 51 (nI v) x = J3 x := fun x hx => upRow _ _ hx
      unfold DM
      rw [k2 45 (by omega), k2 46 (by omega), k2 47 (by omega), k2 48 (by omega), k2 49 (by omega), k2 50 (by omega), k2 20 (by omega), k2 17 (by omega), up2_eq, k 76 (by omega), k 77 (by omega), k 83 (by omega), k 84 (by omega), k 85 (by omega), k 86 (by omega), k 87 (by omega), k 88 (by omega), k 89 (by omega), k 90 (by omega)]
      exact ⟨a1, a2, a3, a4, a5, a6, a7, a8, a9, rfl, a11, a12, a13, a14, a15⟩
    · rw [upRow _ _ (by rcases ht with e | e <;> omega), a5.1 6 (by decide), up2_at, if_neg (by decide), g1.1 48 (by decide)]; exact f6
    · rw [upRow _ _ (by rcases ht with e | e <;> omega), a5.1 7 (by decide), up2_eq]
    · rw [up2_at, if_neg (by decide), (XB2.of a6).2.1 61 (by decide), (XB2.of g2).2.1 61 (by decide), up2_at, if_neg (by decide)]; exact m61
    · rw [up2_at, if_neg (by decide), (XB2.of a6).2.1 62 (by decide), (XB2.of g2).2.1 62 (by decide), up2_eq]
    · exact f0.trans ((FXr.of (XA2.ofN a5)).trans (FXr.rowT ht (by omega)))
    · exact fm0.trans ((FMr.of (XB2.of a6)).trans (FMr.fld (by unfold kp73; omega)))
  · right
    rw [a1, a2]
    simp only [Option.bind_some]
    rw [if_pos (show b2i false = 0 by decide)]
    have hbd := s_bd r1' (f := nF B n (nx B n p)) nF_r.1 nF_r.2
    refine ⟨_, _, _, _, rfl, rfl, f0.trans (FXr.of (XA2.rf _)), fm0.trans ((FMr.of (XB2.rf _)).trans (FMr.fld (by unfold kp73; omega))), hbd.fr rfl rfl (by rw [up2_at, if_neg (by decide)]) (by rw [up2_at, if_neg (by decide)])⟩
def TZ (T : Nat → Nat → Nat) (w d : Nat) : Nat → Nat → Nat := up2 (up2 T 0 0 w) 0 1 d
set_option maxHeartbeats 4000000 in
theorem ln_size {I1 : HI} {L1 : HL} (h : Rel B n tl T N sh cl p I L J M) (hk : kd B n p = 0) (hD0 : tnD T = 0) (hL0 : tnL T = 0) (hP0 : tnP T = 0) (hW0 : ∀ c, isW T c = false) (ha : fX9_advance I L = some (I1, L1)) : LnOut B n tl sh cl p I L J M (fX6_readSize tl I1 L1) (Option.bind (fX12_told (1936292453 : Int64) (1 : Int32) (8 : Int32) (up2 J 73 59 (b2i true)) M) fun q42 => Option.bind (fX12_told (25209 : Int64) (1 : Int32) (8 : Int32) (up2 q42.2.1 73 45 q42.1) q42.2.2) fun q44 => some (up2 q44.2.1 73 46 q44.1, q44.2.2)) := by
  obtain ⟨r0, ht, hT, hN, hX, hM, f6, f7, m61, m62, hsh⟩ := h
  have r0' : RT2 B n p I L (up2 J 73 59 (b2i true)) M := r0.fldJ (by decide)
  have hM0 : DM T N (up2 J 73 59 (b2i true)) M := hM.fr (fun j hj => by rw [up2_at, if_neg (by omega)]) (fun a ha => upRow _ _ (by omega)) (fun _ _ => rfl) (fun _ _ => rfl)
  obtain ⟨I1', L1', J1, M1, b1, b2, r1, g1, g2⟩ := r0'.step (by omega)
  rw [ha] at b1
  cases b1
  have pq := nx_lt (B := B) r0.1 (by omega)
  have hX1 := hX.fa ht (XA2.of g1)
  have hM1 := hM0.fb (XB2.of g2)
  have wt : fX12_told (1936292453 : Int64) (1 : Int32) (8 : Int32) (up2 J 73 59 (b2i true)) M = fX12_toldNumber (1 : Int32) (8 : Int32) J1 M1 := by
    unfold fX12_told
    rw [want_tok r0' (w := 0) (by decide) (by decide) hk, b2, Option.bind_some]
    simp only
    cases fX12_toldNumber (1 : Int32) (8 : Int32) J1 M1 with
    | none => rfl
    | some x => rfl
  unfold fX6_readSize
  rw [wt]
  have fm0 : FMr J J1 M M1 := (FMr.fld (by unfold kp73; omega)).trans (FMr.of (XB2.of g2))
  have sn := s_num r1 (a := 1) (b := 8) (by decide) (by decide)
  rw [show nI 1 = (1 : Int32) from rfl, show nI 8 = (8 : Int32) from rfl] at sn
  rcases sn with ⟨c, I3, L3, J3, M3, a1, a2, r3, a4, a5, a6⟩ | ⟨c, a1, u, a2⟩
  · rw [a1, a2]
    simp only [Option.bind_some]
    rw [if_neg (show ¬ b2i true = 0 by decide), a4]
    have wr : 1 ≤ vl B n (nx B n p) ∧ vl B n (nx B n p) ≤ 8 := c.2
    generalize vl B n (nx B n p) = w at *
    have hX3 := hX1.fa ht (XA2.ofN a5)
    have hM3 := hM1.fb (XB2.of a6)
    have pq2 := (nx_le (B := B) r1.1).1
    have r3' : RT2 B n (nx B n (nx B n p)) I3 L3 (up2 J3 73 45 (nI w)) M3 := r3.fldJ (by decide)
    have st := s_told r3' (w := 1) (v := 25209) (a := 1) (b := 8) (by decide) (by decide) (by decide) (by decide)
    rw [show nI 1 = (1 : Int32) from rfl, show nI 8 = (8 : Int32) from rfl] at st
    have fm3 : FMr J (up2 J3 73 45 (nI w)) M M3 := fm0.trans ((FMr.of (XB2.of a6)).trans (FMr.fld (by unfold kp73; omega)))
    have fx3 : XA2 I I3 L L3 := (XA2.of g1).trans (XA2.ofN a5)
    rcases st with ⟨k6, n6, I6, L6, I7, L7, J7, M7, t1, t2, t3, r7, t5, t6, t7, t8, t9⟩ | ⟨u, J7, M7, t3, t7, hh⟩
    · left
      rw [t1]
      simp only [Option.bind_some]
      rw [if_neg (show ¬ b2i true = 0 by decide), t2, t3]
      simp only [Option.bind_some]
      rw [if_neg (show ¬ b2i true = 0 by decide), t5, obn_eq]
      have dr : 1 ≤ vl B n (nx B n (nx B n (nx B n p))) ∧ vl B n (nx B n (nx B n (nx B n p))) ≤ 8 := n6.2
      have pq3 := (nx_le (B := B) r3.1).1
      have pq4 := (nx_le (B := B) (nx_le (B := B) r3.1).2).1
      generalize vl B n (nx B n (nx B n (nx B n p))) = d at *
      have hX7 := hX3.fa ht (XA2.ofN t6)
      have e5 : fX5_setSize tl (nI w) (nI d) I7 = up2 (up2 (up2 I7 tl 0 (nI w)) tl 1 (nI d)) tl 2 (nI (w * d)) := by
        unfold fX5_setSize
        rw [pk_mul]
      rw [e5]
      refine ⟨TZ T w d, N, nx B n (nx B n (nx B n (nx B n p))), _, _, _, _, by omega, rfl, rfl, ⟨(s_rowT (s_rowT (s_rowT r7 ht (by omega)) ht (by omega)) ht (by omega)).fldJ (by decide), ht, ?_, ?_, ?_, ?_, ?_, ?_, ?_, ?_, hsh⟩, ?_, ?_⟩
      · obtain ⟨a1, a2, a3, a4, a5, a6, a7, a8, a9, a10, a11⟩ := hT
        refine ⟨⟨wr.1, wr.2, dr.1, dr.2⟩, a2, a3, a4, a5, a6, ?_, ?_, ?_, a10.cg rfl (fun _ => rfl) (fun _ => rfl), ?_⟩
        · intro i hi
          have : i < tnD T := hi
          omega
        · intro i hi
          have : i < tnL T := hi
          omega
        · intro i hi
          have : i < tnP T := hi
          omega
        · intro c hc
          have : isW T c = true := hc
          rw [hW0 c] at this
          cases this
      · exact hN
      · obtain ⟨a1, a2, a3, a4, a5, a6, a7, a8, a9, a10, a11, a12⟩ := hX7
        have k : ∀ x, x ≠ tl → up2 (up2 (up2 I7 tl 0 (nI w)) tl 1 (nI d)) tl 2 (nI (w * d)) x = I7 x := fun x hx => by rw [upRow _ _ hx, upRow _ _ hx, upRow _ _ hx]
        have hf := a10.cg (T' := TZ T w d) rfl (fun _ => rfl) (fun _ => rfl)
        have s0 : up2 (up2 (up2 I7 tl 0 (nI w)) tl 1 (nI d)) tl 2 (nI (w * d)) tl 0 = nI w := by simp [up2_at]
        have s1 : up2 (up2 (up2 I7 tl 0 (nI w)) tl 1 (nI d)) tl 2 (nI (w * d)) tl 1 = nI d := by simp [up2_at]
        have s2 : up2 (up2 (up2 I7 tl 0 (nI w)) tl 1 (nI d)) tl 2 (nI (w * d)) tl 2 = nI (w * d) := by simp [up2_at]
        have s10 : up2 (up2 (up2 I7 tl 0 (nI w)) tl 1 (nI d)) tl 2 (nI (w * d)) tl 10 = I7 tl 10 := by simp [up2_at]
        unfold DX XSize XForm at *
        rw [s0, s1, s2, s10, k (tl + 1) (by omega), k (tl + 3) (by omega), k (tl + 4) (by omega), k (tl + 5) (by omega), k (tl + 6) (by omega), k (tl + 7) (by omega), k (tl + 9) (by omega), k (tl + 11) (by omega), k (tl + 12) (by omega), k (tl + 13) (by omega), k (tl + 15) (by omega), k (tl + 19) (by omega), k (tl + 19 + 1) (by omega), datd_cg (T := T) (T' := TZ T w d) rfl (fun _ => rfl) (fun _ => rfl)]
        exact ⟨⟨rfl, rfl, rfl⟩, a2, a3, a4, a5, a6, a7, a8, a9, hf, a11, a12⟩
      · obtain ⟨a1, a2, a3, a4, a5, a6, a7, a8, a9, a10, a11, a12, a13, a14, a15⟩ := hM3
        have k2 : ∀ j, j = 17 ∨ j = 20 ∨ (47 ≤ j ∧ j ≤ 51) → up2 J7 73 46 (nI d) 73 j = J3 73 j := fun j hj => by rw [up2_at, if_neg (by omega), t7.2.1 j (by omega), up2_at, if_neg (by omega)]
        have k : ∀ x, x ≠ 73 → up2 J7 73 46 (nI d) x = J3 x := fun x hx => by rw [upRow _ _ hx, t7.1 x hx, upRow _ _ hx]
        have k45 : up2 J7 73 46 (nI d) 73 45 = nI w := by rw [up2_at, if_neg (by decide), t7.2.1 45 (by decide), up2_eq]
        unfold DM
        rw [k45, up2_eq, k2 47 (by omega), k2 48 (by omega), k2 49 (by omega), k2 50 (by omega), k2 51 (by omega), k2 20 (by omega), k2 17 (by omega), k 76 (by omega), k 77 (by omega), k 83 (by omega), k 84 (by omega), k 85 (by omega), k 86 (by omega), k 87 (by omega), k 88 (by omega), k 89 (by omega), k 90 (by omega), t7.2.2.2 41 (by decide), t7.2.2.2 42 (by decide), t7.2.2.2 43 (by decide), t7.2.2.1 75 (by decide)]
        exact ⟨rfl, rfl, a3, a4, a5, a6, a7, a8, a9, a10, a11, a12, a13, a14, a15⟩
      · rw [upRow _ _ (by rcases ht with e | e <;> omega), upRow _ _ (by rcases ht with e | e <;> omega), upRow _ _ (by rcases ht with e | e <;> omega), t6.1 6 (by decide), fx3.2.1 6 (by decide)]; exact f6
      · rw [upRow _ _ (by rcases ht with e | e <;> omega), upRow _ _ (by rcases ht with e | e <;> omega), upRow _ _ (by rcases ht with e | e <;> omega), t6.1 7 (by decide), fx3.2.1 7 (by decide)]; exact f7
      · rw [up2_at, if_neg (by decide), t7.2.1 61 (by decide), up2_at, if_neg (by decide), (XB2.of a6).2.1 61 (by decide), (XB2.of g2).2.1 61 (by decide), up2_at, if_neg (by decide)]; exact m61
      · rw [up2_at, if_neg (by decide), t7.2.1 62 (by decide), up2_at, if_neg (by decide), (XB2.of a6).2.1 62 (by decide), (XB2.of g2).2.1 62 (by decide), up2_at, if_neg (by decide)]; exact m62
      · exact (FXr.of (fx3.trans (XA2.ofN t6))).trans ((FXr.rowT ht (by omega)).trans ((FXr.rowT ht (by omega)).trans (FXr.rowT ht (by omega))))
      · exact fm3.trans ((FMr.of t7).trans (FMr.fld (by unfold kp73; omega)))
    · right
      rw [t3]
      simp only [Option.bind_some]
      rcases hh with ⟨I9, t1, t2, t4⟩ | ⟨I9, L9, I10, t1, t2, t4, t5⟩
      · rw [t1]
        simp only [Option.bind_some]
        rw [if_pos (show b2i false = 0 by decide)]
        exact ⟨_, _, _, _, rfl, rfl, FXr.of (fx3.trans t2), fm3.trans ((FMr.of t7).trans (FMr.fld (by unfold kp73; omega))), t4.fr rfl rfl (by rw [up2_at, if_neg (by decide)]) (by rw [up2_at, if_neg (by decide)])⟩
      · rw [t1]
        simp only [Option.bind_some]
        rw [if_neg (show ¬ b2i true = 0 by decide), t2]
        simp only [Option.bind_some]
        rw [if_pos (show b2i false = 0 by decide)]
        exact ⟨_, _, _, _, rfl, rfl, FXr.of (fx3.trans t4), fm3.trans ((FMr.of t7).trans (FMr.fld (by unfold kp73; omega))), t5.fr rfl rfl (by rw [up2_at, if_neg (by decide)]) (by rw [up2_at, if_neg (by decide)])⟩
  · right
    have hbd : Bd2 (rfX B n (nx B n p) (nF B n (nx B n p)) I1) (up2 (rfM B n (nx B n p) (nF B n (nx B n p)) J1) 73 45 u) := (s_bd r1 nF_r.1 nF_r.2).fr rfl rfl (by rw [up2_at, if_neg (by decide)]) (by rw [up2_at, if_neg (by decide)])
    rw [a1, a2]
    simp only [Option.bind_some]
    rw [if_pos (show b2i false = 0 by decide), m_told_bad hbd.m]
    simp only [Option.bind_some]
    exact ⟨_, _, _, _, rfl, rfl, FXr.of ((XA2.of g1).trans (XA2.rf _)), fm0.trans ((FMr.of (XB2.rf _)).trans ((FMr.fld (by unfold kp73; omega)).trans (FMr.fld (by unfold kp73; omega)))), hbd.fr rfl rfl (by rw [up2_at, if_neg (by decide)]) (by rw [up2_at, if_neg (by decide)])⟩
end LN7
