section RO3
variable {T : Nat → Nat → Nat} {q : Nat} {st : Nat → Nat → Nat} {a u : Nat} {I : HI} {L : HL} {N : Nat → Nat}
theorem m_r11 (hO : TOk T) : ∀ (m c fu : Nat) (I : HI), c + m = tC T → m < fu → MTown T I L → ∃ I', fX12_layRooms_11 fu (nI c) I L = some I' ∧ (∀ b, b ≠ 105 → I' b = I b) ∧ ∀ e, I' 105 e = if c ≤ e ∧ e < tC T then (if isW T e = false then nI e else -1) else I 105 e := by
  have hC := tC_le hO.1
  intro m
  induction m with
  | zero =>
    intro c fu I hc hf hM
    obtain ⟨f, rfl⟩ : ∃ f, fu = f + 1 := ⟨fu - 1, by omega⟩
    rw [fX12_layRooms_11, m_size hM.1, if_pos (nI_le (by omega) (by omega))]
    exact ⟨I, rfl, fun _ _ => rfl, fun e => by rw [if_neg (show ¬ (c ≤ e ∧ e < tC T) by omega)]⟩
  | succ m ih =>
    intro c fu I hc hf hM
    obtain ⟨f, rfl⟩ : ∃ f, fu = f + 1 := ⟨fu - 1, by omega⟩
    have hc4 : c < tC T := by omega
    rw [fX12_layRooms_11, m_size hM.1, if_neg (nI_ge hc4 (by omega)), has_hb _ (show c < 64 by omega), hM.1.2.2 c (by omega), nI_1]
    simp only [if_pos (inb_nI (show c < 64 by omega) (show 64 < 2 ^ 31 by decide)), clamp_nI (show c < 2 ^ 31 by omega), b2i_eq0]
    have go : ∀ v : Int32, v = (if isW T c = false then nI c else -1) → ∃ I', fX12_layRooms_11 f (nI (c + 1)) (up2 I 105 c v) L = some I' ∧ (∀ b, b ≠ 105 → I' b = I b) ∧ ∀ e, I' 105 e = if c ≤ e ∧ e < tC T then (if isW T e = false then nI e else -1) else I 105 e := by
      intro v hv
      obtain ⟨I', e1, f1, w1⟩ := ih (c + 1) f (up2 I 105 c v) (by omega) (by omega) (hM.f105 (fun b hb => upRow _ _ hb))
      refine ⟨I', e1, fun b hb => by rw [f1 b hb, upRow _ _ hb], fun e => ?_⟩
      rw [w1 e, up2_at]
      by_cases hec : e = c
      · subst hec
        rw [if_neg (show ¬ (e + 1 ≤ e ∧ e < tC T) by omega), if_pos ⟨rfl, rfl⟩, if_pos (show e ≤ e ∧ e < tC T by omega), hv]
      · rw [if_neg (show ¬ (105 = 105 ∧ e = c) from fun g => hec g.2)]
        by_cases h2 : c + 1 ≤ e ∧ e < tC T
        · rw [if_pos h2, if_pos (show c ≤ e ∧ e < tC T by omega)]
        · rw [if_neg h2, if_neg (show ¬ (c ≤ e ∧ e < tC T) by omega)]
    cases hw : isW T c with
    | false =>
      rw [if_pos rfl]
      exact go _ (by rw [hw, if_pos rfl])
    | true =>
      rw [if_neg (by decide)]
      exact go _ (by rw [hw, if_neg (by decide)])
/-- both kinds of edges join the same -/
theorem E_mv (hO : TOk T) {n c e : Nat} : conn (Efin T N n) c e ↔ conn (mvE T N n) c e := by
  constructor
  · refine conn_mono (fun x y h => ?_)
    have hg := Efin_grd hO h
    rcases h with h | ⟨d, h1, h2, h3, h4⟩
    · exact conn_edge ⟨h.1, Or.inl (Or.inr ⟨h.2.2.2, h.2.1.2⟩)⟩
    · exact conn_edge ⟨hg.1, Or.inr ⟨d, h1, h2, Or.inr ⟨h3.symm, Or.inl h4⟩⟩⟩
  · refine conn_mono (fun x y h => ?_)
    obtain ⟨gx, hm⟩ := h
    have gy := mv_grd hO gx hm
    rcases hm with (h | h) | ⟨d, h1, h2, ⟨h3, h4⟩ | ⟨h3, h4 | ⟨f, h5, h6, ⟨z, _, z1, z2⟩, h8⟩⟩⟩
    · subst h; exact conn_refl _
    · by_cases hlt : y < x
      · exact conn_edge (Or.inl ⟨gx, gy, hlt, h.1⟩)
      · by_cases heq : x = y
        · subst heq; exact conn_refl _
        · exact conn_symm (conn_edge (Or.inl ⟨gy, gx, by omega, (nbr_symm hO.1 gx.1 gy.1).mp h.1⟩))
    · exact conn_symm (conn_edge (Or.inr ⟨d, h1, h2, h4, h3⟩))
    · exact conn_edge (Or.inr ⟨d, h1, h2, h3.symm, h4⟩)
    · exact conn_trans (conn_edge (Or.inr ⟨d, h1, h2, h3.symm, z2⟩)) (conn_symm (conn_edge (Or.inr ⟨f, h5, h6, h8, z1⟩)))
theorem Inv.f105 {J : HI} (h : Inv T q st a u I L) (hr : ∀ b, b ≠ 105 → J b = I b) : Inv T q st a u J L := by
  refine h.gen (fun b hb => hr b (by unfold base at hb; rcases h.2.1 with h | h <;> omega)) (by rw [hr 0 (by decide)]) (fun j hj => by rw [hr 73 (by decide)]) (fun _ _ => rfl) (h.sky.fr (hr 57 (by decide)) (hr 59 (by decide)) rfl rfl) (h.box.fr (by rw [hr 0 (by decide)]) (hr 114 (by decide)) (hr 115 (by decide)) rfl) (h.way.fr (by rw [hr 61 (by decide)]) (hr 62 (by decide)) (hr 103 (by decide)) (by rw [hr 73 (by decide)])) (h.look.fr (fun j _ => by rw [hr 66 (by decide)]) (fun b _ _ => hr b (by omega)) (fun b _ _ => hr b (by omega)) (by rw [hr 73 (by decide)]) (by rw [hr 73 (by decide)]))
theorem m_layRooms (h : Inv T q st a u I L) {n : Nat} (hn : n ≤ 48) : ∃ I' L' r, fX12_layRooms (nI n) I L = some (I', L') ∧ Inv T q st a u I' L' ∧ RP T (st a) n r ∧ (∀ c, grd T c → I' 105 c = nI (r c)) ∧ ∀ c, c < tC T → isW T c = true → I' 105 c = -1 := by
  obtain ⟨mf, hmf⟩ := fuel_at 1000 (by decide)
  have hO := h.1
  have hC := tC_le hO.1
  have h8 := hO.2.1
  obtain ⟨b1, b2, b3⟩ := ShS h.rng
  obtain ⟨I1, e1, a1, i1⟩ := h.load (n := n) (by omega)
  obtain ⟨I2, L2, e2, f2, g2, sh2⟩ := m_layShadows hO i1.2.2.2.1 a1 (Nat.mod_lt _ (by decide)) b3 (by decide)
  have i2 := i1.fm (FM.of81 f2 (fun b h1 _ => g2 b h1))
  have a2 := FM.aim (L := L) (M := L) a1 (f2 73 (by decide) (by decide))
  obtain ⟨I3, e3, f3, v3⟩ := m_r11 (L := L2) hO (tC T) 0 FUEL I2 (by omega) (by omega) i2.2.2.2.1
  have i3 := i2.f105 f3
  have rs0 : RS T (st a) n (fun _ _ => False) I3 := by
    refine ⟨fun c => c, fun _ _ => False, ⟨fun c hc => ?_, fun c hc hw => ?_, fun _ _ g => g.elim, fun c e _ _ g => ?_, fun c hc => ⟨Nat.le_refl _, hc, rfl⟩⟩, fun _ _ g => g.elim, fun _ _ g => g.elim⟩
    · rw [v3 c, if_pos ⟨Nat.zero_le _, hc.1⟩, if_pos hc.2]
    · rw [v3 c, if_pos ⟨Nat.zero_le _, hc⟩, if_neg (by rw [hw]; decide)]
    · have : c = e := g
      subst this; exact conn_refl c
  obtain ⟨I4, e4, f4, rs4⟩ := m_r54 (L := L2) hO (tC T) 0 FUEL I3 _ (by omega) (by omega) i3.2.2.2.1 rs0
  have i4 := i3.f105 f4
  have a4 : MAim ((st a 8 + n) % 24) ((st a 8 + n) / 24) (st a 5) (st a 6) 0 (decide (st a 7 = 1)) I4 := FM.aim (L := L) (M := L) a2 (by rw [f4 73 (by decide), f3 73 (by decide)])
  obtain ⟨I5, e5, f5, rs5⟩ := m_r117 (L := L2) hO h.rng sh2 (tnD T) 0 FUEL I4 _ (by omega) (by omega) i4.2.2.2.1 a4 rs4
  have i5 := i4.f105 f5
  obtain ⟨r, E, ⟨w1, w2, A, B, C⟩, hE, hD⟩ := rs5
  have hcE : ∀ c e, conn E c e ↔ conn (Efin T (st a) n) c e := by
    intro c e
    constructor
    · exact conn_mono (fun x y g => conn_edge (hE x y g))
    · refine conn_mono (fun x y g => ?_)
      rcases g with g | ⟨d, g1, g2, g3, g4⟩
      · exact hD x y (Or.inl (Or.inr ⟨Nat.zero_le _, g.2.2.1, g.1, g.2.1, g.2.2.2⟩))
      · exact hD x y (Or.inr ⟨d, Nat.zero_le _, g1, g2, g3, g4⟩)
  refine ⟨I5, L2, r, ?_, i5, fun c hc => ?_, w1, w2⟩
  · unfold fX12_layRooms
    rw [e1]
    simp only [Option.bind_some]
    rw [e2]
    simp only [Option.bind_some]
    rw [show fX12_layRooms_11 FUEL 0 I2 L2 = _ from e3]
    simp only [Option.bind_some]
    rw [show fX12_layRooms_54 FUEL 0 I3 L2 = _ from e4]
    simp only [Option.bind_some]
    rw [show fX12_layRooms_117 FUEL 0 I4 L2 = _ from e5]
    rfl
  · obtain ⟨c1, c2, c3⟩ := C c hc
    refine ⟨c1, c2, c3, fun e he => ?_⟩
    rw [← E_mv hO, ← hcE]
    exact ⟨fun g => B c e hc he g, fun g => g (fun x y => r x = r y) (fun _ => rfl) (fun _ _ g => g.symm) (fun _ _ _ g1 g2 => g1.trans g2) A⟩
theorem m_rmL (hO : TOk T) {r : Nat → Nat} (hM : MTown T I L) (w1 : ∀ c, grd T c → I 105 c = nI (r c)) (w2 : ∀ c, c < tC T → isW T c = true → I 105 c = -1) (hr : ∀ c, grd T c → r c < 64) : ∀ (m c fu b : Nat), c + m = tC T → m < fu → fX12_rooms_18 fu (nI b) (nI c) I L = some (nI (b + (fb_ct (fun c => decide (c < tC T) && !isW T c && decide (r c = c)) (tC T) - fb_ct (fun c => decide (c < tC T) && !isW T c && decide (r c = c)) c))) := by
  have hC := tC_le hO.1
  intro m
  induction m with
  | zero =>
    intro c fu b hc hf
    obtain ⟨f, rfl⟩ : ∃ f, fu = f + 1 := ⟨fu - 1, by omega⟩
    have : c = tC T := by omega
    subst this
    rw [fX12_rooms_18, m_size hM.1, if_pos (nI_le (Nat.le_refl _) (by omega)), Nat.sub_self, Nat.add_zero]
  | succ m ih =>
    intro c fu b hc hf
    obtain ⟨f, rfl⟩ : ∃ f, fu = f + 1 := ⟨fu - 1, by omega⟩
    have hc4 : c < tC T := by omega
    have hmono := fb_ct_mono (fun c => decide (c < tC T) && !isW T c && decide (r c = c)) (show c + 1 ≤ tC T by omega)
    have hsucc := fb_ct_succ (fun c => decide (c < tC T) && !isW T c && decide (r c = c)) c
    rw [fX12_rooms_18, m_size hM.1, if_neg (nI_ge hc4 (by omega)), nI_1]
    simp only [if_pos (inb_nI (show c < 64 by omega) (show 64 < 2 ^ 31 by decide)), clamp_nI (show c < 2 ^ 31 by omega)]
    have hiff : (I 105 c = nI c) ↔ (decide (c < tC T) && !isW T c && decide (r c = c)) = true := by
      rw [decide_eq_true hc4, Bool.true_and]
      cases hw : isW T c with
      | true =>
        rw [w2 c hc4 hw]
        constructor
        · intro g
          have := congrArg Int32.toInt g
          rw [nI_toInt (by omega)] at this
          have e : (-1 : Int32).toInt = -1 := rfl
          omega
        · intro g; simp at g
      | false =>
        have hg : grd T c := ⟨hc4, hw⟩
        rw [w1 c hg, nI_eq (by have := hr c hg; omega) (by omega)]
        simp
    by_cases hin : I 105 c = nI c
    · rw [if_pos hin]
      have h1 : (decide (c < tC T) && !isW T c && decide (r c = c)) = true := hiff.mp hin
      rw [h1] at hsucc
      simp only [Option.bind_some, truth_b, if_true] at hsucc ⊢
      rw [nI_1, ih (c + 1) f (b + 1) (by omega) (by omega)]
      congr 2
      omega
    · rw [if_neg hin]
      have h1 : (decide (c < tC T) && !isW T c && decide (r c = c)) = false := by
        cases hh : (decide (c < tC T) && !isW T c && decide (r c = c)) with
        | false => rfl
        | true => exact absurd (hiff.mpr hh) hin
      rw [h1] at hsucc
      simp only [Option.bind_some, truth_b, Bool.false_eq_true, if_false, Int32.add_zero] at hsucc ⊢
      rw [ih (c + 1) f b (by omega) (by omega)]
      congr 2
      omega
theorem c_rooms (h : Inv T q st a u I L) (v : Int32) : ∃ r I1 L1 I2 L2, fX11_rooms q v I L = some (r, I1, L1) ∧ fX12_rooms v I1 L1 = some (r, I2, L2) ∧ Inv T q st a u I2 L2 := by
  obtain ⟨mf, hmf⟩ := fuel_at 1000 (by decide)
  have hO := h.1
  have hC := tC_le hO.1
  unfold fX11_rooms fX12_rooms
  rcases g_far v with ⟨n, n1, n2, n3, n4⟩ | ⟨n1, n2⟩
  · subst n2
    obtain ⟨I1, L1, e1, s1, f1, i1⟩ := h.aim
    have hgs : GS T (L1 q 4) := by
      intro c hc
      have c64 := hb_64 hc
      rw [i1.2.2.1.2.1.2 c c64] at hc
      simp only [Bool.and_eq_true, decide_eq_true_eq, Bool.not_eq_true'] at hc
      exact hc
    obtain ⟨k, I2, L2, e2, hk, s2, i2⟩ := x_cjL n1 64 0 FUEL (L1 q 4) I1 L1 (by omega) (by omega) hgs (fun c e gc ge _ => by
      rw [i1.2.2.1.2.1.2 c (grd_64 hO gc), i1.2.2.1.2.1.2 e (grd_64 hO ge), decide_eq_true gc.1, decide_eq_true ge.1, gc.2, ge.2]) i1 s1
    obtain ⟨I3, L3, r, e3, i3, hr, w1, w2⟩ := m_layRooms i2 n1
    have e4 := m_rmL (r := r) hO i3.2.2.2.1 w1 w2 (fun c hc => grd_64 hO (hr c hc).2.1) (tC T) 0 FUEL 0 (by omega) (by omega)
    have hk0 := hk r hr (fb_ct_le _ _)
    have hkk : k = fb_ct (fun c => decide (c < tC T) && !isW T c && decide (r c = c)) (tC T) := by
      rw [hk0, Nat.zero_add, fb_tC2 hO (p := fun c => decide (c < tC T) && !isW T c && decide (r c = c)) (fun c hc => by
        simp only [Bool.and_eq_true, decide_eq_true_eq] at hc
        exact hc.1.1)]
      unfold crep
      exact fb_ct_cong (fun c hc => by rw [i1.2.2.1.2.1.2 c hc])
    refine ⟨nI k, I2, L2, I3, L3, ?_, ?_, i3⟩
    · rw [n3, e1]
      simp only [b2i_eq0, Bool.true_eq_false, if_false, Option.bind_some]
      unfold fX10_countJoined
      rw [show fX10_countJoined_17 q FUEL (nI n) (L1 q 4) 0 0 I1 L1 = _ from e2]
      rfl
    · rw [n4, e3]
      simp only [b2i_eq0, Bool.true_eq_false, if_false, Option.bind_some]
      rw [show fX12_rooms_18 FUEL 0 0 I3 L3 = _ from e4]
      simp only [Option.bind_some]
      rw [hkk, show fb_ct (fun c => decide (c < tC T) && !isW T c && decide (r c = c)) 0 = 0 from rfl, Nat.sub_zero, Nat.zero_add]
  · rw [n1]
    exact ⟨_, I, L, I, L, rfl, by rw [n2]; rfl, h⟩
theorem c_hears (h : Inv T q st a u I L) (v w x : Int32) : ∃ r I1 L1 I2 L2, fX11_hears q q v w x I L = some (r, I1, L1) ∧ fX12_hears v w x I1 L1 = some (r, I2, L2) ∧ Inv T q st a u I2 L2 := by
  have hO := h.1
  have hC := tC_le hO.1
  unfold fX11_hears fX12_hears
  rcases g_free h.1.1 h.2.2.1.1 h.2.2.1.2.1.2 h.2.2.2.1.1 v with ⟨c, c1, c2, c3, c4⟩ | ⟨c1, c2⟩
  · rcases g_free h.1.1 h.2.2.1.1 h.2.2.1.2.1.2 h.2.2.2.1.1 w with ⟨d, d1, d2, d3, d4⟩ | ⟨d1, d2⟩
    · rcases g_far x with ⟨n, n1, n2, n3, n4⟩ | ⟨n1, n2⟩
      · subst c2
        subst d2
        subst n2
        have c64 := grd_64 hO c1
        have d64 := grd_64 hO d1
        obtain ⟨I1, L1, e1, s1, f1, i1⟩ := h.aim
        obtain ⟨J, I2, L2, e2, j2, jg, s2, i2⟩ := x_joined i1 s1 n1 c1
        obtain ⟨I3, L3, r, e3, i3, hr, w1, w2⟩ := m_layRooms i2 n1
        have fr : ∀ z, fX12_isFree z I2 L2 = fX12_isFree z I L := fun z => isFree_same h.2.2.2.1.1 i2.2.2.2.1.1 z
        have hiff : (hb J d = true) ↔ r c = r d := by rw [j2 d d1, (hr c c1).2.2.2 d d1]
        have heq : (I3 105 c = I3 105 d) ↔ r c = r d := by
          rw [w1 c c1, w1 d d1]
          exact nI_eq (by have := grd_64 hO (hr c c1).2.1; omega) (by have := grd_64 hO (hr d d1).2.1; omega)
        refine ⟨if r c = r d then 1 else 0, I2, L2, I3, L3, ?_, ?_, i3⟩
        · rw [c3, d3, n3, e1]
          simp only [b2i_eq0, Bool.true_eq_false, if_false, Option.bind_some, Bool.false_eq_true]
          rw [show (1 : Int64) <<< ((nI c).toInt64 &&& 63) = oneI c from rfl, e2]
          simp only [Option.bind_some, ushr1_0 _ d64]
          by_cases hj : r c = r d
          · rw [hiff.mpr hj, if_neg (by decide), if_pos hj]
          · have : hb J d = false := by
              cases hh : hb J d with
              | false => rfl
              | true => exact absurd (hiff.mp hh) hj
            rw [this, if_pos rfl, if_neg hj]
        · rw [fr, fr, c4, d4, n4, e3]
          simp only [b2i_eq0, Bool.true_eq_false, if_false, Option.bind_some, Bool.false_eq_true, if_pos (inb_nI c64 (show 64 < 2 ^ 31 by decide)), if_pos (inb_nI d64 (show 64 < 2 ^ 31 by decide)), clamp_nI (show c < 2 ^ 31 by omega), clamp_nI (show d < 2 ^ 31 by omega)]
          by_cases hj : r c = r d
          · rw [if_pos (heq.mpr hj), if_pos hj]; rfl
          · rw [if_neg (fun g => hj (heq.mp g)), if_neg hj]; rfl
      · rw [c3, d3, n1]
        exact ⟨_, I, L, I, L, rfl, by rw [c4, d4, n2]; rfl, h⟩
    · rw [c3, d1]
      exact ⟨_, I, L, I, L, rfl, by rw [c4, d2]; rfl, h⟩
  · rw [c1]
    exact ⟨_, I, L, I, L, rfl, by rw [c2]; rfl, h⟩
end RO3
