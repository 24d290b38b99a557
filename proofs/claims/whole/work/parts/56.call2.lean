/-! the calls that look at shadows and moves -/
section C2
variable {T : Nat → Nat → Nat} {q : Nat} {st : Nat → Nat → Nat} {a u : Nat} {I : HI} {L : HL}
theorem hb_same {r s : Int64} {P : Nat → Prop} (h : ∀ c, c < 64 → (hb r c = true ↔ P c)) (g : ∀ c, c < 64 → (hb s c = true ↔ P c)) : r = s := by
  apply hb_ext
  intro c hc
  have h1 := h c hc
  have h2 := g c hc
  cases x : hb r c <;> cases y : hb s c <;> simp_all
/-- the sky as it is aimed at the present -/
def SkyNow (T : Nat → Nat → Nat) (N : Nat → Nat) (I : HI) (L : HL) : Prop := SkyAt T (N 8) (N 5) (N 6) 0 (decide (N 7 = 1)) I L
theorem SkyNow.ok {N : Nat → Nat} (h : SkyNow T N I L) (hN : NRng N) : SkyOk T I L := ⟨_, _, _, _, _, h, by have := hN.2.2.2.2.2.2.2.2; omega, by have := hN.2.2.2.2.2.2.1; omega, by decide⟩
theorem Inv.aim (h : Inv T q st a u I L) : ∃ I1 L1, fX7_aimAt I L = some (I1, L1) ∧ SkyNow T (st a) I1 L1 ∧ FX q I I1 L L1 ∧ Inv T q st a u I1 L1 := by
  obtain ⟨I1, L1, e, s, f, g⟩ := x_aim h.2.2.2.2.2.2.1 h.rng h.xnow
  have fx : FX q I I1 L L1 := ⟨fun b _ h2 _ _ => f b h2, fun b h2 _ => g b h2⟩
  exact ⟨I1, L1, e, s, fx, h.fx fx (SkyNow.ok s h.rng)⟩
theorem Inv.load (h : Inv T q st a u I L) {n : Nat} (hn : n ≤ 100) : ∃ I2, fX12_load (nI n) I = some I2 ∧ MAim ((st a 8 + n) % 24) ((st a 8 + n) / 24) (st a 5) (st a 6) 0 (decide (st a 7 = 1)) I2 ∧ Inv T q st a u I2 L := by
  obtain ⟨I2, e, a2, f⟩ := m_load (n := n) h.rng hn h.mnow
  exact ⟨I2, e, a2, h.fm (f L)⟩
theorem ShS {N : Nat → Nat} (hN : NRng N) : N 8 < 10000 ∧ N 5 < 2 ^ 31 ∧ N 6 < 2 ^ 31 := ⟨by have := hN.2.2.2.2.2.2.2.2; omega, by have := hN.2.2.2.2.2.1; omega, by have := hN.2.2.2.2.2.2.1; omega⟩
theorem x_shadowOf {d n s S O B : Nat} {K : Bool} (hO : TOk T) (hq : isQ2 q) (hX : XTown T q I L) (hs : s < 10000) (hn : n ≤ 48) (hd : d < tnD T) (hS : SkyAt T s S O B K I L) : ∃ r I' L', fX7_shadowOf q (nI d) (nI n) I L = some (r, I', L') ∧ (∀ c, c < 64 → (hb r c = true ↔ shdA T ((s + n) % 24) ((s + n) / 24) O B K d c)) ∧ FX q I I' L L' ∧ SkyAt T s S O B K I' L' := by
  obtain ⟨I1, L1, e1, f1, s1, n1, _⟩ := x_prepare hO hq hX hs hn hS
  have h8 := hO.2.1
  have ix : nI n * (8 : Int32) + nI d = nI (8 * n + d) := by
    rw [show (8 : Int32) = nI 8 from rfl, pk_mul, nI_add, Nat.mul_comm]
  unfold fX7_shadowOf
  rw [e1]
  simp only [Option.bind_some, ix, if_pos (inb_nI (show 8 * n + d < 392 by omega) (show 392 < 2 ^ 31 by decide)), clamp_nI (show 8 * n + d < 2 ^ 31 by omega)]
  exact ⟨_, I1, L1, rfl, fun c hc => n1.1 d hd c hc, f1, s1⟩
theorem x_openIn {n s S O B : Nat} {K : Bool} (hO : TOk T) (hq : isQ2 q) (hX : XTown T q I L) (hs : s < 10000) (hn : n ≤ 48) (hS : SkyAt T s S O B K I L) : ∃ r I' L', fX7_openIn q (nI n) I L = some (r, I', L') ∧ (∀ d, d < tnD T → bt r d = opnA T ((s + n) % 24) S d) ∧ FX q I I' L L' ∧ SkyAt T s S O B K I' L' := by
  obtain ⟨I1, L1, e1, f1, s1, n1, _⟩ := x_prepare hO hq hX hs hn hS
  have h8 := hO.2.1
  unfold fX7_openIn
  rw [e1]
  simp only [Option.bind_some, if_pos (inb_nI (show n < 49 by omega) (show 49 < 2 ^ 31 by decide)), clamp_nI (show n < 2 ^ 31 by omega)]
  refine ⟨_, I1, L1, rfl, fun d hd => ?_, f1, s1⟩
  rw [b_and, b_not _ (by omega), s1.2.1, bt_nI d (by omega), n1.2 d (by omega)]
  unfold opnA
  congr 1
  rw [decide_eq_decide]
  exact ⟨fun h => h.2, fun h => ⟨hd, h⟩⟩
theorem c_shadow (h : Inv T q st a u I L) (v w : Int32) : ∃ r I1 L1 I2, fX11_shadow q q v w I L = some (r, I1, L1) ∧ fX12_shadow v w I1 L1 = some (r, I2) ∧ Inv T q st a u I2 L1 := by
  have h8 := h.1.2.1
  obtain ⟨b1, b2, b3⟩ := ShS h.rng
  unfold fX11_shadow fX12_shadow fX12_isDoor
  rcases g_thing (t := q + 1) (j := 55) (J := I) h.2.2.1.2.2.2.2.1 h.2.2.2.1.2.2.1 (by omega) v with ⟨k, k1, k2, k3, k4⟩ | ⟨k1, k2⟩
  · rcases g_far w with ⟨n, n1, n2, n3, n4⟩ | ⟨n1, n2⟩
    · obtain ⟨I1, L1, e1, s1, f1, i1⟩ := h.aim
      obtain ⟨r, I2, L2, e2, r2, f2, s2⟩ := x_shadowOf h.1 h.2.1 i1.2.2.1 b1 n1 k1 s1
      have i2 := i1.fx f2 (SkyNow.ok s2 h.rng)
      obtain ⟨I3, e3, a3, i3⟩ := i2.load (n := n) (by omega)
      obtain ⟨r', I4, e4, r4, f4⟩ := m_shadowOf h.1 i3.2.2.2.1 a3 k1 (Nat.mod_lt _ (by decide)) b3 (by decide)
      have i4 := i3.fm (FM.of81 (L := L2) (L' := L2) f4 (fun _ _ _ => rfl))
      have er : r' = r := hb_same r4 r2
      have e55 : I2 73 55 = I 73 55 := by rw [i2.2.2.2.1.2.2.1, h.2.2.2.1.2.2.1]
      refine ⟨r, I2, L2, I4, ?_, ?_, i4⟩
      · rw [k3, n3, e1, k2, n2]
        simp only [b2i_eq0, Bool.true_eq_false, if_false, Option.bind_some, Bool.false_eq_true]
        rw [e2]
        rfl
      · rw [e55, k4, n4, n2, e3, k2]
        simp only [b2i_eq0, Bool.true_eq_false, if_false, Option.bind_some, Bool.false_eq_true]
        rw [e4, er]
        rfl
    · rw [k3, n1]
      exact ⟨_, I, L, I, rfl, by rw [k4, n2]; rfl, h⟩
  · rw [k1]
    exact ⟨_, I, L, I, rfl, by rw [k2]; rfl, h⟩
theorem hb_cell {c : Nat} (hc : c < 64) {e : Nat} : hb ((1 : Int64) <<< ((nI c).toInt64 &&& 63)) e = true ↔ e = c := by
  by_cases h : e < 64
  · rw [hb_one hc e h, decide_eq_true_eq]
  · rw [hb_hi _ (by omega)]
    constructor
    · intro g; cases g
    · intro g; omega
theorem grd_64 (hO : TOk T) {c : Nat} (h : grd T c) : c < 64 := Nat.lt_of_lt_of_le h.1 (tC_le hO.1)
/-- one step from one cell -/
theorem stA_one {hr dt S O B c e : Nat} {K : Bool} (hc : c < 64) (hg : grd T c) : stA T hr dt S O B K (fun x => hb ((1 : Int64) <<< ((nI c).toInt64 &&& 63)) x = true) e ↔ mvA T hr dt S O B K c e := by
  unfold stA
  constructor
  · rintro ⟨x, h1, _, h3⟩
    rw [hb_cell hc] at h1
    subst h1; exact h3
  · intro h3
    exact ⟨c, (hb_cell hc).mpr rfl, hg, h3⟩
theorem c_moves (h : Inv T q st a u I L) (v w : Int32) : ∃ r I1 L1 I2 L2, fX11_moves q q v w I L = some (r, I1, L1) ∧ fX12_moves v w I1 L1 = some (r, I2, L2) ∧ Inv T q st a u I2 L2 := by
  obtain ⟨b1, b2, b3⟩ := ShS h.rng
  unfold fX11_moves fX12_moves
  rcases g_far w with ⟨n, n1, n2, n3, n4⟩ | ⟨n1, n2⟩
  · rcases g_free h.1.1 h.2.2.1.1 h.2.2.1.2.1.2 h.2.2.2.1.1 v with ⟨c, c1, c2, c3, c4⟩ | ⟨c1, c2⟩
    · obtain ⟨I1, L1, e1, s1, f1, i1⟩ := h.aim
      have c64 := grd_64 h.1 c1
      obtain ⟨r, I2, L2, e2, r2, f2, s2, _⟩ := x_stepFrom (S2 := 0) (set := (1 : Int64) <<< ((nI c).toInt64 &&& 63)) h.1 h.2.1 i1.2.2.1 b1 n1 s1 (fun x hx => by rw [hb_cell c64] at hx; rw [hx]; exact c1)
      have i2 := i1.fx f2 (SkyNow.ok s2 h.rng)
      obtain ⟨I3, e3, a3, i3⟩ := i2.load (n := n) (by omega)
      obtain ⟨I4, L4, e4, f4, g4, sh4⟩ := m_layShadows h.1 i3.2.2.2.1 a3 (Nat.mod_lt _ (by decide)) b3 (by decide)
      have i4 := i3.fm (FM.of81 f4 (fun b h1 _ => g4 b h1))
      obtain ⟨r', e5, r5⟩ := m_movesFrom h.1 i4.2.2.2.1 (FM.aim (L := L) (M := L) a3 (f4 73 (by decide) (by decide))) (Nat.mod_lt _ (by decide)) b2 sh4 c1
      have er : r' = r := hb_same r5 (fun e he => by rw [r2 e he, stA_one c64 c1, Nat.or_zero])
      have hfree : fX12_isFree v I2 L2 = true := by
        rcases g_free h.1.1 h.2.2.1.1 h.2.2.1.2.1.2 i2.2.2.2.1.1 v with ⟨_, _, _, _, g⟩ | ⟨g, _⟩
        · exact g
        · rw [c3] at g; cases g
      refine ⟨r, I2, L2, I4, L4, ?_, ?_, i4⟩
      · rw [c3, n3, e1, c2, n2]
        simp only [b2i_eq0, Bool.true_eq_false, if_false, Option.bind_some, Bool.false_eq_true]
        rw [show (0 : Int32) = nI 0 from rfl, e2]
        rfl
      · rw [hfree, n4, n2, e3, c2]
        simp only [b2i_eq0, Bool.true_eq_false, if_false, Option.bind_some, Bool.false_eq_true]
        rw [e4]
        simp only [Option.bind_some]
        rw [e5, er]
        rfl
    · rw [c1]
      exact ⟨_, I, L, I, L, rfl, by rw [c2]; rfl, h⟩
  · rw [n1]
    rcases g_free h.1.1 h.2.2.1.1 h.2.2.1.2.1.2 h.2.2.2.1.1 v with ⟨c, c1, c2, c3, c4⟩ | ⟨c1, c2⟩
    · rw [c3]
      exact ⟨_, I, L, I, L, rfl, by rw [c4, n2]; rfl, h⟩
    · rw [c1]
      exact ⟨_, I, L, I, L, rfl, by rw [c2]; rfl, h⟩
end C2
