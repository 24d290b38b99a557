/-! both sides read on together -/
def RT2 (B : Nat → Nat) (n p : Nat) (I : HI) (L : HL) (J : HI) (M : HL) : Prop := p ≤ n ∧ LxS B n I L ∧ XT B n p I L ∧ I 48 8 = 0 ∧ I 48 9 = -1 ∧ TM B n J ∧ MT B n p J M ∧ J 73 2 = 0 ∧ J 73 3 = -1
def Bd2 (I J : HI) : Prop := ∃ f pl, 0 < f ∧ f < 100 ∧ pl < 2000 ∧ I 48 8 = nI f ∧ I 48 9 = nI pl ∧ J 73 2 = nI f ∧ J 73 3 = nI pl
def XA2 (I I' : HI) (L L' : HL) : Prop := (∀ a, a ≠ 48 → a ≠ 49 → I' a = I a) ∧ (∀ j, j ≤ 2 ∨ (6 ≤ j ∧ j ≤ 7) → I' 48 j = I 48 j) ∧ I' 49 2 = I 49 2 ∧ (∀ a, a ≠ 49 → L' a = L a)
def XB2 (J J' : HI) (M M' : HL) : Prop := (∀ a, a ≠ 73 → J' a = J a) ∧ (∀ j, j ≤ 1 ∨ j = 5 ∨ 9 ≤ j → J' 73 j = J 73 j) ∧ (∀ a, a ≠ 73 → M' a = M a) ∧ ∀ j, j ≠ 9 → M' 73 j = M 73 j
section LK
variable {B : Nat → Nat} {n p : Nat} {I I' I2 : HI} {L L' L2 : HL} {J J' J2 : HI} {M M' M2 : HL}
theorem XA2.refl : XA2 I I L L := ⟨fun _ _ _ => rfl, fun _ _ => rfl, rfl, fun _ _ => rfl⟩
theorem XB2.refl : XB2 J J M M := ⟨fun _ _ => rfl, fun _ _ => rfl, fun _ _ => rfl, fun _ _ => rfl⟩
theorem XA2.trans (h : XA2 I I' L L') (g : XA2 I' I2 L' L2) : XA2 I I2 L L2 := ⟨fun a h1 h2 => by rw [g.1 a h1 h2, h.1 a h1 h2], fun j hj => by rw [g.2.1 j hj, h.2.1 j hj], by rw [g.2.2.1, h.2.2.1], fun a ha => by rw [g.2.2.2 a ha, h.2.2.2 a ha]⟩
theorem XB2.trans (h : XB2 J J' M M') (g : XB2 J' J2 M' M2) : XB2 J J2 M M2 := ⟨fun a h1 => by rw [g.1 a h1, h.1 a h1], fun j hj => by rw [g.2.1 j hj, h.2.1 j hj], fun a ha => by rw [g.2.2.1 a ha, h.2.2.1 a ha], fun j hj => by rw [g.2.2.2 j hj, h.2.2.2 j hj]⟩
theorem XA2.of (h : LxA I I' L L') : XA2 I I' L L' := ⟨fun a _ h2 => h.1 a h2, fun j _ => by rw [h.1 48 (by decide)], h.2.1, h.2.2⟩
theorem XB2.of (h : LxB J J' M M') : XB2 J J' M M' := ⟨h.1, fun j hj => h.2.1 j (by omega) (by omega) (by omega) (by omega), h.2.2.1, h.2.2.2⟩
theorem XA2.rf (f : Nat) : XA2 I (rfX B n p f I) L L := ⟨fun a h1 _ => rfX_o h1, fun j hj => by unfold rfX; rw [up2_at, if_neg (by omega), up2_at, if_neg (by omega)], by rw [rfX_o (by decide)], fun _ _ => rfl⟩
theorem XB2.rf (f : Nat) : XB2 J (rfM B n p f J) M M := ⟨fun a h1 => rfM_o h1, fun j hj => rfM_j (by omega) (by omega), fun _ _ => rfl, fun _ _ => rfl⟩
theorem bd_rf {f : Nat} (hp : p ≤ n) (hn : n ≤ 1600) (h0 : 0 < f) (h1 : f < 100) : Bd2 (rfX B n p f I) (rfM B n p f J) := by
  have := tS_le (B := B) hp
  exact ⟨flt B n p f, tS B n p, flt_pos h0, flt_lt h1, by omega, rfX_8 f, rfX_9 f, rfM_2 f, rfM_3 f⟩
theorem Bd2.m (h : Bd2 I J) : isBd J := by
  obtain ⟨f, pl, h1, h2, _, _, _, h3, _⟩ := h
  exact bad_nI h1 h2 h3
theorem Bd2.fr (h : Bd2 I J) (e1 : I' 48 8 = I 48 8) (e2 : I' 48 9 = I 48 9) (e3 : J' 73 2 = J 73 2) (e4 : J' 73 3 = J 73 3) : Bd2 I' J' := by
  unfold Bd2 at *
  rw [e1, e2, e3, e4]
  exact h
theorem RT2.le (h : RT2 B n p I L J M) : n ≤ 1600 := h.2.1.1.1
theorem RT2.on {q : Nat} (h : RT2 B n p I L J M) (hq : q ≤ n) (hx : XT B n q I' L') (fx : XA2 I I' L L') (hm : MT B n q J' M') (fm : XB2 J J' M M') (e8 : I' 48 8 = I 48 8) (e9 : I' 48 9 = I 48 9) (e2 : J' 73 2 = J 73 2) (e3 : J' 73 3 = J 73 3) : RT2 B n q I' L' J' M' := by
  obtain ⟨_, h2, _, h4, h5, h6, _, h8, h9⟩ := h
  refine ⟨hq, h2.fr (fx.1 1 (by decide) (by decide)) fx.2.2.1 (fx.2.2.2 50 (by decide)), hx, by rw [e8]; exact h4, by rw [e9]; exact h5, h6.fr (fm.2.1 5 (by decide)) (fm.1 74 (by decide)), hm, by rw [e2]; exact h8, by rw [e3]; exact h9⟩
/-- an own word -/
theorem s_take (h : RT2 B n p I L J M) {w : Nat} (hw : w < 19) {v : Int64} (hv : v = lN (wd8 (wL w))) : (kd B n p = w ∧ ∃ I' L' J' M', fX6_take (nI w) I L = some (true, I', L') ∧ fX12_want v J M = some (J', M') ∧ RT2 B n (nx B n p) I' L' J' M' ∧ LxA I I' L L' ∧ LxB J J' M M') ∨ (fX6_take (nI w) I L = some (false, rfX B n p 2 I, L) ∧ fX12_want v J M = some (rfM B n p 2 J, M)) := by
  have hh := h
  obtain ⟨h1, h2, h3, h4, h5, h6, h7, h8, h9⟩ := h
  by_cases c : kd B n p = w
  · left
    obtain ⟨I', L', a1, a2, a3⟩ := x_take h2 h1 h3 c (by omega)
    obtain ⟨J', M', b1, b2, b3⟩ := m_want h6 h1 h7 h8 hw hv c
    exact ⟨c, I', L', J', M', a1, b1, hh.on (nx_le h1).2 a2 (XA2.of a3) b2 (XB2.of b3) (by rw [a3.1 48 (by decide)]) (by rw [a3.1 48 (by decide)]) (b3.2.1 2 (by decide) (by decide) (by decide) (by decide)) (b3.2.1 3 (by decide) (by decide) (by decide) (by decide)), a3, b3⟩
  · right
    exact ⟨x_take_no h2 h1 h3 c (by omega), m_want_no h6 h1 h7 h8 hw hv c⟩
def LxN (I I' : HI) (L L' : HL) : Prop := (∀ j, j ≠ 3 → I' 48 j = I 48 j) ∧ (∀ a, a ≠ 48 → a ≠ 49 → I' a = I a) ∧ I' 49 2 = I 49 2 ∧ (∀ a, a ≠ 49 → L' a = L a)
theorem XA2.ofN (h : LxN I I' L L') : XA2 I I' L L' := ⟨h.2.1, fun j hj => h.1 j (by omega), h.2.2.1, h.2.2.2⟩
theorem s_num (h : RT2 B n p I L J M) {a b : Nat} (ha : a < 100000) (hb' : b < 100000) : (nOk B n p a b ∧ ∃ I' L' J' M', fX6_takeNumber (nI a) (nI b) I L = some (true, I', L') ∧ fX12_toldNumber (nI a) (nI b) J M = some (nI (vl B n p), J', M') ∧ RT2 B n (nx B n p) I' L' J' M' ∧ I' 48 3 = nI (vl B n p) ∧ LxN I I' L L' ∧ LxB J J' M M') ∨ (¬ nOk B n p a b ∧ fX6_takeNumber (nI a) (nI b) I L = some (false, rfX B n p (nF B n p) I, L) ∧ ∃ v, fX12_toldNumber (nI a) (nI b) J M = some (v, rfM B n p (nF B n p) J, M)) := by
  have hh := h
  obtain ⟨h1, h2, h3, h4, h5, h6, h7, h8, h9⟩ := h
  by_cases c : nOk B n p a b
  · left
    obtain ⟨I', L', a1, a2, a3, a4, a5, a6, a7⟩ := x_num h2 h1 h3 c hb'
    obtain ⟨J', M', b1, b2, b3⟩ := m_num h6 h1 h7 h8 c hb'
    have fn : LxN I I' L L' := ⟨a4, a5, a6, a7⟩
    exact ⟨c, I', L', J', M', a1, b1, hh.on (nx_le h1).2 a2 (XA2.ofN fn) b2 (XB2.of b3) (a4 8 (by decide)) (a4 9 (by decide)) (b3.2.1 2 (by decide) (by decide) (by decide) (by decide)) (b3.2.1 3 (by decide) (by decide) (by decide) (by decide)), a3, fn, b3⟩
  · right
    exact ⟨c, x_num_no h2 h1 h3 c ha hb', m_num_no h6 h1 h7 h8 c ha hb'⟩
theorem s_bd (h : RT2 B n p I L J M) {f : Nat} (h0 : 0 < f) (h1 : f < 100) : Bd2 (rfX B n p f I) (rfM B n p f J) := bd_rf h.1 h.le h0 h1
/-- an own word and a number behind it -/
theorem s_told (h : RT2 B n p I L J M) {w a b : Nat} (hw : w < 19) {v : Int64} (hv : v = lN (wd8 (wL w))) (ha : a < 100000) (hb' : b < 100000) : (kd B n p = w ∧ nOk B n (nx B n p) a b ∧ ∃ I1 L1 I' L' J' M', fX6_take (nI w) I L = some (true, I1, L1) ∧ fX6_takeNumber (nI a) (nI b) I1 L1 = some (true, I', L') ∧ fX12_told v (nI a) (nI b) J M = some (nI (vl B n (nx B n p)), J', M') ∧ RT2 B n (nx B n (nx B n p)) I' L' J' M' ∧ I' 48 3 = nI (vl B n (nx B n p)) ∧ LxN I I' L L' ∧ XB2 J J' M M' ∧ (∀ j, I1 48 j = I 48 j) ∧ (∀ a, a ≠ 49 → I1 a = I a)) ∨ (∃ u J' M', fX12_told v (nI a) (nI b) J M = some (u, J', M') ∧ XB2 J J' M M' ∧ ((∃ I', fX6_take (nI w) I L = some (false, I', L) ∧ XA2 I I' L L ∧ Bd2 I' J') ∨ (∃ I1 L1 I', fX6_take (nI w) I L = some (true, I1, L1) ∧ fX6_takeNumber (nI a) (nI b) I1 L1 = some (false, I', L1) ∧ XA2 I I' L L1 ∧ Bd2 I' J'))) := by
  unfold fX12_told
  rcases s_take h hw hv with ⟨c, I1, L1, J1, M1, a1, a2, a3, a4, a5⟩ | ⟨a1, a2⟩
  · rw [a2, Option.bind_some]
    rcases s_num a3 ha hb' with ⟨d, I', L', J', M', b1, b2, b3, b4, b5, b6⟩ | ⟨d, b1, u, b2⟩
    · left
      refine ⟨c, d, I1, L1, I', L', J', M', a1, b1, by rw [b2, Option.bind_some], b3, b4, ?_, (XB2.of a5).trans (XB2.of b6), fun j => by rw [a4.1 48 (by decide)], a4.1⟩
      exact ⟨fun j hj => by rw [b5.1 j hj, a4.1 48 (by decide)], fun a h1 h2 => by rw [b5.2.1 a h1 h2, a4.1 a h2], by rw [b5.2.2.1, a4.2.1], fun a h1 => by rw [b5.2.2.2 a h1, a4.2.2 a h1]⟩
    · right
      exact ⟨u, _, _, by rw [b2, Option.bind_some], (XB2.of a5).trans (XB2.rf _), Or.inr ⟨I1, L1, _, a1, b1, (XA2.of a4).trans (XA2.rf _), s_bd a3 nF_r.1 nF_r.2⟩⟩
  · right
    rw [a2, Option.bind_some, m_num_bad (s_bd h (by decide) (by decide)).m]
    exact ⟨0, _, _, rfl, XB2.rf _, Or.inl ⟨_, a1, XA2.rf _, s_bd h (by decide) (by decide)⟩⟩
end LK
