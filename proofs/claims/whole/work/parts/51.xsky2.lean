def shH (T : Nat → Nat → Nat) (hr dt : Nat) (K : Bool) (h : Nat) : Int := if K then 0 else capI (evF T (nI h) (nI hr) (nI dt))
def LenOk (T : Nat → Nat → Nat) (hr dt : Nat) (K : Bool) (I : HI) : Prop := ∀ h, h < 10 → I 60 h = iI (-1000000) ∨ I 60 h = iI (shH T hr dt K h)
def SkyN (T : Nat → Nat → Nat) (hr dt O B : Nat) (K : Bool) (n m : Nat) (I : HI) (L : HL) : Prop := (∀ d, d < m → ∀ c, c < 64 → (hb (L 58 (8 * n + d)) c = true ↔ shdA T hr dt O B K d c)) ∧ ∀ d, d < 32 → bt (I 59 n) d = decide (d < m ∧ T 4 d ≤ hr ∧ hr < T 5 d)
def FP (q n : Nat) (I I' : HI) (L L' : HL) : Prop := (∀ a, a ≠ q + 21 → a ≠ 59 → a ≠ 60 → I' a = I a) ∧ (∀ j, j ≠ n → I' 59 j = I 59 j) ∧ (∀ a, a ≠ 58 → L' a = L a) ∧ ∀ j, ¬ (8 * n ≤ j ∧ j < 8 * n + 8) → L' 58 j = L 58 j
theorem shH_le (T : Nat → Nat → Nat) (hr dt : Nat) (K : Bool) (h : Nat) : -8 ≤ shH T hr dt K h ∧ shH T hr dt K h ≤ 8 := by
  unfold shH
  split
  · omega
  · exact capI_le _
theorem XTown.fp {T : Nat → Nat → Nat} {q n : Nat} {I J : HI} {L M : HL} (h : XTown T q I L) (hq : isQ2 q) (f : FP q n I J L M) : XTown T q J M := by
  refine h.fr (fun a h1 h2 => f.1 a (by omega) ?_ ?_) ⟨f.2.2.1 q ?_, f.2.2.1 (q + 22) ?_⟩ <;> rcases hq with h | h <;> omega
theorem FP.trans {q n : Nat} {I J K : HI} {L M N : HL} (h : FP q n I J L M) (g : FP q n J K M N) : FP q n I K L N :=
  ⟨fun a h1 h2 h3 => by rw [g.1 a h1 h2 h3, h.1 a h1 h2 h3], fun j hj => by rw [g.2.1 j hj, h.2.1 j hj], fun a ha => by rw [g.2.2.1 a ha, h.2.2.1 a ha], fun j hj => by rw [g.2.2.2 j hj, h.2.2.2 j hj]⟩
/-- the length for a height, found once -/
theorem x_len {T : Nat → Nat → Nat} {q n hr dt h : Nat} {K : Bool} {I : HI} {L : HL} (hO : TOk T) (hX : XTown T q I L) (hq : isQ2 q) (eK : I 57 5 = b2i K) (hL : LenOk T hr dt K I) (hh : h < 10) : ∃ I', (if I 60 h = (-1000000 : Int32) then (if I 57 5 = 0 then Option.bind (fX1_valueFor (q + 19) (nI h) (nI hr) (nI dt) I) fun q17 => some (up2 q17.2 60 h (fX7_cut q17.1)) else some (up2 I 60 h (0 : Int32))) else some I) = some I' ∧ FP q n I I' L L ∧ I' 59 = I 59 ∧ LenOk T hr dt K I' ∧ I' 60 h = iI (shH T hr dt K h) := by
  have hle := shH_le T hr dt K h
  rcases hL h hh with h1 | h1
  · rw [if_pos (by rw [h1]; rfl), eK]
    simp only [b2i_eq0]
    cases K with
    | true =>
      refine ⟨up2 I 60 h 0, by rw [if_neg (by decide)], ⟨fun a h2 h3 h4 => upRow I _ h4, fun j _ => ?_, fun _ _ => rfl, fun _ _ => rfl⟩, ?_, ?_, ?_⟩
      · rw [upRow I _ (by decide)]
      · rw [upRow I _ (by decide)]
      · intro k hk
        rw [up2_at]
        by_cases hkh : k = h
        · rw [if_pos ⟨rfl, hkh⟩]; exact Or.inr rfl
        · rw [if_neg (fun g => hkh g.2)]; exact hL k hk
      · rw [up2_at, if_pos ⟨rfl, rfl⟩]; rfl
    | false =>
      obtain ⟨I1, e1, f1⟩ := x_val (nI h) (nI hr) (nI dt) hO.2.2.2.2.2.2.2.2.2.1 hX.2.2.2.2.2.2.2.2.2.2.2.1
      have h60 : I1 60 = I 60 := f1 60 (by rcases hq with h | h <;> omega)
      refine ⟨up2 I1 60 h (fX7_cut (evF T (nI h) (nI hr) (nI dt))), by rw [if_pos rfl, e1]; rfl, ⟨fun a h2 h3 h4 => ?_, fun j _ => ?_, fun _ _ => rfl, fun _ _ => rfl⟩, ?_, ?_, ?_⟩
      · rw [upRow I1 _ h4, f1 a (by omega)]
      · rw [upRow I1 _ (by decide), f1 59 (by rcases hq with h | h <;> omega)]
      · rw [upRow I1 _ (by decide), f1 59 (by rcases hq with h | h <;> omega)]
      · intro k hk
        rw [up2_at]
        by_cases hkh : k = h
        · rw [if_pos ⟨rfl, hkh⟩]
          subst hkh
          exact Or.inr (by rw [x_cut]; rfl)
        · rw [if_neg (fun g => hkh g.2), h60]; exact hL k hk
      · rw [up2_at, if_pos ⟨rfl, rfl⟩, x_cut]; rfl
  · rw [if_neg (by rw [h1, show (-1000000 : Int32) = iI (-1000000) from rfl, iI_eq (by unfold sml; omega) (by unfold sml; omega)]; omega)]
    exact ⟨I, rfl, ⟨fun _ _ _ _ => rfl, fun _ _ => rfl, fun _ _ => rfl, fun _ _ => rfl⟩, rfl, hL, h1⟩
theorem x_prepL {T : Nat → Nat → Nat} {q n hr dt O B : Nat} {K : Bool} {y : Int32} (hO : TOk T) (hq : isQ2 q) (hh : hr < 24) (hn : n ≤ 48) (hy : ∀ l, l < tnL T → bt y l = litA T hr O B l) : ∀ (m d fu : Nat) (I : HI) (L : HL), d + m = tnD T → m < fu → XTown T q I L → I 57 5 = b2i K → LenOk T hr dt K I → SkyN T hr dt O B K n d I L → ∃ I' L', fX7_prepare_81 q fu (nI n) (nI hr) (nI dt) y (nI d) I L = some (I', L') ∧ FP q n I I' L L' ∧ SkyN T hr dt O B K n (tnD T) I' L' := by
  have h8 := hO.2.1
  obtain ⟨c1, _, _⟩ := cap1 hq
  intro m
  induction m with
  | zero =>
    intro d fu I L hd hf hX eK hL hS
    obtain ⟨f, rfl⟩ : ∃ f, fu = f + 1 := ⟨fu - 1, by omega⟩
    rw [fX7_prepare_81, hX.2.2.2.2.1, if_pos (nI_le (by omega) (by omega))]
    rw [show d = tnD T by omega] at hS
    exact ⟨I, L, rfl, ⟨fun _ _ _ _ => rfl, fun _ _ => rfl, fun _ _ => rfl, fun _ _ => rfl⟩, hS⟩
  | succ m ih =>
    intro d fu I L hd hf hX eK hL hS
    obtain ⟨f, rfl⟩ : ∃ f, fu = f + 1 := ⟨fu - 1, by omega⟩
    have hd4 : d < tnD T := by omega
    obtain ⟨k1, k2, k3, k4, k5⟩ := hO.2.2.2.2.2.2.1 d hd4
    obtain ⟨I1, e1, f1, g1, l1, v1⟩ := x_len (n := n) (h := T 3 d) hO hX hq eK hL (by omega)
    have ix : nI n * (8 : Int32) + nI d = nI (8 * n + d) := by
      rw [show (8 : Int32) = nI 8 from rfl, pk_mul, nI_add, Nat.mul_comm]
    rw [fX7_prepare_81, hX.2.2.2.2.1, if_neg (nI_ge hd4 (by omega)), c1, if_pos (inb_nI (show d < 8 by omega) (by decide)), clamp_nI (by omega), show I (q + 1 + 3) d = nI (T 3 d) from (hX.2.2.2.2.2.1 d hd4).2.1, nI_1]
    simp only [if_pos (inb_nI (show T 3 d < 10 by omega) (by decide)), clamp_nI (show T 3 d < 2 ^ 31 by omega)]
    rw [e1]
    simp only [Option.bind_some]
    have hX1 : XTown T q I1 L := hX.fp hq f1
    obtain ⟨r, er, hr'⟩ := x_shadowBy (d := d) (hr := hr) (dt := dt) (O := O) (B := B) (K := K) hO hX1 hq hd4 hy
    rw [v1, show fX5_shadowBy q (nI d) (iI (shH T hr dt K (T 3 d))) y I1 L = some r from er]
    simp only [Option.bind_some]
    rw [ix, if_pos (inb_nI (by omega) (by decide)), clamp_nI (by omega)]
    rw [x_inHrs (t := q + 1) (i := d) (b := T 4 d) (e := T 5 d) (by rw [c1]; omega) (hX1.2.2.2.2.2.1 d hd4).2.2.1 (hX1.2.2.2.2.2.1 d hd4).2.2.2 (by omega) (by omega) (by omega)]
    simp only [Option.bind_some, b2i_eq0, if_pos (inb_nI (show n < 49 by omega) (by decide)), clamp_nI (show n < 2 ^ 31 by omega)]
    have fL : FP q n I I1 L (up2 L 58 (8 * n + d) r) := ⟨f1.1, f1.2.1, fun a ha => upRow L r ha, fun j hj => by rw [up2_at, if_neg (by omega)]⟩
    have hs1 : ∀ d', d' < d + 1 → ∀ c, c < 64 → (hb (up2 L 58 (8 * n + d) r 58 (8 * n + d')) c = true ↔ shdA T hr dt O B K d' c) := by
      intro d' hd' c hc
      rw [up2_at]
      by_cases hdd : d' = d
      · rw [if_pos ⟨rfl, by rw [hdd]⟩, hdd]; exact hr' c hc
      · rw [if_neg (fun g => hdd (by omega))]; exact hS.1 d' (by omega) c hc
    by_cases hin : T 4 d ≤ hr ∧ hr < T 5 d
    · rw [decide_eq_true hin, if_neg (by decide)]
      have f2 : FP q n I1 (up2 I1 59 n (I1 59 n ||| (1 : Int32) <<< (nI d &&& 31))) L L := ⟨fun a _ h2 _ => upRow I1 _ h2, fun j hj => by rw [up2_at, if_neg (fun g => hj g.2)], fun _ _ => rfl, fun _ _ => rfl⟩
      have fA : FP q n I (up2 I1 59 n (I1 59 n ||| (1 : Int32) <<< (nI d &&& 31))) L (up2 L 58 (8 * n + d) r) := ⟨(f1.trans f2).1, (f1.trans f2).2.1, fL.2.2.1, fL.2.2.2⟩
      obtain ⟨I2, L2, e2, g2, s2⟩ := ih (d + 1) f (up2 I1 59 n (I1 59 n ||| (1 : Int32) <<< (nI d &&& 31))) (up2 L 58 (8 * n + d) r) (by omega) (by omega) (hX.fp hq fA) (by rw [fA.1 57 (by rcases hq with h | h <;> omega) (by decide) (by decide)]; exact eK) (by
        intro k hk; rw [upRow I1 _ (by decide)]; exact l1 k hk) ⟨hs1, by
        intro d' hd'
        rw [up2_at, if_pos ⟨rfl, rfl⟩, b_or, b_shl1 (by omega) hd', g1, hS.2 d' hd', ← Bool.decide_or, decide_eq_decide]
        constructor
        · rintro (h | h)
          · exact ⟨by omega, h.2⟩
          · subst h; exact ⟨by omega, hin⟩
        · intro h
          by_cases hdd : d' = d
          · exact Or.inr hdd
          · exact Or.inl ⟨by omega, h.2⟩⟩
      exact ⟨I2, L2, e2, fA.trans g2, s2⟩
    · rw [decide_eq_false hin, if_pos rfl]
      obtain ⟨I2, L2, e2, g2, s2⟩ := ih (d + 1) f I1 (up2 L 58 (8 * n + d) r) (by omega) (by omega) (hX.fp hq fL) (by rw [fL.1 57 (by rcases hq with h | h <;> omega) (by decide) (by decide)]; exact eK) l1 ⟨hs1, by
        intro d' hd'
        rw [g1, hS.2 d' hd', decide_eq_decide]
        constructor
        · intro h; exact ⟨by omega, h.2⟩
        · intro h
          by_cases hdd : d' = d
          · subst hdd; exact absurd h.2 hin
          · exact ⟨by omega, h.2⟩⟩
      exact ⟨I2, L2, e2, fL.trans g2, s2⟩
/-- what the sky has found is right -/
def SkyAt (T : Nat → Nat → Nat) (s S O B : Nat) (K : Bool) (I : HI) (L : HL) : Prop := I 57 1 = nI s ∧ I 57 2 = nI S ∧ I 57 3 = nI O ∧ I 57 4 = nI B ∧ I 57 5 = b2i K ∧ ∀ n, n ≤ 48 → hb (L 57 6) n = true → SkyN T ((s + n) % 24) ((s + n) / 24) O B K n (tnD T) I L
theorem x_prepare {T : Nat → Nat → Nat} {q n s S O B : Nat} {K : Bool} {I : HI} {L : HL} (hO : TOk T) (hq : isQ2 q) (hX : XTown T q I L) (hs : s < 10000) (hn : n ≤ 48) (hS : SkyAt T s S O B K I L) : ∃ I' L', fX7_prepare q (nI n) I L = some (I', L') ∧ FX q I I' L L' ∧ SkyAt T s S O B K I' L' ∧ SkyN T ((s + n) % 24) ((s + n) / 24) O B K n (tnD T) I' L' ∧ I' 57 = I 57 := by
  obtain ⟨mf, hmf⟩ := fuel_at 1000 (by decide)
  have h8 := hO.2.1
  obtain ⟨e1, e2, e3, e4, e5, hN⟩ := hS
  unfold fX7_prepare
  have h0 : (((L 57 6).toUInt64 >>> ((nI n).toInt64.toUInt64 &&& Int64.toUInt64 63)).toInt64 &&& (1 : Int64) = 0) ↔ hb (L 57 6) n = false := ushr1_0 _ (by omega)
  cases hf : hb (L 57 6) n with
  | true =>
    rw [if_neg (by rw [h0, hf]; decide)]
    exact ⟨I, L, rfl, FX.refl q I L, ⟨e1, e2, e3, e4, e5, hN⟩, hN n hn hf, rfl⟩
  | false =>
    rw [if_pos (h0.mpr hf), e1, nI_add]
    simp only [show (24 : Int32) = nI 24 from rfl]
    rw [pk_rem (by omega) (by decide) (by decide), pk_div (by omega) (by decide) (by decide)]
    have hm : (s + n) % 24 < 24 := Nat.mod_lt _ (by decide)
    obtain ⟨y, ey, hy⟩ := x_litIn hO hX hq hm e3 e4
    rw [ey]
    simp only [Option.bind_some]
    obtain ⟨I1, ef, f1, g1⟩ := x_fillI (a := 60) (N := 10) (v := (-1000000 : Int32)) (I := I) (by decide)
    rw [ef]
    simp only [Option.bind_some]
    rw [if_pos (inb_nI (by omega) (by decide)), clamp_nI (by omega)]
    have fA : FP q n I (up2 I1 59 n 0) L L := ⟨fun a _ h2 h3 => by rw [upRow I1 _ h2, f1 a h3], fun j hj => by rw [up2_at, if_neg (fun g => hj g.2), f1 59 (by decide)], fun _ _ => rfl, fun _ _ => rfl⟩
    have f57 : up2 L 57 6 (L 57 6 ||| (1 : Int64) <<< ((nI n).toInt64 &&& 63)) 58 = L 58 := upRow L _ (by decide)
    have hX1 : XTown T q (up2 I1 59 n 0) (up2 L 57 6 (L 57 6 ||| (1 : Int64) <<< ((nI n).toInt64 &&& 63))) := (hX.fp hq fA).fr (fun _ _ _ => rfl) ⟨upRow L _ (by rcases hq with h | h <;> omega), upRow L _ (by rcases hq with h | h <;> omega)⟩
    have i57 : up2 I1 59 n 0 57 = I 57 := fA.1 57 (by rcases hq with h | h <;> omega) (by decide) (by decide)
    obtain ⟨I2, L2, e2', f2, s2⟩ := x_prepL (T := T) (q := q) (n := n) (hr := (s + n) % 24) (dt := (s + n) / 24) (O := O) (B := B) (K := K) hO hq hm hn hy (tnD T) 0 FUEL (up2 I1 59 n 0) (up2 L 57 6 (L 57 6 ||| (1 : Int64) <<< ((nI n).toInt64 &&& 63))) (by omega) (by omega) hX1 (by rw [i57]; exact e5) (by
      intro h hh; left; rw [upRow I1 _ (by decide), g1 h, if_pos hh]; rfl) ⟨fun d hd => absurd hd (Nat.not_lt_zero d), by
      intro d hd; rw [up2_at, if_pos ⟨rfl, rfl⟩, b_0, decide_eq_false (by omega)]⟩
    rw [show (0 : Int32) = nI 0 from rfl] at e2' ⊢
    rw [e2']
    have j57 : I2 57 = I 57 := by rw [f2.1 57 (by rcases hq with h | h <;> omega) (by decide) (by decide)]; exact i57
    refine ⟨I2, L2, rfl, ⟨fun a h1 h2 h3 h4 => ?_, fun a h1 h2 => ?_⟩, ⟨by rw [j57]; exact e1, by rw [j57]; exact e2, by rw [j57]; exact e3, by rw [j57]; exact e4, by rw [j57]; exact e5, ?_⟩, s2, j57⟩
    · rw [f2.1 a h1 h3 h4]; exact fA.1 a h1 h3 h4
    · rw [f2.2.2.1 a h2, upRow L _ h1]
    · intro k hk hb'
      rw [f2.2.2.1 57 (by decide), up2_at, if_pos ⟨rfl, rfl⟩, hb_or, hb_one (by omega) k (by omega)] at hb'
      by_cases hkn : k = n
      · subst hkn; exact s2
      · rw [decide_eq_false hkn, Bool.or_false] at hb'
        obtain ⟨a1, a2⟩ := hN k hk hb'
        refine ⟨fun d hd c hc => ?_, fun d hd => ?_⟩
        · rw [f2.2.2.2 _ (by omega), f57]; exact a1 d hd c hc
        · rw [f2.2.1 k hkn, fA.2.1 k hkn]; exact a2 d hd
