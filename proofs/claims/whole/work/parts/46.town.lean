/-! the town: what both sides keep of it -/
def tnD (T : Nat → Nat → Nat) : Nat := T 0 2
def tnL (T : Nat → Nat → Nat) : Nat := T 0 3
def tnP (T : Nat → Nat → Nat) : Nat := T 0 4
def grd (T : Nat → Nat → Nat) (c : Nat) : Prop := c < tC T ∧ isW T c = false
def TOk (T : Nat → Nat → Nat) : Prop := TSize T ∧ tnD T ≤ 8 ∧ tnL T ≤ 4 ∧ tnP T ≤ 4 ∧ T 0 5 ≤ 100 ∧ T 0 6 ≤ 60 ∧ (∀ d, d < tnD T → grd T (T 2 d) ∧ 1 ≤ T 3 d ∧ T 3 d ≤ 9 ∧ T 4 d ≤ 24 ∧ T 5 d ≤ 24) ∧ (∀ l, l < tnL T → grd T (T 6 l) ∧ T 7 l ≤ 24 ∧ T 8 l ≤ 24) ∧ (∀ p, p < tnP T → grd T (T 9 p)) ∧ FOk T ∧ ∀ c, isW T c = true → c < tC T
def datd (T : Nat → Nat → Nat) : Bool := (List.range (tNS T)).any fun k => T 10 k == 1 && T 11 k == 2
def XTown (T : Nat → Nat → Nat) (q : Nat) (I : HI) (L : HL) : Prop := XSize T q I ∧ XWalls T q L ∧ (∀ c, c < 64 → hb (L q 5) c = fstCol T c) ∧ I q 10 = nI (T 0 5) ∧ I (q + 1) 0 = nI (tnD T) ∧ (∀ d, d < tnD T → I (q + 3) d = nI (T 2 d) ∧ I (q + 4) d = nI (T 3 d) ∧ I (q + 5) d = nI (T 4 d) ∧ I (q + 6) d = nI (T 5 d)) ∧ I (q + 7) 0 = nI (tnL T) ∧ (∀ l, l < tnL T → I (q + 9) l = nI (T 6 l) ∧ I (q + 11) l = nI (T 7 l) ∧ I (q + 12) l = nI (T 8 l)) ∧ I (q + 13) 0 = nI (tnP T) ∧ (∀ p, p < tnP T → I (q + 15) p = nI (T 9 p)) ∧ (∀ d l, d < tnD T → l < tnL T → ∀ c, c < 64 → (hb (L (q + 22) (4 * d + l)) c = true ↔ thr T (T 6 l) (T 2 d) (T 3 d) c)) ∧ XForm T (q + 19) I ∧ I (q + 19) 3 = nI (T 0 6) ∧ I (q + 19) 4 = b2i (datd T)
def MTown (T : Nat → Nat → Nat) (I : HI) (L : HL) : Prop := MSize T I L ∧ I 73 54 = nI (fb_ct (isW T) 64) ∧ I 73 55 = nI (tnD T) ∧ I 73 56 = nI (tnL T) ∧ I 73 57 = nI (tnP T) ∧ I 73 58 = nI (T 0 5) ∧ I 73 21 = nI (T 0 6) ∧ (∀ d, d < tnD T → I 91 d = nI (T 2 d) ∧ I 92 d = nI (T 3 d) ∧ I 93 d = nI (T 4 d) ∧ I 94 d = nI (T 5 d)) ∧ (∀ l, l < tnL T → I 95 l = nI (T 6 l) ∧ I 96 l = nI (T 7 l) ∧ I 97 l = nI (T 8 l)) ∧ (∀ p, p < tnP T → I 98 p = nI (T 9 p)) ∧ MForm T I
/-- what queries of the class may change, and what those of the reference may -/
def FX (q : Nat) (I I' : HI) (L L' : HL) : Prop := (∀ a, a ≠ q + 21 → a ≠ 57 → a ≠ 59 → a ≠ 60 → I' a = I a) ∧ ∀ a, a ≠ 57 → a ≠ 58 → L' a = L a
def FM (I I' : HI) (L L' : HL) : Prop := (∀ a, a ≠ 73 → a ≠ 81 → a ≠ 82 → I' a = I a) ∧ (∀ j, ¬ (64 ≤ j ∧ j ≤ 69) → I' 73 j = I 73 j) ∧ ∀ a, a ≠ 100 → a ≠ 101 → L' a = L a
theorem FX.refl (q : Nat) (I : HI) (L : HL) : FX q I I L L := ⟨fun _ _ _ _ _ => rfl, fun _ _ _ => rfl⟩
theorem FX.trans {q : Nat} {I J K : HI} {L M N : HL} (h : FX q I J L M) (g : FX q J K M N) : FX q I K L N := ⟨fun a h1 h2 h3 h4 => by rw [g.1 a h1 h2 h3 h4, h.1 a h1 h2 h3 h4], fun a h1 h2 => by rw [g.2 a h1 h2, h.2 a h1 h2]⟩
theorem FM.refl (I : HI) (L : HL) : FM I I L L := ⟨fun _ _ _ _ => rfl, fun _ _ => rfl, fun _ _ _ => rfl⟩
theorem FM.trans {I J K : HI} {L M N : HL} (h : FM I J L M) (g : FM J K M N) : FM I K L N := ⟨fun a h1 h2 h3 => by rw [g.1 a h1 h2 h3, h.1 a h1 h2 h3], fun j hj => by rw [g.2.1 j hj, h.2.1 j hj], fun a h1 h2 => by rw [g.2.2 a h1 h2, h.2.2 a h1 h2]⟩
def isQ2 (q : Nat) : Prop := q = 2 ∨ q = 25
theorem XTown.fr {T : Nat → Nat → Nat} {q : Nat} {I J : HI} {L M : HL} (h : XTown T q I L) (hI : ∀ a, q ≤ a → a ≤ q + 20 → J a = I a) (hL : M q = L q ∧ M (q + 22) = L (q + 22)) : XTown T q J M := by
  unfold XTown XSize XWalls XForm at *
  rw [hI q (by omega) (by omega), hI (q + 1) (by omega) (by omega), hI (q + 3) (by omega) (by omega), hI (q + 4) (by omega) (by omega), hI (q + 5) (by omega) (by omega), hI (q + 6) (by omega) (by omega), hI (q + 7) (by omega) (by omega), hI (q + 9) (by omega) (by omega), hI (q + 11) (by omega) (by omega), hI (q + 12) (by omega) (by omega), hI (q + 13) (by omega) (by omega), hI (q + 15) (by omega) (by omega), hI (q + 19) (by omega) (by omega), hI (q + 19 + 1) (by omega) (by omega), hL.1, hL.2]
  exact h
theorem XTown.fx {T : Nat → Nat → Nat} {q : Nat} {I J : HI} {L M : HL} (h : XTown T q I L) (hq : isQ2 q) (f : FX q I J L M) : XTown T q J M := by
  refine h.fr (fun a h1 h2 => f.1 a (by omega) ?_ ?_ ?_) ⟨f.2 q ?_ ?_, f.2 (q + 22) ?_ ?_⟩ <;> rcases hq with h | h <;> omega
theorem XTown.fm {T : Nat → Nat → Nat} {q : Nat} {I J : HI} {L M : HL} (h : XTown T q I L) (hq : isQ2 q) (f : FM I J L M) : XTown T q J M := by
  refine h.fr (fun a h1 h2 => f.1 a ?_ ?_ ?_) ⟨f.2.2 q ?_ ?_, f.2.2 (q + 22) ?_ ?_⟩ <;> rcases hq with h | h <;> omega
theorem MTown.fr {T : Nat → Nat → Nat} {I J : HI} {L M : HL} (h : MTown T I L) (hI : ∀ a, (a = 78 ∨ a = 79 ∨ (91 ≤ a ∧ a ≤ 98)) → J a = I a) (h73 : ∀ j, (j = 18 ∨ j = 21 ∨ (52 ≤ j ∧ j ≤ 58)) → J 73 j = I 73 j) (hL : M 73 = L 73) : MTown T J M := by
  unfold MTown MSize MForm at *
  rw [hI 78 (by omega), hI 79 (by omega), hI 91 (by omega), hI 92 (by omega), hI 93 (by omega), hI 94 (by omega), hI 95 (by omega), hI 96 (by omega), hI 97 (by omega), hI 98 (by omega), h73 18 (by omega), h73 21 (by omega), h73 52 (by omega), h73 53 (by omega), h73 54 (by omega), h73 55 (by omega), h73 56 (by omega), h73 57 (by omega), h73 58 (by omega), hL]
  exact h
theorem MTown.fm {T : Nat → Nat → Nat} {I J : HI} {L M : HL} (h : MTown T I L) (f : FM I J L M) : MTown T J M :=
  h.fr (fun a h1 => f.1 a (by omega) (by omega) (by omega)) (fun j hj => f.2.1 j (by omega)) (f.2.2 73 (by omega) (by omega))
theorem MTown.fx {T : Nat → Nat → Nat} {q : Nat} {I J : HI} {L M : HL} (h : MTown T I L) (hq : isQ2 q) (f : FX q I J L M) : MTown T J M := by
  have h73 : J 73 = I 73 := f.1 73 (by rcases hq with h | h <;> omega) (by omega) (by omega) (by omega)
  exact h.fr (fun a h1 => f.1 a (by rcases hq with h | h <;> omega) (by omega) (by omega) (by omega)) (fun j hj => by rw [h73]) (f.2 73 (by omega) (by omega))
