noncomputable def fRE (ff : Nat) : Nat → Int32 → HI → HL → Option (Bool × HI × HL)
  | 0, _, _, _ => none
  | fu + 1, a, I, L => fX2_readEither ff (fRE ff fu) a I L
noncomputable def eD : Nat → Nat
  | 0 => 0
  | fu + 1 => eD fu + RF + 6
theorem tRE {g : GG} {n : Nat} {tw dr sk tl ff : Nat} (hG : RG tw dr sk tl ff) (hn : 116 ≤ n) (hff : isF ff) : ∀ (fu : Nat) {d : Nat} {a : Int32} {I : HI} {L : HL} {res : Bool × HI × HL}, fRE ff fu a I L = some res → CT g mX2_readEither (eD fu + d + 8) 0 0 n (RT tw dr sk tl ff) I L [.ref 51, .int a] (PoB n (RT tw dr sk tl ff) res.1 res.2.1 res.2.2) := by
  intro fu
  induction fu with
  | zero => intro d a I L res hf; cases (show none = some res from hf)
  | succ fu ih =>
    intro d a I L res hf
    have h := tX2_readEither (g := g) (d := d) (e := eD fu) hG hn hff (E := fRE ff fu) (fun {d a I L res} hq => ih hq) (v1 := a) (I := I) (L := L) (res := res) hf
    rw [show eD (fu + 1) + d + 8 = eD fu + (d + RF) + 14 from by show eD fu + RF + 6 + d + 8 = _; omega]
    exact h
theorem eD_eq : ∀ fu, eD fu = fu * 16
  | 0 => rfl
  | fu + 1 => by
    have h := eD_eq fu
    have h2 := RF_eq
    show eD fu + RF + 6 = _
    omega
theorem tREF {g : GG} {n d : Nat} {tw dr sk tl ff : Nat} (hG : RG tw dr sk tl ff) (hn : 116 ≤ n) (hff : isF ff) {a : Int32} {I : HI} {L : HL} {res : Bool × HI × HL} (hf : fRE ff RF a I L = some res) : CT g mX2_readEither (d + 168) 0 0 n (RT tw dr sk tl ff) I L [.ref 51, .int a] (PoB n (RT tw dr sk tl ff) res.1 res.2.1 res.2.2) := by
  have h := tRE (g := g) (d := d) hG hn hff RF hf
  rw [eD_eq, RF_eq, show 10 * 16 + d + 8 = d + 168 by omega] at h
  exact h
