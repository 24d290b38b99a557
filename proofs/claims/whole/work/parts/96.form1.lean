/-! the formula: the reference's stack of signs -/
def tg (x : Nat) : Nat := if x = 21 then 3 else if x = 38 then 2 else if x = 43 then 5 else if x = 45 then 5 else if x = 60 then 4 else if x = 61 then 4 else if x = 62 then 4 else if x = 124 then 1 else 6
theorem m_tight : ∀ x : Fin 256, fX12_tight (nI x.1) = nI (tg x.1) := by
  unfold fX12_tight
  decide +kernel
def vS (x : Nat) : Prop := x = 20 ∨ x = 21 ∨ okOp x
theorem vS_lt {x : Nat} (h : vS x) : x < 256 := by
  unfold vS okOp at h
  omega
theorem tg_lt (x : Nat) : tg x < 7 ∧ 1 ≤ tg x := by unfold tg; refine ⟨?_, ?_⟩ <;> (repeat' split) <;> omega
def StkM (J : HI) : List Nat → Prop
  | [] => True
  | x :: t => J 80 t.length = nI x ∧ StkM J t
theorem StkM.fr {J J' : HI} : ∀ {K : List Nat}, StkM J K → (∀ i, i < K.length → J' 80 i = J 80 i) → StkM J' K
  | [], _, _ => trivial
  | x :: t, h, e => ⟨by rw [e t.length (by simp)]; exact h.1, StkM.fr h.2 (fun i hi => e i (by simp; omega))⟩
def wd : List Nat → Nat
  | [] => 0
  | x :: t => (if x = 20 ∨ x = 21 then 1 else 0) + wd t
def nbin : List Nat → Nat
  | [] => 0
  | x :: t => (if x = 20 ∨ x = 21 then 0 else 1) + nbin t
def nnb : List Nat → Nat
  | [] => 0
  | x :: t => (if x = 20 then 0 else 1) + nnb t
theorem wd_app : ∀ R S : List Nat, wd (R ++ S) = wd R + wd S
  | [], S => by simp [wd]
  | x :: t, S => by simp [wd, wd_app t S]; omega
theorem nbin_app : ∀ R S : List Nat, nbin (R ++ S) = nbin R + nbin S
  | [], S => by simp [nbin]
  | x :: t, S => by simp [nbin, nbin_app t S]; omega
theorem nnb_app : ∀ R S : List Nat, nnb (R ++ S) = nnb R + nnb S
  | [], S => by simp [nnb]
  | x :: t, S => by simp [nnb, nnb_app t S]; omega
theorem len_wd : ∀ K : List Nat, K.length = wd K + nbin K
  | [] => rfl
  | x :: t => by
    rw [List.length_cons, wd, nbin, len_wd t]
    split <;> omega
def st1 (s : Nat) : Nat × Nat := if s = 21 then (2, 0) else (3, s)
def CodeM (D : List (Nat × Nat)) (J : HI) : Prop := J 73 17 = nI D.length ∧ ∀ k, k < D.length → J 76 k = nI (D.getD k (0, 0)).1 ∧ J 77 k = nI (D.getD k (0, 0)).2
def SkM (K : List Nat) (J : HI) : Prop := J 73 19 = nI K.length ∧ StkM J K
def FM2 (D : List (Nat × Nat)) (K : List Nat) (u : Nat) (J : HI) : Prop := CodeM D J ∧ SkM K J ∧ J 73 23 = nI (wd K) ∧ J 73 20 = nI u ∧ J 73 22 = nI u
def topOK (l : Nat) : List Nat → Prop
  | [] => True
  | x :: _ => x = 20 ∨ tg x < l
def RV (l : Nat) (R : List Nat) : Prop := ∀ x, x ∈ R → x ≠ 20 ∧ l ≤ tg x ∧ vS x
def FMf (J J' : HI) (M M' : HL) : Prop := (∀ a, a ≠ 73 → a ≠ 76 → a ≠ 77 → a ≠ 80 → J' a = J a) ∧ (∀ j, j ≤ 1 ∨ j = 5 ∨ (9 ≤ j ∧ j ≤ 16) ∨ j = 18 ∨ j = 21 ∨ 24 ≤ j → J' 73 j = J 73 j) ∧ (∀ a, a ≠ 73 → M' a = M a) ∧ ∀ j, j ≠ 9 → M' 73 j = M 73 j
def MS (B : Nat → Nat) (n p : Nat) (J : HI) (M : HL) : Prop := p ≤ n ∧ TM B n J ∧ MT B n p J M ∧ J 73 2 = 0 ∧ J 73 3 = -1
section FR1
variable {B : Nat → Nat} {n p : Nat} {J J' J2 : HI} {M M' M2 : HL} {D : List (Nat × Nat)} {K S R : List Nat} {u : Nat}
theorem FMf.refl : FMf J J M M := ⟨fun _ _ _ _ _ => rfl, fun _ _ => rfl, fun _ _ => rfl, fun _ _ => rfl⟩
theorem FMf.trans (h : FMf J J' M M') (g : FMf J' J2 M' M2) : FMf J J2 M M2 := ⟨fun a h1 h2 h3 h4 => by rw [g.1 a h1 h2 h3 h4, h.1 a h1 h2 h3 h4], fun j hj => by rw [g.2.1 j hj, h.2.1 j hj], fun a h1 => by rw [g.2.2.1 a h1, h.2.2.1 a h1], fun j h1 => by rw [g.2.2.2 j h1, h.2.2.2 j h1]⟩
theorem FMf.of (h : XB2 J J' M M') : FMf J J' M M' := ⟨fun a h1 _ _ _ => h.1 a h1, fun j hj => h.2.1 j (by omega), h.2.2.1, h.2.2.2⟩
theorem FMf.r (h : FMf J J' M M') : FMr J J' M M' := ⟨fun a ha => h.1 a (fun e => ha (by unfold wkM; omega)) (fun e => ha (by unfold wkM; omega)) (fun e => ha (by unfold wkM; omega)) (fun e => ha (by unfold wkM; omega)), fun j hj => h.2.1 j (by unfold kp73 at hj; omega), fun a h1 _ => h.2.2.1 a h1, fun j h1 _ => h.2.2.2 j h1⟩
theorem m_add {m a b : Nat} (h : J 73 17 = nI m) (hm : m < 320) : fX12_add (nI a) (nI b) J = some (up2 (up2 (up2 J 76 m (nI a)) 77 m (nI b)) 73 17 (nI (m + 1))) := by
  unfold fX12_add
  have e : up2 J 76 m (nI a) 73 17 = nI m := by rw [upRow _ _ (by decide)]; exact h
  have e2 : up2 (up2 J 76 m (nI a)) 77 m (nI b) 73 17 = nI m := by rw [upRow _ _ (by decide)]; exact e
  rw [h, if_pos (inb_nI hm (by decide))]
  simp only [clamp_nI (show m < 2 ^ 31 by omega), e, e2, inb_nI hm (show 320 < 2 ^ 31 by decide), if_true, nI_1]
theorem getD_snoc {x : Nat × Nat} {k : Nat} : (D ++ [x]).getD k (0, 0) = if k = D.length then x else D.getD k (0, 0) := by
  rw [List.getD_eq_getElem?_getD, List.getD_eq_getElem?_getD, List.getElem?_append]
  by_cases h : k < D.length
  · rw [if_pos h, if_neg (by omega)]
  · rw [if_neg h]
    by_cases e : k = D.length
    · rw [if_pos e, e]; simp
    · rw [if_neg e]
      have : D[k]? = none := List.getElem?_eq_none (by omega)
      rw [this]
      have : ([x] : List (Nat × Nat))[k - D.length]? = none := List.getElem?_eq_none (by simp; omega)
      rw [this]
theorem CodeM.snoc {a b : Nat} (h : CodeM D J) (h7 : J' 73 17 = nI (D.length + 1)) (h76 : ∀ i, J' 76 i = if i = D.length then nI a else J 76 i) (h77 : ∀ i, J' 77 i = if i = D.length then nI b else J 77 i) : CodeM (D ++ [(a, b)]) J' := by
  refine ⟨by rw [h7]; simp, fun k hk => ?_⟩
  rw [h76, h77, getD_snoc]
  simp at hk
  by_cases e : k = D.length
  · rw [if_pos e, if_pos e, if_pos e]; exact ⟨rfl, rfl⟩
  · rw [if_neg e, if_neg e, if_neg e]; exact h.2 k (by omega)
theorem CodeM.fr (h : CodeM D J) (h7 : J' 73 17 = J 73 17) (h76 : J' 76 = J 76) (h77 : J' 77 = J 77) : CodeM D J' := by
  unfold CodeM at *
  rw [h7, h76, h77]
  exact h
theorem SkM.fr (h : SkM K J) (h9 : J' 73 19 = J 73 19) (h80 : J' 80 = J 80) : SkM K J' := ⟨by rw [h9]; exact h.1, h.2.fr (fun i _ => by rw [h80])⟩
theorem FM2.fr (h : FM2 D K u J) (h73 : ∀ j, j = 17 ∨ j = 19 ∨ j = 20 ∨ j = 22 ∨ j = 23 → J' 73 j = J 73 j) (hr : ∀ a, a = 76 ∨ a = 77 ∨ a = 80 → J' a = J a) : FM2 D K u J' := by
  obtain ⟨a1, a2, a3, a4, a5⟩ := h
  exact ⟨a1.fr (h73 17 (by omega)) (hr 76 (by omega)) (hr 77 (by omega)), a2.fr (h73 19 (by omega)) (hr 80 (by omega)), by rw [h73 23 (by omega)]; exact a3, by rw [h73 20 (by omega)]; exact a4, by rw [h73 22 (by omega)]; exact a5⟩
theorem FM2.fb (h : FM2 D K u J) (f : LxB J J' M M') : FM2 D K u J' := h.fr (fun j hj => f.2.1 j (by omega) (by omega) (by omega) (by omega)) (fun a ha => f.1 a (by omega))
theorem SkM.push {x : Nat} (h : SkM K J) (h9 : J' 73 19 = nI (K.length + 1)) (h80 : ∀ i, J' 80 i = if i = K.length then nI x else J 80 i) : SkM (x :: K) J' := by
  refine ⟨by rw [h9]; rfl, by rw [h80, if_pos rfl], h.2.fr (fun i hi => by rw [h80, if_neg (by omega)])⟩
theorem SkM.pop {x : Nat} (h : SkM (x :: K) J) (h9 : J' 73 19 = nI K.length) (h80 : J' 80 = J 80) : SkM K J' := ⟨h9, h.2.2.fr (fun i _ => by rw [h80])⟩
/-- signs are closed, down to one that holds less -/
theorem m_close {l : Nat} (hl : l ≤ 7) (hS : topOK l S) (hvS : ∀ x, x ∈ S → vS x) (hlS : S.length < 150) : ∀ (R : List Nat) (fu : Nat) (D : List (Nat × Nat)) (J : HI), RV l R → CodeM D J → SkM (R ++ S) J → J 73 23 = nI (wd (R ++ S)) → (R ++ S).length < 150 → D.length + R.length < 320 → R.length < fu → ∃ J', fX12_close_0 fu (nI l) J = some J' ∧ CodeM (D ++ R.map st1) J' ∧ SkM S J' ∧ J' 73 23 = nI (wd S) ∧ (∀ a, a ≠ 73 → a ≠ 76 → a ≠ 77 → J' a = J a) ∧ (∀ j, j ≠ 17 → j ≠ 19 → j ≠ 23 → J' 73 j = J 73 j) := by
  intro R
  induction R with
  | nil =>
    intro fu D J hR hC hK hW hlen hD hf
    obtain ⟨f, rfl⟩ : ∃ f, fu = f + 1 := ⟨fu - 1, by simp at hf; omega⟩
    rw [List.nil_append] at hK hW
    refine ⟨J, ?_, by simpa using hC, hK, hW, fun _ _ _ _ => rfl, fun _ _ _ _ => rfl⟩
    rw [fX12_close_0, hK.1]
    cases S with
    | nil => rw [if_pos (by decide), Option.bind_some, if_pos rfl]
    | cons x t =>
      have hx := vS_lt (hvS x (by simp))
      have ht := hK.2.1
      simp only [List.length_cons] at hlS ⊢
      have mt : fX12_tight (nI x) = nI (tg x) := m_tight ⟨x, hx⟩
      rw [if_neg (nI_nle (by omega) (by omega))]
      simp only [nI_m1 (show 1 ≤ t.length + 1 by omega), Nat.add_sub_cancel, clamp_nI (show t.length < 2 ^ 31 by omega), ht, mt, inb_nI (show t.length < 160 by omega) (show 160 < 2 ^ 31 by decide), if_true]
      have := tg_lt x
      rcases hS with e | e
      · rw [if_pos (show nI x = (20 : Int32) by rw [e]; rfl), Option.bind_some, if_pos rfl]
      · rw [if_pos (nI_lt e (by omega)), ite_self, Option.bind_some, if_pos rfl]
  | cons x R ih =>
    intro fu D J hR hC hK hW hlen hD hf
    obtain ⟨f, rfl⟩ : ∃ f, fu = f + 1 := ⟨fu - 1, by omega⟩
    obtain ⟨x20, xl, xv⟩ := hR x (by simp)
    have hx := vS_lt xv
    rw [List.cons_append] at hK hW hlen
    have ht := hK.2.1
    have h19 := hK.1
    simp only [List.length_cons] at hlen hD hf h19
    have t7 := tg_lt x
    have e20 : ¬ nI x = (20 : Int32) := ne_lit (c := 20) hx (by decide) x20
    have mt : fX12_tight (nI x) = nI (tg x) := m_tight ⟨x, hx⟩
    rw [fX12_close_0, h19, if_neg (nI_nle (by omega) (by omega))]
    simp only [nI_m1 (show 1 ≤ (R ++ S).length + 1 by omega), Nat.add_sub_cancel, clamp_nI (show (R ++ S).length < 2 ^ 31 by omega), ht, mt, inb_nI (show (R ++ S).length < 160 by omega) (show 160 < 2 ^ 31 by decide), if_true]
    rw [if_neg e20, if_neg (nI_nlt xl (by omega)), Option.bind_some, if_neg (by decide)]
    have q19 : up2 J 73 19 (nI (R ++ S).length) 73 19 = nI (R ++ S).length := up2_eq _ _ _ _
    have q80 : up2 J 73 19 (nI (R ++ S).length) 80 = J 80 := upRow _ _ (by decide)
    have q17 : up2 J 73 19 (nI (R ++ S).length) 73 17 = nI D.length := by rw [up2_at, if_neg (by decide)]; exact hC.1
    simp only [q19, q80, clamp_nI (show (R ++ S).length < 2 ^ 31 by omega), ht, inb_nI (show (R ++ S).length < 160 by omega) (show 160 < 2 ^ 31 by decide), if_true]
    by_cases c : x = 21
    · have a2 := m_add (a := 2) (b := 0) q17 (by omega)
      rw [show nI 2 = (2 : Int32) from rfl, show nI 0 = (0 : Int32) from rfl] at a2
      rw [if_pos (show nI x = (21 : Int32) by rw [c]; rfl), a2, Option.bind_some]
      obtain ⟨J2, hJ2⟩ : ∃ y : HI, y = up2 (up2 (up2 (up2 J 73 19 (nI (R ++ S).length)) 76 D.length 2) 77 D.length 0) 73 17 (nI (D.length + 1)) := ⟨_, rfl⟩
      rw [← hJ2]
      have w23 : J2 73 23 = nI (1 + wd (R ++ S)) := by
        rw [hJ2, up2_at, if_neg (by decide), upRow _ _ (by decide), upRow _ _ (by decide), up2_at, if_neg (by decide), hW]
        congr 1
        rw [wd, if_pos (Or.inr c)]
      rw [w23, nI_m1 (by omega), Nat.add_sub_cancel_left]
      have hC2 : CodeM (D ++ [st1 x]) (up2 J2 73 23 (nI (wd (R ++ S)))) := by
        have : st1 x = (2, 0) := by unfold st1; rw [if_pos c]
        rw [this]
        refine hC.snoc ?_ (fun i => ?_) (fun i => ?_)
        · rw [up2_at, if_neg (by decide), hJ2, up2_eq]
        · rw [upRow _ _ (by decide), hJ2, upRow _ _ (by decide), upRow _ _ (by decide), up2_at, upRow _ _ (by decide)]; simp; rfl
        · rw [upRow _ _ (by decide), hJ2, upRow _ _ (by decide), up2_at, upRow _ _ (by decide), upRow _ _ (by decide)]; simp; rfl
      have hK2 : SkM (R ++ S) (up2 J2 73 23 (nI (wd (R ++ S)))) := by
        refine hK.pop ?_ ?_
        · rw [up2_at, if_neg (by decide), hJ2, up2_at, if_neg (by decide), upRow _ _ (by decide), upRow _ _ (by decide), up2_eq]
        · rw [upRow _ _ (by decide), hJ2, upRow _ _ (by decide), upRow _ _ (by decide), upRow _ _ (by decide), upRow _ _ (by decide)]
      obtain ⟨J3, b1, b2, b3, b4, b5, b6⟩ := ih f (D ++ [st1 x]) (up2 J2 73 23 (nI (wd (R ++ S)))) (fun y hy => hR y (by simp [hy])) hC2 hK2 (up2_eq _ _ _ _) (by omega) (by simp; omega) (by omega)
      refine ⟨J3, b1, by simpa using b2, b3, b4, fun a h1 h2 h3 => ?_, fun j h1 h2 h3 => ?_⟩
      · rw [b5 a h1 h2 h3, upRow _ _ h1, hJ2, upRow _ _ h1, upRow _ _ h3, upRow _ _ h2, upRow _ _ h1]
      · rw [b6 j h1 h2 h3, up2_at, if_neg (by omega), hJ2, up2_at, if_neg (by omega), upRow _ _ (by decide), upRow _ _ (by decide), up2_at, if_neg (by omega)]
    · have a2 := m_add (a := 3) (b := x) q17 (by omega)
      rw [show nI 3 = (3 : Int32) from rfl] at a2
      rw [if_neg (show ¬ nI x = (21 : Int32) from ne_lit (c := 21) hx (by decide) c), a2, Option.bind_some]
      obtain ⟨J2, hJ2⟩ : ∃ y : HI, y = up2 (up2 (up2 (up2 J 73 19 (nI (R ++ S).length)) 76 D.length 3) 77 D.length (nI x)) 73 17 (nI (D.length + 1)) := ⟨_, rfl⟩
      rw [← hJ2]
      have w23 : J2 73 23 = nI (wd (R ++ S)) := by
        rw [hJ2, up2_at, if_neg (by decide), upRow _ _ (by decide), upRow _ _ (by decide), up2_at, if_neg (by decide), hW]
        congr 1
        rw [wd, if_neg (by omega)]
        omega
      have hC2 : CodeM (D ++ [st1 x]) J2 := by
        have : st1 x = (3, x) := by unfold st1; rw [if_neg c]
        rw [this]
        refine hC.snoc ?_ (fun i => ?_) (fun i => ?_)
        · rw [hJ2, up2_eq]
        · rw [hJ2, upRow _ _ (by decide), upRow _ _ (by decide), up2_at, upRow _ _ (by decide)]; simp; rfl
        · rw [hJ2, upRow _ _ (by decide), up2_at, upRow _ _ (by decide), upRow _ _ (by decide)]; simp
      have hK2 : SkM (R ++ S) J2 := by
        refine hK.pop ?_ ?_
        · rw [hJ2, up2_at, if_neg (by decide), upRow _ _ (by decide), upRow _ _ (by decide), up2_eq]
        · rw [hJ2, upRow _ _ (by decide), upRow _ _ (by decide), upRow _ _ (by decide), upRow _ _ (by decide)]
      obtain ⟨J3, b1, b2, b3, b4, b5, b6⟩ := ih f (D ++ [st1 x]) J2 (fun y hy => hR y (by simp [hy])) hC2 hK2 w23 (by omega) (by simp; omega) (by omega)
      refine ⟨J3, b1, by simpa using b2, b3, b4, fun a h1 h2 h3 => ?_, fun j h1 h2 h3 => ?_⟩
      · rw [b5 a h1 h2 h3, hJ2, upRow _ _ h1, upRow _ _ h3, upRow _ _ h2, upRow _ _ h1]
      · rw [b6 j h1 h2 h3, hJ2, up2_at, if_neg (by omega), upRow _ _ (by decide), upRow _ _ (by decide), up2_at, if_neg (by omega)]
end FR1
