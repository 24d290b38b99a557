section VMA
variable {g : GG} {md : MD} {d kc ks n : Nat} {r : HR} {I : HI} {L : HL} {pc : Nat} {ls : List (Option Value)} {st : List Value} {P : PP}
theorem w_mmax : Cond.code Lib.Math.max.name Lib.Math.max.code 2 (some .int) ∈ TB := mfJ9_max_7cf53.2.2.1
theorem V_mmax {x y : Int32} {idx pc' : Nat} (hd : decode md.2.1 pc = .ok (.invokestatic idx, 3)) (hl0 : Cond.methodLink md.1.cls idx yJ9_max_7cf53 ∈ TB) (hm : csum st ≤ 8) (hp : pc + 3 = pc') (h : V g md (d + 1) kc ks n r I L pc' ls (.int (if x < y then y else x) :: st) P) : V g md (d + 1) kc ks n r I L pc ls (.int y :: .int x :: st) P := by
  subst hp
  intro p e s m args below meth c' H lc locs cells slots mc ms hF hR hS hl hc hs' hz
  have hts := hF.2.2.2.2.1
  exact va_mmax hF.1 hF.2.1 (hF.2.2.1.trans hl.1.symm) hF.2.2.2.1 (hts _ hl0) (hts _ mSJ9_max_7cf53.2) (hts _ mfJ9_max_7cf53.2.1) (hts _ w_mmax) (by show 1 ≤ d + 1; omega) (by rw [csum_cv]; show csum st + 13 ≤ 40 * (d + 1); omega) (by show cells ≤ mc; omega) (by show slots ≤ ms; omega) hd (h p e s m args below meth c' H lc locs cells slots mc ms hF hR hS hl hc hs' hz)
theorem w_mmin : Cond.code Lib.Math.min.name Lib.Math.min.code 2 (some .int) ∈ TB := mfJ9_min_7cf53.2.2.1
theorem V_mmin {x y : Int32} {idx pc' : Nat} (hd : decode md.2.1 pc = .ok (.invokestatic idx, 3)) (hl0 : Cond.methodLink md.1.cls idx yJ9_min_7cf53 ∈ TB) (hm : csum st ≤ 8) (hp : pc + 3 = pc') (h : V g md (d + 1) kc ks n r I L pc' ls (.int (if y < x then y else x) :: st) P) : V g md (d + 1) kc ks n r I L pc ls (.int y :: .int x :: st) P := by
  subst hp
  intro p e s m args below meth c' H lc locs cells slots mc ms hF hR hS hl hc hs' hz
  have hts := hF.2.2.2.2.1
  exact va_mmin hF.1 hF.2.1 (hF.2.2.1.trans hl.1.symm) hF.2.2.2.1 (hts _ hl0) (hts _ mSJ9_min_7cf53.2) (hts _ mfJ9_min_7cf53.2.1) (hts _ w_mmin) (by show 1 ≤ d + 1; omega) (by rw [csum_cv]; show csum st + 13 ≤ 40 * (d + 1); omega) (by show cells ≤ mc; omega) (by show slots ≤ ms; omega) hd (h p e s m args below meth c' H lc locs cells slots mc ms hF hR hS hl hc hs' hz)
theorem w_mabs : Cond.code Lib.Math.abs.name Lib.Math.abs.code 1 (some .int) ∈ TB := mfJ9_abs_0f7a4.2.2.1
theorem V_mabs {x : Int32} {idx pc' : Nat} (hd : decode md.2.1 pc = .ok (.invokestatic idx, 3)) (hl0 : Cond.methodLink md.1.cls idx yJ9_abs_0f7a4 ∈ TB) (hm : csum st ≤ 8) (hp : pc + 3 = pc') (h : V g md (d + 1) kc ks n r I L pc' ls (.int (if 0 ≤ x then x else 0 - x) :: st) P) : V g md (d + 1) kc ks n r I L pc ls (.int x :: st) P := by
  subst hp
  intro p e s m args below meth c' H lc locs cells slots mc ms hF hR hS hl hc hs' hz
  have hts := hF.2.2.2.2.1
  exact va_mabs hF.1 hF.2.1 (hF.2.2.1.trans hl.1.symm) hF.2.2.2.1 (hts _ hl0) (hts _ mSJ9_abs_0f7a4.2) (hts _ mfJ9_abs_0f7a4.2.1) (hts _ w_mabs) (by show 1 ≤ d + 1; omega) (by rw [csum_cv]; show csum st + 13 ≤ 40 * (d + 1); omega) (by show cells ≤ mc; omega) (by show slots ≤ ms; omega) hd (h p e s m args below meth c' H lc locs cells slots mc ms hF hR hS hl hc hs' hz)
theorem w_mmaxL : Cond.code Lib.MathLoose.max_long.x Lib.MathLoose.max_long.code 4 (some .long) ∈ TB := mfJ9_max_f86c9.2.2.1
theorem V_mmaxL {x y : Int64} {idx pc' : Nat} (hd : decode md.2.1 pc = .ok (.invokestatic idx, 3)) (hl0 : Cond.methodLink md.1.cls idx yJ9_max_f86c9 ∈ TB) (hm : csum st ≤ 8) (hp : pc + 3 = pc') (h : V g md (d + 1) kc ks n r I L pc' ls (.long (if y < x then x else y) :: st) P) : V g md (d + 1) kc ks n r I L pc ls (.long y :: .long x :: st) P := by
  subst hp
  intro p e s m args below meth c' H lc locs cells slots mc ms hF hR hS hl hc hs' hz
  have hts := hF.2.2.2.2.1
  exact va_mmax_long hF.1 hF.2.1 (hF.2.2.1.trans hl.1.symm) hF.2.2.2.1 (hts _ hl0) (hts _ mSJ9_max_f86c9.2) (hts _ mfJ9_max_f86c9.2.1) (hts _ w_mmaxL) (by show 1 ≤ d + 1; omega) (by rw [csum_cv]; show csum st + 15 ≤ 40 * (d + 1); omega) (by show cells ≤ mc; omega) (by show slots ≤ ms; omega) hd (h p e s m args below meth c' H lc locs cells slots mc ms hF hR hS hl hc hs' hz)
end VMA
