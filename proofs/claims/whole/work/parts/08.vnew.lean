section VN
variable {g : GG} {md : MD} {d kc ks n : Nat} {r : HR} {I : HI} {L : HL} {pc : Nat} {ls : List (Option Value)} {st : List Value} {P : PP}
theorem V_new {idx c pc' : Nat} (hd : decode md.2.1 pc = .ok (.new idx, 3)) (hw : NL md.1.cls idx c) (hs : (SH n).1 = c + 4) (hp : pc + 3 = pc') (h : V g md d kc ks (n + 1) (zr0 none r n) (zr0 0 I n) (zr0 0 L n) pc' ls (.ref n :: st) P) : V g md d (kc + 1) (ks + cn c) n r I L pc ls st P := by
  subst hp
  intro p e s m args below meth c' H lc locs cells slots mc ms hF hR hS hl hc hs' hz T hT X
  have h1 : T.heap.size ≤ s.heap.size + cells := X.heapSize
  have hsz : H.size = gb g + n := by
    rw [hT] at h1
    have := hR.1
    omega
  have hK := hF.2.2.2.2.2.2.2.2.1
  have hts := hF.2.2.2.2.1
  have hKn := hK.1 c _ (vwCl_at c hw.1)
  have hc1 : cells + 1 ≤ (rmD d mc ms).cells := by show cells + 1 ≤ mc; omega
  have hc2 : slots + cn c ≤ (rmD d mc ms).slots := by show slots + cn c ≤ ms; omega
  suffices key : W p (gl g) e (rmD d mc ms) s m args below meth c' H locs cells slots (MQ below (Po g mc P) args s mc ms (AA g)) (F0 m pc lc (st.map (cv g))) from key T hT X
  refine W.newcK (g := F0 m pc lc (st.map (cv g))) hF.1 hF.2.1 hF.2.2.2.1 (hts _ hw.2.1) (hts _ hw.2.2.1) (hts _ hw.2.2.2) rfl hd hc1 hc2 hKn.2.1 hsz (fun H1 kC hkC e1 z1 o1 => ?_)
  have hP1 : va_P (gD g) vwCl (wsF g (ce g (zr0 none r n) (zr0 0 I n) (zr0 0 L n)) (n + 1)) H1 := by
    rw [← wsF_push (f := ce g r I L) (e := ce g (zr0 none r n) (zr0 0 I n) (zr0 0 L n) n) rfl (fun j hj => ce_congr (zr0_off _ _ (by omega)) (zr0_off _ _ (by omega)) (zr0_off _ _ (by omega)))]
    refine (hR.2.kept (fun k x hx => o1 x.1 (by rw [← hsz]; exact (hR.2 k x hx).lt))).app (fun k x hx => ?_)
    have hk : k < 1 := (List.getElem?_eq_some_iff.mp hx).1
    rw [show k = 0 by omega] at hx
    cases hx
    rw [ce_obj hs]
    refine ⟨_, vwCl_at c hw.1, (u_born (ctys c) hts (uws_in hw.1) hKn hkC e1 (cty_ok c hw.1)).to (fun j hj => ?_)⟩
    rw [dfv_ok c hw.1 j hj]
    show _ = (fsOf _ _ _ _ _ _).getD j .null
    rw [List.getD_eq_getElem?_getD, fs_at hj]
    show _ = fv _ _ _ _ _ _ _
    unfold fv dfv
    rw [zr0_row, zr0_row, zr0_row]
    split <;> rename_i hq <;> simp only [hq] <;> first | rfl | (split <;> first | rfl | omega)
  exact h p e s m args below meth c' H1 lc locs (cells + 1) (slots + cn c) mc ms hF ⟨by rw [z1]; omega, hP1⟩ ⟨by have := hS.1; omega, fun q q1 q2 => (o1 q (by have := hS.1; omega)).trans (hS.2.1 q q1 q2), hS.2.2⟩ hl (by omega) (by omega) (by omega)
theorem V_newa {k N pc' : Nat} {at0 : ArrayType} {ty : FieldType} {x : Int32} (hd : decode md.2.1 pc = .ok (.newarray at0, 2)) (ht : newarray.typeOf at0 = ty) (hk : (tysOf g)[k]? = some (gc g k, ty)) (hRA : ∀ U c, va_RA U c ty → U.vm.findClass ("[" ++ ty.toString) = some c) (hk4 : k < 4) (hw : Cond.arrayClass ty ∈ TB) (hs : SH n = (k, N)) (hx : ¬ x < 0) (hN : x.toNatClampNeg = N) (hB : N * componentBytes ty ≤ 536870912) (hdf : defaultValue ty = if k = 1 then .long 0 else .int 0) (hp : pc + 2 = pc') (h : V g md d kc ks (n + 1) (zr0 none r n) (zr0 0 I n) (zr0 0 L n) pc' ls (.ref n :: st) P) : V g md d (kc + 1) (ks + N) n r I L pc ls (.int x :: st) P := by
  subst hp; subst ht
  intro p e s m args below meth c' H lc locs cells slots mc ms hF hR hS hl hc hs' hz T hT X
  have h1 : T.heap.size ≤ s.heap.size + cells := X.heapSize
  have hsz : H.size = gb g + n := by
    rw [hT] at h1
    have := hR.1
    omega
  have hK := hF.2.2.2.2.2.2.2.2.1
  have hts := hF.2.2.2.2.1
  have hc1 : cells + 1 ≤ (rmD d mc ms).cells := by show cells + 1 ≤ mc; omega
  have hc2 : slots + N ≤ (rmD d mc ms).slots := by show slots + N ≤ ms; omega
  suffices key : W p (gl g) e (rmD d mc ms) s m args below meth c' H locs cells slots (MQ below (Po g mc P) args s mc ms (AA g)) (F0 m pc lc (.int x :: st.map (cv g))) from key T hT X
  refine va_newaK (g := F0 m pc lc (.int x :: st.map (cv g))) hF.1 hF.2.1 (hts _ hw) rfl hd rfl hx hN hB hc1 hc2 hsz (fun H1 cA e1 z1 o1 hAr hNm => ?_)
  have hcA : cA = gc g k := Option.some.inj (hNm.symm.trans (hRA s _ (hK.2 k _ hk).2))
  subst hcA
  have hP1 : va_P (gD g) vwCl (wsF g (ce g (zr0 none r n) (zr0 0 I n) (zr0 0 L n)) (n + 1)) H1 := by
    rw [← wsF_push (f := ce g r I L) (e := ce g (zr0 none r n) (zr0 0 I n) (zr0 0 L n) n) rfl (fun j hj => ce_congr (zr0_off _ _ (by omega)) (zr0_off _ _ (by omega)) (zr0_off _ _ (by omega)))]
    refine (hR.2.kept (fun k x hx => o1 x.1 (by rw [← hsz]; exact (hR.2 k x hx).lt))).app (fun k' x hx => ?_)
    have hk : k' < 1 := (List.getElem?_eq_some_iff.mp hx).1
    rw [show k' = 0 by omega] at hx
    cases hx
    rw [hdf] at e1
    match k, hk4, hs, e1 with
    | 0, _, hs, e1 => rw [ce_i hs, zr0_row]; exact e1
    | 1, _, hs, e1 => rw [ce_l hs, zr0_row]; exact e1
    | 2, _, hs, e1 => rw [ce_b hs, zr0_row]; exact e1
    | 3, _, hs, e1 => rw [ce_z hs, zr0_row]; exact e1
  exact h p e s m args below meth c' H1 lc locs (cells + 1) (slots + N) mc ms hF ⟨by rw [z1]; omega, hP1⟩ ⟨by have := hS.1; omega, fun q q1 q2 => (o1 q (by have := hS.1; omega)).trans (hS.2.1 q q1 q2), hS.2.2⟩ hl (by omega) (by omega) (by omega)
end VN
