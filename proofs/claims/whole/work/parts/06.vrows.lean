theorem lgc_eq (x y : Int64) : (lg_cmp x y = 0) ↔ x = y := by
  unfold lg_cmp
  by_cases h : x > y
  · rw [if_pos h]; exact ⟨fun z => absurd z (by decide), fun z => by subst z; exact absurd h (fun q => Int64.lt_irrefl q)⟩
  · rw [if_neg h]
    by_cases h2 : x = y
    · simp [h2]
    · rw [if_neg h2]; exact ⟨fun z => absurd z (by decide), fun z => absurd z h2⟩
theorem lgc_gt (x y : Int64) : (0 < lg_cmp x y) ↔ y < x := by
  unfold lg_cmp
  by_cases h : x > y
  · rw [if_pos h]; exact ⟨fun _ => h, fun _ => by decide⟩
  · rw [if_neg h]
    by_cases h2 : x = y
    · rw [if_pos h2]; exact ⟨fun z => absurd z (by decide), fun z => absurd z h⟩
    · rw [if_neg h2]; exact ⟨fun z => absurd z (by decide), fun z => absurd z h⟩
theorem lgc_le (x y : Int64) : (lg_cmp x y ≤ 0) ↔ x ≤ y := by
  rw [← Int32.not_lt, lgc_gt, Int64.not_lt]
theorem lgc_lt (x y : Int64) : (lg_cmp x y < 0) ↔ x < y := by
  unfold lg_cmp
  by_cases h : x > y
  · rw [if_pos h]; exact ⟨fun z => absurd z (by decide), fun z => absurd z (lg_lt_not h)⟩
  · rw [if_neg h]
    by_cases h2 : x = y
    · rw [if_pos h2]; exact ⟨fun z => absurd z (by decide), fun z => absurd h2 (lg_lt_ne z)⟩
    · rw [if_neg h2]; exact ⟨fun _ => by
        simp only [gt_iff_lt, Int64.lt_iff_toInt_lt, ← Int64.toInt_inj] at *; omega, fun _ => by decide⟩
theorem lgc_ge (x y : Int64) : (0 ≤ lg_cmp x y) ↔ y ≤ x := lg_cmp_ge x y
section VR
variable {g : GG} {md : MD} {d kc ks n : Nat} {r : HR} {I : HI} {L : HL} {pc : Nat} {ls : List (Option Value)} {st : List Value} {P : PP}
theorem V_bipush {k : Int} {x : Int32} {pc' : Nat} (hd : decode md.2.1 pc = .ok (.bipush k, 2)) (hx : (Int8.ofInt k).toInt32 = x) (hp : pc + 2 = pc') (h : V g md d kc ks n r I L pc' ls (.int x :: st) P) : V g md d kc ks n r I L pc ls (st) P := by
  subst hp
  intro p e s m args below meth c H lc locs cells slots mc ms hF hR hS hl hc hs hz
  exact lv_bipush hF.1 hF.2.1 hd hx (h p e s m args below meth c H lc locs cells slots mc ms hF hR hS hl hc hs hz)
theorem V_sipush {k : Int} {x : Int32} {pc' : Nat} (hd : decode md.2.1 pc = .ok (.sipush k, 3)) (hx : (Int16.ofInt k).toInt32 = x) (hp : pc + 3 = pc') (h : V g md d kc ks n r I L pc' ls (.int x :: st) P) : V g md d kc ks n r I L pc ls (st) P := by
  subst hp
  intro p e s m args below meth c H lc locs cells slots mc ms hF hR hS hl hc hs hz
  exact lv_sipush hF.1 hF.2.1 hd hx (h p e s m args below meth c H lc locs cells slots mc ms hF hR hS hl hc hs hz)
theorem V_lconst {k : Fin 2} {x : Int64} {pc' : Nat} (hd : decode md.2.1 pc = .ok (.lconst k, 1)) (hx : Int64.ofNat (k : Nat) = x) (hp : pc + 1 = pc') (h : V g md d kc ks n r I L pc' ls (.long x :: st) P) : V g md d kc ks n r I L pc ls (st) P := by
  subst hp
  intro p e s m args below meth c H lc locs cells slots mc ms hF hR hS hl hc hs hz
  exact lv_lconst hF.1 hF.2.1 hd hx (h p e s m args below meth c H lc locs cells slots mc ms hF hR hS hl hc hs hz)
theorem V_iload_n {k : Fin 4} {i : Nat} {x : Int32} {pc' : Nat} (hd : decode md.2.1 pc = .ok (.iload_n k, 1)) (hi : (k : Nat) = i) (hl0 : lat ls i = some (.int x)) (hp : pc + 1 = pc') (h : V g md d kc ks n r I L pc' ls (.int x :: st) P) : V g md d kc ks n r I L pc ls (st) P := by
  subst hp
  intro p e s m args below meth c H lc locs cells slots mc ms hF hR hS hl hc hs hz
  exact lv_iload_n hF.1 hF.2.1 hd hi (hl.at hl0) (h p e s m args below meth c H lc locs cells slots mc ms hF hR hS hl hc hs hz)
theorem V_iload {i : Nat} {x : Int32} {pc' : Nat} (hd : decode md.2.1 pc = .ok (.iload i, 2)) (hl0 : lat ls i = some (.int x)) (hp : pc + 2 = pc') (h : V g md d kc ks n r I L pc' ls (.int x :: st) P) : V g md d kc ks n r I L pc ls (st) P := by
  subst hp
  intro p e s m args below meth c H lc locs cells slots mc ms hF hR hS hl hc hs hz
  exact lv_iload hF.1 hF.2.1 hd (hl.at hl0) (h p e s m args below meth c H lc locs cells slots mc ms hF hR hS hl hc hs hz)
theorem V_lload_n {k : Fin 4} {i : Nat} {x : Int64} {pc' : Nat} (hd : decode md.2.1 pc = .ok (.lload_n k, 1)) (hi : (k : Nat) = i) (hl0 : lat ls i = some (.long x)) (hp : pc + 1 = pc') (h : V g md d kc ks n r I L pc' ls (.long x :: st) P) : V g md d kc ks n r I L pc ls (st) P := by
  subst hp
  intro p e s m args below meth c H lc locs cells slots mc ms hF hR hS hl hc hs hz
  exact lv_lload_n hF.1 hF.2.1 hd hi (hl.at hl0) (h p e s m args below meth c H lc locs cells slots mc ms hF hR hS hl hc hs hz)
theorem V_lload {i : Nat} {x : Int64} {pc' : Nat} (hd : decode md.2.1 pc = .ok (.lload i, 2)) (hl0 : lat ls i = some (.long x)) (hp : pc + 2 = pc') (h : V g md d kc ks n r I L pc' ls (.long x :: st) P) : V g md d kc ks n r I L pc ls (st) P := by
  subst hp
  intro p e s m args below meth c H lc locs cells slots mc ms hF hR hS hl hc hs hz
  exact lv_lload hF.1 hF.2.1 hd (hl.at hl0) (h p e s m args below meth c H lc locs cells slots mc ms hF hR hS hl hc hs hz)
theorem V_aload_n {k : Fin 4} {i a : Nat} {pc' : Nat} (hd : decode md.2.1 pc = .ok (.aload_n k, 1)) (hi : (k : Nat) = i) (hl0 : lat ls i = some (.ref a)) (hp : pc + 1 = pc') (h : V g md d kc ks n r I L pc' ls (.ref a :: st) P) : V g md d kc ks n r I L pc ls (st) P := by
  subst hp
  intro p e s m args below meth c H lc locs cells slots mc ms hF hR hS hl hc hs hz
  exact lv_aload_n hF.1 hF.2.1 hd hi (hl.at hl0) (h p e s m args below meth c H lc locs cells slots mc ms hF hR hS hl hc hs hz)
theorem V_aload {i a : Nat} {pc' : Nat} (hd : decode md.2.1 pc = .ok (.aload i, 2)) (hl0 : lat ls i = some (.ref a)) (hp : pc + 2 = pc') (h : V g md d kc ks n r I L pc' ls (.ref a :: st) P) : V g md d kc ks n r I L pc ls (st) P := by
  subst hp
  intro p e s m args below meth c H lc locs cells slots mc ms hF hR hS hl hc hs hz
  exact lv_aload hF.1 hF.2.1 hd (hl.at hl0) (h p e s m args below meth c H lc locs cells slots mc ms hF hR hS hl hc hs hz)
theorem V_aload_nX {k : Fin 4} {i a : Nat} {pc' : Nat} (hd : decode md.2.1 pc = .ok (.aload_n k, 1)) (hi : (k : Nat) = i) (hl0 : lat ls i = some (.retAddr a)) (hp : pc + 1 = pc') (h : V g md d kc ks n r I L pc' ls (.retAddr a :: st) P) : V g md d kc ks n r I L pc ls (st) P := by
  subst hp
  intro p e s m args below meth c H lc locs cells slots mc ms hF hR hS hl hc hs hz
  exact lv_aload_n hF.1 hF.2.1 hd hi (hl.at hl0) (h p e s m args below meth c H lc locs cells slots mc ms hF hR hS hl hc hs hz)
theorem V_istore_n {k : Fin 4} {i : Nat} {x : Int32} {ls' : List (Option Value)} {pc' : Nat} (hd : decode md.2.1 pc = .ok (.istore_n k, 1)) (hi : (k : Nat) = i) (hn : i < md.2.2.1) (hls : lset ls i (.int x) = ls') (hp : pc + 1 = pc') (h : V g md d kc ks n r I L pc' ls' st P) : V g md d kc ks n r I L pc ls (.int x :: st) P := by
  subst hp; subst hls
  intro p e s m args below meth c H lc locs cells slots mc ms hF hR hS hl hc hs hz
  exact lv_istore_n hF.1 hF.2.1 hd hi hl hn rfl (fun lc' hl' => h p e s m args below meth c H lc' locs cells slots mc ms hF hR hS (LR.s1 (v := .int x) hl') hc hs hz)
theorem V_istore  {i : Nat} {x : Int32} {ls' : List (Option Value)} {pc' : Nat} (hd : decode md.2.1 pc = .ok (.istore i, 2))  (hn : i < md.2.2.1) (hls : lset ls i (.int x) = ls') (hp : pc + 2 = pc') (h : V g md d kc ks n r I L pc' ls' st P) : V g md d kc ks n r I L pc ls (.int x :: st) P := by
  subst hp; subst hls
  intro p e s m args below meth c H lc locs cells slots mc ms hF hR hS hl hc hs hz
  exact lv_istore hF.1 hF.2.1 hd  hl hn rfl (fun lc' hl' => h p e s m args below meth c H lc' locs cells slots mc ms hF hR hS (LR.s1 (v := .int x) hl') hc hs hz)
theorem V_lstore_n {k : Fin 4} {i : Nat} {x : Int64} {ls' : List (Option Value)} {pc' : Nat} (hd : decode md.2.1 pc = .ok (.lstore_n k, 1)) (hi : (k : Nat) = i) (hn : i + 1 < md.2.2.1) (hls : lse2 ls i (.long x) = ls') (hp : pc + 1 = pc') (h : V g md d kc ks n r I L pc' ls' st P) : V g md d kc ks n r I L pc ls (.long x :: st) P := by
  subst hp; subst hls
  intro p e s m args below meth c H lc locs cells slots mc ms hF hR hS hl hc hs hz
  exact lv_lstore_n hF.1 hF.2.1 hd hi hl hn rfl (fun lc' hl' => h p e s m args below meth c H lc' locs cells slots mc ms hF hR hS (LR.s2 (v := .long x) hl') hc hs hz)
theorem V_lstore  {i : Nat} {x : Int64} {ls' : List (Option Value)} {pc' : Nat} (hd : decode md.2.1 pc = .ok (.lstore i, 2))  (hn : i + 1 < md.2.2.1) (hls : lse2 ls i (.long x) = ls') (hp : pc + 2 = pc') (h : V g md d kc ks n r I L pc' ls' st P) : V g md d kc ks n r I L pc ls (.long x :: st) P := by
  subst hp; subst hls
  intro p e s m args below meth c H lc locs cells slots mc ms hF hR hS hl hc hs hz
  exact lv_lstore hF.1 hF.2.1 hd  hl hn rfl (fun lc' hl' => h p e s m args below meth c H lc' locs cells slots mc ms hF hR hS (LR.s2 (v := .long x) hl') hc hs hz)
theorem V_astore_n {k : Fin 4} {i : Nat} {x : Nat} {ls' : List (Option Value)} {pc' : Nat} (hd : decode md.2.1 pc = .ok (.astore_n k, 1)) (hi : (k : Nat) = i) (hn : i < md.2.2.1) (hls : lset ls i (.ref x) = ls') (hp : pc + 1 = pc') (h : V g md d kc ks n r I L pc' ls' st P) : V g md d kc ks n r I L pc ls (.ref x :: st) P := by
  subst hp; subst hls
  intro p e s m args below meth c H lc locs cells slots mc ms hF hR hS hl hc hs hz
  exact lv_astore_n hF.1 hF.2.1 hd hi hl hn rfl (fun lc' hl' => h p e s m args below meth c H lc' locs cells slots mc ms hF hR hS (LR.s1 (v := .ref x) hl') hc hs hz)
theorem V_astore  {i : Nat} {x : Nat} {ls' : List (Option Value)} {pc' : Nat} (hd : decode md.2.1 pc = .ok (.astore i, 2))  (hn : i < md.2.2.1) (hls : lset ls i (.ref x) = ls') (hp : pc + 2 = pc') (h : V g md d kc ks n r I L pc' ls' st P) : V g md d kc ks n r I L pc ls (.ref x :: st) P := by
  subst hp; subst hls
  intro p e s m args below meth c H lc locs cells slots mc ms hF hR hS hl hc hs hz
  exact lv_astore hF.1 hF.2.1 hd  hl hn rfl (fun lc' hl' => h p e s m args below meth c H lc' locs cells slots mc ms hF hR hS (LR.s1 (v := .ref x) hl') hc hs hz)
theorem V_iinc {i : Nat} {k : Int} {x y : Int32} {ls' : List (Option Value)} {pc' : Nat} (hd : decode md.2.1 pc = .ok (.iinc i k, 3)) (hl0 : lat ls i = some (.int x)) (hn : i < md.2.2.1) (hy : x + Int32.ofInt k = y) (hls : lset ls i (.int y) = ls') (hp : pc + 3 = pc') (h : V g md d kc ks n r I L pc' ls' st P) : V g md d kc ks n r I L pc ls st P := by
  subst hp; subst hls; subst hy
  intro p e s m args below meth c H lc locs cells slots mc ms hF hR hS hl hc hs hz
  obtain ⟨k0, hk0⟩ := List.getElem?_of_mem ((prs_mem (g := g) ls 0 (i, .int x)).mpr ⟨i, .int x, hl0, by rw [Nat.zero_add]; rfl⟩)
  exact lv_iinc (v := x + Int32.ofInt k) hF.1 hF.2.1 hd hl hk0 rfl hn rfl (fun lc' hl' => h p e s m args below meth c H lc' locs cells slots mc ms hF hR hS (LR.s1 (v := .int (x + Int32.ofInt k)) hl') hc hs hz)
theorem V_iadd {x y : Int32} {pc' : Nat} (hd : decode md.2.1 pc = .ok (.iadd, 1))  (hp : pc + 1 = pc') (h : V g md d kc ks n r I L pc' ls (.int (x + y) :: st) P) : V g md d kc ks n r I L pc ls (.int y :: .int x :: st) P := by
  subst hp
  intro p e s m args below meth c H lc locs cells slots mc ms hF hR hS hl hc hs hz
  exact lv_iadd hF.1 hF.2.1 hd  (h p e s m args below meth c H lc locs cells slots mc ms hF hR hS hl hc hs hz)
theorem V_isub {x y : Int32} {pc' : Nat} (hd : decode md.2.1 pc = .ok (.isub, 1))  (hp : pc + 1 = pc') (h : V g md d kc ks n r I L pc' ls (.int (x - y) :: st) P) : V g md d kc ks n r I L pc ls (.int y :: .int x :: st) P := by
  subst hp
  intro p e s m args below meth c H lc locs cells slots mc ms hF hR hS hl hc hs hz
  exact lv_isub hF.1 hF.2.1 hd  (h p e s m args below meth c H lc locs cells slots mc ms hF hR hS hl hc hs hz)
theorem V_imul {x y : Int32} {pc' : Nat} (hd : decode md.2.1 pc = .ok (.imul, 1))  (hp : pc + 1 = pc') (h : V g md d kc ks n r I L pc' ls (.int (x * y) :: st) P) : V g md d kc ks n r I L pc ls (.int y :: .int x :: st) P := by
  subst hp
  intro p e s m args below meth c H lc locs cells slots mc ms hF hR hS hl hc hs hz
  exact lv_imul hF.1 hF.2.1 hd  (h p e s m args below meth c H lc locs cells slots mc ms hF hR hS hl hc hs hz)
theorem V_iand {x y : Int32} {pc' : Nat} (hd : decode md.2.1 pc = .ok (.iand, 1))  (hp : pc + 1 = pc') (h : V g md d kc ks n r I L pc' ls (.int (x &&& y) :: st) P) : V g md d kc ks n r I L pc ls (.int y :: .int x :: st) P := by
  subst hp
  intro p e s m args below meth c H lc locs cells slots mc ms hF hR hS hl hc hs hz
  exact lv_iand hF.1 hF.2.1 hd  (h p e s m args below meth c H lc locs cells slots mc ms hF hR hS hl hc hs hz)
theorem V_ior {x y : Int32} {pc' : Nat} (hd : decode md.2.1 pc = .ok (.ior, 1))  (hp : pc + 1 = pc') (h : V g md d kc ks n r I L pc' ls (.int (x ||| y) :: st) P) : V g md d kc ks n r I L pc ls (.int y :: .int x :: st) P := by
  subst hp
  intro p e s m args below meth c H lc locs cells slots mc ms hF hR hS hl hc hs hz
  exact lv_ior hF.1 hF.2.1 hd  (h p e s m args below meth c H lc locs cells slots mc ms hF hR hS hl hc hs hz)
theorem V_ixor {x y : Int32} {pc' : Nat} (hd : decode md.2.1 pc = .ok (.ixor, 1))  (hp : pc + 1 = pc') (h : V g md d kc ks n r I L pc' ls (.int (x ^^^ y) :: st) P) : V g md d kc ks n r I L pc ls (.int y :: .int x :: st) P := by
  subst hp
  intro p e s m args below meth c H lc locs cells slots mc ms hF hR hS hl hc hs hz
  exact lv_ixor hF.1 hF.2.1 hd  (h p e s m args below meth c H lc locs cells slots mc ms hF hR hS hl hc hs hz)
theorem V_ishl {x y : Int32} {pc' : Nat} (hd : decode md.2.1 pc = .ok (.ishl, 1))  (hp : pc + 1 = pc') (h : V g md d kc ks n r I L pc' ls (.int (x <<< (y &&& 31)) :: st) P) : V g md d kc ks n r I L pc ls (.int y :: .int x :: st) P := by
  subst hp
  intro p e s m args below meth c H lc locs cells slots mc ms hF hR hS hl hc hs hz
  exact lv_ishl hF.1 hF.2.1 hd  (h p e s m args below meth c H lc locs cells slots mc ms hF hR hS hl hc hs hz)
theorem V_ishr {x y : Int32} {pc' : Nat} (hd : decode md.2.1 pc = .ok (.ishr, 1))  (hp : pc + 1 = pc') (h : V g md d kc ks n r I L pc' ls (.int (x >>> (y &&& 31)) :: st) P) : V g md d kc ks n r I L pc ls (.int y :: .int x :: st) P := by
  subst hp
  intro p e s m args below meth c H lc locs cells slots mc ms hF hR hS hl hc hs hz
  exact lv_ishr hF.1 hF.2.1 hd  (h p e s m args below meth c H lc locs cells slots mc ms hF hR hS hl hc hs hz)
theorem V_ladd {x y : Int64} {pc' : Nat} (hd : decode md.2.1 pc = .ok (.ladd, 1))  (hp : pc + 1 = pc') (h : V g md d kc ks n r I L pc' ls (.long (x + y) :: st) P) : V g md d kc ks n r I L pc ls (.long y :: .long x :: st) P := by
  subst hp
  intro p e s m args below meth c H lc locs cells slots mc ms hF hR hS hl hc hs hz
  exact lv_ladd hF.1 hF.2.1 hd  (h p e s m args below meth c H lc locs cells slots mc ms hF hR hS hl hc hs hz)
theorem V_lsub {x y : Int64} {pc' : Nat} (hd : decode md.2.1 pc = .ok (.lsub, 1))  (hp : pc + 1 = pc') (h : V g md d kc ks n r I L pc' ls (.long (x - y) :: st) P) : V g md d kc ks n r I L pc ls (.long y :: .long x :: st) P := by
  subst hp
  intro p e s m args below meth c H lc locs cells slots mc ms hF hR hS hl hc hs hz
  exact lv_lsub hF.1 hF.2.1 hd  (h p e s m args below meth c H lc locs cells slots mc ms hF hR hS hl hc hs hz)
theorem V_lmul {x y : Int64} {pc' : Nat} (hd : decode md.2.1 pc = .ok (.lmul, 1))  (hp : pc + 1 = pc') (h : V g md d kc ks n r I L pc' ls (.long (x * y) :: st) P) : V g md d kc ks n r I L pc ls (.long y :: .long x :: st) P := by
  subst hp
  intro p e s m args below meth c H lc locs cells slots mc ms hF hR hS hl hc hs hz
  exact lv_lmul hF.1 hF.2.1 hd  (h p e s m args below meth c H lc locs cells slots mc ms hF hR hS hl hc hs hz)
theorem V_land {x y : Int64} {pc' : Nat} (hd : decode md.2.1 pc = .ok (.land, 1))  (hp : pc + 1 = pc') (h : V g md d kc ks n r I L pc' ls (.long (x &&& y) :: st) P) : V g md d kc ks n r I L pc ls (.long y :: .long x :: st) P := by
  subst hp
  intro p e s m args below meth c H lc locs cells slots mc ms hF hR hS hl hc hs hz
  exact lv_land hF.1 hF.2.1 hd  (h p e s m args below meth c H lc locs cells slots mc ms hF hR hS hl hc hs hz)
theorem V_lor {x y : Int64} {pc' : Nat} (hd : decode md.2.1 pc = .ok (.lor, 1))  (hp : pc + 1 = pc') (h : V g md d kc ks n r I L pc' ls (.long (x ||| y) :: st) P) : V g md d kc ks n r I L pc ls (.long y :: .long x :: st) P := by
  subst hp
  intro p e s m args below meth c H lc locs cells slots mc ms hF hR hS hl hc hs hz
  exact lv_lor hF.1 hF.2.1 hd  (h p e s m args below meth c H lc locs cells slots mc ms hF hR hS hl hc hs hz)
theorem V_lxor {x y : Int64} {pc' : Nat} (hd : decode md.2.1 pc = .ok (.lxor, 1))  (hp : pc + 1 = pc') (h : V g md d kc ks n r I L pc' ls (.long (x ^^^ y) :: st) P) : V g md d kc ks n r I L pc ls (.long y :: .long x :: st) P := by
  subst hp
  intro p e s m args below meth c H lc locs cells slots mc ms hF hR hS hl hc hs hz
  exact lv_lxor hF.1 hF.2.1 hd  (h p e s m args below meth c H lc locs cells slots mc ms hF hR hS hl hc hs hz)
theorem V_idiv {x y : Int32} {pc' : Nat} (hd : decode md.2.1 pc = .ok (.idiv, 1)) (h0 : ¬ y = 0) (hp : pc + 1 = pc') (h : V g md d kc ks n r I L pc' ls (.int (x / y) :: st) P) : V g md d kc ks n r I L pc ls (.int y :: .int x :: st) P := by
  subst hp
  intro p e s m args below meth c H lc locs cells slots mc ms hF hR hS hl hc hs hz
  exact lv_idiv hF.1 hF.2.1 hd h0 (h p e s m args below meth c H lc locs cells slots mc ms hF hR hS hl hc hs hz)
theorem V_irem {x y : Int32} {pc' : Nat} (hd : decode md.2.1 pc = .ok (.irem, 1)) (h0 : ¬ y = 0) (hp : pc + 1 = pc') (h : V g md d kc ks n r I L pc' ls (.int (x - x / y * y) :: st) P) : V g md d kc ks n r I L pc ls (.int y :: .int x :: st) P := by
  subst hp
  intro p e s m args below meth c H lc locs cells slots mc ms hF hR hS hl hc hs hz
  exact lv_irem hF.1 hF.2.1 hd h0 (h p e s m args below meth c H lc locs cells slots mc ms hF hR hS hl hc hs hz)
theorem V_ldiv {x y : Int64} {pc' : Nat} (hd : decode md.2.1 pc = .ok (.ldiv, 1)) (h0 : ¬ y = 0) (hp : pc + 1 = pc') (h : V g md d kc ks n r I L pc' ls (.long (x / y) :: st) P) : V g md d kc ks n r I L pc ls (.long y :: .long x :: st) P := by
  subst hp
  intro p e s m args below meth c H lc locs cells slots mc ms hF hR hS hl hc hs hz
  exact lv_ldiv hF.1 hF.2.1 hd h0 (h p e s m args below meth c H lc locs cells slots mc ms hF hR hS hl hc hs hz)
theorem V_lrem {x y : Int64} {pc' : Nat} (hd : decode md.2.1 pc = .ok (.lrem, 1)) (h0 : ¬ y = 0) (hp : pc + 1 = pc') (h : V g md d kc ks n r I L pc' ls (.long (x - x / y * y) :: st) P) : V g md d kc ks n r I L pc ls (.long y :: .long x :: st) P := by
  subst hp
  intro p e s m args below meth c H lc locs cells slots mc ms hF hR hS hl hc hs hz
  exact lv_lrem hF.1 hF.2.1 hd h0 (h p e s m args below meth c H lc locs cells slots mc ms hF hR hS hl hc hs hz)
theorem V_ineg {x : Int32} {pc' : Nat} (hd : decode md.2.1 pc = .ok (.ineg, 1))  (hp : pc + 1 = pc') (h : V g md d kc ks n r I L pc' ls (.int (-x) :: st) P) : V g md d kc ks n r I L pc ls (.int x :: st) P := by
  subst hp
  intro p e s m args below meth c H lc locs cells slots mc ms hF hR hS hl hc hs hz
  exact lv_ineg hF.1 hF.2.1 hd  (h p e s m args below meth c H lc locs cells slots mc ms hF hR hS hl hc hs hz)
theorem V_iushr {x y : Int32} {pc' : Nat} (hd : decode md.2.1 pc = .ok (.iushr, 1))  (hp : pc + 1 = pc') (h : V g md d kc ks n r I L pc' ls (.int (x.toUInt32 >>> (y.toUInt32 &&& Int32.toUInt32 31)).toInt32 :: st) P) : V g md d kc ks n r I L pc ls (.int y :: .int x :: st) P := by
  subst hp
  intro p e s m args below meth c H lc locs cells slots mc ms hF hR hS hl hc hs hz
  exact lv_iushr hF.1 hF.2.1 hd rfl (h p e s m args below meth c H lc locs cells slots mc ms hF hR hS hl hc hs hz)
theorem V_lshl {x : Int64} {y : Int32} {pc' : Nat} (hd : decode md.2.1 pc = .ok (.lshl, 1))  (hp : pc + 1 = pc') (h : V g md d kc ks n r I L pc' ls (.long (x <<< (y.toInt64 &&& 63)) :: st) P) : V g md d kc ks n r I L pc ls (.int y :: .long x :: st) P := by
  subst hp
  intro p e s m args below meth c H lc locs cells slots mc ms hF hR hS hl hc hs hz
  exact lv_lshl hF.1 hF.2.1 hd rfl (h p e s m args below meth c H lc locs cells slots mc ms hF hR hS hl hc hs hz)
theorem V_lshr {x : Int64} {y : Int32} {pc' : Nat} (hd : decode md.2.1 pc = .ok (.lshr, 1))  (hp : pc + 1 = pc') (h : V g md d kc ks n r I L pc' ls (.long (x >>> (y.toInt64 &&& 63)) :: st) P) : V g md d kc ks n r I L pc ls (.int y :: .long x :: st) P := by
  subst hp
  intro p e s m args below meth c H lc locs cells slots mc ms hF hR hS hl hc hs hz
  exact lv_lshr hF.1 hF.2.1 hd rfl (h p e s m args below meth c H lc locs cells slots mc ms hF hR hS hl hc hs hz)
theorem V_lushr {x : Int64} {y : Int32} {pc' : Nat} (hd : decode md.2.1 pc = .ok (.lushr, 1))  (hp : pc + 1 = pc') (h : V g md d kc ks n r I L pc' ls (.long (x.toUInt64 >>> (y.toInt64.toUInt64 &&& Int64.toUInt64 63)).toInt64 :: st) P) : V g md d kc ks n r I L pc ls (.int y :: .long x :: st) P := by
  subst hp
  intro p e s m args below meth c H lc locs cells slots mc ms hF hR hS hl hc hs hz
  exact lv_lushr hF.1 hF.2.1 hd rfl (h p e s m args below meth c H lc locs cells slots mc ms hF hR hS hl hc hs hz)
theorem V_i2l {x : Int32} {pc' : Nat} (hd : decode md.2.1 pc = .ok (.i2l, 1))  (hp : pc + 1 = pc') (h : V g md d kc ks n r I L pc' ls (.long x.toInt64 :: st) P) : V g md d kc ks n r I L pc ls (.int x :: st) P := by
  subst hp
  intro p e s m args below meth c H lc locs cells slots mc ms hF hR hS hl hc hs hz
  exact lv_i2l hF.1 hF.2.1 hd rfl (h p e s m args below meth c H lc locs cells slots mc ms hF hR hS hl hc hs hz)
theorem V_l2i {x : Int64} {pc' : Nat} (hd : decode md.2.1 pc = .ok (.l2i, 1))  (hp : pc + 1 = pc') (h : V g md d kc ks n r I L pc' ls (.int x.toInt32 :: st) P) : V g md d kc ks n r I L pc ls (.long x :: st) P := by
  subst hp
  intro p e s m args below meth c H lc locs cells slots mc ms hF hR hS hl hc hs hz
  exact lv_l2i hF.1 hF.2.1 hd rfl (h p e s m args below meth c H lc locs cells slots mc ms hF hR hS hl hc hs hz)
theorem V_i2b {x : Int32} {pc' : Nat} (hd : decode md.2.1 pc = .ok (.i2b, 1))  (hp : pc + 1 = pc') (h : V g md d kc ks n r I L pc' ls (.int x.toInt8.toInt32 :: st) P) : V g md d kc ks n r I L pc ls (.int x :: st) P := by
  subst hp
  intro p e s m args below meth c H lc locs cells slots mc ms hF hR hS hl hc hs hz
  exact lv_i2b hF.1 hF.2.1 hd rfl (h p e s m args below meth c H lc locs cells slots mc ms hF hR hS hl hc hs hz)
theorem V_i2c {x : Int32} {pc' : Nat} (hd : decode md.2.1 pc = .ok (.i2c, 1))  (hp : pc + 1 = pc') (h : V g md d kc ks n r I L pc' ls (.int (x.toUInt32 % 65536).toInt32 :: st) P) : V g md d kc ks n r I L pc ls (.int x :: st) P := by
  subst hp
  intro p e s m args below meth c H lc locs cells slots mc ms hF hR hS hl hc hs hz
  exact lv_i2c hF.1 hF.2.1 hd rfl (h p e s m args below meth c H lc locs cells slots mc ms hF hR hS hl hc hs hz)
theorem V_lcmp {x y : Int64} {pc' : Nat} (hd : decode md.2.1 pc = .ok (.lcmp, 1))  (hp : pc + 1 = pc') (h : V g md d kc ks n r I L pc' ls (.int (lg_cmp x y) :: st) P) : V g md d kc ks n r I L pc ls (.long y :: .long x :: st) P := by
  subst hp
  intro p e s m args below meth c H lc locs cells slots mc ms hF hR hS hl hc hs hz
  exact W.lcmp hF.1 hF.2.1 hd  (h p e s m args below meth c H lc locs cells slots mc ms hF hR hS hl hc hs hz)
theorem V_dup {v : Value} {pc' : Nat} (hd : decode md.2.1 pc = .ok (.dup, 1)) (hv : v.category = 1) (hp : pc + 1 = pc') (h : V g md d kc ks n r I L pc' ls (v :: v :: st) P) : V g md d kc ks n r I L pc ls (v :: st) P := by
  subst hp
  intro p e s m args below meth c H lc locs cells slots mc ms hF hR hS hl hc hs hz
  exact lv_dup hF.1 hF.2.1 hd ((cv_cat g v).trans hv) (h p e s m args below meth c H lc locs cells slots mc ms hF hR hS hl hc hs hz)
theorem V_pop {v : Value} {pc' : Nat} (hd : decode md.2.1 pc = .ok (.pop, 1)) (hv : v.category = 1) (hp : pc + 1 = pc') (h : V g md d kc ks n r I L pc' ls (st) P) : V g md d kc ks n r I L pc ls (v :: st) P := by
  subst hp
  intro p e s m args below meth c H lc locs cells slots mc ms hF hR hS hl hc hs hz
  exact lv_pop hF.1 hF.2.1 hd ((cv_cat g v).trans hv) (h p e s m args below meth c H lc locs cells slots mc ms hF hR hS hl hc hs hz)
theorem V_dup2_11 {v w : Value} {pc' : Nat} (hd : decode md.2.1 pc = .ok (.dup2, 1)) (hv : v.category = 1) (hw : w.category = 1) (hp : pc + 1 = pc') (h : V g md d kc ks n r I L pc' ls (v :: w :: v :: w :: st) P) : V g md d kc ks n r I L pc ls (v :: w :: st) P := by
  subst hp
  intro p e s m args below meth c H lc locs cells slots mc ms hF hR hS hl hc hs hz
  exact lv_dup2_11 hF.1 hF.2.1 hd ((cv_cat g v).trans hv) ((cv_cat g w).trans hw) (h p e s m args below meth c H lc locs cells slots mc ms hF hR hS hl hc hs hz)
theorem V_dup2_2 {v : Value} {pc' : Nat} (hd : decode md.2.1 pc = .ok (.dup2, 1)) (hv : v.category = 2) (hp : pc + 1 = pc') (h : V g md d kc ks n r I L pc' ls (v :: v :: st) P) : V g md d kc ks n r I L pc ls (v :: st) P := by
  subst hp
  intro p e s m args below meth c H lc locs cells slots mc ms hF hR hS hl hc hs hz
  exact lv_dup2_2 hF.1 hF.2.1 hd ((cv_cat g v).trans hv) (h p e s m args below meth c H lc locs cells slots mc ms hF hR hS hl hc hs hz)
theorem V_if_eq {x : Int32} {off : Int} {tgt pc' : Nat} (hd : decode md.2.1 pc = .ok (.ifCond .eq off, 3)) (ht : (pc : Int) + off = (tgt : Int)) (hp : pc + 3 = pc') (h1 : x = 0 → V g md d kc ks n r I L tgt ls st P) (h2 : ¬ x = 0 → V g md d kc ks n r I L pc' ls st P) : V g md d kc ks n r I L pc ls (.int x :: st) P := by
  subst hp
  intro p e s m args below meth c H lc locs cells slots mc ms hF hR hS hl hc hs hz
  exact lv_if_eq hF.1 hF.2.1 hd ht (fun q => h1 q p e s m args below meth c H lc locs cells slots mc ms hF hR hS hl hc hs hz) (fun q => h2 q p e s m args below meth c H lc locs cells slots mc ms hF hR hS hl hc hs hz)
theorem V_if_ne {x : Int32} {off : Int} {tgt pc' : Nat} (hd : decode md.2.1 pc = .ok (.ifCond .ne off, 3)) (ht : (pc : Int) + off = (tgt : Int)) (hp : pc + 3 = pc') (h1 : ¬ x = 0 → V g md d kc ks n r I L tgt ls st P) (h2 : x = 0 → V g md d kc ks n r I L pc' ls st P) : V g md d kc ks n r I L pc ls (.int x :: st) P := by
  subst hp
  intro p e s m args below meth c H lc locs cells slots mc ms hF hR hS hl hc hs hz
  exact lv_if_ne hF.1 hF.2.1 hd ht (fun q => h1 q p e s m args below meth c H lc locs cells slots mc ms hF hR hS hl hc hs hz) (fun q => h2 q p e s m args below meth c H lc locs cells slots mc ms hF hR hS hl hc hs hz)
theorem V_if_lt {x : Int32} {off : Int} {tgt pc' : Nat} (hd : decode md.2.1 pc = .ok (.ifCond .lt off, 3)) (ht : (pc : Int) + off = (tgt : Int)) (hp : pc + 3 = pc') (h1 : x < 0 → V g md d kc ks n r I L tgt ls st P) (h2 : ¬ x < 0 → V g md d kc ks n r I L pc' ls st P) : V g md d kc ks n r I L pc ls (.int x :: st) P := by
  subst hp
  intro p e s m args below meth c H lc locs cells slots mc ms hF hR hS hl hc hs hz
  exact lv_if_lt hF.1 hF.2.1 hd ht (fun q => h1 q p e s m args below meth c H lc locs cells slots mc ms hF hR hS hl hc hs hz) (fun q => h2 q p e s m args below meth c H lc locs cells slots mc ms hF hR hS hl hc hs hz)
theorem V_if_ge {x : Int32} {off : Int} {tgt pc' : Nat} (hd : decode md.2.1 pc = .ok (.ifCond .ge off, 3)) (ht : (pc : Int) + off = (tgt : Int)) (hp : pc + 3 = pc') (h1 : 0 ≤ x → V g md d kc ks n r I L tgt ls st P) (h2 : ¬ 0 ≤ x → V g md d kc ks n r I L pc' ls st P) : V g md d kc ks n r I L pc ls (.int x :: st) P := by
  subst hp
  intro p e s m args below meth c H lc locs cells slots mc ms hF hR hS hl hc hs hz
  exact lv_if_ge hF.1 hF.2.1 hd ht (fun q => h1 q p e s m args below meth c H lc locs cells slots mc ms hF hR hS hl hc hs hz) (fun q => h2 q p e s m args below meth c H lc locs cells slots mc ms hF hR hS hl hc hs hz)
theorem V_if_gt {x : Int32} {off : Int} {tgt pc' : Nat} (hd : decode md.2.1 pc = .ok (.ifCond .gt off, 3)) (ht : (pc : Int) + off = (tgt : Int)) (hp : pc + 3 = pc') (h1 : 0 < x → V g md d kc ks n r I L tgt ls st P) (h2 : ¬ 0 < x → V g md d kc ks n r I L pc' ls st P) : V g md d kc ks n r I L pc ls (.int x :: st) P := by
  subst hp
  intro p e s m args below meth c H lc locs cells slots mc ms hF hR hS hl hc hs hz
  exact lv_if_gt hF.1 hF.2.1 hd ht (fun q => h1 q p e s m args below meth c H lc locs cells slots mc ms hF hR hS hl hc hs hz) (fun q => h2 q p e s m args below meth c H lc locs cells slots mc ms hF hR hS hl hc hs hz)
theorem V_if_le {x : Int32} {off : Int} {tgt pc' : Nat} (hd : decode md.2.1 pc = .ok (.ifCond .le off, 3)) (ht : (pc : Int) + off = (tgt : Int)) (hp : pc + 3 = pc') (h1 : x ≤ 0 → V g md d kc ks n r I L tgt ls st P) (h2 : ¬ x ≤ 0 → V g md d kc ks n r I L pc' ls st P) : V g md d kc ks n r I L pc ls (.int x :: st) P := by
  subst hp
  intro p e s m args below meth c H lc locs cells slots mc ms hF hR hS hl hc hs hz
  exact lv_if_le hF.1 hF.2.1 hd ht (fun q => h1 q p e s m args below meth c H lc locs cells slots mc ms hF hR hS hl hc hs hz) (fun q => h2 q p e s m args below meth c H lc locs cells slots mc ms hF hR hS hl hc hs hz)
theorem V_icmp_eq {x y : Int32} {off : Int} {tgt pc' : Nat} (hd : decode md.2.1 pc = .ok (.if_icmp .eq off, 3)) (ht : (pc : Int) + off = (tgt : Int)) (hp : pc + 3 = pc') (h1 : x = y → V g md d kc ks n r I L tgt ls st P) (h2 : ¬ x = y → V g md d kc ks n r I L pc' ls st P) : V g md d kc ks n r I L pc ls (.int y :: .int x :: st) P := by
  subst hp
  intro p e s m args below meth c H lc locs cells slots mc ms hF hR hS hl hc hs hz
  exact lv_icmp_eq hF.1 hF.2.1 hd ht (fun q => h1 q p e s m args below meth c H lc locs cells slots mc ms hF hR hS hl hc hs hz) (fun q => h2 q p e s m args below meth c H lc locs cells slots mc ms hF hR hS hl hc hs hz)
theorem V_icmp_ne {x y : Int32} {off : Int} {tgt pc' : Nat} (hd : decode md.2.1 pc = .ok (.if_icmp .ne off, 3)) (ht : (pc : Int) + off = (tgt : Int)) (hp : pc + 3 = pc') (h1 : ¬ x = y → V g md d kc ks n r I L tgt ls st P) (h2 : x = y → V g md d kc ks n r I L pc' ls st P) : V g md d kc ks n r I L pc ls (.int y :: .int x :: st) P := by
  subst hp
  intro p e s m args below meth c H lc locs cells slots mc ms hF hR hS hl hc hs hz
  exact lv_icmp_ne hF.1 hF.2.1 hd ht (fun q => h1 q p e s m args below meth c H lc locs cells slots mc ms hF hR hS hl hc hs hz) (fun q => h2 q p e s m args below meth c H lc locs cells slots mc ms hF hR hS hl hc hs hz)
theorem V_icmp_lt {x y : Int32} {off : Int} {tgt pc' : Nat} (hd : decode md.2.1 pc = .ok (.if_icmp .lt off, 3)) (ht : (pc : Int) + off = (tgt : Int)) (hp : pc + 3 = pc') (h1 : x < y → V g md d kc ks n r I L tgt ls st P) (h2 : ¬ x < y → V g md d kc ks n r I L pc' ls st P) : V g md d kc ks n r I L pc ls (.int y :: .int x :: st) P := by
  subst hp
  intro p e s m args below meth c H lc locs cells slots mc ms hF hR hS hl hc hs hz
  exact lv_icmp_lt hF.1 hF.2.1 hd ht (fun q => h1 q p e s m args below meth c H lc locs cells slots mc ms hF hR hS hl hc hs hz) (fun q => h2 q p e s m args below meth c H lc locs cells slots mc ms hF hR hS hl hc hs hz)
theorem V_icmp_ge {x y : Int32} {off : Int} {tgt pc' : Nat} (hd : decode md.2.1 pc = .ok (.if_icmp .ge off, 3)) (ht : (pc : Int) + off = (tgt : Int)) (hp : pc + 3 = pc') (h1 : y ≤ x → V g md d kc ks n r I L tgt ls st P) (h2 : ¬ y ≤ x → V g md d kc ks n r I L pc' ls st P) : V g md d kc ks n r I L pc ls (.int y :: .int x :: st) P := by
  subst hp
  intro p e s m args below meth c H lc locs cells slots mc ms hF hR hS hl hc hs hz
  exact lv_icmp_ge hF.1 hF.2.1 hd ht (fun q => h1 q p e s m args below meth c H lc locs cells slots mc ms hF hR hS hl hc hs hz) (fun q => h2 q p e s m args below meth c H lc locs cells slots mc ms hF hR hS hl hc hs hz)
theorem V_icmp_gt {x y : Int32} {off : Int} {tgt pc' : Nat} (hd : decode md.2.1 pc = .ok (.if_icmp .gt off, 3)) (ht : (pc : Int) + off = (tgt : Int)) (hp : pc + 3 = pc') (h1 : y < x → V g md d kc ks n r I L tgt ls st P) (h2 : ¬ y < x → V g md d kc ks n r I L pc' ls st P) : V g md d kc ks n r I L pc ls (.int y :: .int x :: st) P := by
  subst hp
  intro p e s m args below meth c H lc locs cells slots mc ms hF hR hS hl hc hs hz
  exact lv_icmp_gt hF.1 hF.2.1 hd ht (fun q => h1 q p e s m args below meth c H lc locs cells slots mc ms hF hR hS hl hc hs hz) (fun q => h2 q p e s m args below meth c H lc locs cells slots mc ms hF hR hS hl hc hs hz)
theorem V_icmp_le {x y : Int32} {off : Int} {tgt pc' : Nat} (hd : decode md.2.1 pc = .ok (.if_icmp .le off, 3)) (ht : (pc : Int) + off = (tgt : Int)) (hp : pc + 3 = pc') (h1 : x ≤ y → V g md d kc ks n r I L tgt ls st P) (h2 : ¬ x ≤ y → V g md d kc ks n r I L pc' ls st P) : V g md d kc ks n r I L pc ls (.int y :: .int x :: st) P := by
  subst hp
  intro p e s m args below meth c H lc locs cells slots mc ms hF hR hS hl hc hs hz
  exact lv_icmp_le hF.1 hF.2.1 hd ht (fun q => h1 q p e s m args below meth c H lc locs cells slots mc ms hF hR hS hl hc hs hz) (fun q => h2 q p e s m args below meth c H lc locs cells slots mc ms hF hR hS hl hc hs hz)
theorem V_goto {off : Int} {tgt : Nat} (hd : decode md.2.1 pc = .ok (.goto off, 3)) (ht : (pc : Int) + off = (tgt : Int)) (h : V g md d kc ks n r I L tgt ls st P) : V g md d kc ks n r I L pc ls st P := by
  intro p e s m args below meth c H lc locs cells slots mc ms hF hR hS hl hc hs hz
  exact lv_goto hF.1 hF.2.1 hd ht (h p e s m args below meth c H lc locs cells slots mc ms hF hR hS hl hc hs hz)
theorem V_tsIn {dflt lo hi : Int} {offs : Array Int} {len : Nat} {x : Int32} {off : Int} {tgt : Nat} (hd : decode md.2.1 pc = .ok (.tableswitch dflt lo hi offs, len)) (h1 : ¬ x.toInt < lo) (h2 : ¬ hi < x.toInt) (ho : offs[(x.toInt - lo).toNat]? = some off) (ht : (pc : Int) + off = (tgt : Int)) (h : V g md d kc ks n r I L tgt ls st P) : V g md d kc ks n r I L pc ls (.int x :: st) P := by
  intro p e s m args below meth c H lc locs cells slots mc ms hF hR hS hl hc hs hz
  exact lv_tableIn hF.1 hF.2.1 hd h1 h2 ho ht (h p e s m args below meth c H lc locs cells slots mc ms hF hR hS hl hc hs hz)
theorem V_tsOut {dflt lo hi : Int} {offs : Array Int} {len : Nat} {x : Int32} {tgt : Nat} (hd : decode md.2.1 pc = .ok (.tableswitch dflt lo hi offs, len)) (h0 : x.toInt < lo ∨ hi < x.toInt) (ht : (pc : Int) + dflt = (tgt : Int)) (h : V g md d kc ks n r I L tgt ls st P) : V g md d kc ks n r I L pc ls (.int x :: st) P := by
  intro p e s m args below meth c H lc locs cells slots mc ms hF hR hS hl hc hs hz
  exact lv_tableOut hF.1 hF.2.1 hd h0 ht (h p e s m args below meth c H lc locs cells slots mc ms hF hR hS hl hc hs hz)
theorem V_lsw {dflt : Int} {qs : Array (Int × Int)} {len : Nat} {x : Int32} {off : Int} {tgt : Nat} (hd : decode md.2.1 pc = .ok (.lookupswitch dflt qs, len)) (hq : (qs.toList.zip (qs.toList.drop 1)).all (fun (a, next) => a.1 < next.1) = true) (ho : Op.lookupswitch.offset qs.toList dflt x.toInt = off) (ht : (pc : Int) + off = (tgt : Int)) (h : V g md d kc ks n r I L tgt ls st P) : V g md d kc ks n r I L pc ls (.int x :: st) P := by
  intro p e s m args below meth c H lc locs cells slots mc ms hF hR hS hl hc hs hz
  exact lv_lookup hF.1 hF.2.1 hd hq ho ht (h p e s m args below meth c H lc locs cells slots mc ms hF hR hS hl hc hs hz)
theorem V_ldc {k : Nat} {x : Int32} {pc' : Nat} (hd : decode md.2.1 pc = .ok (.ldc k, 2)) (hw : Cond.constant md.1.cls k x ∈ TB) (hp : pc + 2 = pc') (h : V g md d kc ks n r I L pc' ls (.int x :: st) P) : V g md d kc ks n r I L pc ls (st) P := by
  subst hp
  intro p e s m args below meth c H lc locs cells slots mc ms hF hR hS hl hc hs hz
  exact (fun a b => lv_ldc a b hF.2.2.2.1 (hF.2.2.2.2.1 _ hw)) hF.1 hF.2.1 hd  (h p e s m args below meth c H lc locs cells slots mc ms hF hR hS hl hc hs hz)
theorem V_ldcw {k : Nat} {x : Int32} {pc' : Nat} (hd : decode md.2.1 pc = .ok (.ldc_w k, 3)) (hw : Cond.constant md.1.cls k x ∈ TB) (hp : pc + 3 = pc') (h : V g md d kc ks n r I L pc' ls (.int x :: st) P) : V g md d kc ks n r I L pc ls (st) P := by
  subst hp
  intro p e s m args below meth c H lc locs cells slots mc ms hF hR hS hl hc hs hz
  exact (fun a b => lv_ldcw a b hF.2.2.2.1 (hF.2.2.2.2.1 _ hw)) hF.1 hF.2.1 hd  (h p e s m args below meth c H lc locs cells slots mc ms hF hR hS hl hc hs hz)
theorem V_ldc2 {k : Nat} {x : Int64} {pc' : Nat} (hd : decode md.2.1 pc = .ok (.ldc2_w k, 3)) (hw : Cond.constantLong md.1.cls k x ∈ TB) (hp : pc + 3 = pc') (h : V g md d kc ks n r I L pc' ls (.long x :: st) P) : V g md d kc ks n r I L pc ls (st) P := by
  subst hp
  intro p e s m args below meth c H lc locs cells slots mc ms hF hR hS hl hc hs hz
  exact (fun a b => lv_ldc2 a b hF.2.2.2.1 (hF.2.2.2.2.1 _ hw)) hF.1 hF.2.1 hd  (h p e s m args below meth c H lc locs cells slots mc ms hF hR hS hl hc hs hz)
theorem V_lc_eq {x y : Int64} {off : Int} {tgt pc1 pc' : Nat} (hd : decode md.2.1 pc = .ok (.lcmp, 1)) (hp1 : pc + 1 = pc1) (hd1 : decode md.2.1 pc1 = .ok (.ifCond .eq off, 3)) (ht : (pc1 : Int) + off = (tgt : Int)) (hp : pc1 + 3 = pc') (h1 : x = y → V g md d kc ks n r I L tgt ls st P) (h2 : ¬ x = y → V g md d kc ks n r I L pc' ls st P) : V g md d kc ks n r I L pc ls (.long y :: .long x :: st) P :=
  V_lcmp hd hp1 (V_if_eq hd1 ht hp (fun q => h1 ((lgc_eq x y).mp q)) (fun q => h2 (fun z => q ((lgc_eq x y).mpr z))))
theorem V_lc_ne {x y : Int64} {off : Int} {tgt pc1 pc' : Nat} (hd : decode md.2.1 pc = .ok (.lcmp, 1)) (hp1 : pc + 1 = pc1) (hd1 : decode md.2.1 pc1 = .ok (.ifCond .ne off, 3)) (ht : (pc1 : Int) + off = (tgt : Int)) (hp : pc1 + 3 = pc') (h1 : ¬ x = y → V g md d kc ks n r I L tgt ls st P) (h2 : x = y → V g md d kc ks n r I L pc' ls st P) : V g md d kc ks n r I L pc ls (.long y :: .long x :: st) P :=
  V_lcmp hd hp1 (V_if_ne hd1 ht hp (fun q => h1 (fun z => q ((lgc_eq x y).mpr z))) (fun q => h2 ((lgc_eq x y).mp q)))
theorem V_lc_lt {x y : Int64} {off : Int} {tgt pc1 pc' : Nat} (hd : decode md.2.1 pc = .ok (.lcmp, 1)) (hp1 : pc + 1 = pc1) (hd1 : decode md.2.1 pc1 = .ok (.ifCond .lt off, 3)) (ht : (pc1 : Int) + off = (tgt : Int)) (hp : pc1 + 3 = pc') (h1 : x < y → V g md d kc ks n r I L tgt ls st P) (h2 : ¬ x < y → V g md d kc ks n r I L pc' ls st P) : V g md d kc ks n r I L pc ls (.long y :: .long x :: st) P :=
  V_lcmp hd hp1 (V_if_lt hd1 ht hp (fun q => h1 ((lgc_lt x y).mp q)) (fun q => h2 (fun z => q ((lgc_lt x y).mpr z))))
theorem V_lc_ge {x y : Int64} {off : Int} {tgt pc1 pc' : Nat} (hd : decode md.2.1 pc = .ok (.lcmp, 1)) (hp1 : pc + 1 = pc1) (hd1 : decode md.2.1 pc1 = .ok (.ifCond .ge off, 3)) (ht : (pc1 : Int) + off = (tgt : Int)) (hp : pc1 + 3 = pc') (h1 : y ≤ x → V g md d kc ks n r I L tgt ls st P) (h2 : ¬ y ≤ x → V g md d kc ks n r I L pc' ls st P) : V g md d kc ks n r I L pc ls (.long y :: .long x :: st) P :=
  V_lcmp hd hp1 (V_if_ge hd1 ht hp (fun q => h1 ((lgc_ge x y).mp q)) (fun q => h2 (fun z => q ((lgc_ge x y).mpr z))))
theorem V_lc_gt {x y : Int64} {off : Int} {tgt pc1 pc' : Nat} (hd : decode md.2.1 pc = .ok (.lcmp, 1)) (hp1 : pc + 1 = pc1) (hd1 : decode md.2.1 pc1 = .ok (.ifCond .gt off, 3)) (ht : (pc1 : Int) + off = (tgt : Int)) (hp : pc1 + 3 = pc') (h1 : y < x → V g md d kc ks n r I L tgt ls st P) (h2 : ¬ y < x → V g md d kc ks n r I L pc' ls st P) : V g md d kc ks n r I L pc ls (.long y :: .long x :: st) P :=
  V_lcmp hd hp1 (V_if_gt hd1 ht hp (fun q => h1 ((lgc_gt x y).mp q)) (fun q => h2 (fun z => q ((lgc_gt x y).mpr z))))
theorem V_lc_le {x y : Int64} {off : Int} {tgt pc1 pc' : Nat} (hd : decode md.2.1 pc = .ok (.lcmp, 1)) (hp1 : pc + 1 = pc1) (hd1 : decode md.2.1 pc1 = .ok (.ifCond .le off, 3)) (ht : (pc1 : Int) + off = (tgt : Int)) (hp : pc1 + 3 = pc') (h1 : x ≤ y → V g md d kc ks n r I L tgt ls st P) (h2 : ¬ x ≤ y → V g md d kc ks n r I L pc' ls st P) : V g md d kc ks n r I L pc ls (.long y :: .long x :: st) P :=
  V_lcmp hd hp1 (V_if_le hd1 ht hp (fun q => h1 ((lgc_le x y).mp q)) (fun q => h2 (fun z => q ((lgc_le x y).mpr z))))
theorem V_iret {x : Int32} (hd : decode md.2.1 pc = .ok (.ireturn, 1)) (hr : md.2.2.2 = some .int) (hq : P (some (.int x)) n r I L) : V g md d 0 ks n r I L pc ls [.int x] P := by
  intro p e s m args below meth c H lc locs cells slots mc ms hF hR hS hl hc hs hz
  refine W.widen (k := mc) (n := ms) (by omega) (by omega) ?_
  exact W.iret hF.1 hF.2.1 (hF.2.2.2.2.2.1.trans hr)  (fun t ht _ => ⟨_, n, r, I, L, rfl, hq, by rw [ht]; exact hR, hS.F ht, by omega⟩) (fun q hq => hS.2.2 q hq) hd hF.2.2.2.2.2.2.1
theorem V_lret {x : Int64} (hd : decode md.2.1 pc = .ok (.lreturn, 1)) (hr : md.2.2.2 = some .long) (hq : P (some (.long x)) n r I L) : V g md d 0 ks n r I L pc ls [.long x] P := by
  intro p e s m args below meth c H lc locs cells slots mc ms hF hR hS hl hc hs hz
  refine W.widen (k := mc) (n := ms) (by omega) (by omega) ?_
  exact W.lret hF.1 hF.2.1 (hF.2.2.2.2.2.1.trans hr)  (fun t ht _ => ⟨_, n, r, I, L, rfl, hq, by rw [ht]; exact hR, hS.F ht, by omega⟩) (fun q hq => hS.2.2 q hq) hd hF.2.2.2.2.2.2.1
theorem V_vret  (hd : decode md.2.1 pc = .ok (.return_, 1)) (hr : md.2.2.2 = none) (hq : P none n r I L) : V g md d 0 ks n r I L pc ls [] P := by
  intro p e s m args below meth c H lc locs cells slots mc ms hF hR hS hl hc hs hz
  refine W.widen (k := mc) (n := ms) (by omega) (by omega) ?_
  exact W.vret hF.1 hF.2.1 (hF.2.2.2.2.2.1.trans hr)  (fun t ht _ => ⟨_, n, r, I, L, rfl, hq, by rw [ht]; exact hR, hS.F ht, by omega⟩) (fun q hq => hS.2.2 q hq) hd hF.2.2.2.2.2.2.1
theorem V_zret {b : Bool} (hd : decode md.2.1 pc = .ok (.ireturn, 1)) (hr : md.2.2.2 = some .boolean) (hq : P (some (.int (b2i b))) n r I L) : V g md d 0 ks n r I L pc ls [.int (b2i b)] P := by
  intro p e s m args below meth c H lc locs cells slots mc ms hF hR hS hl hc hs hz
  refine W.widen (k := mc) (n := ms) (by omega) (by omega) ?_
  exact W.zret hF.1 hF.2.1 (hF.2.2.2.2.2.1.trans hr) (by cases b <;> rfl) (fun t ht _ => ⟨_, n, r, I, L, rfl, hq, by rw [ht]; exact hR, hS.F ht, by omega⟩) (fun q hq => hS.2.2 q hq) hd hF.2.2.2.2.2.2.1
theorem V_cret {x : Int32} (hx : narrow .char (.int x) = .int x) (hd : decode md.2.1 pc = .ok (.ireturn, 1)) (hr : md.2.2.2 = some .char) (hq : P (some (.int x)) n r I L) : V g md d 0 ks n r I L pc ls [.int x] P := by
  intro p e s m args below meth c H lc locs cells slots mc ms hF hR hS hl hc hs hz
  refine W.widen (k := mc) (n := ms) (by omega) (by omega) ?_
  exact W.zret hF.1 hF.2.1 (hF.2.2.2.2.2.1.trans hr) hx (fun t ht _ => ⟨_, n, r, I, L, rfl, hq, by rw [ht]; exact hR, hS.F ht, by omega⟩) (fun q hq => hS.2.2 q hq) hd hF.2.2.2.2.2.2.1
end VR
