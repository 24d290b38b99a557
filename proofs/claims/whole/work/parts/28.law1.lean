theorem ceR {g : GG} {r r' : HR} {I : HI} {L : HL} {k : Nat} (h : ∀ c, (SH k).1 = c + 4 → ∀ j, j < cn c → fkind (ctys c j) = 2 → r k j = r' k j) : ce g r I L k = ce g r' I L k := by
  unfold ce ceOf
  split <;> try rfl
  rename_i c hc
  congr 2
  unfold fsOf
  refine List.map_congr_left (fun j hj => ?_)
  have hj' := List.mem_range.mp hj
  unfold fv
  have h3 : fkind (ctys c j) = 0 ∨ fkind (ctys c j) = 1 ∨ fkind (ctys c j) = 2 := by unfold fkind; split <;> simp
  rcases h3 with e | e | e
  · simp only [e]
  · simp only [e]
  · simp only [e]
    rw [h c hc j hj' e]
theorem V_swapR {g : GG} {md : MD} {d kc ks n : Nat} {r r' : HR} {I : HI} {L : HL} {pc : Nat} {ls : List (Option Value)} {st : List Value} {P : PP} (h : ∀ k, k < n → ∀ c, (SH k).1 = c + 4 → ∀ j, j < cn c → fkind (ctys c j) = 2 → r k j = r' k j) (k : V g md d kc ks n r' I L pc ls st P) : V g md d kc ks n r I L pc ls st P := by
  intro p e s m args below meth c' H lc locs cells slots mc ms hF hR hS hl hc hs' hz
  refine k p e s m args below meth c' H lc locs cells slots mc ms hF ⟨hR.1, ?_⟩ hS hl hc hs' hz
  have he : wsF g (ce g r I L) n = wsF g (ce g r' I L) n := List.map_congr_left (fun j hj => by rw [ceR (h j (List.mem_range.mp hj))])
  rw [← he]
  exact hR.2
def r00 : HR := fun _ _ => none
def rBoth : HR := rX12_init (zr0 none (rX11_init (zr0 none r00 0)) 73)
def isRefAt (k j : Nat) : Bool := decide (4 ≤ (SH k).1) && decide (j < cn ((SH k).1 - 4)) && decide (fkind (ctys ((SH k).1 - 4) j) = 2)
set_option maxRecDepth 1000000 in
theorem rBoth_ok0 : ((List.range 116).all fun k => (List.range 92).all fun j => !isRefAt k j || decide (rBoth k j = RT 2 25 2 25 44 k j)) = true := by decide +kernel
theorem cn_le : ∀ c, cn c ≤ 92 := fun c => by unfold cn; split <;> omega
theorem rBoth_ok : ∀ k, k < 116 → ∀ c, (SH k).1 = c + 4 → ∀ j, j < cn c → fkind (ctys c j) = 2 → rBoth k j = RT 2 25 2 25 44 k j := by
  intro k hk c hc j hj hf
  have h := List.all_eq_true.mp (List.all_eq_true.mp rBoth_ok0 k (List.mem_range.mpr hk)) j (List.mem_range.mpr (Nat.lt_of_lt_of_le hj (cn_le c)))
  have h1 : (SH k).1 - 4 = c := by omega
  have h2 : isRefAt k j = true := by
    unfold isRefAt
    rw [h1]
    simp only [Bool.and_eq_true, decide_eq_true_eq]
    exact ⟨⟨by omega, hj⟩, hf⟩
  rw [h2] at h
  simpa using h
def I00 : HI := zr0 0 (fun _ _ => 0) 0
def L00 : HL := zr0 0 (fun _ _ => 0) 0
/-- what is left to be shown, without the machine: both objects are made, and the law's loop ends in true -/
def PureLaw (sN : Nat) (sS : Nat → Int32) : Prop := ∃ (x : HI × HL) (fu : Nat), fX11_init I00 L00 = some x ∧ fL_law_18 sN sS fu 0 2 25 2 25 44 (fX12_init (zr0 0 x.1 73) (zr0 0 x.2 73)).1 (fX12_init (zr0 0 x.1 73) (zr0 0 x.2 73)).2 = some true
set_option maxRecDepth 100000 in
set_option maxHeartbeats 4000000 in
theorem law_V {g : GG} {d : Nat} (h : PureLaw (gN g) (gS g)) : V g mL_law (d + 180) 116 10860 0 r00 (fun _ _ => 0) (fun _ _ => 0) 0 [some (.retAddr 4)] [] (fun v _ _ _ _ => v = some (.int 1)) := by
  obtain ⟨x, fu, h1, h2⟩ := h
  refine V_new (kc := 115) (ks := 10848) (pc := 0) dL_law_0 nlL_7 (congrArg Prod.fst sh_0) rfl ?_
  refine V_dup (pc := 3) dL_law_3 rfl rfl ?_
  refine V_callI (md' := mX11_init) (kc' := 43) (ks' := 7342) (pc := 4) dL_law_4 mlL_9 mIX11_init (tX11_init h1) rfl rfl (Nat.le_of_ble_eq_true rfl) rfl (by decide) rfl (fun v n2 r2 I2 L2 hq => ?_)
  obtain ⟨rfl, rfl, rfl, rfl, rfl⟩ := hq
  refine V_astore_n (ls' := [some _, some _]) (pc := 7) dL_law_7 rfl (Nat.le_of_ble_eq_true rfl) rfl rfl ?_
  refine V_new (kc := 42) (ks := 7250) (pc := 8) dL_law_8 nlL_10 (congrArg Prod.fst sh_73) rfl ?_
  refine V_dup (pc := 11) dL_law_11 rfl rfl ?_
  refine V_callI (md' := mX12_init) (kc' := 0) (ks' := 0) (pc := 12) dL_law_12 mlL_12 mIX12_init (tX12_init rfl) rfl rfl (Nat.le_of_ble_eq_true rfl) rfl (by decide) rfl (fun v n2 r2 I2 L2 hq => ?_)
  obtain ⟨rfl, rfl, rfl, rfl, rfl⟩ := hq
  refine V_astore_n (ls' := [some _, some _, some _]) (pc := 15) dL_law_15 rfl (Nat.le_of_ble_eq_true rfl) rfl rfl ?_
  refine V_iconst (pc := 16) dL_law_16 ic_0 rfl ?_
  refine V_istore_n (ls' := [some _, some _, some _, some _]) (pc := 17) dL_law_17 rfl (Nat.le_of_ble_eq_true rfl) rfl rfl ?_
  refine V_swapR (r' := RT 2 25 2 25 44) rBoth_ok ?_
  exact lL_law_18 ⟨rfl, rfl⟩ (by decide) fu _ _ _ _ _ _ _ _ true ⟨Or.inl rfl, Or.inr rfl, Or.inl rfl, Or.inr rfl⟩ h2 (fun _ _ _ _ _ _ _ => rfl)
