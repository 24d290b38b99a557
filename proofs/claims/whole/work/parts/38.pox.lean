theorem pc_div {x : Nat} (y : Nat) (h : x < 256) : (x + 256 * y) / 256 = y := by omega
theorem pc_sum8 {c0 c1 c2 c3 c4 c5 c6 c7 : Nat} (h0 : c0 ≤ 8) (h1 : c1 ≤ 8) (h2 : c2 ≤ 8) (h3 : c3 ≤ 8) (h4 : c4 ≤ 8) (h5 : c5 ≤ 8) (h6 : c6 ≤ 8) (h7 : c7 ≤ 8) {a b c : Nat} (ha : a = c0 + 256 * (c1 + 256 * (c2 + 256 * (c3 + 256 * (c4 + 256 * (c5 + 256 * (c6 + 256 * (c7 + 256 * 0)))))))) (hb : b = a + a / 256) (hc : c = b + b / 65536) : (c + c / 4294967296) % 128 = c0 + (c1 + (c2 + (c3 + (c4 + (c5 + (c6 + (c7 + 0))))))) := by
  have e1 : a / 256 = c1 + 256 * (c2 + 256 * (c3 + 256 * (c4 + 256 * (c5 + 256 * (c6 + 256 * (c7 + 256 * 0)))))) := by
    rw [ha]
    exact pc_div _ (by omega)
  have eb : b = (c0 + c1) + 256 * ((c1 + c2) + 256 * ((c2 + c3) + 256 * ((c3 + c4) + 256 * ((c4 + c5) + 256 * ((c5 + c6) + 256 * ((c6 + c7) + 256 * c7)))))) := by
    rw [hb, e1, ha]
    omega
  have e2 : b / 65536 = (c2 + c3) + 256 * ((c3 + c4) + 256 * ((c4 + c5) + 256 * ((c5 + c6) + 256 * ((c6 + c7) + 256 * c7)))) := by
    rw [eb, show (65536 : Nat) = 256 * 256 from rfl, ← Nat.div_div_eq_div_mul, pc_div _ (by omega), pc_div _ (by omega)]
  have ec : c = (c0 + c1 + c2 + c3) + 256 * ((c1 + c2 + c3 + c4) + 256 * ((c2 + c3 + c4 + c5) + 256 * ((c3 + c4 + c5 + c6) + 256 * ((c4 + c5 + c6 + c7) + 256 * ((c5 + c6 + c7) + 256 * ((c6 + c7) + 256 * c7)))))) := by
    rw [hc, e2, eb]
    omega
  have e3 : c / 4294967296 = (c4 + c5 + c6 + c7) + 256 * ((c5 + c6 + c7) + 256 * ((c6 + c7) + 256 * c7)) := by
    rw [ec, show (4294967296 : Nat) = 256 * 256 * 256 * 256 from rfl, ← Nat.div_div_eq_div_mul, ← Nat.div_div_eq_div_mul, ← Nat.div_div_eq_div_mul, pc_div _ (by omega), pc_div _ (by omega), pc_div _ (by omega), pc_div _ (by omega)]
  generalize hy : (c1 + c2 + c3 + c4) + 256 * ((c2 + c3 + c4 + c5) + 256 * ((c3 + c4 + c5 + c6) + 256 * ((c4 + c5 + c6 + c7) + 256 * ((c5 + c6 + c7) + 256 * ((c6 + c7) + 256 * c7))))) = y at ec
  generalize hz : (c5 + c6 + c7) + 256 * ((c6 + c7) + 256 * c7) = z at e3
  clear hy hz hb hc ha e1 e2 eb
  omega
theorem pcS_8 (n : Nat) : pcS 8 n = pcC (n % 256) + 256 * (pcC (n / 256 % 256) + 256 * (pcC (n / 256 / 256 % 256) + 256 * (pcC (n / 256 / 256 / 256 % 256) + 256 * (pcC (n / 256 / 256 / 256 / 256 % 256) + 256 * (pcC (n / 256 / 256 / 256 / 256 / 256 % 256) + 256 * (pcC (n / 256 / 256 / 256 / 256 / 256 / 256 % 256) + 256 * (pcC (n / 256 / 256 / 256 / 256 / 256 / 256 / 256 % 256) + 256 * 0))))))) := by
  repeat rw [pcS]
theorem pcT_8 (n : Nat) : pcT 8 n = pcC (n % 256) + (pcC (n / 256 % 256) + (pcC (n / 256 / 256 % 256) + (pcC (n / 256 / 256 / 256 % 256) + (pcC (n / 256 / 256 / 256 / 256 % 256) + (pcC (n / 256 / 256 / 256 / 256 / 256 % 256) + (pcC (n / 256 / 256 / 256 / 256 / 256 / 256 % 256) + (pcC (n / 256 / 256 / 256 / 256 / 256 / 256 / 256 % 256) + 0))))))) := by
  repeat rw [pcT]
theorem pcC_m (n : Nat) : pcC (n % 256) ≤ 8 := pcC_le (Nat.mod_lt _ (by decide))
theorem pc_sum {n a b c : Nat} (ha : a = pcS 8 n) (hb : b = a + a / 256) (hc : c = b + b / 65536) : (c + c / 4294967296) % 128 = pcT 8 n := by
  rw [pcT_8]
  exact pc_sum8 (pcC_m _) (pcC_m _) (pcC_m _) (pcC_m _) (pcC_m _) (pcC_m _) (pcC_m _) (pcC_m _) (ha.trans (pcS_8 n)) hb hc
