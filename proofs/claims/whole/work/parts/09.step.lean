/-! single steps of the loops over nI -/
theorem gp_pow {j : Nat} (hj : j < 31) : 2 ^ j < 2 ^ 31 := Nat.pow_lt_pow_right (by decide) hj
theorem gp_b2 (b : Bool) {j : Nat} (hj : j < 31) : b.toNat * 2 ^ j < 2 ^ 31 := by
  have h := gp_pow hj
  cases b
  · show 0 * 2 ^ j < 2 ^ 31; omega
  · show 1 * 2 ^ j < 2 ^ 31; omega
theorem gp_or {a w b j : Nat} (hw : w < 2 ^ 31) (hb : b < 32) (hj : j < 31) : nI a ||| (((nI w >>> (nI b &&& 31)) &&& 1) <<< (nI j &&& 31)) = nI (a ||| (w.testBit b).toNat * 2 ^ j) := by
  rw [gc_bitb hw hb, gc_shl (by omega) (Nat.lt_trans (gp_b2 _ hj) (by decide)), gc_or]
theorem gp_orb {a j : Nat} {b : Bool} (hj : j < 31) : nI a ||| (nI b.toNat <<< (nI j &&& 31)) = nI (a ||| b.toNat * 2 ^ j) := by
  rw [gc_shl (by omega) (Nat.lt_trans (gp_b2 _ hj) (by decide)), gc_or]
theorem gp_one {q : Nat} (hq : q < 31) : (1 : Int32) <<< (nI q &&& 31) = nI (2 ^ q) := by
  have h := gp_pow hq
  have e := gc_shl (w := 1) (j := q) (by omega) (by omega)
  rw [Nat.one_mul] at e
  exact e
theorem gp_q (x n : Nat) : nI (gs_q n x).toNat ^^^ nI (x.testBit n).toNat = nI (gs_q (n + 1) x).toNat := by
  rw [nx_xor]
  show _ = nI (gs_q n x ^^ x.testBit n).toNat
  cases gs_q n x <;> cases x.testBit n <;> rfl
theorem gp_w (x n : Nat) : nI (gs_w n x) + nI (x.testBit n).toNat = nI (gs_w (n + 1) x) := nI_add _ _
theorem gp_par (x : Nat) : nI (gs_w 12 x) &&& 1 = nI (gs_q 12 x).toNat := by
  have h := gs_wle x 12
  rw [gc_and1 (by omega), gs_wq]
theorem gp_tbT {w j : Nat} (hw : w < 2 ^ 31) (hj : j < 32) (h : w.testBit j = true) : ¬ ((nI w >>> (nI j &&& 31)) &&& 1) = 0 := by
  rw [gc_bitb hw hj, h]
  decide
theorem gp_tbF {w j : Nat} (hw : w < 2 ^ 31) (hj : j < 32) (h : w.testBit j = false) : ((nI w >>> (nI j &&& 31)) &&& 1) = 0 := by
  rw [gc_bitb hw hj, h]
  decide
theorem gp_s12 {w : Nat} (h : w < 2 ^ 12) : w < 2 ^ 31 := Nat.lt_trans h (by decide)
theorem gp_s8 {w : Nat} (h : w < 2 ^ 8) : w < 2 ^ 31 := Nat.lt_trans h (by decide)
theorem gp_m16 {w : Nat} (h : w < 2 ^ 31) : nI w &&& 15 = nI (w % 16) := pk_andN (m := 15) (by omega) 4 (by decide)
theorem gp_m256 {w : Nat} (h : w < 2 ^ 31) : nI w &&& 255 = nI (w % 256) := pk_andN (m := 255) (by omega) 8 (by decide)
theorem gp_sh4 {w : Nat} (h : w < 2 ^ 31) : nI w >>> ((4 : Int32) &&& 31) = nI (w / 16) := pk_shrN h _ 4 (by decide)
theorem gp_d16 {w : Nat} (h : w < 2 ^ 31) : nI w / 16 = nI (w / 16) := pk_div (d := 16) h (by decide) (by decide)
theorem gp_r16 {w : Nat} (h : w < 2 ^ 31) : nI w - nI w / 16 * 16 = nI (w % 16) := pk_rem (d := 16) h (by decide) (by decide)
theorem gp_r256 {w : Nat} (h : w < 2 ^ 31) : nI w - nI w / 256 * 256 = nI (w % 256) := pk_rem (d := 256) h (by decide) (by decide)
