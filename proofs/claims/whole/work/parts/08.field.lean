/-! the two field products as they are reckoned, against the table -/
def gh_m (a : Nat) : Nat → Nat
  | 0 => a
  | n + 1 => cond (decide (16 ≤ gh_m a n * 2)) ((gh_m a n * 2) ^^^ 19) (gh_m a n * 2)
def gh_p (a b : Nat) : Nat → Nat
  | 0 => 0
  | n + 1 => cond (b.testBit n) (gh_p a b n ^^^ gh_m a n) (gh_p a b n)
theorem gh_t1 : ∀ x, x < 16 → cond (decide (16 ≤ x * 2)) ((x * 2) ^^^ 19) (x * 2) < 16 := by decide +kernel
theorem gh_mlt {a : Nat} (ha : a < 16) : ∀ n, gh_m a n < 16 := by
  intro n
  induction n with
  | zero => exact ha
  | succ n ih => exact gh_t1 _ ih
theorem gh_plt {a b : Nat} (ha : a < 16) : ∀ n, gh_p a b n < 16 := by
  intro n
  induction n with
  | zero => show 0 < 16; decide
  | succ n ih =>
    show cond (b.testBit n) (gh_p a b n ^^^ gh_m a n) (gh_p a b n) < 16
    cases b.testBit n
    · exact ih
    · exact gx_lt ih (gh_mlt ha n)
theorem gh_pe : ∀ a, a < 16 → ∀ b, b < 16 → gh_p a b 4 = gf_p a b := by decide +kernel
theorem gh_mT {a n : Nat} (h : 16 ≤ gh_m a n * 2) : gh_m a (n + 1) = (gh_m a n * 2) ^^^ 19 := by
  show cond (decide (16 ≤ gh_m a n * 2)) _ _ = _
  exact gc_ct (decide_eq_true h)
theorem gh_mF {a n : Nat} (h : ¬ 16 ≤ gh_m a n * 2) : gh_m a (n + 1) = gh_m a n * 2 := by
  show cond (decide (16 ≤ gh_m a n * 2)) _ _ = _
  exact gc_cf (decide_eq_false h)
theorem gh_pT {a b n : Nat} (h : b.testBit n = true) : gh_p a b (n + 1) = gh_p a b n ^^^ gh_m a n := by
  show cond (b.testBit n) _ _ = _
  exact gc_ct h
theorem gh_pF {a b n : Nat} (h : b.testBit n = false) : gh_p a b (n + 1) = gh_p a b n := by
  show cond (b.testBit n) _ _ = _
  exact gc_cf h
/-! the reference's: shifted sum, then three steps down -/
def gh_y (x : Nat) : Nat → Nat := fun i => x * 2 ^ i
def gh_r (a d : Nat) : Nat := cond (a.testBit d) (a ^^^ 19 * 2 ^ (d - 4)) a
theorem gh_rT {a d : Nat} (h : a.testBit d = true) : gh_r a d = a ^^^ 19 * 2 ^ (d - 4) := by
  show cond (a.testBit d) _ _ = _
  exact gc_ct h
theorem gh_rF {a d : Nat} (h : a.testBit d = false) : gh_r a d = a := by
  show cond (a.testBit d) _ _ = _
  exact gc_cf h
theorem gh_rlt {a d : Nat} (ha : a < 2 ^ 8) (hd : d ≤ 6) : gh_r a d < 2 ^ 8 := by
  cases h : a.testBit d
  · rw [gh_rF h]; exact ha
  · rw [gh_rT h]
    refine Nat.xor_lt_two_pow ha ?_
    have : 2 ^ (d - 4) ≤ 2 ^ 2 := Nat.pow_le_pow_right (by decide) (by omega)
    omega
theorem gh_ylt {x : Nat} (hx : x < 16) (y n : Nat) (hn : n ≤ 4) : gs_s (gh_y x) n y < 2 ^ 8 := by
  refine gs_lt n (fun j hj => ?_)
  have : 2 ^ j ≤ 2 ^ 3 := Nat.pow_le_pow_right (by decide) (by omega)
  have h2 : x * 2 ^ j ≤ 15 * 2 ^ 3 := Nat.mul_le_mul (by omega) this
  show x * 2 ^ j < 2 ^ 8
  omega
theorem gh_ye : ∀ x, x < 16 → ∀ y, y < 16 → gh_r (gh_r (gh_r (gs_s (gh_y x) 4 y) 6) 5) 4 % 16 = gf_p x y := by decide +kernel
