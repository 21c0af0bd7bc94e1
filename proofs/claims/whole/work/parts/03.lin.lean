/-! sums of columns, parities, weights, words put together bit by bit -/
def gs_s (col : Nat → Nat) : Nat → Nat → Nat
  | 0, _ => 0
  | n + 1, w => cond (w.testBit n) (gs_s col n w ^^^ col n) (gs_s col n w)
def gs_q : Nat → Nat → Bool
  | 0, _ => false
  | n + 1, w => (gs_q n w ^^ w.testBit n)
def gs_w : Nat → Nat → Nat
  | 0, _ => 0
  | n + 1, w => gs_w n w + (w.testBit n).toNat
theorem gs_sT {col : Nat → Nat} {n w : Nat} (h : w.testBit n = true) : gs_s col (n + 1) w = gs_s col n w ^^^ col n := by
  show cond (w.testBit n) _ _ = _
  exact gc_ct h
theorem gs_sF {col : Nat → Nat} {n w : Nat} (h : w.testBit n = false) : gs_s col (n + 1) w = gs_s col n w := by
  show cond (w.testBit n) _ _ = _
  exact gc_cf h
theorem gs_xor (col : Nat → Nat) (x y : Nat) : ∀ n, gs_s col n (x ^^^ y) = gs_s col n x ^^^ gs_s col n y := by
  intro n
  induction n with
  | zero => exact (Nat.xor_self 0).symm
  | succ n ih =>
    have hb := Nat.testBit_xor x y n
    cases hx : x.testBit n <;> cases hy : y.testBit n <;> rw [hx, hy] at hb
    · rw [gs_sF hb, gs_sF hx, gs_sF hy, ih]
    · rw [gs_sT hb, gs_sF hx, gs_sT hy, ih, Nat.xor_assoc]
    · rw [gs_sT hb, gs_sT hx, gs_sF hy, ih, gx_3]
    · rw [gs_sF hb, gs_sT hx, gs_sT hy, ih, gx_4]
theorem gs_lt {col : Nat → Nat} {k w : Nat} : ∀ n, (∀ j, j < n → col j < 2 ^ k) → gs_s col n w < 2 ^ k := by
  intro n
  induction n with
  | zero => intro _; exact Nat.two_pow_pos k
  | succ n ih =>
    intro h
    have h1 := ih (fun j hj => h j (by omega))
    cases hw : w.testBit n
    · rw [gs_sF hw]; exact h1
    · rw [gs_sT hw]; exact Nat.xor_lt_two_pow h1 (h n (by omega))
theorem gs_zero (col : Nat → Nat) : ∀ n, gs_s col n 0 = 0 := by
  intro n
  induction n with
  | zero => rfl
  | succ n ih => rw [gs_sF (Nat.zero_testBit n), ih]
theorem gs_cw {col : Nat → Nat} {x y : Nat} : ∀ n, (∀ j, j < n → x.testBit j = y.testBit j) → gs_s col n x = gs_s col n y := by
  intro n
  induction n with
  | zero => intro _; rfl
  | succ n ih =>
    intro h
    have h1 := ih (fun j hj => h j (by omega))
    have h2 := h n (by omega)
    cases hx : x.testBit n <;> rw [hx] at h2
    · rw [gs_sF hx, gs_sF h2.symm, h1]
    · rw [gs_sT hx, gs_sT h2.symm, h1]
theorem gs_cc {col col' : Nat → Nat} {w : Nat} : ∀ n, (∀ j, j < n → col j = col' j) → gs_s col n w = gs_s col' n w := by
  intro n
  induction n with
  | zero => intro _; rfl
  | succ n ih =>
    intro h
    have h1 := ih (fun j hj => h j (by omega))
    have h2 := h n (by omega)
    cases hx : w.testBit n
    · rw [gs_sF hx, gs_sF hx, h1]
    · rw [gs_sT hx, gs_sT hx, h1, h2]
/-- a sum of sums -/
theorem gs_comp (col E : Nat → Nat) (N m : Nat) : ∀ n, gs_s col N (gs_s E n m) = gs_s (fun j => gs_s col N (E j)) n m := by
  intro n
  induction n with
  | zero => exact gs_zero col N
  | succ n ih =>
    cases hm : m.testBit n
    · rw [gs_sF hm, gs_sF hm, ih]
    · rw [gs_sT hm, gs_sT hm, gs_xor, ih]
theorem gs_allz {col : Nat → Nat} {m : Nat} : ∀ n, (∀ j, j < n → m.testBit j = true → col j = 0) → gs_s col n m = 0 := by
  intro n
  induction n with
  | zero => intro _; rfl
  | succ n ih =>
    intro h
    have h1 := ih (fun j hj => h j (by omega))
    cases hm : m.testBit n
    · rw [gs_sF hm, h1]
    · rw [gs_sT hm, h1, h n (by omega) hm] <;> rfl
/-- bit b of a sum of columns: if the columns with m's bits have it clear, it is clear -/
theorem gs_bz {col : Nat → Nat} {m b : Nat} : ∀ n, (∀ j, j < n → m.testBit j = true → (col j).testBit b = false) → (gs_s col n m).testBit b = false := by
  intro n
  induction n with
  | zero => intro _; exact Nat.zero_testBit b
  | succ n ih =>
    intro h
    have h1 := ih (fun j hj => h j (by omega))
    cases hm : m.testBit n
    · rw [gs_sF hm, h1]
    · rw [gs_sT hm, Nat.testBit_xor, h1, h n (by omega) hm] <;> rfl
/-- bit b of a sum of columns where bit b stands in column k alone -/
theorem gs_b1 {col : Nat → Nat} {m b k : Nat} : ∀ n, k < n → (∀ j, j < n → (col j).testBit b = decide (j = k)) → (gs_s col n m).testBit b = m.testBit k := by
  intro n
  induction n with
  | zero => intro h; omega
  | succ n ih =>
    intro hk h
    by_cases e : k = n
    · subst e
      have h1 : (gs_s col k m).testBit b = false := gs_bz k (fun j hj _ => by rw [h j (by omega), decide_eq_false (by omega)])
      cases hm : m.testBit k
      · rw [gs_sF hm, h1]
      · rw [gs_sT hm, Nat.testBit_xor, h1, h k (by omega), decide_eq_true rfl] <;> rfl
    · have h1 := ih (by omega) (fun j hj => h j (by omega))
      have h2 := h n (by omega)
      rw [decide_eq_false (by omega)] at h2
      cases hm : m.testBit n
      · rw [gs_sF hm, h1]
      · rw [gs_sT hm, Nat.testBit_xor, h1, h2, Bool.xor_false]
theorem gs_qxor (x y : Nat) : ∀ n, gs_q n (x ^^^ y) = (gs_q n x ^^ gs_q n y) := by
  intro n
  induction n with
  | zero => rfl
  | succ n ih =>
    show (gs_q n (x ^^^ y) ^^ (x ^^^ y).testBit n) = ((gs_q n x ^^ x.testBit n) ^^ (gs_q n y ^^ y.testBit n))
    rw [ih, Nat.testBit_xor]
    cases gs_q n x <;> cases gs_q n y <;> cases x.testBit n <;> cases y.testBit n <;> rfl
theorem gs_wq (w : Nat) : ∀ n, gs_w n w % 2 = (gs_q n w).toNat := by
  intro n
  induction n with
  | zero => rfl
  | succ n ih =>
    show (gs_w n w + (w.testBit n).toNat) % 2 = (gs_q n w ^^ w.testBit n).toNat
    revert ih
    cases gs_q n w <;> cases w.testBit n <;> simp only [Bool.toNat_true, Bool.toNat_false, Bool.xor_true, Bool.xor_false, Bool.not_true, Bool.not_false] <;> omega
theorem gs_wle (w : Nat) : ∀ n, gs_w n w ≤ n := by
  intro n
  induction n with
  | zero => exact Nat.le_refl 0
  | succ n ih =>
    show gs_w n w + (w.testBit n).toNat ≤ n + 1
    have := gc_n01 (w.testBit n)
    omega
theorem gs_wxor (x y : Nat) : ∀ n, gs_w n (x ^^^ y) ≤ gs_w n x + gs_w n y := by
  intro n
  induction n with
  | zero => exact Nat.le_refl 0
  | succ n ih =>
    show gs_w n (x ^^^ y) + ((x ^^^ y).testBit n).toNat ≤ (gs_w n x + (x.testBit n).toNat) + (gs_w n y + (y.testBit n).toNat)
    rw [Nat.testBit_xor]
    cases x.testBit n <;> cases y.testBit n <;> simp only [Bool.toNat_true, Bool.toNat_false, Bool.xor_true, Bool.xor_false, Bool.not_true, Bool.not_false] <;> omega
theorem gs_qz {x : Nat} : ∀ n, (∀ j, j < n → x.testBit j = false) → gs_q n x = false := by
  intro n
  induction n with
  | zero => intro _; rfl
  | succ n ih =>
    intro h
    show (gs_q n x ^^ x.testBit n) = false
    rw [ih (fun j hj => h j (by omega)), h n (by omega)] <;> rfl
/-- the parity of a word whose only bit may stand at q -/
theorem gs_q1 {x q : Nat} : ∀ n, q < n → (∀ j, j < n → j ≠ q → x.testBit j = false) → gs_q n x = x.testBit q := by
  intro n
  induction n with
  | zero => intro h; omega
  | succ n ih =>
    intro hq h
    show (gs_q n x ^^ x.testBit n) = _
    by_cases e : q = n
    · subst e
      rw [gs_qz q (fun j hj => h j (by omega) (by omega)), Bool.false_xor]
    · rw [ih (by omega) (fun j hj z => h j (by omega) z), h n (by omega) (by omega), Bool.xor_false]
/-- a row of the bits b of the columns: its parity with w is bit b of w's sum -/
theorem gs_row {col : Nat → Nat} {R b w : Nat} : ∀ n, (∀ j, j < n → R.testBit j = (col j).testBit b) → gs_q n (R &&& w) = (gs_s col n w).testBit b := by
  intro n
  induction n with
  | zero => intro _; exact (Nat.zero_testBit b).symm
  | succ n ih =>
    intro h
    show (gs_q n (R &&& w) ^^ (R &&& w).testBit n) = _
    rw [ih (fun j hj => h j (by omega)), Nat.testBit_and, h n (by omega)]
    cases hw : w.testBit n
    · rw [gs_sF hw, Bool.and_false, Bool.xor_false]
    · rw [gs_sT hw, Bool.and_true, Nat.testBit_xor]
/-- a word put together: bit (s i) is set where g i, over i below n -/
def gs_o (x : Nat) (g : Nat → Bool) (s : Nat → Nat) : Nat → Nat
  | 0 => x
  | n + 1 => gs_o x g s n ||| (g n).toNat * 2 ^ s n
theorem gs_ob (x : Nat) (g : Nat → Bool) (s : Nat → Nat) (p : Nat) : ∀ n, (gs_o x g s n).testBit p = (x.testBit p || gc_ex n fun i => g i && decide (s i = p)) := by
  intro n
  induction n with
  | zero => show x.testBit p = (x.testBit p || false); rw [Bool.or_false]
  | succ n ih =>
    show (gs_o x g s n ||| (g n).toNat * 2 ^ s n).testBit p = (x.testBit p || (gc_ex n (fun i => g i && decide (s i = p)) || (g n && decide (s n = p))))
    rw [Nat.testBit_or, ih, Bool.or_assoc]
    congr 2
    cases g n
    · show (0 * 2 ^ s n).testBit p = false
      rw [Nat.zero_mul, Nat.zero_testBit]
    · show (1 * 2 ^ s n).testBit p = (true && decide (s n = p))
      rw [Nat.one_mul, Nat.testBit_two_pow, Bool.true_and]
theorem gs_olt {x k : Nat} {g : Nat → Bool} {s : Nat → Nat} (hx : x < 2 ^ k) : ∀ n, (∀ i, i < n → s i < k) → gs_o x g s n < 2 ^ k := by
  intro n
  induction n with
  | zero => intro _; exact hx
  | succ n ih =>
    intro h
    refine Nat.or_lt_two_pow (ih fun i hi => h i (by omega)) ?_
    have h1 : 2 ^ s n < 2 ^ k := Nat.pow_lt_pow_right (by decide) (h n (by omega))
    cases g n
    · show 0 * 2 ^ s n < 2 ^ k; omega
    · show 1 * 2 ^ s n < 2 ^ k; omega
theorem gs_oc {x : Nat} {g g' : Nat → Bool} {s s' : Nat → Nat} : ∀ n, (∀ i, i < n → g i = g' i) → (∀ i, i < n → s i = s' i) → gs_o x g s n = gs_o x g' s' n := by
  intro n
  induction n with
  | zero => intro _ _; rfl
  | succ n ih =>
    intro h1 h2
    show gs_o x g s n ||| _ = gs_o x g' s' n ||| _
    rw [ih (fun i hi => h1 i (by omega)) (fun i hi => h2 i (by omega)), h1 n (by omega), h2 n (by omega)]
/-- one bit of a word put together at different places -/
theorem gs_o1 {x : Nat} {g : Nat → Bool} {s : Nat → Nat} {n k : Nat} (hk : k < n) (hs : ∀ i, i < n → s i = s k → i = k) (hx : x.testBit (s k) = false) : (gs_o x g s n).testBit (s k) = g k := by
  rw [gs_ob, hx, Bool.false_or]
  cases hg : g k
  · cases he : gc_ex n fun i => g i && decide (s i = s k)
    · rfl
    · obtain ⟨i, hi, q⟩ := gc_ex_i he
      rw [Bool.and_eq_true, decide_eq_true_eq] at q
      have := hs i hi q.2
      subst this
      rw [hg] at q
      exact absurd q.1 (by decide)
  · cases he : gc_ex n fun i => g i && decide (s i = s k)
    · have := gc_ex_n he k hk
      rw [hg, decide_eq_true rfl] at this
      exact absurd this (by decide)
    · rfl
/-- a place that no s i names keeps its bit -/
theorem gs_o0 {x : Nat} {g : Nat → Bool} {s : Nat → Nat} {n p : Nat} (hs : ∀ i, i < n → s i ≠ p) : (gs_o x g s n).testBit p = x.testBit p := by
  rw [gs_ob]
  cases he : gc_ex n fun i => g i && decide (s i = p)
  · rw [Bool.or_false]
  · obtain ⟨i, hi, q⟩ := gc_ex_i he
    rw [Bool.and_eq_true, decide_eq_true_eq] at q
    exact absurd q.2 (hs i hi)
