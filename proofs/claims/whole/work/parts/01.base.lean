theorem pk_us {f : Nat → Int32} {k : Nat} {x : Int32} : upd f k x k = x := if_pos rfl
theorem pk_un {f : Nat → Int32} {k j : Nat} {x : Int32} (h : j ≠ k) : upd f k x j = f j := if_neg h
theorem pk_sub {a b : Nat} (h : b ≤ a) : nI a - nI b = nI (a - b) := by
  obtain ⟨c, rfl⟩ : ∃ c, a = c + b := ⟨a - b, by omega⟩
  rw [← nI_add, Int32.add_sub_cancel, Nat.add_sub_cancel]
theorem pk_m1 (n : Nat) : nI (n + 1) + (-1) = nI n := by
  rw [← nI_1, Int32.add_assoc, show (1 : Int32) + (-1) = 0 from rfl, Int32.add_zero]
theorem pk_mul (a b : Nat) : nI a * nI b = nI (a * b) := (Int32.ofNat_mul a b).symm
theorem pk_div {a d : Nat} (ha : a < 2 ^ 31) (h0 : 0 < d) (hd : d < 2 ^ 31) : nI a / nI d = nI (a / d) := by
  apply Int32.toInt_inj.mp
  rw [lg_idiv_nonneg (by rw [nI_toInt ha]; omega) (by rw [nI_toInt hd]; omega), nI_toInt ha, nI_toInt hd, nI_toInt (Nat.lt_of_le_of_lt (Nat.div_le_self a d) ha)]
  first | rfl | exact (Int.natCast_ediv _ _).symm
theorem pk_rem {a d : Nat} (ha : a < 2 ^ 31) (h0 : 0 < d) (hd : d < 2 ^ 31) : nI a - nI a / nI d * nI d = nI (a % d) := by
  rw [pk_div ha h0 hd, pk_mul, pk_sub (Nat.div_mul_le_self a d)]
  exact congrArg nI (by have := Nat.div_add_mod' a d; omega)
theorem pk_ix (x : Int32) {n : Nat} (hn : n < 2 ^ 31) : x < 0 ∨ nI n ≤ x ∨ ∃ j : Nat, j < n ∧ x = nI j := by
  by_cases h : x < 0
  · exact Or.inl h
  · obtain ⟨j, hj, rfl⟩ := nI_of h
    by_cases h2 : j < n
    · exact Or.inr (Or.inr ⟨j, h2, rfl⟩)
    · exact Or.inr (Or.inl (nI_le (by omega) hj))
theorem pk_le {x y : Int32} {A B : Prop} (a b : Nat) (f : a ≤ b → A) (g : b < a → B) (hx : x = nI a := by rfl) (hy : y = nI b := by rfl) (ha : a < 2 ^ 31 := by omega) (hb : b < 2 ^ 31 := by omega) : (x ≤ y → A) ∧ (¬ x ≤ y → B) := by
  subst hx hy
  rw [nI_leI ha hb]
  exact ⟨f, fun z => g (by omega)⟩
theorem pk_lt {x y : Int32} {A B : Prop} (a b : Nat) (f : a < b → A) (g : b ≤ a → B) (hx : x = nI a := by rfl) (hy : y = nI b := by rfl) (ha : a < 2 ^ 31 := by omega) (hb : b < 2 ^ 31 := by omega) : (x < y → A) ∧ (¬ x < y → B) := by
  subst hx hy
  rw [nI_ltI ha hb]
  exact ⟨f, fun z => g (by omega)⟩
theorem pk_eq {x y : Int32} {A B : Prop} (a b : Nat) (f : a = b → A) (g : a ≠ b → B) (hx : x = nI a := by rfl) (hy : y = nI b := by rfl) (ha : a < 2 ^ 31 := by omega) (hb : b < 2 ^ 31 := by omega) : (x = y → A) ∧ (¬ x = y → B) := by
  subst hx hy
  rw [nI_eq ha hb]
  exact ⟨f, g⟩
theorem pk_in {x : Int32} (n N : Nat) (h : n < N) (hx : x = nI n := by rfl) (hN : N < 2 ^ 31 := by omega) : vp_in x N := by
  subst hx
  exact vp_in_nI h hN
theorem pk_cl {x : Int32} (n : Nat) (hx : x = nI n := by rfl) (h : n < 2 ^ 31 := by omega) : x.toNatClampNeg = n := by
  subst hx
  exact nI_clamp h
theorem pk_tn {n : Nat} (h : n < 2 ^ 32) : (nI n).toBitVec.toNat = n := Nat.mod_eq_of_lt h
theorem pk_and (x : Int32) {m : Int32} (k : Nat) (hm : m.toBitVec.toNat = 2 ^ k - 1) : x &&& m = nI (x.toBitVec.toNat % 2 ^ k) := by
  apply Int32.toBitVec_inj.mp
  apply BitVec.eq_of_toNat_eq
  rw [Int32.toBitVec_and, BitVec.toNat_and, hm, Nat.and_two_pow_sub_one_eq_mod]
  show _ = (BitVec.ofNat 32 _).toNat
  rw [BitVec.toNat_ofNat]
  exact (Nat.mod_eq_of_lt (Nat.lt_of_le_of_lt (Nat.mod_le _ _) x.toBitVec.isLt)).symm
theorem pk_andN {n : Nat} (h : n < 2 ^ 32) {m : Int32} (k : Nat) (hm : m.toBitVec.toNat = 2 ^ k - 1) : nI n &&& m = nI (n % 2 ^ k) := by
  rw [pk_and _ k hm, pk_tn h]
theorem pk_shl (a s : Int32) (k : Nat) (hs : (s.toBitVec.smod 32).toNat = k) : (a <<< s).toBitVec.toNat = a.toBitVec.toNat * 2 ^ k % 2 ^ 32 := by
  show (a.toBitVec <<< (s.toBitVec.smod 32).toNat).toNat = _
  rw [hs, BitVec.toNat_shiftLeft, Nat.shiftLeft_eq]
theorem pk_shlN {n : Nat} (s : Int32) (k : Nat) (hs : (s.toBitVec.smod 32).toNat = k) (h : n * 2 ^ k < 2 ^ 32) : nI n <<< s = nI (n * 2 ^ k) := by
  apply Int32.toBitVec_inj.mp
  apply BitVec.eq_of_toNat_eq
  have hn : n < 2 ^ 32 := Nat.lt_of_le_of_lt (Nat.le_mul_of_pos_right n (Nat.two_pow_pos k)) h
  rw [pk_shl _ _ k hs, pk_tn hn, pk_tn h, Nat.mod_eq_of_lt h]
theorem pk_shr (a s : Int32) (k : Nat) (hs : (s.toBitVec.smod 32).toNat = k) : (a >>> s).toInt = a.toInt >>> k := by
  show (a.toBitVec.sshiftRight (s.toBitVec.smod 32).toNat).toInt = _
  rw [hs, BitVec.toInt_sshiftRight]
  rfl
theorem pk_shrN {n : Nat} (h : n < 2 ^ 31) (s : Int32) (k : Nat) (hs : (s.toBitVec.smod 32).toNat = k) : nI n >>> s = nI (n / 2 ^ k) := by
  apply Int32.toInt_inj.mp
  have h2 : n / 2 ^ k ≤ n := Nat.div_le_self _ _
  rw [pk_shr _ _ k hs, nI_toInt h, nI_toInt (by omega), Int.shiftRight_eq_div_pow]
  rfl
theorem pk_loop {σ : Type} (W : Nat → Nat → σ → Prop) (I : Nat → σ → Prop) (e i0 : Nat) (s : σ) (hi : i0 ≤ e) (h0 : I i0 s) (hx : ∀ n s, I e s → W (n + 1) e s)
    (hs : ∀ n i s, i < e → I i s → (∀ s', I (i + 1) s' → W n (i + 1) s') → W (n + 1) i s) : ∃ n, W n i0 s :=
  ⟨e + 1, loop_i W I e hx hs (e + 1) i0 s hi (by omega) h0⟩
theorem ek_if {c d A B : Prop} (e : c ↔ d) (f : d → A) (g : ¬ d → B) : (c → A) ∧ (¬ c → B) :=
  ⟨fun z => f (e.mp z), fun z => g (fun y => z (e.mpr y))⟩
theorem ek_v {α : Sort _} {P : α → Prop} {a b : α} (e : a = b) (h : P b) : P a := e ▸ h
theorem s_l : ∀ n, n < 32 → ((nI n &&& 31).toBitVec.smod 32).toNat = n := by decide +kernel
theorem nx_and (a b : Nat) : nI a &&& nI b = nI (a &&& b) := by
  apply Int32.toBitVec_inj.1
  show BitVec.ofNat 32 a &&& BitVec.ofNat 32 b = BitVec.ofNat 32 (a &&& b)
  apply BitVec.eq_of_getLsbD_eq
  intro i hi
  simp [hi]
theorem nx_xor (a b : Nat) : nI a ^^^ nI b = nI (a ^^^ b) := by
  apply Int32.toBitVec_inj.1
  show BitVec.ofNat 32 a ^^^ BitVec.ofNat 32 b = BitVec.ofNat 32 (a ^^^ b)
  apply BitVec.eq_of_getLsbD_eq
  intro i hi
  simp [hi]
/-! own rows: bits of nI -/
theorem gc_or (a b : Nat) : nI a ||| nI b = nI (a ||| b) := by
  apply Int32.toBitVec_inj.1
  show BitVec.ofNat 32 a ||| BitVec.ofNat 32 b = BitVec.ofNat 32 (a ||| b)
  apply BitVec.eq_of_getLsbD_eq
  intro i hi
  simp [hi]
theorem gc_shr {w j : Nat} (hw : w < 2 ^ 31) (hj : j < 32) : nI w >>> (nI j &&& 31) = nI (w / 2 ^ j) := pk_shrN hw _ j (s_l j hj)
theorem gc_shl {w j : Nat} (hj : j < 32) (h : w * 2 ^ j < 2 ^ 32) : nI w <<< (nI j &&& 31) = nI (w * 2 ^ j) := pk_shlN _ j (s_l j hj) h
theorem gc_and1 {n : Nat} (h : n < 2 ^ 31) : nI n &&& 1 = nI (n % 2) := pk_andN (m := 1) (by omega) 1 (by decide)
theorem gc_bit {w j : Nat} (hw : w < 2 ^ 31) (hj : j < 32) : (nI w >>> (nI j &&& 31)) &&& 1 = nI (w / 2 ^ j % 2) := by
  rw [gc_shr hw hj, gc_and1 (Nat.lt_of_le_of_lt (Nat.div_le_self _ _) hw)]
theorem gc_tbn (w j : Nat) : w / 2 ^ j % 2 = (w.testBit j).toNat := (Nat.toNat_testBit w j).symm
theorem gc_bitb {w j : Nat} (hw : w < 2 ^ 31) (hj : j < 32) : (nI w >>> (nI j &&& 31)) &&& 1 = nI (w.testBit j).toNat := by
  rw [gc_bit hw hj, gc_tbn]
theorem gc_n01 (b : Bool) : b.toNat < 2 := by cases b <;> decide
theorem gc_bz (b : Bool) : nI b.toNat = 0 ↔ b = false := by
  cases b
  · exact ⟨fun _ => rfl, fun _ => rfl⟩
  · exact ⟨fun h => absurd h (by decide), fun h => nomatch h⟩
theorem gc_bo (b : Bool) : nI b.toNat = 1 ↔ b = true := by
  cases b
  · exact ⟨fun h => absurd h (by decide), fun h => nomatch h⟩
  · exact ⟨fun _ => rfl, fun _ => rfl⟩
/-- the branch on bit j of w -/
theorem gc_tb {w j : Nat} {A B : Prop} (hw : w < 2 ^ 31) (hj : j < 32) (f : w.testBit j = false → A) (g : w.testBit j = true → B) : (((nI w >>> (nI j &&& 31)) &&& 1) = 0 → A) ∧ (¬ ((nI w >>> (nI j &&& 31)) &&& 1) = 0 → B) := by
  rw [gc_bitb hw hj]
  exact ⟨fun h => f ((gc_bz _).mp h), fun h => g (by
    cases hb : w.testBit j
    · exact absurd ((gc_bz _).mpr hb) h
    · rfl)⟩
theorem gc_tb' {x : Int32} {b : Bool} {A B : Prop} (hx : x = nI b.toNat) (f : b = false → A) (g : b = true → B) : (x = 0 → A) ∧ (¬ x = 0 → B) := by
  subst hx
  exact ⟨fun h => f ((gc_bz _).mp h), fun h => g (by
    cases b
    · exact absurd rfl h
    · rfl)⟩
/-- a number by its first n bits -/
theorem gc_ext {n x y : Nat} (hx : x < 2 ^ n) (hy : y < 2 ^ n) (h : ∀ i, i < n → x.testBit i = y.testBit i) : x = y := by
  apply Nat.eq_of_testBit_eq
  intro i
  rcases Nat.lt_or_ge i n with z | z
  · exact h i z
  · rw [Nat.testBit_lt_two_pow (Nat.lt_of_lt_of_le hx (Nat.pow_le_pow_right (by decide) z)), Nat.testBit_lt_two_pow (Nat.lt_of_lt_of_le hy (Nat.pow_le_pow_right (by decide) z))]
theorem gc_tb0 {n x i : Nat} (hx : x < 2 ^ n) (h : n ≤ i) : x.testBit i = false := Nat.testBit_lt_two_pow (Nat.lt_of_lt_of_le hx (Nat.pow_le_pow_right (by decide) h))
/-- all i below n -/
def gc_al : Nat → (Nat → Bool) → Bool
  | 0, _ => true
  | n + 1, p => gc_al n p && p n
theorem gc_al_i {p : Nat → Bool} : ∀ {n : Nat}, gc_al n p = true → ∀ i, i < n → p i = true := by
  intro n
  induction n with
  | zero => intro _ i hi; omega
  | succ n ih =>
    intro h i hi
    have h2 : (gc_al n p && p n) = true := h
    rw [Bool.and_eq_true] at h2
    by_cases e : i = n
    · rw [e]; exact h2.2
    · exact ih h2.1 i (by omega)
/-- some i below n -/
def gc_ex : Nat → (Nat → Bool) → Bool
  | 0, _ => false
  | n + 1, p => gc_ex n p || p n
theorem gc_ex_i {p : Nat → Bool} : ∀ {n : Nat}, gc_ex n p = true → ∃ i, i < n ∧ p i = true := by
  intro n
  induction n with
  | zero => intro h; have h : false = true := h; cases h
  | succ n ih =>
    intro h
    have h2 : (gc_ex n p || p n) = true := h
    rw [Bool.or_eq_true] at h2
    rcases h2 with z | z
    · obtain ⟨i, hi, q⟩ := ih z
      exact ⟨i, by omega, q⟩
    · exact ⟨n, by omega, z⟩
theorem gc_ex_n {p : Nat → Bool} : ∀ {n : Nat}, gc_ex n p = false → ∀ i, i < n → p i = false := by
  intro n
  induction n with
  | zero => intro _ i hi; omega
  | succ n ih =>
    intro h i hi
    have h2 : (gc_ex n p || p n) = false := h
    rw [Bool.or_eq_false_iff] at h2
    by_cases e : i = n
    · rw [e]; exact h2.2
    · exact ih h2.1 i (by omega)
/-- a number reckoned before it is handed on -/
def gc_st {α : Type} (x : Nat) (k : Nat → α) : α := match x with
  | 0 => k 0
  | n + 1 => k (Nat.succ n)
theorem gc_st_e {α : Type} (x : Nat) (k : Nat → α) : gc_st x k = k x := by cases x <;> rfl
theorem gc_least (P : Nat → Prop) (h : ∃ k, P k) : ∃ k, P k ∧ ∀ j, j < k → ¬ P j := by
  obtain ⟨k, hk⟩ := h
  induction k using Nat.strongRecOn with
  | ind k ih =>
    by_cases e : ∃ j, j < k ∧ P j
    · obtain ⟨j, hj, pj⟩ := e
      exact ih j hj pj
    · exact ⟨k, hk, fun j hj pj => e ⟨j, hj, pj⟩⟩
theorem gc_ex_t {p : Nat → Bool} : ∀ {n i : Nat}, i < n → p i = true → gc_ex n p = true := by
  intro n
  induction n with
  | zero => intro i hi; omega
  | succ n ih =>
    intro i hi h
    show (gc_ex n p || p n) = true
    by_cases e : i = n
    · rw [← e, h, Bool.or_true]
    · rw [ih (by omega) h, Bool.true_or]
theorem gc_ex_f {p : Nat → Bool} : ∀ {n : Nat}, (∀ i, i < n → p i = false) → gc_ex n p = false := by
  intro n
  induction n with
  | zero => intro _; rfl
  | succ n ih =>
    intro h
    show (gc_ex n p || p n) = false
    rw [ih (fun i hi => h i (by omega)), h n (by omega)]; rfl
theorem gc_ct {α : Type} {b : Bool} {x y : α} (h : b = true) : cond b x y = x := by subst h; rfl
theorem gc_cf {α : Type} {b : Bool} {x y : α} (h : b = false) : cond b x y = y := by subst h; rfl
/-! a number below 0 against naturals -/
theorem gi_0 : (0 : Int32).toInt = 0 := by decide
theorem gi_lt {x : Int32} (h : x < 0) {k : Nat} (hk : k < 2 ^ 31) : x < nI k := by
  rw [Int32.lt_iff_toInt_lt, gi_0] at h
  rw [Int32.lt_iff_toInt_lt, nI_toInt hk]
  omega
theorem gi_le {x : Int32} (h : x < 0) {k : Nat} (hk : k < 2 ^ 31) : x ≤ nI k := by
  rw [Int32.lt_iff_toInt_lt, gi_0] at h
  rw [Int32.le_iff_toInt_le, nI_toInt hk]
  omega
theorem gi_nle {x : Int32} (h : x < 0) {k : Nat} (hk : k < 2 ^ 31) : ¬ nI k ≤ x := by
  rw [Int32.lt_iff_toInt_lt, gi_0] at h
  rw [Int32.le_iff_toInt_le, nI_toInt hk]
  omega
theorem gi_nlt {x : Int32} (h : x < 0) {k : Nat} (hk : k < 2 ^ 31) : ¬ nI k < x := by
  rw [Int32.lt_iff_toInt_lt, gi_0] at h
  rw [Int32.lt_iff_toInt_lt, nI_toInt hk]
  omega
theorem gi_ne {x : Int32} (h : x < 0) {k : Nat} (hk : k < 2 ^ 31) : ¬ x = nI k := by
  intro e
  rw [e] at h
  exact nI_pos hk h
theorem gi_of (x : Int32) : x < 0 ∨ ∃ j, j < 2 ^ 31 ∧ x = nI j := by
  by_cases h : x < 0
  · exact Or.inl h
  · exact Or.inr (nI_of h)
