section
theorem pk_us {f : Nat → Int32} {k : Nat} {x : Int32} : upd f k x k = x := if_pos rfl
theorem pk_un {f : Nat → Int32} {k j : Nat} {x : Int32} (h : j ≠ k) : upd f k x j = f j := if_neg h
theorem pk_sub {a b : Nat} (h : b ≤ a) : nI a - nI b = nI (a - b) := by
  obtain ⟨c, rfl⟩ : ∃ c, a = c + b := ⟨a - b, by omega⟩
  rw [← nI_add, Int32.add_sub_cancel, Nat.add_sub_cancel]
theorem pk_m1 (n : Nat) : nI (n + 1) + (-1) = nI n := by
  rw [← nI_1, Int32.add_assoc, show (1 : Int32) + (-1) = 0 from rfl, Int32.add_zero]
theorem pk_mul (a b : Nat) : nI a * nI b = nI (a * b) := (Int32.ofNat_mul a b).symm
theorem pk_div {a d : Nat} (ha : a < 2 ^ 31) (h0 : 0 < d) (hd : d < 2 ^ 31) : nI a / nI d = nI (a / d) := by
  apply Int32.toInt_inj.mp
  rw [lg_idiv_nonneg (by rw [nI_toInt ha]; omega) (by rw [nI_toInt hd]; omega), nI_toInt ha, nI_toInt hd, nI_toInt (Nat.lt_of_le_of_lt (Nat.div_le_self a d) ha)]
  first | rfl | exact (Int.natCast_ediv _ _).symm
theorem pk_rem {a d : Nat} (ha : a < 2 ^ 31) (h0 : 0 < d) (hd : d < 2 ^ 31) : nI a - nI a / nI d * nI d = nI (a % d) := by
  rw [pk_div ha h0 hd, pk_mul, pk_sub (Nat.div_mul_le_self a d)]
  exact congrArg nI (by have := Nat.div_add_mod' a d; omega)
theorem pk_ix (x : Int32) {n : Nat} (hn : n < 2 ^ 31) : x < 0 ∨ nI n ≤ x ∨ ∃ j : Nat, j < n ∧ x = nI j := by
  by_cases h : x < 0
  · exact Or.inl h
  · obtain ⟨j, hj, rfl⟩ := nI_of h
    by_cases h2 : j < n
    · exact Or.inr (Or.inr ⟨j, h2, rfl⟩)
    · exact Or.inr (Or.inl (nI_le (by omega) hj))
theorem pk_le {x y : Int32} {A B : Prop} (a b : Nat) (f : a ≤ b → A) (g : b < a → B) (hx : x = nI a := by rfl) (hy : y = nI b := by rfl) (ha : a < 2 ^ 31 := by omega) (hb : b < 2 ^ 31 := by omega) : (x ≤ y → A) ∧ (¬ x ≤ y → B) := by
  subst hx hy
  rw [nI_leI ha hb]
  exact ⟨f, fun z => g (by omega)⟩
theorem pk_lt {x y : Int32} {A B : Prop} (a b : Nat) (f : a < b → A) (g : b ≤ a → B) (hx : x = nI a := by rfl) (hy : y = nI b := by rfl) (ha : a < 2 ^ 31 := by omega) (hb : b < 2 ^ 31 := by omega) : (x < y → A) ∧ (¬ x < y → B) := by
  subst hx hy
  rw [nI_ltI ha hb]
  exact ⟨f, fun z => g (by omega)⟩
theorem pk_eq {x y : Int32} {A B : Prop} (a b : Nat) (f : a = b → A) (g : a ≠ b → B) (hx : x = nI a := by rfl) (hy : y = nI b := by rfl) (ha : a < 2 ^ 31 := by omega) (hb : b < 2 ^ 31 := by omega) : (x = y → A) ∧ (¬ x = y → B) := by
  subst hx hy
  rw [nI_eq ha hb]
  exact ⟨f, g⟩
theorem pk_in {x : Int32} (n N : Nat) (h : n < N) (hx : x = nI n := by rfl) (hN : N < 2 ^ 31 := by omega) : vp_in x N := by
  subst hx
  exact vp_in_nI h hN
theorem pk_cl {x : Int32} (n : Nat) (hx : x = nI n := by rfl) (h : n < 2 ^ 31 := by omega) : x.toNatClampNeg = n := by
  subst hx
  exact nI_clamp h
theorem pk_tn {n : Nat} (h : n < 2 ^ 32) : (nI n).toBitVec.toNat = n := Nat.mod_eq_of_lt h
theorem pk_and (x : Int32) {m : Int32} (k : Nat) (hm : m.toBitVec.toNat = 2 ^ k - 1) : x &&& m = nI (x.toBitVec.toNat % 2 ^ k) := by
  apply Int32.toBitVec_inj.mp
  apply BitVec.eq_of_toNat_eq
  rw [Int32.toBitVec_and, BitVec.toNat_and, hm, Nat.and_two_pow_sub_one_eq_mod]
  show _ = (BitVec.ofNat 32 _).toNat
  rw [BitVec.toNat_ofNat]
  exact (Nat.mod_eq_of_lt (Nat.lt_of_le_of_lt (Nat.mod_le _ _) x.toBitVec.isLt)).symm
theorem pk_andN {n : Nat} (h : n < 2 ^ 32) {m : Int32} (k : Nat) (hm : m.toBitVec.toNat = 2 ^ k - 1) : nI n &&& m = nI (n % 2 ^ k) := by
  rw [pk_and _ k hm, pk_tn h]
theorem pk_shl (a s : Int32) (k : Nat) (hs : (s.toBitVec.smod 32).toNat = k) : (a <<< s).toBitVec.toNat = a.toBitVec.toNat * 2 ^ k % 2 ^ 32 := by
  show (a.toBitVec <<< (s.toBitVec.smod 32).toNat).toNat = _
  rw [hs, BitVec.toNat_shiftLeft, Nat.shiftLeft_eq]
theorem pk_shlN {n : Nat} (s : Int32) (k : Nat) (hs : (s.toBitVec.smod 32).toNat = k) (h : n * 2 ^ k < 2 ^ 32) : nI n <<< s = nI (n * 2 ^ k) := by
  apply Int32.toBitVec_inj.mp
  apply BitVec.eq_of_toNat_eq
  have hn : n < 2 ^ 32 := Nat.lt_of_le_of_lt (Nat.le_mul_of_pos_right n (Nat.two_pow_pos k)) h
  rw [pk_shl _ _ k hs, pk_tn hn, pk_tn h, Nat.mod_eq_of_lt h]
theorem pk_shr (a s : Int32) (k : Nat) (hs : (s.toBitVec.smod 32).toNat = k) : (a >>> s).toInt = a.toInt >>> k := by
  show (a.toBitVec.sshiftRight (s.toBitVec.smod 32).toNat).toInt = _
  rw [hs, BitVec.toInt_sshiftRight]
  rfl
theorem pk_shrN {n : Nat} (h : n < 2 ^ 31) (s : Int32) (k : Nat) (hs : (s.toBitVec.smod 32).toNat = k) : nI n >>> s = nI (n / 2 ^ k) := by
  apply Int32.toInt_inj.mp
  have h2 : n / 2 ^ k ≤ n := Nat.div_le_self _ _
  rw [pk_shr _ _ k hs, nI_toInt h, nI_toInt (by omega), Int.shiftRight_eq_div_pow]
  rfl
theorem pk_loop {σ : Type} (W : Nat → Nat → σ → Prop) (I : Nat → σ → Prop) (e i0 : Nat) (s : σ) (hi : i0 ≤ e) (h0 : I i0 s) (hx : ∀ n s, I e s → W (n + 1) e s)
    (hs : ∀ n i s, i < e → I i s → (∀ s', I (i + 1) s' → W n (i + 1) s') → W (n + 1) i s) : ∃ n, W n i0 s :=
  ⟨e + 1, loop_i W I e hx hs (e + 1) i0 s hi (by omega) h0⟩
theorem ek_if {c d A B : Prop} (e : c ↔ d) (f : d → A) (g : ¬ d → B) : (c → A) ∧ (¬ c → B) :=
  ⟨fun z => f (e.mp z), fun z => g (fun y => z (e.mpr y))⟩
theorem ek_v {α : Sort _} {P : α → Prop} {a b : α} (e : a = b) (h : P b) : P a := e ▸ h
theorem s_l : ∀ n, n < 32 → ((nI n &&& 31).toBitVec.smod 32).toNat = n := by decide +kernel
theorem nx_and (a b : Nat) : nI a &&& nI b = nI (a &&& b) := by
  apply Int32.toBitVec_inj.1
  show BitVec.ofNat 32 a &&& BitVec.ofNat 32 b = BitVec.ofNat 32 (a &&& b)
  apply BitVec.eq_of_getLsbD_eq
  intro i hi
  simp [hi]
theorem nx_xor (a b : Nat) : nI a ^^^ nI b = nI (a ^^^ b) := by
  apply Int32.toBitVec_inj.1
  show BitVec.ofNat 32 a ^^^ BitVec.ofNat 32 b = BitVec.ofNat 32 (a ^^^ b)
  apply BitVec.eq_of_getLsbD_eq
  intro i hi
  simp [hi]
/-! own rows: bits of nI -/
theorem gc_or (a b : Nat) : nI a ||| nI b = nI (a ||| b) := by
  apply Int32.toBitVec_inj.1
  show BitVec.ofNat 32 a ||| BitVec.ofNat 32 b = BitVec.ofNat 32 (a ||| b)
  apply BitVec.eq_of_getLsbD_eq
  intro i hi
  simp [hi]
theorem gc_shr {w j : Nat} (hw : w < 2 ^ 31) (hj : j < 32) : nI w >>> (nI j &&& 31) = nI (w / 2 ^ j) := pk_shrN hw _ j (s_l j hj)
theorem gc_shl {w j : Nat} (hj : j < 32) (h : w * 2 ^ j < 2 ^ 32) : nI w <<< (nI j &&& 31) = nI (w * 2 ^ j) := pk_shlN _ j (s_l j hj) h
theorem gc_and1 {n : Nat} (h : n < 2 ^ 31) : nI n &&& 1 = nI (n % 2) := pk_andN (m := 1) (by omega) 1 (by decide)
theorem gc_bit {w j : Nat} (hw : w < 2 ^ 31) (hj : j < 32) : (nI w >>> (nI j &&& 31)) &&& 1 = nI (w / 2 ^ j % 2) := by
  rw [gc_shr hw hj, gc_and1 (Nat.lt_of_le_of_lt (Nat.div_le_self _ _) hw)]
theorem gc_tbn (w j : Nat) : w / 2 ^ j % 2 = (w.testBit j).toNat := (Nat.toNat_testBit w j).symm
theorem gc_bitb {w j : Nat} (hw : w < 2 ^ 31) (hj : j < 32) : (nI w >>> (nI j &&& 31)) &&& 1 = nI (w.testBit j).toNat := by
  rw [gc_bit hw hj, gc_tbn]
theorem gc_n01 (b : Bool) : b.toNat < 2 := by cases b <;> decide
theorem gc_bz (b : Bool) : nI b.toNat = 0 ↔ b = false := by
  cases b
  · exact ⟨fun _ => rfl, fun _ => rfl⟩
  · exact ⟨fun h => absurd h (by decide), fun h => nomatch h⟩
theorem gc_bo (b : Bool) : nI b.toNat = 1 ↔ b = true := by
  cases b
  · exact ⟨fun h => absurd h (by decide), fun h => nomatch h⟩
  · exact ⟨fun _ => rfl, fun _ => rfl⟩
/-- the branch on bit j of w -/
theorem gc_tb {w j : Nat} {A B : Prop} (hw : w < 2 ^ 31) (hj : j < 32) (f : w.testBit j = false → A) (g : w.testBit j = true → B) : (((nI w >>> (nI j &&& 31)) &&& 1) = 0 → A) ∧ (¬ ((nI w >>> (nI j &&& 31)) &&& 1) = 0 → B) := by
  rw [gc_bitb hw hj]
  exact ⟨fun h => f ((gc_bz _).mp h), fun h => g (by
    cases hb : w.testBit j
    · exact absurd ((gc_bz _).mpr hb) h
    · rfl)⟩
theorem gc_tb' {x : Int32} {b : Bool} {A B : Prop} (hx : x = nI b.toNat) (f : b = false → A) (g : b = true → B) : (x = 0 → A) ∧ (¬ x = 0 → B) := by
  subst hx
  exact ⟨fun h => f ((gc_bz _).mp h), fun h => g (by
    cases b
    · exact absurd rfl h
    · rfl)⟩
/-- a number by its first n bits -/
theorem gc_ext {n x y : Nat} (hx : x < 2 ^ n) (hy : y < 2 ^ n) (h : ∀ i, i < n → x.testBit i = y.testBit i) : x = y := by
  apply Nat.eq_of_testBit_eq
  intro i
  rcases Nat.lt_or_ge i n with z | z
  · exact h i z
  · rw [Nat.testBit_lt_two_pow (Nat.lt_of_lt_of_le hx (Nat.pow_le_pow_right (by decide) z)), Nat.testBit_lt_two_pow (Nat.lt_of_lt_of_le hy (Nat.pow_le_pow_right (by decide) z))]
theorem gc_tb0 {n x i : Nat} (hx : x < 2 ^ n) (h : n ≤ i) : x.testBit i = false := Nat.testBit_lt_two_pow (Nat.lt_of_lt_of_le hx (Nat.pow_le_pow_right (by decide) h))
/-- all i below n -/
def gc_al : Nat → (Nat → Bool) → Bool
  | 0, _ => true
  | n + 1, p => gc_al n p && p n
theorem gc_al_i {p : Nat → Bool} : ∀ {n : Nat}, gc_al n p = true → ∀ i, i < n → p i = true := by
  intro n
  induction n with
  | zero => intro _ i hi; omega
  | succ n ih =>
    intro h i hi
    have h2 : (gc_al n p && p n) = true := h
    rw [Bool.and_eq_true] at h2
    by_cases e : i = n
    · rw [e]; exact h2.2
    · exact ih h2.1 i (by omega)
/-- some i below n -/
def gc_ex : Nat → (Nat → Bool) → Bool
  | 0, _ => false
  | n + 1, p => gc_ex n p || p n
theorem gc_ex_i {p : Nat → Bool} : ∀ {n : Nat}, gc_ex n p = true → ∃ i, i < n ∧ p i = true := by
  intro n
  induction n with
  | zero => intro h; have h : false = true := h; cases h
  | succ n ih =>
    intro h
    have h2 : (gc_ex n p || p n) = true := h
    rw [Bool.or_eq_true] at h2
    rcases h2 with z | z
    · obtain ⟨i, hi, q⟩ := ih z
      exact ⟨i, by omega, q⟩
    · exact ⟨n, by omega, z⟩
theorem gc_ex_n {p : Nat → Bool} : ∀ {n : Nat}, gc_ex n p = false → ∀ i, i < n → p i = false := by
  intro n
  induction n with
  | zero => intro _ i hi; omega
  | succ n ih =>
    intro h i hi
    have h2 : (gc_ex n p || p n) = false := h
    rw [Bool.or_eq_false_iff] at h2
    by_cases e : i = n
    · rw [e]; exact h2.2
    · exact ih h2.1 i (by omega)
/-- a number reckoned before it is handed on -/
def gc_st {α : Type} (x : Nat) (k : Nat → α) : α := match x with
  | 0 => k 0
  | n + 1 => k (Nat.succ n)
theorem gc_st_e {α : Type} (x : Nat) (k : Nat → α) : gc_st x k = k x := by cases x <;> rfl
theorem gc_least (P : Nat → Prop) (h : ∃ k, P k) : ∃ k, P k ∧ ∀ j, j < k → ¬ P j := by
  obtain ⟨k, hk⟩ := h
  induction k using Nat.strongRecOn with
  | ind k ih =>
    by_cases e : ∃ j, j < k ∧ P j
    · obtain ⟨j, hj, pj⟩ := e
      exact ih j hj pj
    · exact ⟨k, hk, fun j hj pj => e ⟨j, hj, pj⟩⟩
theorem gc_ex_t {p : Nat → Bool} : ∀ {n i : Nat}, i < n → p i = true → gc_ex n p = true := by
  intro n
  induction n with
  | zero => intro i hi; omega
  | succ n ih =>
    intro i hi h
    show (gc_ex n p || p n) = true
    by_cases e : i = n
    · rw [← e, h, Bool.or_true]
    · rw [ih (by omega) h, Bool.true_or]
theorem gc_ex_f {p : Nat → Bool} : ∀ {n : Nat}, (∀ i, i < n → p i = false) → gc_ex n p = false := by
  intro n
  induction n with
  | zero => intro _; rfl
  | succ n ih =>
    intro h
    show (gc_ex n p || p n) = false
    rw [ih (fun i hi => h i (by omega)), h n (by omega)]; rfl
theorem gc_ct {α : Type} {b : Bool} {x y : α} (h : b = true) : cond b x y = x := by subst h; rfl
theorem gc_cf {α : Type} {b : Bool} {x y : α} (h : b = false) : cond b x y = y := by subst h; rfl
/-! a number below 0 against naturals -/
theorem gi_0 : (0 : Int32).toInt = 0 := by decide
theorem gi_lt {x : Int32} (h : x < 0) {k : Nat} (hk : k < 2 ^ 31) : x < nI k := by
  rw [Int32.lt_iff_toInt_lt, gi_0] at h
  rw [Int32.lt_iff_toInt_lt, nI_toInt hk]
  omega
theorem gi_le {x : Int32} (h : x < 0) {k : Nat} (hk : k < 2 ^ 31) : x ≤ nI k := by
  rw [Int32.lt_iff_toInt_lt, gi_0] at h
  rw [Int32.le_iff_toInt_le, nI_toInt hk]
  omega
theorem gi_nle {x : Int32} (h : x < 0) {k : Nat} (hk : k < 2 ^ 31) : ¬ nI k ≤ x := by
  rw [Int32.lt_iff_toInt_lt, gi_0] at h
  rw [Int32.le_iff_toInt_le, nI_toInt hk]
  omega
theorem gi_nlt {x : Int32} (h : x < 0) {k : Nat} (hk : k < 2 ^ 31) : ¬ nI k < x := by
  rw [Int32.lt_iff_toInt_lt, gi_0] at h
  rw [Int32.lt_iff_toInt_lt, nI_toInt hk]
  omega
theorem gi_ne {x : Int32} (h : x < 0) {k : Nat} (hk : k < 2 ^ 31) : ¬ x = nI k := by
  intro e
  rw [e] at h
  exact nI_pos hk h
theorem gi_of (x : Int32) : x < 0 ∨ ∃ j, j < 2 ^ 31 ∧ x = nI j := by
  by_cases h : x < 0
  · exact Or.inl h
  · exact Or.inr (nI_of h)
end
section
/-! the field of sixteen by a table, the ring over it: laws, inverse, square root -/
def gf_T : Nat := 116196760129267793630862849262464326346044543732748708940920453221664288556434379745879494961270582141731748813355742142288220638766218855867759359510984593843506004200114943278699875244065120512813025380665946106619127097398772031257643617143689515450995722003729973585221105779229319991106539050771048038400
def gf_g (x y : Nat) : Nat := (gf_T >>> (64 * x + 4 * y)) % 16
def gf_p (a b : Nat) : Nat := gf_g (a % 16) (b % 16)
theorem gf_lt (a b : Nat) : gf_p a b < 16 := Nat.mod_lt _ (by decide)
theorem gf_m (a : Nat) : a % 16 < 16 := Nat.mod_lt _ (by decide)
theorem gf_mm (a b : Nat) : gf_p a b % 16 = gf_p a b := Nat.mod_eq_of_lt (gf_lt a b)
theorem gf_t1 : ∀ a, a < 16 → ∀ b, b < 16 → gf_g a b = gf_g b a := by decide +kernel
theorem gf_t2 : ∀ a, a < 16 → ∀ b, b < 16 → ∀ c, c < 16 → gf_g (gf_g a b) c = gf_g a (gf_g b c) := by decide +kernel
theorem gf_t3 : ∀ a, a < 16 → ∀ b, b < 16 → ∀ c, c < 16 → gf_g (a ^^^ b) c = gf_g a c ^^^ gf_g b c := by decide +kernel
theorem gf_t4 : ∀ a, a < 16 → gf_g 0 a = 0 ∧ gf_g 1 a = a := by decide +kernel
theorem gf_comm (a b : Nat) : gf_p a b = gf_p b a := gf_t1 _ (gf_m a) _ (gf_m b)
theorem gf_assoc (a b c : Nat) : gf_p (gf_p a b) c = gf_p a (gf_p b c) := by
  show gf_g (gf_p a b % 16) (c % 16) = gf_g (a % 16) (gf_p b c % 16)
  rw [gf_mm, gf_mm]
  exact gf_t2 _ (gf_m a) _ (gf_m b) _ (gf_m c)
theorem gf_lc (a b c : Nat) : gf_p a (gf_p b c) = gf_p b (gf_p a c) := by rw [← gf_assoc, gf_comm a b, gf_assoc]
theorem gx_m (a b : Nat) : (a ^^^ b) % 16 = (a % 16) ^^^ (b % 16) := Nat.xor_mod_two_pow (n := 4)
theorem gx_d (a b : Nat) : (a ^^^ b) / 16 = (a / 16) ^^^ (b / 16) := Nat.xor_div_two_pow (n := 4)
theorem gx_lt {a b : Nat} (ha : a < 16) (hb : b < 16) : a ^^^ b < 16 := Nat.xor_lt_two_pow (n := 4) ha hb
theorem gx_lt8 {a b : Nat} (ha : a < 256) (hb : b < 256) : a ^^^ b < 256 := Nat.xor_lt_two_pow (n := 8) ha hb
theorem gf_dl (a b c : Nat) : gf_p (a ^^^ b) c = gf_p a c ^^^ gf_p b c := by
  show gf_g ((a ^^^ b) % 16) (c % 16) = _
  rw [gx_m]
  exact gf_t3 _ (gf_m a) _ (gf_m b) _ (gf_m c)
theorem gf_dr (a b c : Nat) : gf_p a (b ^^^ c) = gf_p a b ^^^ gf_p a c := by rw [gf_comm, gf_dl, gf_comm b, gf_comm c]
theorem gf_0 (a : Nat) : gf_p 0 a = 0 := (gf_t4 _ (gf_m a)).1
theorem gf_1 (a : Nat) : gf_p 1 a = a % 16 := (gf_t4 _ (gf_m a)).2
theorem gf_x0 (a : Nat) : gf_p a 0 = 0 := by rw [gf_comm, gf_0]
theorem gx_lc (a b c : Nat) : a ^^^ (b ^^^ c) = b ^^^ (a ^^^ c) := by rw [← Nat.xor_assoc, Nat.xor_comm a b, Nat.xor_assoc]
theorem gx_c (a b : Nat) : a ^^^ (a ^^^ b) = b := by rw [← Nat.xor_assoc, Nat.xor_self, Nat.zero_xor]
theorem gx_4 (a b c : Nat) : (a ^^^ c) ^^^ (b ^^^ c) = a ^^^ b := by
  rw [Nat.xor_assoc, Nat.xor_comm b c, ← Nat.xor_assoc c c b, Nat.xor_self, Nat.zero_xor]
theorem gx_3 (a b c : Nat) : (a ^^^ b) ^^^ c = (a ^^^ c) ^^^ b := by rw [Nat.xor_assoc, Nat.xor_comm b c, Nat.xor_assoc]
theorem gx_eq {a b : Nat} (h : a ^^^ b = 0) : a = b := by
  have e := gx_c a b
  rw [h, Nat.xor_zero] at e
  exact e
/-! the ring -/
def gr_1 (A p1 p0 q1 q0 : Nat) : Nat := gf_p p1 q0 ^^^ gf_p p0 q1 ^^^ gf_p (gf_p p1 q1) A
def gr_0 (B p1 p0 q1 q0 : Nat) : Nat := gf_p p0 q0 ^^^ gf_p (gf_p p1 q1) B
def gr_p (A B p q : Nat) : Nat := gr_1 A (p / 16) (p % 16) (q / 16) (q % 16) * 16 + gr_0 B (p / 16) (p % 16) (q / 16) (q % 16)
theorem gr_1l (A p1 p0 q1 q0 : Nat) : gr_1 A p1 p0 q1 q0 < 16 := gx_lt (gx_lt (gf_lt _ _) (gf_lt _ _)) (gf_lt _ _)
theorem gr_0l (B p1 p0 q1 q0 : Nat) : gr_0 B p1 p0 q1 q0 < 16 := gx_lt (gf_lt _ _) (gf_lt _ _)
theorem gr_d (A B p q : Nat) : gr_p A B p q / 16 = gr_1 A (p / 16) (p % 16) (q / 16) (q % 16) := by
  have h1 := gr_0l B (p / 16) (p % 16) (q / 16) (q % 16)
  unfold gr_p
  omega
theorem gr_m (A B p q : Nat) : gr_p A B p q % 16 = gr_0 B (p / 16) (p % 16) (q / 16) (q % 16) := by
  have h1 := gr_0l B (p / 16) (p % 16) (q / 16) (q % 16)
  unfold gr_p
  omega
theorem gr_lt (A B p q : Nat) : gr_p A B p q < 256 := by
  have h1 := gr_0l B (p / 16) (p % 16) (q / 16) (q % 16)
  have h2 := gr_1l A (p / 16) (p % 16) (q / 16) (q % 16)
  unfold gr_p
  omega
theorem gr_ext {x y : Nat} (h1 : x / 16 = y / 16) (h0 : x % 16 = y % 16) : x = y := by omega
theorem gr_a1 (A B p1 p0 q1 q0 r1 r0 : Nat) : gr_1 A (gr_1 A p1 p0 q1 q0) (gr_0 B p1 p0 q1 q0) r1 r0 = gr_1 A p1 p0 (gr_1 A q1 q0 r1 r0) (gr_0 B q1 q0 r1 r0) := by
  simp only [gr_1, gr_0, gf_dl, gf_dr, gf_assoc, gf_comm, gf_lc, Nat.xor_assoc, Nat.xor_comm, gx_lc]
theorem gr_a0 (A B p1 p0 q1 q0 r1 r0 : Nat) : gr_0 B (gr_1 A p1 p0 q1 q0) (gr_0 B p1 p0 q1 q0) r1 r0 = gr_0 B p1 p0 (gr_1 A q1 q0 r1 r0) (gr_0 B q1 q0 r1 r0) := by
  simp only [gr_1, gr_0, gf_dl, gf_dr, gf_assoc, gf_comm, gf_lc, Nat.xor_assoc, Nat.xor_comm, gx_lc]
theorem gr_assoc (A B p q r : Nat) : gr_p A B (gr_p A B p q) r = gr_p A B p (gr_p A B q r) := by
  apply gr_ext
  · rw [gr_d, gr_d, gr_d, gr_m, gr_d, gr_m, gr_a1]
  · rw [gr_m, gr_m, gr_d, gr_m, gr_d, gr_m, gr_a0]
theorem gr_comm (A B p q : Nat) : gr_p A B p q = gr_p A B q p := by
  apply gr_ext
  · rw [gr_d, gr_d]
    simp only [gr_1, gf_comm, Nat.xor_assoc, Nat.xor_comm, gx_lc]
  · rw [gr_m, gr_m]
    simp only [gr_0, gf_comm, Nat.xor_assoc, Nat.xor_comm, gx_lc]
theorem gr_one (A B : Nat) {p : Nat} (h : p < 256) : gr_p A B 1 p = p := by
  apply gr_ext
  · rw [gr_d, gr_1, show 1 / 16 = 0 from rfl, show 1 % 16 = 1 from rfl, gf_0, gf_0, gf_0, gf_1, Nat.zero_xor, Nat.xor_zero]
    omega
  · rw [gr_m, gr_0, show 1 / 16 = 0 from rfl, show 1 % 16 = 1 from rfl, gf_0, gf_0, gf_1, Nat.xor_zero]
    omega
theorem gr_zero (A B p : Nat) : gr_p A B p 0 = 0 := by
  apply gr_ext
  · rw [gr_d, gr_1, show 0 / 16 = 0 from rfl, show 0 % 16 = 0 from rfl]
    simp only [gf_x0, gf_0, Nat.xor_self]
  · rw [gr_m, gr_0, show 0 / 16 = 0 from rfl, show 0 % 16 = 0 from rfl]
    simp only [gf_x0, gf_0, Nat.xor_self]
/-! squares -/
theorem gf_sq (a b : Nat) : gf_p (a ^^^ b) (a ^^^ b) = gf_p a a ^^^ gf_p b b := by
  rw [gf_dl, gf_dr, gf_dr, gf_comm b a, Nat.xor_assoc, gx_c]
theorem gr_s1 (A p1 p0 : Nat) : gr_1 A p1 p0 p1 p0 = gf_p (gf_p p1 p1) A := by
  rw [gr_1, gf_comm p0 p1, Nat.xor_self, Nat.zero_xor]
theorem gr_sadd (A B p q : Nat) : gr_p A B (p ^^^ q) (p ^^^ q) = gr_p A B p p ^^^ gr_p A B q q := by
  apply gr_ext
  · rw [gx_d, gr_d, gr_d, gr_d, gr_s1, gr_s1, gr_s1, gx_d, gf_sq, gf_dl]
  · rw [gx_m, gr_m, gr_m, gr_m, gr_0, gr_0, gr_0, gx_d, gx_m, gf_sq, gf_sq, gf_dl]
    simp only [Nat.xor_assoc, Nat.xor_comm, gx_lc]
def gr_i (A B : Nat) : Nat → Nat → Nat
  | 0, p => p
  | n + 1, p => gc_st (gr_i A B n p) fun x => gr_p A B x x
theorem gr_iS (A B n p : Nat) : gr_i A B (n + 1) p = gr_p A B (gr_i A B n p) (gr_i A B n p) := gc_st_e _ _
theorem gr_iadd (A B : Nat) : ∀ n p q, gr_i A B n (p ^^^ q) = gr_i A B n p ^^^ gr_i A B n q := by
  intro n
  induction n with
  | zero => intro p q; rfl
  | succ n ih => intro p q; rw [gr_iS, gr_iS, gr_iS, ih, gr_sadd]
theorem gr_ilt (A B : Nat) {p : Nat} (h : p < 256) : ∀ n, gr_i A B n p < 256 := by
  intro n
  cases n with
  | zero => exact h
  | succ n => rw [gr_iS]; exact gr_lt _ _ _ _
theorem gr_iq (A B : Nat) : ∀ n q, gr_i A B n (gr_p A B q q) = gr_i A B (n + 1) q := by
  intro n
  induction n with
  | zero => intro q; exact (gr_iS A B 0 q).symm
  | succ n ih => intro q; rw [gr_iS A B n, ih, gr_iS A B (n + 1)]
theorem gx_top : ∀ n, n < 8 → ∀ y, y < 2 ^ n → y ^^^ 2 ^ n = y + 2 ^ n := by decide +kernel
theorem gx_lin {g : Nat → Nat} (add : ∀ x y, g (x ^^^ y) = g x ^^^ g y) (h : ∀ i, i < 8 → g (2 ^ i) = 2 ^ i) : ∀ n, n ≤ 8 → ∀ x, x < 2 ^ n → g x = x := by
  intro n
  induction n with
  | zero =>
    intro _ x hx
    have e : x = 0 := by
      have : (2 : Nat) ^ 0 = 1 := rfl
      omega
    subst e
    have e := add 0 0
    rw [Nat.xor_self, Nat.xor_self] at e
    exact e
  | succ n ih =>
    intro hn x hx
    by_cases z : x < 2 ^ n
    · exact ih (by omega) x z
    · have e2 : (2 : Nat) ^ (n + 1) = 2 ^ n + 2 ^ n := by rw [Nat.pow_succ]; omega
      have e : x = (x - 2 ^ n) ^^^ 2 ^ n := by
        rw [gx_top n (by omega) _ (by omega)]
        omega
      rw [e, add, ih (by omega) _ (by omega), h n (by omega)]
/-! polynomials without a root -/
def gr_rt (A B : Nat) : Bool := gc_ex 16 fun z => Nat.beq (gf_p z z ^^^ gf_p A z ^^^ B) 0
def gr_N (A B p1 p0 : Nat) : Nat := gf_p p0 p0 ^^^ gf_p A (gf_p p0 p1) ^^^ gf_p B (gf_p p1 p1)
def gf_V : Nat := 9460475325918865680
def gf_v (n : Nat) : Nat := (gf_V >>> (4 * n)) % 16
theorem gf_tv : ∀ n, n < 16 → n ≠ 0 → gf_p n (gf_v n) = 1 := by decide +kernel
theorem gr_tF : (gc_al 16 fun A => gc_al 16 fun B => gr_rt A B || gc_al 8 fun i => Nat.beq (gr_i A B 8 (2 ^ i)) (2 ^ i)) = true := by decide +kernel
theorem gr_tN : (gc_al 16 fun A => gc_al 16 fun B => gr_rt A B || gc_al 16 fun p1 => gc_al 16 fun p0 => (Nat.beq p1 0 && Nat.beq p0 0) || !(Nat.beq (gr_N A B p1 p0) 0)) = true := by decide +kernel
section
variable {A B : Nat}
theorem gr_F {p : Nat} (hA : A < 16) (hB : B < 16) (hr : gr_rt A B = false) (hp : p < 256) : gr_i A B 8 p = p := by
  have h := gc_al_i (gc_al_i gr_tF A hA) B hB
  rw [hr, Bool.false_or] at h
  exact gx_lin (gr_iadd A B 8) (fun i hi => Nat.eq_of_beq_eq_true (gc_al_i h i hi)) 8 (Nat.le_refl 8) p hp
theorem gr_Nz {p1 p0 : Nat} (hA : A < 16) (hB : B < 16) (hr : gr_rt A B = false) (h1 : p1 < 16) (h0 : p0 < 16) (hz : ¬ (p1 = 0 ∧ p0 = 0)) : gr_N A B p1 p0 ≠ 0 := by
  have h := gc_al_i (gc_al_i gr_tN A hA) B hB
  rw [hr, Bool.false_or] at h
  have h2 := gc_al_i (gc_al_i h p1 h1) p0 h0
  intro e
  rw [e] at h2
  have h3 : (Nat.beq p1 0 && Nat.beq p0 0) = true := by
    revert h2
    cases (Nat.beq p1 0 && Nat.beq p0 0)
    · intro z; exact absurd z (by decide)
    · intro _; rfl
  rw [Bool.and_eq_true] at h3
  exact hz ⟨Nat.eq_of_beq_eq_true h3.1, Nat.eq_of_beq_eq_true h3.2⟩
theorem gr_Nl (A B p1 p0 : Nat) : gr_N A B p1 p0 < 16 := gx_lt (gx_lt (gf_lt _ _) (gf_lt _ _)) (gf_lt _ _)
theorem gr_J1 (A p1 p0 k : Nat) : gr_1 A p1 p0 (gf_p p1 k) (gf_p (p0 ^^^ gf_p A p1) k) = 0 := by
  simp only [gr_1, gf_dl, gf_dr, gf_assoc, gf_comm, gf_lc, Nat.xor_assoc, Nat.xor_comm, gx_lc, gx_c, Nat.xor_self]
theorem gr_J0 (A B p1 p0 k : Nat) : gr_0 B p1 p0 (gf_p p1 k) (gf_p (p0 ^^^ gf_p A p1) k) = gf_p (gr_N A B p1 p0) k := by
  simp only [gr_0, gr_N, gf_dl, gf_dr, gf_assoc, gf_comm, gf_lc, Nat.xor_assoc, Nat.xor_comm, gx_lc]
theorem gr_J {p : Nat} (hA : A < 16) (hB : B < 16) (hr : gr_rt A B = false) (h0 : 0 < p) (hp : p < 256) : ∃ J, J < 256 ∧ gr_p A B p J = 1 := by
  have hN := gr_Nz (p1 := p / 16) (p0 := p % 16) hA hB hr (by omega) (by omega) (by omega)
  have hv := gf_tv _ (gr_Nl A B (p / 16) (p % 16)) hN
  have l1 := gf_lt (p / 16) (gf_v (gr_N A B (p / 16) (p % 16)))
  have l0 := gf_lt (p % 16 ^^^ gf_p A (p / 16)) (gf_v (gr_N A B (p / 16) (p % 16)))
  have e1 := gr_J1 A (p / 16) (p % 16) (gf_v (gr_N A B (p / 16) (p % 16)))
  have e0 := gr_J0 A B (p / 16) (p % 16) (gf_v (gr_N A B (p / 16) (p % 16)))
  rw [hv] at e0
  revert l1 l0 e1 e0
  generalize gf_p (p / 16) (gf_v (gr_N A B (p / 16) (p % 16))) = j1
  generalize gf_p (p % 16 ^^^ gf_p A (p / 16)) (gf_v (gr_N A B (p / 16) (p % 16))) = j0
  intro l1 l0 e1 e0
  have d1 : (j1 * 16 + j0) / 16 = j1 := by omega
  have d0 : (j1 * 16 + j0) % 16 = j0 := by omega
  refine ⟨j1 * 16 + j0, by omega, ?_⟩
  apply gr_ext
  · show gr_p A B p (j1 * 16 + j0) / 16 = 0
    rw [gr_d, d1, d0, e1]
  · show gr_p A B p (j1 * 16 + j0) % 16 = 1
    rw [gr_m, d1, d0, e0]
/-- the powers' product of the class -/
def gr_v (A B p : Nat) : Nat → Nat
  | 0 => 1
  | k + 1 => gc_st (gr_v A B p k) fun x => gc_st (gr_i A B (k + 1) p) fun y => gr_p A B x y
theorem gr_vS (A B p k : Nat) : gr_v A B p (k + 1) = gr_p A B (gr_v A B p k) (gr_i A B (k + 1) p) := by
  show gc_st _ _ = _
  rw [gc_st_e, gc_st_e]
theorem gr_vlt (A B p : Nat) : ∀ k, gr_v A B p k < 256 := by
  intro k
  cases k with
  | zero => show 1 < 256; decide
  | succ k => rw [gr_vS]; exact gr_lt _ _ _ _
theorem gr_vp (A B p : Nat) : ∀ k, gr_p A B (gr_v A B p k) (gr_p A B p p) = gr_i A B (k + 1) p := by
  intro k
  induction k with
  | zero => exact (gr_one A B (gr_lt A B p p)).trans (gr_iS A B 0 p).symm
  | succ k ih => rw [gr_vS, gr_assoc, gr_comm A B (gr_i A B (k + 1) p), ← gr_assoc, ih, gr_iS A B (k + 1)]
theorem gr_ivJ {p J : Nat} (hA : A < 16) (hB : B < 16) (hr : gr_rt A B = false) (hp : p < 256) (hJ : J < 256) (h1 : gr_p A B p J = 1) : gr_v A B p 7 = J := by
  have e : gr_p A B (gr_v A B p 7) (gr_p A B p p) = gr_i A B 8 p := gr_vp A B p 7
  rw [gr_F hA hB hr hp] at e
  have e2 : gr_p A B (gr_p A B p p) (gr_p A B J J) = 1 := by
    rw [gr_assoc, gr_comm A B p (gr_p A B J J), gr_assoc, gr_comm A B J p, h1, gr_comm A B J 1, gr_one _ _ hJ, h1]
  have e3 : gr_p A B (gr_v A B p 7) 1 = gr_v A B p 7 := by rw [gr_comm, gr_one _ _ (gr_vlt _ _ _ _)]
  rw [← e3, ← e2, ← gr_assoc, e, ← gr_assoc, h1, gr_one _ _ hJ]
/-- the class's inverse is the one inverse -/
theorem gr_inv {p : Nat} (hA : A < 16) (hB : B < 16) (hr : gr_rt A B = false) (h0 : 0 < p) (hp : p < 256) : gr_p A B p (gr_v A B p 7) = 1 ∧ (∀ q, q < 256 → gr_p A B p q = 1 → q = gr_v A B p 7) ∧ 0 < gr_v A B p 7 := by
  obtain ⟨J, hJ, h1⟩ := gr_J hA hB hr h0 hp
  have e := gr_ivJ hA hB hr hp hJ h1
  rw [e]
  refine ⟨h1, fun q hq hq1 => ?_, ?_⟩
  · have e2 : gr_p A B (gr_p A B p J) q = gr_p A B (gr_p A B p q) J := by rw [gr_assoc, gr_comm A B J q, ← gr_assoc]
    rw [h1, hq1, gr_one _ _ hq, gr_one _ _ hJ] at e2
    exact e2
  · rcases Nat.eq_zero_or_pos J with z | z
    · rw [z, gr_zero] at h1
      exact absurd h1 (by decide)
    · exact z
theorem gr_sqr {p : Nat} (hA : A < 16) (hB : B < 16) (hr : gr_rt A B = false) (hp : p < 256) : gr_p A B (gr_i A B 7 p) (gr_i A B 7 p) = p ∧ (∀ q, q < 256 → gr_p A B q q = p → q = gr_i A B 7 p) := by
  refine ⟨?_, fun q hq e => ?_⟩
  · rw [← gr_iS]
    exact gr_F hA hB hr hp
  · rw [← e, gr_iq]
    exact (gr_F hA hB hr hq).symm
end
/-! the first polynomial without a root -/
theorem gr_first {c : Nat} (hc : c < 256) : ∃ t, t < 256 ∧ gr_rt ((c + t) % 256 / 16) ((c + t) % 256 % 16) = false ∧ ∀ i, i < t → gr_rt ((c + i) % 256 / 16) ((c + i) % 256 % 16) = true := by
  have h : ∃ t, gr_rt ((c + t) % 256 / 16) ((c + t) % 256 % 16) = false ∧ t < 256 := by
    refine ⟨(24 + 256 - c) % 256, ?_, Nat.mod_lt _ (by decide)⟩
    have e : (c + (24 + 256 - c) % 256) % 256 = 24 := by omega
    rw [e]
    decide +kernel
  obtain ⟨t, ⟨h1, h2⟩, h3⟩ := gc_least _ h
  refine ⟨t, h2, h1, fun i hi => ?_⟩
  cases e : gr_rt ((c + i) % 256 / 16) ((c + i) % 256 % 16)
  · exact absurd ⟨e, by omega⟩ (h3 i hi)
  · rfl
end
section
/-! sums of columns, parities, weights, words put together bit by bit -/
def gs_s (col : Nat → Nat) : Nat → Nat → Nat
  | 0, _ => 0
  | n + 1, w => cond (w.testBit n) (gs_s col n w ^^^ col n) (gs_s col n w)
def gs_q : Nat → Nat → Bool
  | 0, _ => false
  | n + 1, w => (gs_q n w ^^ w.testBit n)
def gs_w : Nat → Nat → Nat
  | 0, _ => 0
  | n + 1, w => gs_w n w + (w.testBit n).toNat
theorem gs_sT {col : Nat → Nat} {n w : Nat} (h : w.testBit n = true) : gs_s col (n + 1) w = gs_s col n w ^^^ col n := by
  show cond (w.testBit n) _ _ = _
  exact gc_ct h
theorem gs_sF {col : Nat → Nat} {n w : Nat} (h : w.testBit n = false) : gs_s col (n + 1) w = gs_s col n w := by
  show cond (w.testBit n) _ _ = _
  exact gc_cf h
theorem gs_xor (col : Nat → Nat) (x y : Nat) : ∀ n, gs_s col n (x ^^^ y) = gs_s col n x ^^^ gs_s col n y := by
  intro n
  induction n with
  | zero => exact (Nat.xor_self 0).symm
  | succ n ih =>
    have hb := Nat.testBit_xor x y n
    cases hx : x.testBit n <;> cases hy : y.testBit n <;> rw [hx, hy] at hb
    · rw [gs_sF hb, gs_sF hx, gs_sF hy, ih]
    · rw [gs_sT hb, gs_sF hx, gs_sT hy, ih, Nat.xor_assoc]
    · rw [gs_sT hb, gs_sT hx, gs_sF hy, ih, gx_3]
    · rw [gs_sF hb, gs_sT hx, gs_sT hy, ih, gx_4]
theorem gs_lt {col : Nat → Nat} {k w : Nat} : ∀ n, (∀ j, j < n → col j < 2 ^ k) → gs_s col n w < 2 ^ k := by
  intro n
  induction n with
  | zero => intro _; exact Nat.two_pow_pos k
  | succ n ih =>
    intro h
    have h1 := ih (fun j hj => h j (by omega))
    cases hw : w.testBit n
    · rw [gs_sF hw]; exact h1
    · rw [gs_sT hw]; exact Nat.xor_lt_two_pow h1 (h n (by omega))
theorem gs_zero (col : Nat → Nat) : ∀ n, gs_s col n 0 = 0 := by
  intro n
  induction n with
  | zero => rfl
  | succ n ih => rw [gs_sF (Nat.zero_testBit n), ih]
theorem gs_cw {col : Nat → Nat} {x y : Nat} : ∀ n, (∀ j, j < n → x.testBit j = y.testBit j) → gs_s col n x = gs_s col n y := by
  intro n
  induction n with
  | zero => intro _; rfl
  | succ n ih =>
    intro h
    have h1 := ih (fun j hj => h j (by omega))
    have h2 := h n (by omega)
    cases hx : x.testBit n <;> rw [hx] at h2
    · rw [gs_sF hx, gs_sF h2.symm, h1]
    · rw [gs_sT hx, gs_sT h2.symm, h1]
theorem gs_cc {col col' : Nat → Nat} {w : Nat} : ∀ n, (∀ j, j < n → col j = col' j) → gs_s col n w = gs_s col' n w := by
  intro n
  induction n with
  | zero => intro _; rfl
  | succ n ih =>
    intro h
    have h1 := ih (fun j hj => h j (by omega))
    have h2 := h n (by omega)
    cases hx : w.testBit n
    · rw [gs_sF hx, gs_sF hx, h1]
    · rw [gs_sT hx, gs_sT hx, h1, h2]
/-- a sum of sums -/
theorem gs_comp (col E : Nat → Nat) (N m : Nat) : ∀ n, gs_s col N (gs_s E n m) = gs_s (fun j => gs_s col N (E j)) n m := by
  intro n
  induction n with
  | zero => exact gs_zero col N
  | succ n ih =>
    cases hm : m.testBit n
    · rw [gs_sF hm, gs_sF hm, ih]
    · rw [gs_sT hm, gs_sT hm, gs_xor, ih]
theorem gs_allz {col : Nat → Nat} {m : Nat} : ∀ n, (∀ j, j < n → m.testBit j = true → col j = 0) → gs_s col n m = 0 := by
  intro n
  induction n with
  | zero => intro _; rfl
  | succ n ih =>
    intro h
    have h1 := ih (fun j hj => h j (by omega))
    cases hm : m.testBit n
    · rw [gs_sF hm, h1]
    · rw [gs_sT hm, h1, h n (by omega) hm] <;> rfl
/-- bit b of a sum of columns: if the columns with m's bits have it clear, it is clear -/
theorem gs_bz {col : Nat → Nat} {m b : Nat} : ∀ n, (∀ j, j < n → m.testBit j = true → (col j).testBit b = false) → (gs_s col n m).testBit b = false := by
  intro n
  induction n with
  | zero => intro _; exact Nat.zero_testBit b
  | succ n ih =>
    intro h
    have h1 := ih (fun j hj => h j (by omega))
    cases hm : m.testBit n
    · rw [gs_sF hm, h1]
    · rw [gs_sT hm, Nat.testBit_xor, h1, h n (by omega) hm] <;> rfl
/-- bit b of a sum of columns where bit b stands in column k alone -/
theorem gs_b1 {col : Nat → Nat} {m b k : Nat} : ∀ n, k < n → (∀ j, j < n → (col j).testBit b = decide (j = k)) → (gs_s col n m).testBit b = m.testBit k := by
  intro n
  induction n with
  | zero => intro h; omega
  | succ n ih =>
    intro hk h
    by_cases e : k = n
    · subst e
      have h1 : (gs_s col k m).testBit b = false := gs_bz k (fun j hj _ => by rw [h j (by omega), decide_eq_false (by omega)])
      cases hm : m.testBit k
      · rw [gs_sF hm, h1]
      · rw [gs_sT hm, Nat.testBit_xor, h1, h k (by omega), decide_eq_true rfl] <;> rfl
    · have h1 := ih (by omega) (fun j hj => h j (by omega))
      have h2 := h n (by omega)
      rw [decide_eq_false (by omega)] at h2
      cases hm : m.testBit n
      · rw [gs_sF hm, h1]
      · rw [gs_sT hm, Nat.testBit_xor, h1, h2, Bool.xor_false]
theorem gs_qxor (x y : Nat) : ∀ n, gs_q n (x ^^^ y) = (gs_q n x ^^ gs_q n y) := by
  intro n
  induction n with
  | zero => rfl
  | succ n ih =>
    show (gs_q n (x ^^^ y) ^^ (x ^^^ y).testBit n) = ((gs_q n x ^^ x.testBit n) ^^ (gs_q n y ^^ y.testBit n))
    rw [ih, Nat.testBit_xor]
    cases gs_q n x <;> cases gs_q n y <;> cases x.testBit n <;> cases y.testBit n <;> rfl
theorem gs_wq (w : Nat) : ∀ n, gs_w n w % 2 = (gs_q n w).toNat := by
  intro n
  induction n with
  | zero => rfl
  | succ n ih =>
    show (gs_w n w + (w.testBit n).toNat) % 2 = (gs_q n w ^^ w.testBit n).toNat
    revert ih
    cases gs_q n w <;> cases w.testBit n <;> simp only [Bool.toNat_true, Bool.toNat_false, Bool.xor_true, Bool.xor_false, Bool.not_true, Bool.not_false] <;> omega
theorem gs_wle (w : Nat) : ∀ n, gs_w n w ≤ n := by
  intro n
  induction n with
  | zero => exact Nat.le_refl 0
  | succ n ih =>
    show gs_w n w + (w.testBit n).toNat ≤ n + 1
    have := gc_n01 (w.testBit n)
    omega
theorem gs_wxor (x y : Nat) : ∀ n, gs_w n (x ^^^ y) ≤ gs_w n x + gs_w n y := by
  intro n
  induction n with
  | zero => exact Nat.le_refl 0
  | succ n ih =>
    show gs_w n (x ^^^ y) + ((x ^^^ y).testBit n).toNat ≤ (gs_w n x + (x.testBit n).toNat) + (gs_w n y + (y.testBit n).toNat)
    rw [Nat.testBit_xor]
    cases x.testBit n <;> cases y.testBit n <;> simp only [Bool.toNat_true, Bool.toNat_false, Bool.xor_true, Bool.xor_false, Bool.not_true, Bool.not_false] <;> omega
theorem gs_qz {x : Nat} : ∀ n, (∀ j, j < n → x.testBit j = false) → gs_q n x = false := by
  intro n
  induction n with
  | zero => intro _; rfl
  | succ n ih =>
    intro h
    show (gs_q n x ^^ x.testBit n) = false
    rw [ih (fun j hj => h j (by omega)), h n (by omega)] <;> rfl
/-- the parity of a word whose only bit may stand at q -/
theorem gs_q1 {x q : Nat} : ∀ n, q < n → (∀ j, j < n → j ≠ q → x.testBit j = false) → gs_q n x = x.testBit q := by
  intro n
  induction n with
  | zero => intro h; omega
  | succ n ih =>
    intro hq h
    show (gs_q n x ^^ x.testBit n) = _
    by_cases e : q = n
    · subst e
      rw [gs_qz q (fun j hj => h j (by omega) (by omega)), Bool.false_xor]
    · rw [ih (by omega) (fun j hj z => h j (by omega) z), h n (by omega) (by omega), Bool.xor_false]
/-- a row of the bits b of the columns: its parity with w is bit b of w's sum -/
theorem gs_row {col : Nat → Nat} {R b w : Nat} : ∀ n, (∀ j, j < n → R.testBit j = (col j).testBit b) → gs_q n (R &&& w) = (gs_s col n w).testBit b := by
  intro n
  induction n with
  | zero => intro _; exact (Nat.zero_testBit b).symm
  | succ n ih =>
    intro h
    show (gs_q n (R &&& w) ^^ (R &&& w).testBit n) = _
    rw [ih (fun j hj => h j (by omega)), Nat.testBit_and, h n (by omega)]
    cases hw : w.testBit n
    · rw [gs_sF hw, Bool.and_false, Bool.xor_false]
    · rw [gs_sT hw, Bool.and_true, Nat.testBit_xor]
/-- a word put together: bit (s i) is set where g i, over i below n -/
def gs_o (x : Nat) (g : Nat → Bool) (s : Nat → Nat) : Nat → Nat
  | 0 => x
  | n + 1 => gs_o x g s n ||| (g n).toNat * 2 ^ s n
theorem gs_ob (x : Nat) (g : Nat → Bool) (s : Nat → Nat) (p : Nat) : ∀ n, (gs_o x g s n).testBit p = (x.testBit p || gc_ex n fun i => g i && decide (s i = p)) := by
  intro n
  induction n with
  | zero => show x.testBit p = (x.testBit p || false); rw [Bool.or_false]
  | succ n ih =>
    show (gs_o x g s n ||| (g n).toNat * 2 ^ s n).testBit p = (x.testBit p || (gc_ex n (fun i => g i && decide (s i = p)) || (g n && decide (s n = p))))
    rw [Nat.testBit_or, ih, Bool.or_assoc]
    congr 2
    cases g n
    · show (0 * 2 ^ s n).testBit p = false
      rw [Nat.zero_mul, Nat.zero_testBit]
    · show (1 * 2 ^ s n).testBit p = (true && decide (s n = p))
      rw [Nat.one_mul, Nat.testBit_two_pow, Bool.true_and]
theorem gs_olt {x k : Nat} {g : Nat → Bool} {s : Nat → Nat} (hx : x < 2 ^ k) : ∀ n, (∀ i, i < n → s i < k) → gs_o x g s n < 2 ^ k := by
  intro n
  induction n with
  | zero => intro _; exact hx
  | succ n ih =>
    intro h
    refine Nat.or_lt_two_pow (ih fun i hi => h i (by omega)) ?_
    have h1 : 2 ^ s n < 2 ^ k := Nat.pow_lt_pow_right (by decide) (h n (by omega))
    cases g n
    · show 0 * 2 ^ s n < 2 ^ k; omega
    · show 1 * 2 ^ s n < 2 ^ k; omega
theorem gs_oc {x : Nat} {g g' : Nat → Bool} {s s' : Nat → Nat} : ∀ n, (∀ i, i < n → g i = g' i) → (∀ i, i < n → s i = s' i) → gs_o x g s n = gs_o x g' s' n := by
  intro n
  induction n with
  | zero => intro _ _; rfl
  | succ n ih =>
    intro h1 h2
    show gs_o x g s n ||| _ = gs_o x g' s' n ||| _
    rw [ih (fun i hi => h1 i (by omega)) (fun i hi => h2 i (by omega)), h1 n (by omega), h2 n (by omega)]
/-- one bit of a word put together at different places -/
theorem gs_o1 {x : Nat} {g : Nat → Bool} {s : Nat → Nat} {n k : Nat} (hk : k < n) (hs : ∀ i, i < n → s i = s k → i = k) (hx : x.testBit (s k) = false) : (gs_o x g s n).testBit (s k) = g k := by
  rw [gs_ob, hx, Bool.false_or]
  cases hg : g k
  · cases he : gc_ex n fun i => g i && decide (s i = s k)
    · rfl
    · obtain ⟨i, hi, q⟩ := gc_ex_i he
      rw [Bool.and_eq_true, decide_eq_true_eq] at q
      have := hs i hi q.2
      subst this
      rw [hg] at q
      exact absurd q.1 (by decide)
  · cases he : gc_ex n fun i => g i && decide (s i = s k)
    · have := gc_ex_n he k hk
      rw [hg, decide_eq_true rfl] at this
      exact absurd this (by decide)
    · rfl
/-- a place that no s i names keeps its bit -/
theorem gs_o0 {x : Nat} {g : Nat → Bool} {s : Nat → Nat} {n p : Nat} (hs : ∀ i, i < n → s i ≠ p) : (gs_o x g s n).testBit p = x.testBit p := by
  rw [gs_ob]
  cases he : gc_ex n fun i => g i && decide (s i = p)
  · rw [Bool.or_false]
  · obtain ⟨i, hi, q⟩ := gc_ex_i he
    rw [Bool.and_eq_true, decide_eq_true_eq] at q
    exact absurd q.2 (hs i hi)
end
section
/-! a code by its columns, reduced rows, check and information positions, and words E -/
def gk_ok (col r c f E : Nat → Nat) : Prop :=
  (∀ i, i < 8 → ∀ j, j < 8 → (r i).testBit (c j) = decide (i = j)) ∧
  (∀ i, i < 8 → r i < 2 ^ 12 ∧ c i < 12 ∧ ∀ j, j < c i → (r i).testBit j = false) ∧
  (∀ j, j < 4 → f j < 12 ∧ E j < 2 ^ 12 ∧ gs_s col 12 (E j) = 0) ∧
  (∀ j, j < 4 → ∀ i, i < 4 → (E j).testBit (f i) = decide (j = i)) ∧
  (∀ p, p < 12 → (∃ i, i < 8 ∧ c i = p) ∨ (∃ j, j < 4 ∧ f j = p)) ∧
  (∀ i, i < 8 → ∀ j, j < 4 → c i ≠ f j) ∧
  (∀ j, j < 8 → ∀ i, i < j → c i < c j) ∧
  (∀ j, j < 4 → ∀ i, i < j → f i < f j) ∧
  (∀ w, gs_s col 12 w = 0 → ∀ i, i < 8 → gs_q 12 (r i &&& w) = false) ∧
  (∀ m, m < 16 → m ≠ 0 → 5 ≤ gs_w 12 (gs_s E 4 m)) ∧
  (∀ j, j < 12 → col j < 2 ^ 8)
section
variable {col r c f E : Nat → Nat}
theorem gk_1 (H : gk_ok col r c f E) : ∀ i, i < 8 → ∀ j, j < 8 → (r i).testBit (c j) = decide (i = j) := H.1
theorem gk_2 (H : gk_ok col r c f E) : ∀ i, i < 8 → r i < 2 ^ 12 ∧ c i < 12 ∧ ∀ j, j < c i → (r i).testBit j = false := H.2.1
theorem gk_3 (H : gk_ok col r c f E) : ∀ j, j < 4 → f j < 12 ∧ E j < 2 ^ 12 ∧ gs_s col 12 (E j) = 0 := H.2.2.1
theorem gk_4 (H : gk_ok col r c f E) : ∀ j, j < 4 → ∀ i, i < 4 → (E j).testBit (f i) = decide (j = i) := H.2.2.2.1
theorem gk_5 (H : gk_ok col r c f E) : ∀ p, p < 12 → (∃ i, i < 8 ∧ c i = p) ∨ (∃ j, j < 4 ∧ f j = p) := H.2.2.2.2.1
theorem gk_6 (H : gk_ok col r c f E) : ∀ i, i < 8 → ∀ j, j < 4 → c i ≠ f j := H.2.2.2.2.2.1
theorem gk_7 (H : gk_ok col r c f E) : ∀ j, j < 8 → ∀ i, i < j → c i < c j := H.2.2.2.2.2.2.1
theorem gk_8 (H : gk_ok col r c f E) : ∀ j, j < 4 → ∀ i, i < j → f i < f j := H.2.2.2.2.2.2.2.1
theorem gk_9 (H : gk_ok col r c f E) : ∀ w, gs_s col 12 w = 0 → ∀ i, i < 8 → gs_q 12 (r i &&& w) = false := H.2.2.2.2.2.2.2.2.1
theorem gk_10 (H : gk_ok col r c f E) : ∀ m, m < 16 → m ≠ 0 → 5 ≤ gs_w 12 (gs_s E 4 m) := H.2.2.2.2.2.2.2.2.2.1
theorem gk_11 (H : gk_ok col r c f E) : ∀ j, j < 12 → col j < 2 ^ 8 := H.2.2.2.2.2.2.2.2.2.2
theorem gk_ci (H : gk_ok col r c f E) {i j : Nat} (hi : i < 8) (hj : j < 8) (e : c i = c j) : i = j := by
  rcases Nat.lt_trichotomy i j with z | z | z
  · have := gk_7 H j hj i z; omega
  · exact z
  · have := gk_7 H i hi j z; omega
theorem gk_fi (H : gk_ok col r c f E) {i j : Nat} (hi : i < 4) (hj : j < 4) (e : f i = f j) : i = j := by
  rcases Nat.lt_trichotomy i j with z | z | z
  · have := gk_8 H j hj i z; omega
  · exact z
  · have := gk_8 H i hi j z; omega
def gk_dual (col : Nat → Nat) (v : Nat) : Prop := ∀ w, w < 4096 → gs_s col 12 w = 0 → gs_q 12 (v &&& w) = false
theorem gk_dx {u v : Nat} (hu : gk_dual col u) (hv : gk_dual col v) : gk_dual col (u ^^^ v) := by
  intro w hw hs
  rw [Nat.and_xor_distrib_right, gs_qxor, hu w hw hs, hv w hw hs] <;> rfl
theorem gk_dr (H : gk_ok col r c f E) {i : Nat} (hi : i < 8) : gk_dual col (r i) := fun w _ hs => gk_9 H w hs i hi
theorem gk_d0 : gk_dual col 0 := by
  intro w _ _
  rw [Nat.zero_and]
  exact gs_qz 12 (fun j _ => Nat.zero_testBit j)
theorem gk_ds (H : gk_ok col r c f E) (m : Nat) : ∀ n, n ≤ 8 → gk_dual col (gs_s r n m) := by
  intro n
  induction n with
  | zero => intro _; exact gk_d0
  | succ n ih =>
    intro hn
    cases hm : m.testBit n
    · rw [gs_sF hm]; exact ih (by omega)
    · rw [gs_sT hm]; exact gk_dx (ih (by omega)) (gk_dr H (by omega))
/-- a word of the dual with no check bit is 0 -/
theorem gk_dz (H : gk_ok col r c f E) {d : Nat} (hd : d < 2 ^ 12) (hu : gk_dual col d) (hc : ∀ i, i < 8 → d.testBit (c i) = false) : d = 0 := by
  apply gc_ext (n := 12) hd (by decide)
  intro p hp
  rw [Nat.zero_testBit]
  rcases gk_5 H p hp with ⟨i, hi, e⟩ | ⟨j, hj, e⟩
  · rw [← e]; exact hc i hi
  · have h := hu (E j) (gk_3 H j hj).2.1 (gk_3 H j hj).2.2
    rw [gs_q1 (x := d &&& E j) (q := f j) 12 (gk_3 H j hj).1 (fun p' hp' hne => by
      rw [Nat.testBit_and]
      rcases gk_5 H p' hp' with ⟨i, hi, e'⟩ | ⟨j', hj', e'⟩
      · rw [← e', hc i hi, Bool.false_and]
      · rw [← e', gk_4 H j hj j' hj', decide_eq_false (fun z => hne (by rw [← e', z])), Bool.and_false])] at h
    rw [Nat.testBit_and, gk_4 H j hj j hj, decide_eq_true rfl, Bool.and_true] at h
    rw [← e]; exact h
/-- a word with all parities 0 and no information bit is 0 -/
theorem gk_ker (H : gk_ok col r c f E) {w : Nat} (hw : w < 2 ^ 12) (hp : ∀ i, i < 8 → gs_q 12 (r i &&& w) = false) (hf : ∀ j, j < 4 → w.testBit (f j) = false) : w = 0 := by
  apply gc_ext (n := 12) hw (by decide)
  intro p hp'
  rw [Nat.zero_testBit]
  rcases gk_5 H p hp' with ⟨i, hi, e⟩ | ⟨j, hj, e⟩
  · have h := hp i hi
    rw [gs_q1 (x := r i &&& w) (q := c i) 12 (gk_2 H i hi).2.1 (fun p' hp' hne => by
      rw [Nat.testBit_and]
      rcases gk_5 H p' hp' with ⟨i', hi', e'⟩ | ⟨j', hj', e'⟩
      · rw [← e', gk_1 H i hi i' hi', decide_eq_false (fun z => hne (by rw [← e', z])), Bool.false_and]
      · rw [← e', hf j' hj', Bool.and_false])] at h
    rw [Nat.testBit_and, gk_1 H i hi i hi, decide_eq_true rfl, Bool.true_and] at h
    rw [← e]; exact h
  · rw [← e]; exact hf j hj
/-- the bits of w at the places f -/
def gk_ex (f : Nat → Nat) (n w : Nat) : Nat := gs_o 0 (fun i => w.testBit (f i)) (fun i => i) n
theorem gk_exb {f : Nat → Nat} {n w k : Nat} (hk : k < n) : (gk_ex f n w).testBit k = w.testBit (f k) :=
  gs_o1 (g := fun i => w.testBit (f i)) (s := fun i => i) hk (fun _ _ z => z) (Nat.zero_testBit _)
theorem gk_exl (f : Nat → Nat) (n w : Nat) : gk_ex f n w < 2 ^ n := gs_olt (Nat.two_pow_pos n) n (fun _ hi => hi)
theorem gk_exe {f : Nat → Nat} {n w m : Nat} (hm : m < 2 ^ n) (h : ∀ j, j < n → w.testBit (f j) = m.testBit j) : gk_ex f n w = m :=
  gc_ext (gk_exl f n w) hm (fun i hi => by rw [gk_exb hi, h i hi])
theorem gk_Gb (H : gk_ok col r c f E) (m : Nat) {j : Nat} (hj : j < 4) : (gs_s E 4 m).testBit (f j) = m.testBit j := gs_b1 4 hj (fun i hi => gk_4 H i hi j hj)
theorem gk_Gl (H : gk_ok col r c f E) (m : Nat) : gs_s E 4 m < 2 ^ 12 := gs_lt 4 (fun j hj => (gk_3 H j hj).2.1)
theorem gk_Gs (H : gk_ok col r c f E) (m : Nat) : gs_s col 12 (gs_s E 4 m) = 0 := by
  rw [gs_comp]
  exact gs_allz 4 (fun j hj _ => (gk_3 H j hj).2.2)
theorem gk_Ge (H : gk_ok col r c f E) {m : Nat} (hm : m < 2 ^ 4) : gk_ex f 4 (gs_s E 4 m) = m := gk_exe hm (fun _ hj => gk_Gb H m hj)
theorem gk_U (H : gk_ok col r c f E) {w m : Nat} (hw : w < 2 ^ 12) (hp : ∀ i, i < 8 → gs_q 12 (r i &&& w) = false) (hf : ∀ j, j < 4 → w.testBit (f j) = m.testBit j) : w = gs_s E 4 m := by
  apply gx_eq
  refine gk_ker H (Nat.xor_lt_two_pow hw (gk_Gl H m)) (fun i hi => ?_) (fun j hj => ?_)
  · rw [Nat.and_xor_distrib_left, gs_qxor, hp i hi, gk_9 H _ (gk_Gs H m) i hi] <;> rfl
  · rw [Nat.testBit_xor, hf j hj, gk_Gb H m hj, Bool.xor_self]
theorem gk_C (H : gk_ok col r c f E) {w : Nat} (hw : w < 2 ^ 12) (hs : gs_s col 12 w = 0) : w = gs_s E 4 (gk_ex f 4 w) :=
  gk_U H hw (gk_9 H w hs) (fun _ hj => (gk_exb hj).symm)
/-- two words of weight at most 2 with one syndrome are one word -/
theorem gk_dist (H : gk_ok col r c f E) {e e' : Nat} (he : e < 2 ^ 12) (he' : e' < 2 ^ 12) (w1 : gs_w 12 e ≤ 2) (w2 : gs_w 12 e' ≤ 2) (hs : gs_s col 12 e = gs_s col 12 e') : e = e' := by
  apply gx_eq
  have h0 : gs_s col 12 (e ^^^ e') = 0 := by rw [gs_xor, hs, Nat.xor_self]
  have hw := gs_wxor e e' 12
  have hC := gk_C H (Nat.xor_lt_two_pow he he') h0
  by_cases z : gk_ex f 4 (e ^^^ e') = 0
  · rw [z, gs_zero] at hC
    exact hC
  · have h5 := gk_10 H _ (gk_exl f 4 _) z
    rw [← hC] at h5
    omega
/-- a word of the dual is the sum of the rows of its check bits -/
theorem gk_vr (H : gk_ok col r c f E) {v : Nat} (hv : v < 2 ^ 12) (hu : gk_dual col v) : v = gs_s r 8 (gk_ex c 8 v) := by
  apply gx_eq
  refine gk_dz H (Nat.xor_lt_two_pow hv (gs_lt 8 fun j hj => (gk_2 H j hj).1)) (gk_dx hu (gk_ds H _ 8 (Nat.le_refl 8))) (fun i hi => ?_)
  rw [Nat.testBit_xor, gs_b1 8 hi (fun j hj => gk_1 H j hj i hi), gk_exb hi, Bool.xor_self]
/-- the lowest bit of a word of the dual stands at a check position -/
theorem gk_low (H : gk_ok col r c f E) {v q : Nat} (hv : v < 2 ^ 12) (hu : gk_dual col v) (hq : q < 12) (h1 : v.testBit q = true) (h0 : ∀ p, p < q → v.testBit p = false) : ∃ i, i < 8 ∧ c i = q := by
  rcases gk_5 H q hq with z | ⟨j, hj, e⟩
  · exact z
  · have h2 : v.testBit q = false := by
      rw [gk_vr H hv hu]
      refine gs_bz 8 (fun i hi hm => ?_)
      rw [gk_exb hi] at hm
      have hne : c i ≠ q := by rw [← e]; exact gk_6 H i hi j hj
      have hnl : ¬ c i < q := by
        intro z
        rw [h0 _ z] at hm
        cases hm
      exact (gk_2 H i hi).2.2 q (by omega)
    rw [h2] at h1
    cases h1
/-- the mask of the check positions -/
def gk_pm (c : Nat → Nat) : Nat := gs_o 0 (fun _ => true) c 8
theorem gk_pmc (c : Nat → Nat) {i : Nat} (hi : i < 8) : (gk_pm c).testBit (c i) = true := by
  unfold gk_pm
  rw [gs_ob]
  cases he : gc_ex 8 fun j => true && decide (c j = c i)
  · have := gc_ex_n he i hi
    rw [decide_eq_true rfl] at this
    exact absurd this (by decide)
  · rw [Bool.or_true]
theorem gk_pmn {c : Nat → Nat} {p : Nat} (h : ∀ i, i < 8 → c i ≠ p) : (gk_pm c).testBit p = false := by
  unfold gk_pm
  rw [gs_o0 h, Nat.zero_testBit]
theorem gk_pmi {c : Nat → Nat} {p : Nat} (h : (gk_pm c).testBit p = true) : ∃ i, i < 8 ∧ c i = p := by
  unfold gk_pm at h
  rw [gs_ob, Nat.zero_testBit, Bool.false_or] at h
  obtain ⟨i, hi, q⟩ := gc_ex_i h
  rw [Bool.true_and, decide_eq_true_eq] at q
  exact ⟨i, hi, q⟩
theorem gk_pml (H : gk_ok col r c f E) : gk_pm c < 2 ^ 12 := gs_olt (by decide) 8 (fun i hi => (gk_2 H i hi).2.1)
theorem gk_only (H : gk_ok col r c f E) {v i : Nat} (hi : i < 8) (hv : v < 2 ^ 12) (hu : gk_dual col v) (he : v &&& gk_pm c = 2 ^ c i) : v = r i := by
  apply gx_eq
  refine gk_dz H (Nat.xor_lt_two_pow hv (gk_2 H i hi).1) (gk_dx hu (gk_dr H hi)) (fun j hj => ?_)
  have h : (v &&& gk_pm c).testBit (c j) = (2 ^ c i).testBit (c j) := by rw [he]
  rw [Nat.testBit_and, gk_pmc c hj, Bool.and_true, Nat.testBit_two_pow] at h
  rw [Nat.testBit_xor, h, gk_1 H i hi j hj]
  by_cases z : i = j
  · subst z; rw [decide_eq_true rfl, decide_eq_true rfl] <;> rfl
  · rw [decide_eq_false z, decide_eq_false (fun y => z (gk_ci H hi hj y))] <;> rfl
theorem gk_rpm (H : gk_ok col r c f E) {i : Nat} (hi : i < 8) : r i &&& gk_pm c = 2 ^ c i := by
  refine gc_ext (n := 12) (Nat.and_lt_two_pow _ (gk_pml H)) (Nat.pow_lt_pow_right (by decide) (gk_2 H i hi).2.1) (fun p hp => ?_)
  rw [Nat.testBit_and, Nat.testBit_two_pow]
  rcases gk_5 H p hp with ⟨j, hj, e⟩ | ⟨j, hj, e⟩
  · rw [← e, gk_pmc c hj, gk_1 H i hi j hj, Bool.and_true]
    by_cases z : i = j
    · subst z; rw [decide_eq_true rfl, decide_eq_true rfl]
    · rw [decide_eq_false z, decide_eq_false (fun y => z (gk_ci H hi hj y))]
  · rw [← e, gk_pmn (fun k hk => gk_6 H k hk j hj), Bool.and_false, decide_eq_false (gk_6 H i hi j hj)]
theorem gk_rlow (H : gk_ok col r c f E) {i : Nat} (hi : i < 8) : (r i).testBit (c i) = true := by
  rw [gk_1 H i hi i hi, decide_eq_true rfl]
theorem gk_rpos (H : gk_ok col r c f E) {i : Nat} (hi : i < 8) : 0 < r i := by
  rcases Nat.eq_zero_or_pos (r i) with z | z
  · have h := gk_rlow H hi
    rw [z, Nat.zero_testBit] at h
    cases h
  · exact z
/-- the class's codeword -/
def gk_iw (f : Nat → Nat) (m : Nat) : Nat := gs_o 0 (fun i => m.testBit i) f 4
def gk_cw (r c f : Nat → Nat) (m : Nat) : Nat := gs_o (gk_iw f m) (fun i => gs_q 12 (r i &&& gk_iw f m)) c 8
theorem gk_iwl (H : gk_ok col r c f E) (m : Nat) : gk_iw f m < 2 ^ 12 := gs_olt (by decide) 4 (fun i hi => (gk_3 H i hi).1)
theorem gk_cwl (H : gk_ok col r c f E) (m : Nat) : gk_cw r c f m < 2 ^ 12 := gs_olt (gk_iwl H m) 8 (fun i hi => (gk_2 H i hi).2.1)
theorem gk_cwe (H : gk_ok col r c f E) (m : Nat) : gk_cw r c f m = gs_s E 4 m := by
  have hic : ∀ i, i < 8 → (gk_iw f m).testBit (c i) = false := fun i hi => by
    unfold gk_iw
    rw [gs_o0 (fun j hj => (gk_6 H i hi j hj).symm), Nat.zero_testBit]
  have hif : ∀ j, j < 4 → (gk_iw f m).testBit (f j) = m.testBit j := fun j hj =>
    gs_o1 (g := fun i => m.testBit i) (s := f) hj (fun i hi z => gk_fi H hi hj z) (Nat.zero_testBit _)
  have hcf : ∀ j, j < 4 → (gk_cw r c f m).testBit (f j) = m.testBit j := fun j hj => by
    unfold gk_cw
    rw [gs_o0 (fun i hi => gk_6 H i hi j hj), hif j hj]
  have hcc : ∀ i, i < 8 → (gk_cw r c f m).testBit (c i) = gs_q 12 (r i &&& gk_iw f m) := fun i hi =>
    gs_o1 (g := fun i => gs_q 12 (r i &&& gk_iw f m)) (s := c) hi (fun j hj z => gk_ci H hj hi z) (hic i hi)
  refine gk_U H (gk_cwl H m) (fun i hi => ?_) hcf
  have e : r i &&& gk_cw r c f m = (r i &&& gk_iw f m) ^^^ ((gs_q 12 (r i &&& gk_iw f m)).toNat * 2 ^ c i) := by
    have hl : (gs_q 12 (r i &&& gk_iw f m)).toNat * 2 ^ c i < 2 ^ 12 := by
      have h1 : 2 ^ c i < 2 ^ 12 := Nat.pow_lt_pow_right (by decide) (gk_2 H i hi).2.1
      cases gs_q 12 (r i &&& gk_iw f m)
      · show 0 * 2 ^ c i < 2 ^ 12; omega
      · show 1 * 2 ^ c i < 2 ^ 12; omega
    have hb : ∀ p, ((gs_q 12 (r i &&& gk_iw f m)).toNat * 2 ^ c i).testBit p = (gs_q 12 (r i &&& gk_iw f m) && decide (c i = p)) := fun p => by
      cases gs_q 12 (r i &&& gk_iw f m)
      · show (0 * 2 ^ c i).testBit p = false
        rw [Nat.zero_mul, Nat.zero_testBit]
      · show (1 * 2 ^ c i).testBit p = (true && decide (c i = p))
        rw [Nat.one_mul, Nat.testBit_two_pow, Bool.true_and]
    refine gc_ext (n := 12) (Nat.and_lt_two_pow _ (gk_cwl H m)) (Nat.xor_lt_two_pow (Nat.and_lt_two_pow _ (gk_iwl H m)) hl) (fun p hp => ?_)
    rw [Nat.testBit_xor, hb, Nat.testBit_and, Nat.testBit_and]
    rcases gk_5 H p hp with ⟨j, hj, e⟩ | ⟨j, hj, e⟩
    · rw [← e, hcc j hj, hic j hj, gk_1 H i hi j hj]
      by_cases z : i = j
      · subst z
        rw [decide_eq_true rfl, decide_eq_true rfl, Bool.true_and, Bool.and_false, Bool.and_true, Bool.false_xor]
      · rw [decide_eq_false z, decide_eq_false (fun y => z (gk_ci H hi hj y)), Bool.false_and, Bool.false_and, Bool.and_false, Bool.xor_self]
    · rw [← e, hcf j hj, hif j hj, decide_eq_false (gk_6 H i hi j hj), Bool.and_false, Bool.xor_false]
  rw [e, gs_qxor]
  cases hq : gs_q 12 (r i &&& gk_iw f m)
  · rw [show (false : Bool).toNat * 2 ^ c i = 0 from Nat.zero_mul _, gs_qz 12 (fun j _ => Nat.zero_testBit j)] <;> rfl
  · rw [show (true : Bool).toNat * 2 ^ c i = 2 ^ c i from Nat.one_mul _, gs_q1 (x := 2 ^ c i) (q := c i) 12 (gk_2 H i hi).2.1 (fun j _ hne => by rw [Nat.testBit_two_pow, decide_eq_false (fun z => hne z.symm)]), Nat.testBit_two_pow, decide_eq_true rfl] <;> rfl
end
end
section
/-! the class's elimination as a reckoning, and what it gives for each of the codes -/
abbrev gg_S : Type := (Nat → Nat) × (Nat → Nat) × (Nat → Nat) × Nat × Nat
theorem gg_ex5 (S : gg_S) : ∃ r c f cc ic, S = (r, c, f, cc, ic) := ⟨S.1, S.2.1, S.2.2.1, S.2.2.2.1, S.2.2.2.2, rfl⟩
theorem gb_t {i j : Nat} (h : i = j) : Nat.beq i j = true := by subst h; exact Nat.beq_refl i
theorem gb_f {i j : Nat} (h : ¬ i = j) : Nat.beq i j = false := by
  cases e : Nat.beq i j
  · rfl
  · exact absurd (Nat.eq_of_beq_eq_true e) h
theorem gb_d (i j : Nat) : Nat.beq i j = decide (i = j) := by
  by_cases h : i = j
  · rw [gb_t h, decide_eq_true h]
  · rw [gb_f h, decide_eq_false h]
def gg_fi (r : Nat → Nat) (p : Nat) : Nat → Nat → Nat
  | 0, i => i
  | d + 1, i => cond ((r i).testBit p) i (gg_fi r p d (i + 1))
theorem gg_fige (r : Nat → Nat) (p : Nat) : ∀ d i, i ≤ gg_fi r p d i := by
  intro d
  induction d with
  | zero => intro i; exact Nat.le_refl i
  | succ d ih =>
    intro i
    show i ≤ cond ((r i).testBit p) i (gg_fi r p d (i + 1))
    have := ih (i + 1)
    cases (r i).testBit p
    · show i ≤ gg_fi r p d (i + 1); omega
    · exact Nat.le_refl i
def gg_sw (r : Nat → Nat) (i h : Nat) : Nat → Nat := fun k => cond (Nat.beq k h) (r i) (cond (Nat.beq k i) (r h) (r k))
def gg_cl (s : Nat → Nat) (p h : Nat) : Nat → Nat := fun k => cond (!(Nat.beq k h) && (s k).testBit p) (s k ^^^ s h) (s k)
def gg_sel (x0 x1 x2 x3 x4 x5 x6 x7 : Nat) : Nat → Nat
  | 0 => x0
  | 1 => x1
  | 2 => x2
  | 3 => x3
  | 4 => x4
  | 5 => x5
  | 6 => x6
  | 7 => x7
  | _ => 0
theorem gg_sele (t : Nat → Nat) : ∀ k, k < 8 → gg_sel (t 0) (t 1) (t 2) (t 3) (t 4) (t 5) (t 6) (t 7) k = t k
  | 0, _ => rfl
  | 1, _ => rfl
  | 2, _ => rfl
  | 3, _ => rfl
  | 4, _ => rfl
  | 5, _ => rfl
  | 6, _ => rfl
  | 7, _ => rfl
  | n + 8, h => absurd h (by omega)
def gg_fz {α : Type} (t : Nat → Nat) (k : (Nat → Nat) → α) : α :=
  gc_st (t 0) fun x0 => gc_st (t 1) fun x1 => gc_st (t 2) fun x2 => gc_st (t 3) fun x3 => gc_st (t 4) fun x4 => gc_st (t 5) fun x5 => gc_st (t 6) fun x6 => gc_st (t 7) fun x7 => k (gg_sel x0 x1 x2 x3 x4 x5 x6 x7)
theorem gg_fze {α : Type} (t : Nat → Nat) (k : (Nat → Nat) → α) : gg_fz t k = k (gg_sel (t 0) (t 1) (t 2) (t 3) (t 4) (t 5) (t 6) (t 7)) := by
  unfold gg_fz
  simp only [gc_st_e]
def gg_step (S : gg_S) (p : Nat) : gg_S := match S with
  | (r, c, f, cc, ic) => gc_st (gg_fi r p (8 - cc) cc) fun pv =>
    cond (decide (pv < 8))
      (gg_fz (gg_cl (gg_sw r pv cc) p cc) fun r' => gc_st (cc + 1) fun cc' => (r', (fun k => cond (Nat.beq k cc) p (c k)), f, cc', ic))
      (gc_st (ic + 1) fun ic' => (r, c, (fun k => cond (Nat.beq k ic) p (f k)), cc, ic'))
theorem gg_stepF {r c f : Nat → Nat} {cc ic p pv : Nat} (hp : gg_fi r p (8 - cc) cc = pv) (h : ¬ pv < 8) : gg_step (r, c, f, cc, ic) p = (r, c, (fun k => cond (Nat.beq k ic) p (f k)), cc, ic + 1) := by
  unfold gg_step
  dsimp only
  rw [gc_st_e, hp, gc_cf (decide_eq_false h), gc_st_e]
theorem gg_stepT {r c f : Nat → Nat} {cc ic p pv : Nat} (hp : gg_fi r p (8 - cc) cc = pv) (h : pv < 8) : ∃ r', (∀ k, k < 8 → r' k = gg_cl (gg_sw r pv cc) p cc k) ∧ gg_step (r, c, f, cc, ic) p = (r', (fun k => cond (Nat.beq k cc) p (c k)), f, cc + 1, ic) := by
  refine ⟨_, gg_sele _, ?_⟩
  unfold gg_step
  dsimp only
  rw [gc_st_e, hp, gc_ct (decide_eq_true h), gg_fze, gc_st_e]
def gg_r (col : Nat → Nat) (b : Nat) : Nat := gs_o 0 (fun j => (col j).testBit b) (fun j => j) 12
def gg_0 (col : Nat → Nat) : gg_S := gg_fz (gg_r col) fun r => (r, (fun _ => 0), (fun _ => 0), 0, 0)
def gg_a (col : Nat → Nat) : Nat → gg_S
  | 0 => gg_0 col
  | n + 1 => gg_step (gg_a col n) n
theorem gg_0e (col : Nat → Nat) : ∃ r, (∀ k, k < 8 → r k = gg_r col k) ∧ gg_a col 0 = (r, (fun _ => 0), (fun _ => 0), 0, 0) := by
  refine ⟨_, gg_sele _, ?_⟩
  show gg_0 col = _
  unfold gg_0
  rw [gg_fze]
/-- row operations keep what the rows annihilate -/
theorem gg_par {col : Nat → Nat} {w : Nat} (hs : gs_s col 12 w = 0) : ∀ n r c f cc ic, gg_a col n = (r, c, f, cc, ic) → ∀ k, k < 8 → gs_q 12 (r k &&& w) = false := by
  intro n
  induction n with
  | zero =>
    intro r c f cc ic h k hk
    obtain ⟨r0, h0, e0⟩ := gg_0e col
    rw [e0] at h
    cases h
    rw [h0 k hk, gs_row (col := col) (R := gg_r col k) (b := k) 12 (fun j hj => gs_o1 (g := fun j => (col j).testBit k) (s := fun j => j) hj (fun _ _ z => z) (Nat.zero_testBit _)), hs, Nat.zero_testBit]
  | succ n ih =>
    intro r c f cc ic h k hk
    have h : gg_step (gg_a col n) n = (r, c, f, cc, ic) := h
    obtain ⟨r1, c1, f1, cc1, ic1, e1⟩ := gg_ex5 (gg_a col n)
    have ih := ih r1 c1 f1 cc1 ic1 e1
    rw [e1] at h
    by_cases hv : gg_fi r1 n (8 - cc1) cc1 < 8
    · obtain ⟨r', hr', e'⟩ := gg_stepT (c := c1) (f := f1) (ic := ic1) rfl hv
      rw [e'] at h
      cases h
      have hge := gg_fige r1 n (8 - cc1) cc1
      have hsw : ∀ k, k < 8 → gs_q 12 (gg_sw r1 (gg_fi r1 n (8 - cc1) cc1) cc1 k &&& w) = false := by
        intro k hk
        unfold gg_sw
        cases Nat.beq k cc1
        · cases Nat.beq k (gg_fi r1 n (8 - cc1) cc1)
          · exact ih k hk
          · exact ih cc1 (by omega)
        · exact ih _ hv
      rw [hr' k hk]
      unfold gg_cl
      cases (!(Nat.beq k cc1) && (gg_sw r1 (gg_fi r1 n (8 - cc1) cc1) cc1 k).testBit n)
      · exact hsw k hk
      · show gs_q 12 ((_ ^^^ _) &&& w) = false
        rw [Nat.and_xor_distrib_right, gs_qxor, hsw k hk, hsw cc1 (by omega)] <;> rfl
    · rw [gg_stepF (c := c1) (f := f1) (ic := ic1) rfl hv] at h
      cases h
      exact ih k hk
/-! the check of one code -/
def gg_E (r c f : Nat → Nat) (j : Nat) : Nat := gs_o (2 ^ f j) (fun i => (r i).testBit (f j)) c 8
def gg_l4 (x0 x1 x2 x3 : Nat) : Nat → Nat
  | 0 => x0
  | 1 => x1
  | 2 => x2
  | 3 => x3
  | _ => 0
theorem gg_l4e (t : Nat → Nat) : ∀ k, k < 4 → gg_l4 (t 0) (t 1) (t 2) (t 3) k = t k
  | 0, _ => rfl
  | 1, _ => rfl
  | 2, _ => rfl
  | 3, _ => rfl
  | n + 4, h => absurd h (by omega)
def gg_k1 (r c f : Nat → Nat) : Bool :=
  (gc_al 8 fun i => gc_al 8 fun j => (r i).testBit (c j) == Nat.beq i j) &&
  ((gc_al 8 fun i => decide (r i < 4096) && (decide (c i < 12) && Nat.beq (r i % 2 ^ c i) 0)) &&
  ((gc_al 12 fun p => (gc_ex 8 fun i => Nat.beq (c i) p) || (gc_ex 4 fun j => Nat.beq (f j) p)) &&
  ((gc_al 8 fun i => gc_al 4 fun j => !(Nat.beq (c i) (f j))) &&
  ((gc_al 8 fun j => gc_al j fun i => decide (c i < c j)) &&
  (gc_al 4 fun j => gc_al j fun i => decide (f i < f j))))))
def gg_k2 (col f E : Nat → Nat) : Bool :=
  (gc_al 4 fun j => decide (f j < 12) && (decide (E j < 4096) && Nat.beq (gs_s col 12 (E j)) 0)) &&
  ((gc_al 4 fun j => gc_al 4 fun i => (E j).testBit (f i) == Nat.beq j i) &&
  (gc_al 16 fun m => Nat.beq m 0 || gc_st (gs_s E 4 m) fun x => decide (5 ≤ gs_w 12 x)))
def gg_ck (col : Nat → Nat) : Bool := match gg_a col 12 with
  | (r, c, f, cc, ic) => Nat.beq cc 8 && (Nat.beq ic 4 && (gg_k1 r c f &&
    gc_st (gg_E r c f 0) fun e0 => gc_st (gg_E r c f 1) fun e1 => gc_st (gg_E r c f 2) fun e2 => gc_st (gg_E r c f 3) fun e3 => gg_k2 col f (gg_l4 e0 e1 e2 e3)))
theorem gg_cke {col : Nat → Nat} (h : gg_ck col = true) (h8 : ∀ j, j < 12 → col j < 2 ^ 8) : ∃ r c f E, gg_a col 12 = (r, c, f, 8, 4) ∧ gk_ok col r c f E := by
  unfold gg_ck at h
  obtain ⟨r, c, f, cc, ic, e⟩ := gg_ex5 (gg_a col 12)
  rw [e] at h
  dsimp only at h
  simp only [gc_st_e, Bool.and_eq_true] at h
  obtain ⟨h1, h2, h3, h4⟩ := h
  have e1 := Nat.eq_of_beq_eq_true h1
  have e2 := Nat.eq_of_beq_eq_true h2
  subst e1 e2
  unfold gg_k1 at h3
  simp only [Bool.and_eq_true] at h3
  obtain ⟨k1, k2, k3, k4, k5, k6⟩ := h3
  unfold gg_k2 at h4
  simp only [Bool.and_eq_true] at h4
  obtain ⟨k7, k8, k9⟩ := h4
  refine ⟨r, c, f, gg_l4 (gg_E r c f 0) (gg_E r c f 1) (gg_E r c f 2) (gg_E r c f 3), e, ?_, ?_, ?_, ?_, ?_, ?_, ?_, ?_, ?_, ?_, h8⟩
  · intro i hi j hj
    have := eq_of_beq (gc_al_i (gc_al_i k1 i hi) j hj)
    rw [this, gb_d]
  · intro i hi
    have z := gc_al_i k2 i hi
    simp only [Bool.and_eq_true, decide_eq_true_eq] at z
    refine ⟨z.1, z.2.1, fun j hj => ?_⟩
    have y := Nat.testBit_mod_two_pow (r i) (c i) j
    rw [Nat.eq_of_beq_eq_true z.2.2, Nat.zero_testBit, decide_eq_true hj, Bool.true_and] at y
    exact y.symm
  · intro j hj
    have z := gc_al_i k7 j hj
    simp only [Bool.and_eq_true, decide_eq_true_eq] at z
    exact ⟨z.1, z.2.1, Nat.eq_of_beq_eq_true z.2.2⟩
  · intro j hj i hi
    have := eq_of_beq (gc_al_i (gc_al_i k8 j hj) i hi)
    rw [this, gb_d]
  · intro p hp
    have z := gc_al_i k3 p hp
    rw [Bool.or_eq_true] at z
    rcases z with z | z
    · obtain ⟨i, hi, y⟩ := gc_ex_i z
      exact Or.inl ⟨i, hi, Nat.eq_of_beq_eq_true y⟩
    · obtain ⟨i, hi, y⟩ := gc_ex_i z
      exact Or.inr ⟨i, hi, Nat.eq_of_beq_eq_true y⟩
  · intro i hi j hj z
    have y := gc_al_i (gc_al_i k4 i hi) j hj
    rw [gb_t z] at y
    exact absurd y (by decide)
  · intro j hj i hi
    exact of_decide_eq_true (gc_al_i (gc_al_i k5 j hj) i hi)
  · intro j hj i hi
    exact of_decide_eq_true (gc_al_i (gc_al_i k6 j hj) i hi)
  · intro w hw i hi
    exact gg_par hw 12 r c f 8 4 e i hi
  · intro m hm h0
    have z := gc_al_i k9 m hm
    rw [gb_f h0, Bool.false_or, gc_st_e] at z
    exact of_decide_eq_true z
/-! all codes -/
def gg_col (A B s j : Nat) : Nat := gr_v A B (16 + (s + j) % 16) 7
def gg_s16 (x0 x1 x2 x3 x4 x5 x6 x7 x8 x9 x10 x11 x12 x13 x14 x15 : Nat) : Nat → Nat
  | 0 => x0
  | 1 => x1
  | 2 => x2
  | 3 => x3
  | 4 => x4
  | 5 => x5
  | 6 => x6
  | 7 => x7
  | 8 => x8
  | 9 => x9
  | 10 => x10
  | 11 => x11
  | 12 => x12
  | 13 => x13
  | 14 => x14
  | _ => x15
theorem gg_s16e (A B : Nat) : ∀ k, k < 16 → gg_s16 (gr_v A B 16 7) (gr_v A B 17 7) (gr_v A B 18 7) (gr_v A B 19 7) (gr_v A B 20 7) (gr_v A B 21 7) (gr_v A B 22 7) (gr_v A B 23 7) (gr_v A B 24 7) (gr_v A B 25 7) (gr_v A B 26 7) (gr_v A B 27 7) (gr_v A B 28 7) (gr_v A B 29 7) (gr_v A B 30 7) (gr_v A B 31 7) k = gr_v A B (16 + k) 7
  | 0, _ => rfl
  | 1, _ => rfl
  | 2, _ => rfl
  | 3, _ => rfl
  | 4, _ => rfl
  | 5, _ => rfl
  | 6, _ => rfl
  | 7, _ => rfl
  | 8, _ => rfl
  | 9, _ => rfl
  | 10, _ => rfl
  | 11, _ => rfl
  | 12, _ => rfl
  | 13, _ => rfl
  | 14, _ => rfl
  | 15, _ => rfl
  | n + 16, h => absurd h (by omega)
def gg_cs (A B : Nat) (k : (Nat → Nat) → Bool) : Bool :=
  gc_st (gr_v A B 16 7) fun x0 => gc_st (gr_v A B 17 7) fun x1 => gc_st (gr_v A B 18 7) fun x2 => gc_st (gr_v A B 19 7) fun x3 => gc_st (gr_v A B 20 7) fun x4 => gc_st (gr_v A B 21 7) fun x5 => gc_st (gr_v A B 22 7) fun x6 => gc_st (gr_v A B 23 7) fun x7 => gc_st (gr_v A B 24 7) fun x8 => gc_st (gr_v A B 25 7) fun x9 => gc_st (gr_v A B 26 7) fun x10 => gc_st (gr_v A B 27 7) fun x11 => gc_st (gr_v A B 28 7) fun x12 => gc_st (gr_v A B 29 7) fun x13 => gc_st (gr_v A B 30 7) fun x14 => gc_st (gr_v A B 31 7) fun x15 => k (gg_s16 x0 x1 x2 x3 x4 x5 x6 x7 x8 x9 x10 x11 x12 x13 x14 x15)
theorem gg_cse (A B : Nat) (k : (Nat → Nat) → Bool) : gg_cs A B k = k (gg_s16 (gr_v A B 16 7) (gr_v A B 17 7) (gr_v A B 18 7) (gr_v A B 19 7) (gr_v A B 20 7) (gr_v A B 21 7) (gr_v A B 22 7) (gr_v A B 23 7) (gr_v A B 24 7) (gr_v A B 25 7) (gr_v A B 26 7) (gr_v A B 27 7) (gr_v A B 28 7) (gr_v A B 29 7) (gr_v A B 30 7) (gr_v A B 31 7)) := by
  unfold gg_cs
  simp only [gc_st_e]
def gg_cA (A : Nat) : Bool := gc_al 16 fun B => gr_rt A B || gg_cs A B fun x => gc_al 16 fun s => gg_ck fun j => x ((s + j) % 16)
end
section
/-! the closed check, a theorem for each linear term -/
theorem gg_t0 : gg_cA 0 = true := by decide +kernel
theorem gg_t1 : gg_cA 1 = true := by decide +kernel
theorem gg_t2 : gg_cA 2 = true := by decide +kernel
theorem gg_t3 : gg_cA 3 = true := by decide +kernel
theorem gg_t4 : gg_cA 4 = true := by decide +kernel
theorem gg_t5 : gg_cA 5 = true := by decide +kernel
theorem gg_t6 : gg_cA 6 = true := by decide +kernel
theorem gg_t7 : gg_cA 7 = true := by decide +kernel
theorem gg_t8 : gg_cA 8 = true := by decide +kernel
theorem gg_t9 : gg_cA 9 = true := by decide +kernel
theorem gg_t10 : gg_cA 10 = true := by decide +kernel
theorem gg_t11 : gg_cA 11 = true := by decide +kernel
theorem gg_t12 : gg_cA 12 = true := by decide +kernel
theorem gg_t13 : gg_cA 13 = true := by decide +kernel
theorem gg_t14 : gg_cA 14 = true := by decide +kernel
theorem gg_t15 : gg_cA 15 = true := by decide +kernel
theorem gg_tA : ∀ A, A < 16 → gg_cA A = true
  | 0, _ => gg_t0
  | 1, _ => gg_t1
  | 2, _ => gg_t2
  | 3, _ => gg_t3
  | 4, _ => gg_t4
  | 5, _ => gg_t5
  | 6, _ => gg_t6
  | 7, _ => gg_t7
  | 8, _ => gg_t8
  | 9, _ => gg_t9
  | 10, _ => gg_t10
  | 11, _ => gg_t11
  | 12, _ => gg_t12
  | 13, _ => gg_t13
  | 14, _ => gg_t14
  | 15, _ => gg_t15
  | n + 16, h => absurd h (by omega)
theorem gg_ok {A B s : Nat} (hA : A < 16) (hB : B < 16) (hr : gr_rt A B = false) (hs : s < 16) : ∃ r c f E, gg_a (gg_col A B s) 12 = (r, c, f, 8, 4) ∧ gk_ok (gg_col A B s) r c f E := by
  have h := gc_al_i (gg_tA A hA) B hB
  rw [hr, Bool.false_or, gg_cse] at h
  have h2 := gc_al_i h s hs
  have e : (fun j => gg_s16 (gr_v A B 16 7) (gr_v A B 17 7) (gr_v A B 18 7) (gr_v A B 19 7) (gr_v A B 20 7) (gr_v A B 21 7) (gr_v A B 22 7) (gr_v A B 23 7) (gr_v A B 24 7) (gr_v A B 25 7) (gr_v A B 26 7) (gr_v A B 27 7) (gr_v A B 28 7) (gr_v A B 29 7) (gr_v A B 30 7) (gr_v A B 31 7) ((s + j) % 16)) = gg_col A B s := by
    funext j
    exact gg_s16e A B _ (Nat.mod_lt _ (by decide))
  rw [e] at h2
  exact gg_cke h2 (fun j _ => gr_vlt _ _ _ _)
end
section
/-! what the reference's construction, encryption and decryption reckon, without the walks -/
/-- the list of the words of syndrome 0 below w -/
def gy_cl (col : Nat → Nat) (w cnt : Nat) (cl : Nat → Int32) : Prop :=
  cnt ≤ w ∧ (∀ x, x < w → gs_s col 12 x = 0 → ∃ i, i < cnt ∧ cl i = nI x) ∧ (∀ i, i < cnt → ∃ x, x < w ∧ gs_s col 12 x = 0 ∧ cl i = nI x)
theorem gy_cl0 (col : Nat → Nat) (cl : Nat → Int32) : gy_cl col 0 0 cl :=
  ⟨Nat.le_refl 0, fun x h => absurd h (Nat.not_lt_zero x), fun i h => absurd h (Nat.not_lt_zero i)⟩
theorem gy_clT {col : Nat → Nat} {w cnt : Nat} {cl : Nat → Int32} (h : gy_cl col w cnt cl) (hs : gs_s col 12 w = 0) : gy_cl col (w + 1) (cnt + 1) (upd cl cnt (nI w)) := by
  refine ⟨Nat.succ_le_succ h.1, fun x hx hs' => ?_, fun i hi => ?_⟩
  · by_cases e : x = w
    · subst e
      exact ⟨cnt, by omega, pk_us⟩
    · obtain ⟨i, hi, ei⟩ := h.2.1 x (by omega) hs'
      exact ⟨i, by omega, by rw [pk_un (by omega)]; exact ei⟩
  · by_cases e : i = cnt
    · subst e
      exact ⟨w, by omega, hs, pk_us⟩
    · obtain ⟨x, hx, hs', ex⟩ := h.2.2 i (by omega)
      exact ⟨x, by omega, hs', by rw [pk_un e]; exact ex⟩
theorem gy_clF {col : Nat → Nat} {w cnt : Nat} {cl : Nat → Int32} (h : gy_cl col w cnt cl) (hs : gs_s col 12 w ≠ 0) : gy_cl col (w + 1) cnt cl := by
  refine ⟨Nat.le_succ_of_le h.1, fun x hx hs' => ?_, fun i hi => ?_⟩
  · by_cases e : x = w
    · subst e
      exact absurd hs' hs
    · exact h.2.1 x (by omega) hs'
  · obtain ⟨x, hx, hs', ex⟩ := h.2.2 i hi
    exact ⟨x, by omega, hs', ex⟩
/-- v against the first i words of the list -/
def gy_ok (cl : Nat → Int32) (v i : Nat) (s : Int32) : Prop :=
  (s = 1 ∧ ∀ k, k < i → ∀ x, x < 4096 → cl k = nI x → gs_q 12 (v &&& x) = false) ∨ (s = 0 ∧ ∃ k, k < i ∧ ∃ x, x < 4096 ∧ cl k = nI x ∧ gs_q 12 (v &&& x) = true)
theorem gy_ok0 (cl : Nat → Int32) (v : Nat) : gy_ok cl v 0 1 := Or.inl ⟨rfl, fun k h => absurd h (Nat.not_lt_zero k)⟩
theorem gy_okT {cl : Nat → Int32} {v i x : Nat} (hx : x < 4096) (e : cl i = nI x) (hq : gs_q 12 (v &&& x) = true) : gy_ok cl v (i + 1) 0 :=
  Or.inr ⟨rfl, i, Nat.lt_succ_self i, x, hx, e, hq⟩
theorem gy_okF {cl : Nat → Int32} {v i x : Nat} {s : Int32} (h : gy_ok cl v i s) (hx : x < 4096) (e : cl i = nI x) (hq : gs_q 12 (v &&& x) = false) : gy_ok cl v (i + 1) s := by
  rcases h with ⟨h1, h2⟩ | ⟨h1, k, hk, h2⟩
  · refine Or.inl ⟨h1, fun k hk y hy ey => ?_⟩
    by_cases z : k = i
    · subst z
      have : x = y := (nI_eq (by omega) (by omega)).mp (e.symm.trans ey)
      subst this
      exact hq
    · exact h2 k (by omega) y hy ey
  · exact Or.inr ⟨h1, k, by omega, h2⟩
/-- the table of the dual's words below v -/
def gy_du (col : Nat → Nat) (a : Nat → Int32) (v : Nat) : Prop := ∀ x, x < v → (a x = 1 ∧ gk_dual col x) ∨ (a x = 0 ∧ ¬ gk_dual col x)
theorem gy_okE {col : Nat → Nat} {cnt v : Nat} {cl : Nat → Int32} {s : Int32} (hc : gy_cl col 4096 cnt cl) (h : gy_ok cl v cnt s) : (s = 1 ∧ gk_dual col v) ∨ (s = 0 ∧ ¬ gk_dual col v) := by
  rcases h with ⟨h1, h2⟩ | ⟨h1, k, hk, x, hx, ex, hq⟩
  · refine Or.inl ⟨h1, fun w hw hs => ?_⟩
    obtain ⟨i, hi, ei⟩ := hc.2.1 w hw hs
    exact h2 i hi w hw ei
  · refine Or.inr ⟨h1, fun hd => ?_⟩
    obtain ⟨y, hy, hs, ey⟩ := hc.2.2 k hk
    have : x = y := (nI_eq (by omega) (by omega)).mp (ex.symm.trans ey)
    subst this
    rw [hd x hx hs] at hq
    cases hq
theorem gy_duS {col : Nat → Nat} {a : Nat → Int32} {v : Nat} {s : Int32} (h : gy_du col a v) (hs : (s = 1 ∧ gk_dual col v) ∨ (s = 0 ∧ ¬ gk_dual col v)) : gy_du col (upd a v s) (v + 1) := by
  intro x hx
  by_cases e : x = v
  · subst e
    rw [pk_us]
    exact hs
  · rw [pk_un e]
    exact h x (by omega)
/-- the lowest set bit -/
def gy_lo (v q : Nat) : Prop := v.testBit q = true ∧ ∀ p, p < q → v.testBit p = false
theorem gy_loE {v : Nat} (hv : v < 2 ^ 12) (h0 : 0 < v) : ∃ q, q < 12 ∧ gy_lo v q := by
  obtain ⟨q, h1, h2⟩ := gc_least (fun i => v.testBit i = true) (Nat.exists_testBit_of_ne_zero (by omega))
  refine ⟨q, ?_, h1, fun p hp => ?_⟩
  · rcases Nat.lt_or_ge q 12 with z | z
    · exact z
    · have h1 : v.testBit q = true := h1
      rw [gc_tb0 hv z] at h1
      cases h1
  · have z : ¬ v.testBit p = true := h2 p hp
    cases e : v.testBit p
    · rfl
    · exact absurd e z
theorem gy_loU {v p q : Nat} (hp : gy_lo v p) (hq : gy_lo v q) : p = q := by
  rcases Nat.lt_trichotomy p q with z | z | z
  · have := hq.2 p z
    rw [hp.1] at this
    cases this
  · exact z
  · have := hp.2 q z
    rw [hq.1] at this
    cases this
section
variable {col r c f E : Nat → Nat}
theorem gy_lor (H : gk_ok col r c f E) {i : Nat} (hi : i < 8) : gy_lo (r i) (c i) := ⟨gk_rlow H hi, (gk_2 H i hi).2.2⟩
/-- the mask while position q is looked through up to v -/
def gy_pv (col c : Nat → Nat) (q v : Nat) (s : Int32) : Prop :=
  (s = nI (gk_pm c % 2 ^ q) ∧ ∀ x, 0 < x → x < v → gk_dual col x → ¬ gy_lo x q) ∨ (s = nI (gk_pm c % 2 ^ (q + 1)) ∧ (gk_pm c).testBit q = true)
theorem gy_pv1 (col c : Nat → Nat) (q : Nat) : gy_pv col c q 1 (nI (gk_pm c % 2 ^ q)) := Or.inl ⟨rfl, fun x h0 h1 => by omega⟩
theorem gy_pvF {q v : Nat} {s : Int32} (h : gy_pv col c q v s) (hn : ¬ (gk_dual col v ∧ gy_lo v q)) : gy_pv col c q (v + 1) s := by
  rcases h with ⟨h1, h2⟩ | h
  · refine Or.inl ⟨h1, fun x h0 hx hd hl => ?_⟩
    by_cases e : x = v
    · subst e
      exact hn ⟨hd, hl⟩
    · exact h2 x h0 (by omega) hd hl
  · exact Or.inr h
theorem gy_or1 {P q : Nat} (h : P.testBit q = true) : P % 2 ^ q ||| 2 ^ q = P % 2 ^ (q + 1) := by
  apply Nat.eq_of_testBit_eq
  intro i
  rw [Nat.testBit_or, Nat.testBit_mod_two_pow, Nat.testBit_mod_two_pow, Nat.testBit_two_pow]
  rcases Nat.lt_trichotomy i q with z | z | z
  · rw [decide_eq_true z, decide_eq_true (show i < q + 1 by omega), decide_eq_false (show ¬ q = i by omega), Bool.or_false]
  · subst z
    rw [decide_eq_false (Nat.lt_irrefl i), decide_eq_true (Nat.lt_succ_self i), decide_eq_true rfl, h] <;> rfl
  · rw [decide_eq_false (show ¬ i < q by omega), decide_eq_false (show ¬ i < q + 1 by omega), decide_eq_false (show ¬ q = i by omega)] <;> rfl
theorem gy_or2 {P q : Nat} (h : P.testBit q = true) : P % 2 ^ (q + 1) ||| 2 ^ q = P % 2 ^ (q + 1) := by
  rw [← gy_or1 h, Nat.or_assoc, Nat.or_self]
theorem gy_or3 {P q : Nat} (h : P.testBit q = false) : P % 2 ^ q = P % 2 ^ (q + 1) := by
  apply Nat.eq_of_testBit_eq
  intro i
  rw [Nat.testBit_mod_two_pow, Nat.testBit_mod_two_pow]
  rcases Nat.lt_trichotomy i q with z | z | z
  · rw [decide_eq_true z, decide_eq_true (show i < q + 1 by omega)]
  · subst z
    rw [h, Bool.and_false, Bool.and_false]
  · rw [decide_eq_false (show ¬ i < q by omega), decide_eq_false (show ¬ i < q + 1 by omega)]
theorem gy_pvT (H : gk_ok col r c f E) {q v : Nat} {s : Int32} (hq : q < 12) (hv : v < 2 ^ 12) (h : gy_pv col c q v s) (hd : gk_dual col v) (hl : gy_lo v q) : gy_pv col c q (v + 1) (s ||| nI (2 ^ q)) := by
  obtain ⟨i, hi, e⟩ := gk_low H hv hd hq hl.1 hl.2
  have hb : (gk_pm c).testBit q = true := by rw [← e]; exact gk_pmc c hi
  refine Or.inr ⟨?_, hb⟩
  rcases h with ⟨h1, _⟩ | ⟨h1, _⟩
  · rw [h1, gc_or, gy_or1 hb]
  · rw [h1, gc_or, gy_or2 hb]
theorem gy_pvE (H : gk_ok col r c f E) {q : Nat} {s : Int32} (h : gy_pv col c q 4096 s) : s = nI (gk_pm c % 2 ^ (q + 1)) := by
  rcases h with ⟨h1, h2⟩ | ⟨h1, _⟩
  · cases hb : (gk_pm c).testBit q
    · rw [h1, gy_or3 hb]
    · obtain ⟨i, hi, e⟩ := gk_pmi hb
      subst e
      exact absurd (gy_lor H hi) (h2 _ (gk_rpos H hi) (gk_2 H i hi).1 (gk_dr H hi))
  · exact h1
theorem gy_pm12 (H : gk_ok col r c f E) : gk_pm c % 2 ^ 12 = gk_pm c := Nat.mod_eq_of_lt (gk_pml H)
/-- rows filled for the check positions below q: n of them -/
def gy_rw (c r : Nat → Nat) (q n : Nat) (a : Nat → Int32) : Prop := n ≤ 8 ∧ (∀ i, i < 8 → (i < n ↔ c i < q)) ∧ ∀ i, i < n → a i = nI (r i)
theorem gy_rw0 (c r : Nat → Nat) (a : Nat → Int32) : gy_rw c r 0 0 a := ⟨Nat.zero_le 8, fun i _ => ⟨fun h => by omega, fun h => by omega⟩, fun i h => absurd h (Nat.not_lt_zero i)⟩
theorem gy_rwN {q n : Nat} {a : Nat → Int32} (h : gy_rw c r q n a) (hn : ∀ i, i < 8 → c i ≠ q) : gy_rw c r (q + 1) n a :=
  ⟨h.1, fun i hi => by have h1 := h.2.1 i hi; have h2 := hn i hi; omega, h.2.2⟩
theorem gy_rwi (H : gk_ok col r c f E) {q n i : Nat} {a : Nat → Int32} (h : gy_rw c r q n a) (hi : i < 8) (e : c i = q) : i = n := by
  have h1 := h.2.1 i hi
  rcases Nat.lt_trichotomy i n with z | z | z
  · omega
  · exact z
  · have h2 := h.2.1 n (by omega)
    have h3 := gk_7 H i hi n z
    omega
theorem gy_rwS (H : gk_ok col r c f E) {q n : Nat} {a : Nat → Int32} (h : gy_rw c r q n a) (hn : n < 8) (e : c n = q) (ha : a n = nI (r n)) : gy_rw c r (q + 1) (n + 1) a := by
  refine ⟨by omega, fun i hi => ?_, fun i hi => ?_⟩
  · rcases Nat.lt_trichotomy i n with z | z | z
    · have h1 := gk_7 H n hn i z
      omega
    · subst z; omega
    · have h1 := gk_7 H i hi n z
      omega
  · by_cases z : i = n
    · subst z; exact ha
    · exact h.2.2 i (by omega)
/-- row n while position c n is looked through up to v -/
def gy_rv (r : Nat → Nat) (n v : Nat) (a : Nat → Int32) : Prop := (∀ i, i < n → a i = nI (r i)) ∧ (r n < v → a n = nI (r n))
theorem gy_rvF {n v : Nat} {a : Nat → Int32} (h : gy_rv r n v a) (hn : v ≠ r n) : gy_rv r n (v + 1) a := ⟨h.1, fun z => h.2 (by omega)⟩
theorem gy_rvT {n : Nat} {a : Nat → Int32} (h : gy_rv r n (r n) a) : gy_rv r n (r n + 1) (upd a n (nI (r n))) :=
  ⟨fun i hi => by rw [pk_un (by omega)]; exact h.1 i hi, fun _ => pk_us⟩
/-- when the reference takes v as the row of position c n -/
theorem gy_rvi (H : gk_ok col r c f E) {n v : Nat} (hn : n < 8) (hv : v < 2 ^ 12) : (gk_dual col v ∧ gy_lo v (c n) ∧ v &&& gk_pm c = 2 ^ c n) ↔ v = r n := by
  constructor
  · intro h
    exact gk_only H hn hv h.1 h.2.2
  · intro h
    subst h
    exact ⟨gk_dr H hn, gy_lor H hn, gk_rpm H hn⟩
/-- information positions below q: n of them -/
def gy_if (f : Nat → Nat) (q n : Nat) (a : Nat → Int32) : Prop := n ≤ 4 ∧ (∀ i, i < 4 → (i < n ↔ f i < q)) ∧ ∀ i, i < n → a i = nI (f i)
theorem gy_if0 (f : Nat → Nat) (a : Nat → Int32) : gy_if f 0 0 a := ⟨Nat.zero_le 4, fun i _ => ⟨fun h => by omega, fun h => by omega⟩, fun i h => absurd h (Nat.not_lt_zero i)⟩
theorem gy_ifN {q n : Nat} {a : Nat → Int32} (h : gy_if f q n a) (hn : ∀ i, i < 4 → f i ≠ q) : gy_if f (q + 1) n a :=
  ⟨h.1, fun i hi => by have h1 := h.2.1 i hi; have h2 := hn i hi; omega, h.2.2⟩
theorem gy_ifS (H : gk_ok col r c f E) {q n i : Nat} {a : Nat → Int32} (h : gy_if f q n a) (hi : i < 4) (e : f i = q) : n < 4 ∧ gy_if f (q + 1) (n + 1) (upd a n (nI q)) := by
  have h1 := h.2.1 i hi
  have hin : i = n := by
    rcases Nat.lt_trichotomy i n with z | z | z
    · omega
    · exact z
    · have h2 := h.2.1 n (by omega)
      have h3 := gk_8 H i hi n z
      omega
  subst hin
  refine ⟨hi, by omega, fun k hk => ?_, fun k hk => ?_⟩
  · rcases Nat.lt_trichotomy k i with z | z | z
    · have h1 := gk_8 H i hi k z
      omega
    · subst z; omega
    · have h1 := gk_8 H k hk i z
      omega
  · by_cases z : k = i
    · subst z; rw [pk_us, e]
    · rw [pk_un z]; exact h.2.2 k (by omega)
/-- after all positions: eight rows, four information positions -/
theorem gy_rwE (H : gk_ok col r c f E) {n : Nat} {a : Nat → Int32} (h : gy_rw c r 12 n a) : n = 8 ∧ ∀ i, i < 8 → a i = nI (r i) := by
  have hn : n = 8 := by
    rcases Nat.lt_or_ge n 8 with z | z
    · have h1 := h.2.1 n z
      have h2 := (gk_2 H n z).2.1
      omega
    · have := h.1; omega
  subst hn
  exact ⟨rfl, h.2.2⟩
theorem gy_ifE (H : gk_ok col r c f E) {n : Nat} {a : Nat → Int32} (h : gy_if f 12 n a) : n = 4 ∧ ∀ i, i < 4 → a i = nI (f i) := by
  have hn : n = 4 := by
    rcases Nat.lt_or_ge n 4 with z | z
    · have h1 := h.2.1 n z
      have h2 := (gk_3 H n z).1
      omega
    · have := h.1; omega
  subst hn
  exact ⟨rfl, h.2.2⟩
/-- the one word of the code with the message m -/
theorem gy_enc (H : gk_ok col r c f E) {w m : Nat} (hw : w < 2 ^ 12) (hm : m < 2 ^ 4) : (gs_s col 12 w = 0 ∧ gk_ex f 4 w = m) ↔ w = gs_s E 4 m := by
  constructor
  · intro h
    have e := gk_C H hw h.1
    rw [h.2] at e
    exact e
  · intro h
    subst h
    exact ⟨gk_Gs H m, gk_Ge H hm⟩
end
/-! words of weight at most 2 -/
theorem gy_t2 : (gc_al 64 fun a => gc_al 64 fun b => gc_st (64 * a + b) fun w => !(Nat.ble (gs_w 12 w) 2) || (Nat.beq w 0 || gc_ex 12 fun j => gc_ex (j + 1) fun i => Nat.beq w (2 ^ i ||| 2 ^ j))) = true := by decide +kernel
theorem gy_t3 : ∀ i, i < 12 → ∀ j, j < 12 → gs_w 12 (2 ^ i ||| 2 ^ j) ≤ 2 ∧ 2 ^ i ||| 2 ^ j < 4096 := by decide +kernel
theorem gy_w2 {w : Nat} (hw : w < 4096) (h2 : gs_w 12 w ≤ 2) (h0 : w ≠ 0) : ∃ i j, i ≤ j ∧ j < 12 ∧ w = 2 ^ i ||| 2 ^ j := by
  have h := gc_al_i (gc_al_i gy_t2 (w / 64) (by omega)) (w % 64) (by omega)
  simp only [gc_st_e, Nat.div_add_mod] at h
  rw [show Nat.ble (gs_w 12 w) 2 = true from Nat.ble_eq.mpr h2, gb_f h0] at h
  have h : (gc_ex 12 fun j => gc_ex (j + 1) fun i => Nat.beq w (2 ^ i ||| 2 ^ j)) = true := h
  obtain ⟨j, hj, h⟩ := gc_ex_i h
  obtain ⟨i, hi, h⟩ := gc_ex_i h
  exact ⟨i, j, by omega, hj, Nat.eq_of_beq_eq_true h⟩
end
section
/-! the two field products as they are reckoned, against the table -/
def gh_m (a : Nat) : Nat → Nat
  | 0 => a
  | n + 1 => cond (decide (16 ≤ gh_m a n * 2)) ((gh_m a n * 2) ^^^ 19) (gh_m a n * 2)
def gh_p (a b : Nat) : Nat → Nat
  | 0 => 0
  | n + 1 => cond (b.testBit n) (gh_p a b n ^^^ gh_m a n) (gh_p a b n)
theorem gh_t1 : ∀ x, x < 16 → cond (decide (16 ≤ x * 2)) ((x * 2) ^^^ 19) (x * 2) < 16 := by decide +kernel
theorem gh_mlt {a : Nat} (ha : a < 16) : ∀ n, gh_m a n < 16 := by
  intro n
  induction n with
  | zero => exact ha
  | succ n ih => exact gh_t1 _ ih
theorem gh_plt {a b : Nat} (ha : a < 16) : ∀ n, gh_p a b n < 16 := by
  intro n
  induction n with
  | zero => show 0 < 16; decide
  | succ n ih =>
    show cond (b.testBit n) (gh_p a b n ^^^ gh_m a n) (gh_p a b n) < 16
    cases b.testBit n
    · exact ih
    · exact gx_lt ih (gh_mlt ha n)
theorem gh_pe : ∀ a, a < 16 → ∀ b, b < 16 → gh_p a b 4 = gf_p a b := by decide +kernel
theorem gh_mT {a n : Nat} (h : 16 ≤ gh_m a n * 2) : gh_m a (n + 1) = (gh_m a n * 2) ^^^ 19 := by
  show cond (decide (16 ≤ gh_m a n * 2)) _ _ = _
  exact gc_ct (decide_eq_true h)
theorem gh_mF {a n : Nat} (h : ¬ 16 ≤ gh_m a n * 2) : gh_m a (n + 1) = gh_m a n * 2 := by
  show cond (decide (16 ≤ gh_m a n * 2)) _ _ = _
  exact gc_cf (decide_eq_false h)
theorem gh_pT {a b n : Nat} (h : b.testBit n = true) : gh_p a b (n + 1) = gh_p a b n ^^^ gh_m a n := by
  show cond (b.testBit n) _ _ = _
  exact gc_ct h
theorem gh_pF {a b n : Nat} (h : b.testBit n = false) : gh_p a b (n + 1) = gh_p a b n := by
  show cond (b.testBit n) _ _ = _
  exact gc_cf h
/-! the reference's: shifted sum, then three steps down -/
def gh_y (x : Nat) : Nat → Nat := fun i => x * 2 ^ i
def gh_r (a d : Nat) : Nat := cond (a.testBit d) (a ^^^ 19 * 2 ^ (d - 4)) a
theorem gh_rT {a d : Nat} (h : a.testBit d = true) : gh_r a d = a ^^^ 19 * 2 ^ (d - 4) := by
  show cond (a.testBit d) _ _ = _
  exact gc_ct h
theorem gh_rF {a d : Nat} (h : a.testBit d = false) : gh_r a d = a := by
  show cond (a.testBit d) _ _ = _
  exact gc_cf h
theorem gh_rlt {a d : Nat} (ha : a < 2 ^ 8) (hd : d ≤ 6) : gh_r a d < 2 ^ 8 := by
  cases h : a.testBit d
  · rw [gh_rF h]; exact ha
  · rw [gh_rT h]
    refine Nat.xor_lt_two_pow ha ?_
    have : 2 ^ (d - 4) ≤ 2 ^ 2 := Nat.pow_le_pow_right (by decide) (by omega)
    omega
theorem gh_ylt {x : Nat} (hx : x < 16) (y n : Nat) (hn : n ≤ 4) : gs_s (gh_y x) n y < 2 ^ 8 := by
  refine gs_lt n (fun j hj => ?_)
  have : 2 ^ j ≤ 2 ^ 3 := Nat.pow_le_pow_right (by decide) (by omega)
  have h2 : x * 2 ^ j ≤ 15 * 2 ^ 3 := Nat.mul_le_mul (by omega) this
  show x * 2 ^ j < 2 ^ 8
  omega
theorem gh_ye : ∀ x, x < 16 → ∀ y, y < 16 → gh_r (gh_r (gh_r (gs_s (gh_y x) 4 y) 6) 5) 4 % 16 = gf_p x y := by decide +kernel
end
section
/-! single steps of the loops over nI -/
theorem gp_pow {j : Nat} (hj : j < 31) : 2 ^ j < 2 ^ 31 := Nat.pow_lt_pow_right (by decide) hj
theorem gp_b2 (b : Bool) {j : Nat} (hj : j < 31) : b.toNat * 2 ^ j < 2 ^ 31 := by
  have h := gp_pow hj
  cases b
  · show 0 * 2 ^ j < 2 ^ 31; omega
  · show 1 * 2 ^ j < 2 ^ 31; omega
theorem gp_or {a w b j : Nat} (hw : w < 2 ^ 31) (hb : b < 32) (hj : j < 31) : nI a ||| (((nI w >>> (nI b &&& 31)) &&& 1) <<< (nI j &&& 31)) = nI (a ||| (w.testBit b).toNat * 2 ^ j) := by
  rw [gc_bitb hw hb, gc_shl (by omega) (Nat.lt_trans (gp_b2 _ hj) (by decide)), gc_or]
theorem gp_orb {a j : Nat} {b : Bool} (hj : j < 31) : nI a ||| (nI b.toNat <<< (nI j &&& 31)) = nI (a ||| b.toNat * 2 ^ j) := by
  rw [gc_shl (by omega) (Nat.lt_trans (gp_b2 _ hj) (by decide)), gc_or]
theorem gp_one {q : Nat} (hq : q < 31) : (1 : Int32) <<< (nI q &&& 31) = nI (2 ^ q) := by
  have h := gp_pow hq
  have e := gc_shl (w := 1) (j := q) (by omega) (by omega)
  rw [Nat.one_mul] at e
  exact e
theorem gp_q (x n : Nat) : nI (gs_q n x).toNat ^^^ nI (x.testBit n).toNat = nI (gs_q (n + 1) x).toNat := by
  rw [nx_xor]
  show _ = nI (gs_q n x ^^ x.testBit n).toNat
  cases gs_q n x <;> cases x.testBit n <;> rfl
theorem gp_w (x n : Nat) : nI (gs_w n x) + nI (x.testBit n).toNat = nI (gs_w (n + 1) x) := nI_add _ _
theorem gp_par (x : Nat) : nI (gs_w 12 x) &&& 1 = nI (gs_q 12 x).toNat := by
  have h := gs_wle x 12
  rw [gc_and1 (by omega), gs_wq]
theorem gp_tbT {w j : Nat} (hw : w < 2 ^ 31) (hj : j < 32) (h : w.testBit j = true) : ¬ ((nI w >>> (nI j &&& 31)) &&& 1) = 0 := by
  rw [gc_bitb hw hj, h]
  decide
theorem gp_tbF {w j : Nat} (hw : w < 2 ^ 31) (hj : j < 32) (h : w.testBit j = false) : ((nI w >>> (nI j &&& 31)) &&& 1) = 0 := by
  rw [gc_bitb hw hj, h]
  decide
theorem gp_s12 {w : Nat} (h : w < 2 ^ 12) : w < 2 ^ 31 := Nat.lt_trans h (by decide)
theorem gp_s8 {w : Nat} (h : w < 2 ^ 8) : w < 2 ^ 31 := Nat.lt_trans h (by decide)
theorem gp_m16 {w : Nat} (h : w < 2 ^ 31) : nI w &&& 15 = nI (w % 16) := pk_andN (m := 15) (by omega) 4 (by decide)
theorem gp_m256 {w : Nat} (h : w < 2 ^ 31) : nI w &&& 255 = nI (w % 256) := pk_andN (m := 255) (by omega) 8 (by decide)
theorem gp_sh4 {w : Nat} (h : w < 2 ^ 31) : nI w >>> ((4 : Int32) &&& 31) = nI (w / 16) := pk_shrN h _ 4 (by decide)
theorem gp_d16 {w : Nat} (h : w < 2 ^ 31) : nI w / 16 = nI (w / 16) := pk_div (d := 16) h (by decide) (by decide)
theorem gp_r16 {w : Nat} (h : w < 2 ^ 31) : nI w - nI w / 16 * 16 = nI (w % 16) := pk_rem (d := 16) h (by decide) (by decide)
theorem gp_r256 {w : Nat} (h : w < 2 ^ 31) : nI w - nI w / 256 * 256 = nI (w % 256) := pk_rem (d := 256) h (by decide) (by decide)
end
section
/-! the class's arrays while its rows are reduced -/
def gz_r (a : Nat → Int32) (r : Nat → Nat) : Prop := ∀ i, i < 8 → a i = nI (r i) ∧ r i < 2 ^ 12
theorem gz_sw {a : Nat → Int32} {r : Nat → Nat} {p h : Nat} (H : gz_r a r) (hp : p < 8) (hh : h < 8) : gz_r (upd (upd a p (a h)) h (a p)) (gg_sw r p h) := by
  intro i hi
  by_cases e : i = h
  · subst e
    rw [pk_us, show gg_sw r p i i = r p from gc_ct (gb_t rfl)]
    exact H p hp
  · rw [pk_un e]
    by_cases e2 : i = p
    · subst e2
      rw [pk_us, show gg_sw r i h i = r h from (gc_cf (gb_f e)).trans (gc_ct (gb_t rfl))]
      exact H h hh
    · rw [pk_un e2, show gg_sw r p h i = r i from (gc_cf (gb_f e)).trans (gc_cf (gb_f e2))]
      exact H i hi
theorem gz_clT {s : Nat → Nat} {p h k : Nat} (e : k ≠ h) (b : (s k).testBit p = true) : gg_cl s p h k = s k ^^^ s h :=
  gc_ct (by rw [gb_f e, b] <;> rfl)
theorem gz_clF {s : Nat → Nat} {p h k : Nat} (b : (s k).testBit p = false) : gg_cl s p h k = s k :=
  gc_cf (by rw [b, Bool.and_false])
theorem gz_clH {s : Nat → Nat} {p h k : Nat} (e : k = h) : gg_cl s p h k = s k :=
  gc_cf (by rw [gb_t e] <;> rfl)
/-- the rows while h is added to those below i -/
def gz_c (a : Nat → Int32) (s : Nat → Nat) (p h i : Nat) : Prop := ∀ k, k < 8 → s k < 2 ^ 12 ∧ (k < i → a k = nI (gg_cl s p h k)) ∧ (i ≤ k → a k = nI (s k))
theorem gz_c0 {a : Nat → Int32} {s : Nat → Nat} (p h : Nat) (H : gz_r a s) : gz_c a s p h 0 := fun k hk => ⟨(H k hk).2, fun z => absurd z (Nat.not_lt_zero k), fun _ => (H k hk).1⟩
theorem gz_ch {a : Nat → Int32} {s : Nat → Nat} {p h i : Nat} (H : gz_c a s p h i) (hh : h < 8) : a h = nI (s h) := by
  rcases Nat.lt_or_ge h i with z | z
  · rw [(H h hh).2.1 z, gz_clH rfl]
  · exact (H h hh).2.2 z
theorem gz_cF {a : Nat → Int32} {s : Nat → Nat} {p h i : Nat} (H : gz_c a s p h i) (e : gg_cl s p h i = s i) : gz_c a s p h (i + 1) := by
  intro k hk
  refine ⟨(H k hk).1, fun z => ?_, fun z => (H k hk).2.2 (by omega)⟩
  by_cases y : k = i
  · subst y
    rw [e]
    exact (H k hk).2.2 (Nat.le_refl k)
  · exact (H k hk).2.1 (by omega)
theorem gz_cT {a : Nat → Int32} {s : Nat → Nat} {p h i : Nat} (H : gz_c a s p h i) (hh : h < 8) (hi : i < 8) (e : i ≠ h) (b : (s i).testBit p = true) : gz_c (upd a i (a i ^^^ a h)) s p h (i + 1) := by
  intro k hk
  refine ⟨(H k hk).1, fun z => ?_, fun z => ?_⟩
  · by_cases y : k = i
    · subst y
      rw [pk_us, gz_ch H hh, (H k hk).2.2 (Nat.le_refl k), nx_xor, gz_clT e b]
    · rw [pk_un y]
      exact (H k hk).2.1 (by omega)
  · rw [pk_un (by omega)]
    exact (H k hk).2.2 (by omega)
theorem gz_cE {a : Nat → Int32} {s : Nat → Nat} {p h : Nat} (H : gz_c a s p h 8) (hh : h < 8) : gz_r a (gg_cl s p h) := by
  intro k hk
  refine ⟨(H k hk).2.1 hk, ?_⟩
  by_cases e : k = h
  · rw [gz_clH e]; exact (H k hk).1
  · cases b : (s k).testBit p
    · rw [gz_clF b]; exact (H k hk).1
    · rw [gz_clT e b]; exact Nat.xor_lt_two_pow (H k hk).1 (H h hh).1
theorem gz_N {col r c f : Nat → Nat} {n cc ic pv : Nat} {aI : Nat → Int32} (e : gg_a col n = (r, c, f, cc, ic)) (hp : gg_fi r n (8 - cc) cc = pv) (hv : ¬ pv < 8) (hf : ∀ i, i < ic → aI i = nI (f i)) : ∃ f', gg_a col (n + 1) = (r, c, f', cc, ic + 1) ∧ ∀ i, i < ic + 1 → upd aI ic (nI n) i = nI (f' i) := by
  refine ⟨fun k => cond (Nat.beq k ic) n (f k), ?_, fun i hi => ?_⟩
  · show gg_step (gg_a col n) n = _
    rw [e, gg_stepF hp hv]
  · by_cases z : i = ic
    · subst z
      rw [pk_us]
      exact congrArg nI (gc_ct (gb_t rfl)).symm
    · rw [pk_un z, hf i (by omega)]
      exact congrArg nI (gc_cf (gb_f z)).symm
theorem gz_T {col r c f : Nat → Nat} {n cc ic pv : Nat} {aC : Nat → Int32} (e : gg_a col n = (r, c, f, cc, ic)) (hp : gg_fi r n (8 - cc) cc = pv) (hv : pv < 8) (hc : ∀ i, i < cc → aC i = nI (c i)) : ∃ r' c', gg_a col (n + 1) = (r', c', f, cc + 1, ic) ∧ (∀ k, k < 8 → r' k = gg_cl (gg_sw r pv cc) n cc k) ∧ ∀ i, i < cc + 1 → upd aC cc (nI n) i = nI (c' i) := by
  obtain ⟨r', hr', er⟩ := gg_stepT (c := c) (f := f) (ic := ic) hp hv
  refine ⟨r', fun k => cond (Nat.beq k cc) n (c k), ?_, hr', fun i hi => ?_⟩
  · show gg_step (gg_a col n) n = _
    rw [e, er]
  · by_cases z : i = cc
    · subst z
      rw [pk_us]
      exact congrArg nI (gc_ct (gb_t rfl)).symm
    · rw [pk_un z, hc i (by omega)]
      exact congrArg nI (gc_cf (gb_f z)).symm
theorem gz_rc {a : Nat → Int32} {r r' : Nat → Nat} (H : gz_r a r) (h : ∀ k, k < 8 → r' k = r k) : gz_r a r' := fun i hi => by
  rw [h i hi]
  exact H i hi
end
section
/-! the class: field and ring products, inverse, square root, the polynomial -/
theorem wx_fp26 {post : Int32 → Prop} {J : Int32 → Int32 → Int32 → Prop} {a i : Nat} {x1 x2 : Int32} (ha : a < 16) (hJ : J x2 (nI (gh_m a (i + 1))) (nI (i + 1))) : wX_fieldProduct_26 post J x1 x2 (nI (gh_m a i)) (nI i) := by
  have hm := gh_mlt ha i
  have e : nI (gh_m a i) <<< ((1 : Int32) &&& 31) = nI (gh_m a i * 2) := pk_shlN _ 1 (by decide) (by omega)
  refine nm_r e (pk_lt (gh_m a i * 2) 16 (fun z => nm_r (nI_1 i) ?_) (fun z => nm_r (nx_xor (gh_m a i * 2) 19) (nm_r (nI_1 i) ?_)))
  · rw [← gh_mF (by omega)]; exact hJ
  · rw [← gh_mT (by omega)]; exact hJ
theorem wx_fpl {post : Int32 → Prop} {a b : Nat} (ha : a < 16) (hb : b < 16) (h : post (nI (gh_p a b 4))) : ∀ d i, i + d = 4 → wX_fieldProduct_7 post (nI b) (d + 1) (nI (gh_p a b i)) (nI (gh_m a i)) (nI i) := by
  intro d
  induction d with
  | zero =>
    intro i hi
    have : i = 4 := by omega
    subst this
    exact pk_le 4 4 (fun _ => h) (fun z => absurd z (by omega))
  | succ d ih =>
    intro i hi
    refine pk_le 4 i (fun z => absurd z (by omega)) (fun _ => gc_tb (by omega) (by omega) (fun hb => wx_fp26 ha ?_) (fun hb => nm_r (nx_xor _ _) (wx_fp26 ha ?_)))
    · rw [← gh_pF hb]; exact ih (i + 1) (by omega)
    · rw [← gh_pT hb]; exact ih (i + 1) (by omega)
theorem wx_fp {post : Int32 → Prop} {x y : Int32} (a b : Nat) (hx : x = nI a) (hy : y = nI b) (ha : a < 16) (hb : b < 16) (h : post (nI (gf_p a b))) : wpX_fieldProduct post x y := by
  subst hx hy
  rw [← gh_pe a ha b hb] at h
  exact ⟨_, wx_fpl ha hb h 4 0 rfl⟩
theorem wx_rtl {post : Int32 → Prop} {c : Nat} (hc : c < 256) (h : post (nI (gr_rt (c / 16) (c % 16)).toNat)) : ∀ d z, z + d = 16 → (∀ y, y < z → Nat.beq (gf_p y y ^^^ gf_p (c / 16) y ^^^ (c % 16)) 0 = false) → wX_hasRoot_2 post (nI c) (d + 1) (nI z) := by
  intro d
  induction d with
  | zero =>
    intro z hz hn
    have : z = 16 := by omega
    subst this
    rw [show gr_rt (c / 16) (c % 16) = false from gc_ex_f hn] at h
    exact pk_le 16 16 (fun _ => h) (fun z => absurd z (by omega))
  | succ d ih =>
    intro z hz hn
    refine pk_le 16 z (fun z => absurd z (by omega)) (fun _ => wx_fp z z rfl rfl (by omega) (by omega) ⟨by decide, wx_fp (c / 16) z (gp_d16 (by omega)) rfl (by omega) (by omega) ⟨by decide, ?_⟩⟩)
    have hl : gf_p z z ^^^ gf_p (c / 16) z ^^^ (c % 16) < 16 := gx_lt (gx_lt (gf_lt _ _) (gf_lt _ _)) (by omega)
    have e : (nI (gf_p z z) ^^^ nI (gf_p (c / 16) z)) ^^^ (nI c - nI c / 16 * 16) = nI (gf_p z z ^^^ gf_p (c / 16) z ^^^ (c % 16)) := by
      rw [gp_r16 (by omega), nx_xor, nx_xor]
    refine pk_eq (gf_p z z ^^^ gf_p (c / 16) z ^^^ (c % 16)) 0 (fun y => ?_) (fun y => nm_r (nI_1 z) (ih (z + 1) (by omega) (fun w hw => ?_))) e rfl
    · rw [show gr_rt (c / 16) (c % 16) = true from gc_ex_t (p := fun z => Nat.beq (gf_p z z ^^^ gf_p (c / 16) z ^^^ (c % 16)) 0) (show z < 16 by omega) (gb_t y)] at h
      exact h
    · by_cases q : w = z
      · subst q; exact gb_f y
      · exact hn w (by omega)
theorem wx_rt {post : Int32 → Prop} {c : Nat} (hc : c < 256) (h : post (nI (gr_rt (c / 16) (c % 16)).toNat)) : wpX_hasRoot post (nI c) :=
  ⟨_, wx_rtl hc h 16 0 rfl (fun y hy => absurd hy (Nat.not_lt_zero y))⟩
theorem wx_fwl {post : Int32 → Prop} {c t0 : Nat} (hc : c < 256) (ht : t0 < 256) (h0 : gr_rt ((c + t0) % 256 / 16) ((c + t0) % 256 % 16) = false) (hl : ∀ i, i < t0 → gr_rt ((c + i) % 256 / 16) ((c + i) % 256 % 16) = true) (h : post (nI ((c + t0) % 256))) : ∀ d t, t + d = t0 → wX_firstWithoutRoot_2 post (nI c) (d + 1) (nI t) := by
  intro d
  induction d with
  | zero =>
    intro t ht'
    have : t = t0 := by omega
    subst this
    have e : (nI c + nI t) - (nI c + nI t) / 256 * 256 = nI ((c + t) % 256) := by rw [nI_add]; exact gp_r256 (by omega)
    exact pk_le 256 t (fun z => absurd z (by omega)) (fun _ => ⟨by decide, nm_r e (wx_rt (Nat.mod_lt _ (by decide)) (gc_tb' rfl (fun _ => h) (fun q => by rw [h0] at q; cases q)))⟩)
  | succ d ih =>
    intro t ht'
    have e : (nI c + nI t) - (nI c + nI t) / 256 * 256 = nI ((c + t) % 256) := by rw [nI_add]; exact gp_r256 (by omega)
    have hb := hl t (by omega)
    exact pk_le 256 t (fun z => absurd z (by omega)) (fun _ => ⟨by decide, nm_r e (wx_rt (Nat.mod_lt _ (by decide)) (gc_tb' rfl (fun q => by rw [hb] at q; cases q) (fun _ => nm_r (nI_1 t) (ih (t + 1) (by omega)))))⟩)
theorem wx_fw {post : Int32 → Prop} {c t0 : Nat} (hc : c < 256) (ht : t0 < 256) (h0 : gr_rt ((c + t0) % 256 / 16) ((c + t0) % 256 % 16) = false) (hl : ∀ i, i < t0 → gr_rt ((c + i) % 256 / 16) ((c + i) % 256 % 16) = true) (h : post (nI ((c + t0) % 256))) : wpX_firstWithoutRoot post (nI c) :=
  ⟨_, wx_fwl hc ht h0 hl h t0 0 (Nat.zero_add t0)⟩
section
variable {lt ct fs cc ic ms em rc de fo : Int32} {aP aR aC aI : Nat → Int32}
theorem wx_rp {post : Int32 → Prop} {A B p q : Nat} (hA : A < 16) (hB : B < 16) (hp : p < 256) (hq : q < 256) (h : post (nI (gr_p A B p q))) : wpX_ringProduct post (nI A, nI B, fs, cc, ic, ms, em, rc, de, fo, aP, aR, aC, aI) (nI p) (nI q) := by
  refine ⟨by decide, nm_r (gp_d16 (w := p) (by omega)) ⟨by decide, nm_r (gp_r16 (w := p) (by omega)) ⟨by decide, nm_r (gp_d16 (w := q) (by omega)) ⟨by decide, nm_r (gp_r16 (w := q) (by omega)) ?_⟩⟩⟩⟩
  refine wx_fp (p / 16) (q / 16) rfl rfl (by omega) (by omega) ?_
  refine wx_fp (p / 16) (q % 16) rfl rfl (by omega) (by omega) ?_
  refine wx_fp (p % 16) (q / 16) rfl rfl (by omega) (by omega) ?_
  refine wx_fp (gf_p (p / 16) (q / 16)) A rfl rfl (gf_lt _ _) hA ?_
  refine nm_r (show _ = nI (gr_1 A (p / 16) (p % 16) (q / 16) (q % 16)) by rw [nx_xor, nx_xor] <;> rfl) ?_
  refine wx_fp (p % 16) (q % 16) rfl rfl (by omega) (by omega) ?_
  refine wx_fp (gf_p (p / 16) (q / 16)) B rfl rfl (gf_lt _ _) hB ?_
  refine nm_r (show _ = nI (gr_0 B (p / 16) (p % 16) (q / 16) (q % 16)) by rw [nx_xor] <;> rfl) ?_
  have e : nI (gr_1 A (p / 16) (p % 16) (q / 16) (q % 16)) * 16 + nI (gr_0 B (p / 16) (p % 16) (q / 16) (q % 16)) = nI (gr_p A B p q) := by
    rw [show (16 : Int32) = nI 16 from rfl, pk_mul, nI_add] <;> rfl
  rw [e]
  exact h
theorem wx_invl {post : Int32 → Prop} {A B p : Nat} (hA : A < 16) (hB : B < 16) (hp : p < 256) (h : post (nI (gr_v A B p 7))) : ∀ d k, k + d = 7 → wX_inverseOf_7 post (nI A) (nI B) fs cc ic ms em rc de fo aP aR aC aI (d + 1) (nI (gr_i A B k p)) (nI (gr_v A B p k)) (nI (k + 1)) := by
  intro d
  induction d with
  | zero =>
    intro k hk
    have : k = 7 := by omega
    subst this
    exact pk_le 8 8 (fun _ => h) (fun z => absurd z (by omega))
  | succ d ih =>
    intro k hk
    have e := ih (k + 1) (by omega)
    rw [gr_vS, gr_iS] at e
    exact pk_le 8 (k + 1) (fun z => absurd z (by omega)) (fun _ => wx_rp hA hB (gr_ilt A B hp k) (gr_ilt A B hp k) (wx_rp hA hB (gr_vlt A B p k) (gr_lt _ _ _ _) (nm_r (nI_1 (k + 1)) e)))
theorem wx_inv {post : Int32 → Prop} {A B : Nat} {x : Int32} (p : Nat) (hx : x = nI p) (hA : A < 16) (hB : B < 16) (hp : p < 256) (h : post (nI (gr_v A B p 7))) : wpX_inverseOf post (nI A, nI B, fs, cc, ic, ms, em, rc, de, fo, aP, aR, aC, aI) x := by
  subst hx
  exact ⟨_, wx_invl hA hB hp h 7 0 rfl⟩
theorem wx_sql {post : Int32 → Prop} {A B p : Nat} (hA : A < 16) (hB : B < 16) (hp : p < 256) (h : post (nI (gr_i A B 7 p))) : ∀ d k, k + d = 7 → wX_squareRootOf_4 post (nI A) (nI B) fs cc ic ms em rc de fo aP aR aC aI (d + 1) (nI (gr_i A B k p)) (nI (k + 1)) := by
  intro d
  induction d with
  | zero =>
    intro k hk
    have : k = 7 := by omega
    subst this
    exact pk_le 8 8 (fun _ => h) (fun z => absurd z (by omega))
  | succ d ih =>
    intro k hk
    have e := ih (k + 1) (by omega)
    rw [gr_iS] at e
    exact pk_le 8 (k + 1) (fun z => absurd z (by omega)) (fun _ => wx_rp hA hB (gr_ilt A B hp k) (gr_ilt A B hp k) (nm_r (nI_1 (k + 1)) e))
theorem wx_sq {post : Int32 → Prop} {A B p : Nat} (hA : A < 16) (hB : B < 16) (hp : p < 256) (h : post (nI (gr_i A B 7 p))) : wpX_squareRootOf post (nI A, nI B, fs, cc, ic, ms, em, rc, de, fo, aP, aR, aC, aI) (nI p) :=
  ⟨_, wx_sql hA hB hp h 7 0 rfl⟩
theorem wx_sup {post : Int32 → Prop} {s j : Nat} (hs : s < 16) (hj : j < 12) (h : post (nI ((s + j) % 16))) : wpX_supportAt post (lt, ct, nI s, cc, ic, ms, em, rc, de, fo, aP, aR, aC, aI) (nI j) := by
  have e : (nI s + nI j) - (nI s + nI j) / 16 * 16 = nI ((s + j) % 16) := by rw [nI_add]; exact gp_r16 (by omega)
  refine ⟨by decide, ?_⟩
  rw [e]
  exact h
end
end
section
/-! the class: what the constructor fills -/
section
variable {lt ct fs cc ic ms em rc de fo : Int32} {aP aR aC aI : Nat → Int32}
theorem wx_fpsl {post : SX → Prop} {A B s : Nat} (hA : A < 16) (hB : B < 16) (hs : s < 16) (h : ∀ aP', (∀ i, i < 12 → aP' i = nI (gg_col A B s i)) → post (nI A, nI B, nI s, cc, ic, ms, em, rc, de, fo, aP', aR, aC, aI)) : ∀ d j aP, j + d = 12 → (∀ i, i < j → aP i = nI (gg_col A B s i)) → wX_fillPositionSyndromes_2 post (nI A) (nI B) (nI s) cc ic ms em rc de fo (d + 1) (nI j) aP aR aC aI := by
  intro d
  induction d with
  | zero =>
    intro j aP hj hi
    have : j = 12 := by omega
    subst this
    exact pk_le 12 12 (fun _ => h aP hi) (fun z => absurd z (by omega))
  | succ d ih =>
    intro j aP hj hi
    have e : (16 : Int32) + nI ((s + j) % 16) = nI (16 + (s + j) % 16) := nI_add 16 _
    refine pk_le 12 j (fun z => absurd z (by omega)) (fun _ => wx_sup hs (by omega) (wx_inv (16 + (s + j) % 16) e hA hB (by omega) ⟨vp_in_nI (by omega) (by omega), nm_r (show _ = upd aP j (nI (gr_v A B (16 + (s + j) % 16) 7)) by rw [nI_clamp (by omega)]) (nm_r (nI_1 j) (ih (j + 1) _ (by omega) (fun i hi' => ?_)))⟩))
    by_cases q : i = j
    · subst q; rw [pk_us] <;> rfl
    · rw [pk_un q]; exact hi i (by omega)
theorem wx_fps {post : SX → Prop} {A B s : Nat} (hA : A < 16) (hB : B < 16) (hs : s < 16) (h : ∀ aP', (∀ i, i < 12 → aP' i = nI (gg_col A B s i)) → post (nI A, nI B, nI s, cc, ic, ms, em, rc, de, fo, aP', aR, aC, aI)) : wpX_fillPositionSyndromes post (nI A, nI B, nI s, cc, ic, ms, em, rc, de, fo, aP, aR, aC, aI) :=
  ⟨_, wx_fpsl hA hB hs h 12 0 aP rfl (fun i hi => absurd hi (Nat.not_lt_zero i))⟩
theorem wx_fr12 {post : SX → Prop} {J : Int32 → (Nat → Int32) → (Nat → Int32) → (Nat → Int32) → (Nat → Int32) → Prop} {col : Nat → Nat} {b : Nat} (hb : b < 8) (hc : ∀ j, j < 12 → aP j = nI (col j) ∧ col j < 2 ^ 8) (hJ : J (nI (b + 1)) aP (upd aR b (nI (gg_r col b))) aC aI) : ∀ d i, i + d = 12 → wX_fillRows_12 post J (nI b) lt ct fs cc ic ms em rc de fo aP aR aC aI (d + 1) (nI (gs_o 0 (fun j => (col j).testBit b) (fun j => j) i)) (nI i) := by
  intro d
  induction d with
  | zero =>
    intro i hi
    have : i = 12 := by omega
    subst this
    exact pk_le 12 12 (fun _ => ⟨vp_in_nI (by omega) (by omega), nm_r (show _ = upd aR b (nI (gg_r col b)) by rw [nI_clamp (by omega)] <;> rfl) (nm_r (nI_1 b) hJ)⟩) (fun z => absurd z (by omega))
  | succ d ih =>
    intro i hi
    have e : nI (gs_o 0 (fun j => (col j).testBit b) (fun j => j) i) ||| (((aP (nI i).toNatClampNeg >>> (nI b &&& 31)) &&& 1) <<< (nI i &&& 31)) = nI (gs_o 0 (fun j => (col j).testBit b) (fun j => j) (i + 1)) := by
      rw [nI_clamp (by omega), (hc i (by omega)).1]
      exact gp_or (gp_s8 (hc i (by omega)).2) (by omega) (by omega)
    exact pk_le 12 i (fun z => absurd z (by omega)) (fun _ => ⟨vp_in_nI (by omega) (by omega), nm_r e (nm_r (nI_1 i) (ih (i + 1) (by omega)))⟩)
theorem wx_frl {post : SX → Prop} {col : Nat → Nat} (hc : ∀ j, j < 12 → aP j = nI (col j) ∧ col j < 2 ^ 8) (h : ∀ aR', (∀ i, i < 8 → aR' i = nI (gg_r col i)) → post (lt, ct, fs, cc, ic, ms, em, rc, de, fo, aP, aR', aC, aI)) : ∀ d b aR, b + d = 8 → (∀ i, i < b → aR i = nI (gg_r col i)) → wX_fillRows_2 post lt ct fs cc ic ms em rc de fo (d + 1) (nI b) aP aR aC aI := by
  intro d
  induction d with
  | zero =>
    intro b aR hb hi
    have : b = 8 := by omega
    subst this
    exact pk_le 8 8 (fun _ => h aR hi) (fun z => absurd z (by omega))
  | succ d ih =>
    intro b aR hb hi
    refine pk_le 8 b (fun z => absurd z (by omega)) (fun _ => ⟨_, wx_fr12 (by omega) hc (ih (b + 1) _ (by omega) (fun i hi' => ?_)) 12 0 rfl⟩)
    by_cases q : i = b
    · subst q; rw [pk_us]
    · rw [pk_un q]; exact hi i (by omega)
theorem wx_fr {post : SX → Prop} {col : Nat → Nat} (hc : ∀ j, j < 12 → aP j = nI (col j) ∧ col j < 2 ^ 8) (h : ∀ aR', (∀ i, i < 8 → aR' i = nI (gg_r col i)) → post (lt, ct, fs, cc, ic, ms, em, rc, de, fo, aP, aR', aC, aI)) : wpX_fillRows post (lt, ct, fs, cc, ic, ms, em, rc, de, fo, aP, aR, aC, aI) :=
  ⟨_, wx_frl hc h 8 0 aR rfl (fun i hi => absurd hi (Nat.not_lt_zero i))⟩
theorem wx_unl {post : Int32 → Prop} {r : Nat → Nat} {p : Nat} (H : gz_r aR r) (hp : p < 12) : ∀ d i, i + d = 8 → (gg_fi r p d i < 8 → post (nI (gg_fi r p d i))) → (¬ gg_fi r p d i < 8 → post (-1)) → wX_unusedRowWith_5 post (nI p) lt ct fs cc ic ms em rc de fo aP aR aC aI (d + 1) (nI i) := by
  intro d
  induction d with
  | zero =>
    intro i hi _ h2
    have : i = 8 := by omega
    subst this
    exact pk_le 8 8 (fun _ => h2 (Nat.lt_irrefl 8)) (fun z => absurd z (by omega))
  | succ d ih =>
    intro i hi h1 h2
    have e : (aR (nI i).toNatClampNeg >>> (nI p &&& 31)) &&& 1 = nI ((r i).testBit p).toNat := by
      rw [nI_clamp (by omega), (H i (by omega)).1]
      exact gc_bitb (gp_s12 (H i (by omega)).2) (by omega)
    refine pk_le 8 i (fun z => absurd z (by omega)) (fun _ => ⟨vp_in_nI (by omega) (by omega), gc_tb' e (fun hb => nm_r (nI_1 i) ?_) (fun hb => ?_)⟩)
    · have e2 : gg_fi r p (d + 1) i = gg_fi r p d (i + 1) := gc_cf hb
      rw [e2] at h1 h2
      exact ih (i + 1) (by omega) h1 h2
    · have e2 : gg_fi r p (d + 1) i = i := gc_ct hb
      rw [e2] at h1
      exact h1 (by omega)
theorem wx_un {post : Int32 → Prop} {r : Nat → Nat} {p n : Nat} (H : gz_r aR r) (hp : p < 12) (hn : n ≤ 8) (h1 : gg_fi r p (8 - n) n < 8 → post (nI (gg_fi r p (8 - n) n))) (h2 : ¬ gg_fi r p (8 - n) n < 8 → post (-1)) : wpX_unusedRowWith post (lt, ct, fs, nI n, ic, ms, em, rc, de, fo, aP, aR, aC, aI) (nI p) :=
  ⟨_, wx_unl H hp (8 - n) n (by omega) h1 h2⟩
theorem wx_sw {post : SX → Prop} {p h : Nat} (hp : p < 8) (hh : h < 8) (H : post (lt, ct, fs, cc, ic, ms, em, rc, de, fo, aP, upd (upd aR p (aR h)) h (aR p), aC, aI)) : wpX_swapRows post (lt, ct, fs, cc, ic, ms, em, rc, de, fo, aP, aR, aC, aI) (nI p) (nI h) := by
  refine ⟨vp_in_nI hp (by omega), nm_r (show _ = aR p by rw [nI_clamp (by omega)]) ⟨vp_in_nI hh (by omega), vp_in_nI hp (by omega), nm_r (show _ = upd aR p (aR h) by rw [nI_clamp (by omega), nI_clamp (by omega)]) ⟨vp_in_nI hh (by omega), nm_r (show _ = upd (upd aR p (aR h)) h (aR p) by rw [nI_clamp (by omega)]) H⟩⟩⟩
theorem wx_cll {post : SX → Prop} {s : Nat → Nat} {p h : Nat} (hp : p < 12) (hh : h < 8) (H : ∀ aR', gz_r aR' (gg_cl s p h) → post (lt, ct, fs, cc, ic, ms, em, rc, de, fo, aP, aR', aC, aI)) : ∀ d i aR, i + d = 8 → gz_c aR s p h i → wX_clearInOtherRows_2 post (nI p) (nI h) lt ct fs cc ic ms em rc de fo (d + 1) (nI i) aP aR aC aI := by
  intro d
  induction d with
  | zero =>
    intro i aR hi hc
    have : i = 8 := by omega
    subst this
    exact pk_le 8 8 (fun _ => H aR (gz_cE hc hh)) (fun z => absurd z (by omega))
  | succ d ih =>
    intro i aR hi hc
    have e0 := (hc i (by omega)).2.2 (Nat.le_refl i)
    have e : (aR (nI i).toNatClampNeg >>> (nI p &&& 31)) &&& 1 = nI ((s i).testBit p).toNat := by
      rw [nI_clamp (by omega), e0]
      exact gc_bitb (gp_s12 (hc i (by omega)).1) (by omega)
    have e1 : upd aR (nI i).toNatClampNeg (aR (nI i).toNatClampNeg ^^^ aR (nI h).toNatClampNeg) = upd aR i (aR i ^^^ aR h) := by
      rw [nI_clamp (by omega), nI_clamp (by omega)]
    exact pk_le 8 i (fun z => absurd z (by omega)) (fun _ => pk_eq i h
      (fun y => nm_r (nI_1 i) (ih (i + 1) aR (by omega) (gz_cF hc (gz_clH y))))
      (fun y => ⟨vp_in_nI (by omega) (by omega), gc_tb' e
        (fun hb => nm_r (nI_1 i) (ih (i + 1) aR (by omega) (gz_cF hc (gz_clF hb))))
        (fun hb => ⟨vp_in_nI (by omega) (by omega), vp_in_nI hh (by omega), vp_in_nI (by omega) (by omega), nm_r e1 (nm_r (nI_1 i) (ih (i + 1) _ (by omega) (gz_cT hc hh (by omega) y hb)))⟩)⟩))
theorem wx_cl {post : SX → Prop} {s : Nat → Nat} {p h : Nat} (hp : p < 12) (hh : h < 8) (hs : gz_r aR s) (H : ∀ aR', gz_r aR' (gg_cl s p h) → post (lt, ct, fs, cc, ic, ms, em, rc, de, fo, aP, aR', aC, aI)) : wpX_clearInOtherRows post (lt, ct, fs, cc, ic, ms, em, rc, de, fo, aP, aR, aC, aI) (nI p) (nI h) :=
  ⟨_, wx_cll hp hh H 8 0 aR rfl (gz_c0 p h hs)⟩
/-- the elimination, position by position -/
theorem wx_rrl {post : SX → Prop} {col : Nat → Nat} {r9 c9 f9 : Nat → Nat} (e9 : gg_a col 12 = (r9, c9, f9, 8, 4))
    (H : ∀ aR' aC' aI', gz_r aR' r9 → (∀ i, i < 8 → aC' i = nI (c9 i)) → (∀ i, i < 4 → aI' i = nI (f9 i)) → post (lt, ct, fs, nI 8, nI 4, ms, em, rc, de, fo, aP, aR', aC', aI')) :
    ∀ d n aR aC aI r c f ncc nic, n + d = 12 → gg_a col n = (r, c, f, ncc, nic) → gz_r aR r → (∀ i, i < ncc → aC i = nI (c i)) → (∀ i, i < nic → aI i = nI (f i)) → ncc ≤ 8 → nic ≤ n → wX_reduceRows_12 post (d + 1) (nI n) lt ct fs (nI ncc) (nI nic) ms em rc de fo aP aR aC aI := by
  intro d
  induction d with
  | zero =>
    intro n aR aC aI r c f ncc nic hn e hr hc hf _ _
    have : n = 12 := by omega
    subst this
    rw [e9] at e
    cases e
    exact pk_le 12 12 (fun _ => H aR aC aI hr hc hf) (fun z => absurd z (by omega))
  | succ d ih =>
    intro n aR aC aI r c f ncc nic hn e hr hc hf h8 hi
    refine pk_le 12 n (fun z => absurd z (by omega)) (fun _ => wx_un hr (by omega) h8 (fun hv => ?_) (fun hv => ?_))
    · have hge := gg_fige r n (8 - ncc) ncc
      obtain ⟨r', c', e', hr', hc'⟩ := gz_T (aC := aC) e rfl hv hc
      have hne : ¬ nI (gg_fi r n (8 - ncc) ncc) = -1 := by
        intro z
        have y : ¬ nI (gg_fi r n (8 - ncc) ncc) < 0 := nI_pos (by omega)
        rw [z] at y
        exact y (by decide)
      refine br_f hne (wx_sw hv (by omega) (wx_cl (by omega) (by omega) (gz_sw hr hv (by omega)) (fun aR' hR' => ⟨vp_in_nI (by omega) (by omega), nm_r (show _ = upd aC ncc (nI n) by rw [nI_clamp (by omega)]) (nm_r (nI_1 ncc) (nm_r (nI_1 n) (ih (n + 1) aR' _ aI r' c' f (ncc + 1) nic (by omega) e' (gz_rc hR' hr') hc' hf (by omega) (by omega))))⟩)))
    · obtain ⟨f', e', hf'⟩ := gz_N (aI := aI) e rfl hv hf
      exact br_t rfl ⟨vp_in_nI (by omega) (by omega), nm_r (show _ = upd aI nic (nI n) by rw [nI_clamp (by omega)]) (nm_r (nI_1 nic) (nm_r (nI_1 n) (ih (n + 1) aR aC _ r c f' ncc (nic + 1) (by omega) e' hr hc hf' h8 (by omega))))⟩
theorem wx_rr {post : SX → Prop} {col : Nat → Nat} {r9 c9 f9 : Nat → Nat} (e9 : gg_a col 12 = (r9, c9, f9, 8, 4)) (hR : ∀ i, i < 8 → aR i = nI (gg_r col i))
    (H : ∀ aR' aC' aI', gz_r aR' r9 → (∀ i, i < 8 → aC' i = nI (c9 i)) → (∀ i, i < 4 → aI' i = nI (f9 i)) → post (lt, ct, fs, nI 8, nI 4, ms, em, rc, de, fo, aP, aR', aC', aI')) : wpX_reduceRows post (lt, ct, fs, cc, ic, ms, em, rc, de, fo, aP, aR, aC, aI) := by
  obtain ⟨r, hr, e⟩ := gg_0e col
  refine ⟨_, wx_rrl e9 H 12 0 aR aC aI r _ _ 0 0 rfl e (fun i hi => ?_) (fun i hi => absurd hi (Nat.not_lt_zero i)) (fun i hi => absurd hi (Nat.not_lt_zero i)) (by omega) (by omega)⟩
  rw [hr i hi]
  exact ⟨hR i hi, gs_olt (by decide) 12 (fun _ h => h)⟩
end
/-- the state that the constructor leaves, in numbers -/
theorem wx_clamp (x : Int32) (g : Nat) (hg : g < 2 ^ 31) : ∃ c, c ≤ g ∧ (x < 0 → c = 0) ∧ (∀ j, j < 2 ^ 31 → x = nI j → c = min j g) ∧ ∀ (post : Int32 → Prop), post (nI c) → wpX_clamp post x (nI g) := by
  rcases gi_of x with h | ⟨j, hj, e⟩
  · refine ⟨0, Nat.zero_le g, fun _ => rfl, fun j hj e => ?_, fun post hp => br_f (Int32.not_le.mpr h) hp⟩
    rw [e] at h
    exact absurd h (nI_pos hj)
  · subst e
    by_cases z : j ≤ g
    · refine ⟨j, z, fun h => absurd h (nI_pos hj), fun k hk e => ?_, fun post hp => br_t (nI_pos' hj) (br_t (nI_le z hg) hp)⟩
      have := (nI_eq hj hk).mp e
      subst this
      omega
    · refine ⟨g, Nat.le_refl g, fun h => absurd h (nI_pos hj), fun k hk e => ?_, fun post hp => br_t (nI_pos' hj) (br_f (nI_ge (by omega) hj) hp)⟩
      have := (nI_eq hj hk).mp e
      subst this
      omega
end
section
/-! the class: syndrome, weight, codeword, message, errors -/
theorem wx_wtl {post : Int32 → Prop} {w : Nat} (hw : w < 2 ^ 31) (h : post (nI (gs_w 12 w))) : ∀ d j, j + d = 12 → wX_weightOf_4 post (nI w) (d + 1) (nI (gs_w j w)) (nI j) := by
  intro d
  induction d with
  | zero =>
    intro j hj
    have : j = 12 := by omega
    subst this
    exact pk_le 12 12 (fun _ => h) (fun z => absurd z (by omega))
  | succ d ih =>
    intro j hj
    have e : nI (gs_w j w) + ((nI w >>> (nI j &&& 31)) &&& 1) = nI (gs_w (j + 1) w) := by
      rw [gc_bitb hw (by omega)]
      exact gp_w w j
    exact pk_le 12 j (fun z => absurd z (by omega)) (fun _ => nm_r e (nm_r (nI_1 j) (ih (j + 1) (by omega))))
theorem wx_wt {post : Int32 → Prop} {x : Int32} (w : Nat) (hx : x = nI w) (hw : w < 2 ^ 31) (h : post (nI (gs_w 12 w))) : wpX_weightOf post x := by
  subst hx
  exact ⟨_, wx_wtl hw h 12 0 rfl⟩
section
variable {lt ct fs cc ic ms em rc de fo : Int32} {aP aR aC aI : Nat → Int32}
theorem wx_synl {post : Int32 → Prop} {col : Nat → Nat} {w : Nat} (hw : w < 2 ^ 12) (hc : ∀ j, j < 12 → aP j = nI (col j)) (h : post (nI (gs_s col 12 w))) : ∀ d j, j + d = 12 → wX_syndromeOf_4 post (nI w) lt ct fs cc ic ms em rc de fo aP aR aC aI (d + 1) (nI (gs_s col j w)) (nI j) := by
  intro d
  induction d with
  | zero =>
    intro j hj
    have : j = 12 := by omega
    subst this
    exact pk_le 12 12 (fun _ => h) (fun z => absurd z (by omega))
  | succ d ih =>
    intro j hj
    have e := ih (j + 1) (by omega)
    refine pk_le 12 j (fun z => absurd z (by omega)) (fun _ => gc_tb (gp_s12 hw) (by omega) (fun hb => nm_r (nI_1 j) ?_) (fun hb => ⟨vp_in_nI (by omega) (by omega), nm_r (show _ = nI (gs_s col (j + 1) w) by rw [nI_clamp (by omega), hc j (by omega), nx_xor, gs_sT hb]) (nm_r (nI_1 j) e)⟩))
    rw [gs_sF hb] at e
    exact e
theorem wx_syn {post : Int32 → Prop} {col : Nat → Nat} {x : Int32} (w : Nat) (hx : x = nI w) (hw : w < 2 ^ 12) (hc : ∀ j, j < 12 → aP j = nI (col j)) (h : post (nI (gs_s col 12 w))) : wpX_syndromeOf post (lt, ct, fs, cc, ic, ms, em, rc, de, fo, aP, aR, aC, aI) x := by
  subst hx
  exact ⟨_, wx_synl hw hc h 12 0 rfl⟩
theorem wx_cw38 {post : Int32 → Prop} {r c f : Nat → Nat} {m : Nat} (hr : ∀ i, i < 8 → aR i = nI (r i) ∧ aC i = nI (c i) ∧ c i < 12) (hw : gk_iw f m < 2 ^ 12) (h : post (nI (gk_cw r c f m))) : ∀ d i, i + d = 8 → wX_codewordOf_38 post (nI (gk_iw f m)) lt ct fs (nI 8) ic ms em rc de fo aP aR aC aI (d + 1) (nI (gs_o (gk_iw f m) (fun i => gs_q 12 (r i &&& gk_iw f m)) c i)) (nI i) := by
  intro d
  induction d with
  | zero =>
    intro i hi
    have : i = 8 := by omega
    subst this
    exact pk_le 8 8 (fun _ => h) (fun z => absurd z (by omega))
  | succ d ih =>
    intro i hi
    have e1 : aR (nI i).toNatClampNeg &&& nI (gk_iw f m) = nI (r i &&& gk_iw f m) := by
      rw [nI_clamp (by omega), (hr i (by omega)).1, nx_and]
    have e2 : nI (gs_o (gk_iw f m) (fun i => gs_q 12 (r i &&& gk_iw f m)) c i) ||| (nI (gs_q 12 (r i &&& gk_iw f m)).toNat <<< (aC (nI i).toNatClampNeg &&& 31)) = nI (gs_o (gk_iw f m) (fun i => gs_q 12 (r i &&& gk_iw f m)) c (i + 1)) := by
      have h3 := (hr i (by omega)).2.2
      rw [nI_clamp (by omega), (hr i (by omega)).2.1]
      exact gp_orb (by omega)
    exact pk_le 8 i (fun z => absurd z (by omega)) (fun _ => ⟨vp_in_nI (by omega) (by omega), wx_wt (r i &&& gk_iw f m) e1 (gp_s12 (Nat.and_lt_two_pow _ hw)) (nm_r (gp_par _) ⟨vp_in_nI (by omega) (by omega), nm_r e2 (nm_r (nI_1 i) (ih (i + 1) (by omega)))⟩)⟩)
theorem wx_cwl {post : Int32 → Prop} {r c f : Nat → Nat} {m : Nat} (hm : m < 16) (hr : ∀ i, i < 8 → aR i = nI (r i) ∧ aC i = nI (c i) ∧ c i < 12) (hf : ∀ i, i < 4 → aI i = nI (f i) ∧ f i < 12) (hw : gk_iw f m < 2 ^ 12) (h : post (nI (gk_cw r c f m))) : ∀ d i, i + d = 4 → wX_codewordOf_4 post (nI m) lt ct fs (nI 8) (nI 4) ms em rc de fo aP aR aC aI (d + 1) (nI (gs_o 0 (fun i => m.testBit i) f i)) (nI i) := by
  intro d
  induction d with
  | zero =>
    intro i hi
    have : i = 4 := by omega
    subst this
    exact pk_le 4 4 (fun _ => ⟨_, wx_cw38 hr hw h 8 0 rfl⟩) (fun z => absurd z (by omega))
  | succ d ih =>
    intro i hi
    have e2 : nI (gs_o 0 (fun i => m.testBit i) f i) ||| (((nI m >>> (nI i &&& 31)) &&& 1) <<< (aI (nI i).toNatClampNeg &&& 31)) = nI (gs_o 0 (fun i => m.testBit i) f (i + 1)) := by
      have h3 := (hf i (by omega)).2
      rw [nI_clamp (by omega), (hf i (by omega)).1]
      exact gp_or (by omega) (by omega) (by omega)
    exact pk_le 4 i (fun z => absurd z (by omega)) (fun _ => ⟨vp_in_nI (by omega) (by omega), nm_r e2 (nm_r (nI_1 i) (ih (i + 1) (by omega)))⟩)
theorem wx_cw {post : Int32 → Prop} {r c f : Nat → Nat} {m : Nat} (hm : m < 16) (hr : ∀ i, i < 8 → aR i = nI (r i) ∧ aC i = nI (c i) ∧ c i < 12) (hf : ∀ i, i < 4 → aI i = nI (f i) ∧ f i < 12) (hw : gk_iw f m < 2 ^ 12) (h : post (nI (gk_cw r c f m))) : wpX_codewordOf post (lt, ct, fs, nI 8, nI 4, ms, em, rc, de, fo, aP, aR, aC, aI) (nI m) :=
  ⟨_, wx_cwl hm hr hf hw h 4 0 rfl⟩
theorem wx_mil {post : Int32 → Prop} {f : Nat → Nat} {w : Nat} (hw : w < 2 ^ 12) (hf : ∀ i, i < 4 → aI i = nI (f i) ∧ f i < 12) (h : post (nI (gk_ex f 4 w))) : ∀ d i, i + d = 4 → wX_messageIn_4 post (nI w) lt ct fs cc (nI 4) ms em rc de fo aP aR aC aI (d + 1) (nI (gk_ex f i w)) (nI i) := by
  intro d
  induction d with
  | zero =>
    intro i hi
    have : i = 4 := by omega
    subst this
    exact pk_le 4 4 (fun _ => h) (fun z => absurd z (by omega))
  | succ d ih =>
    intro i hi
    have e2 : nI (gk_ex f i w) ||| (((nI w >>> (aI (nI i).toNatClampNeg &&& 31)) &&& 1) <<< (nI i &&& 31)) = nI (gk_ex f (i + 1) w) := by
      have h3 := (hf i (by omega)).2
      rw [nI_clamp (by omega), (hf i (by omega)).1]
      exact gp_or (gp_s12 hw) (by omega) (by omega)
    exact pk_le 4 i (fun z => absurd z (by omega)) (fun _ => ⟨vp_in_nI (by omega) (by omega), nm_r e2 (nm_r (nI_1 i) (ih (i + 1) (by omega)))⟩)
theorem wx_mi {post : Int32 → Prop} {f : Nat → Nat} {x : Int32} (w : Nat) (hx : x = nI w) (hw : w < 2 ^ 12) (hf : ∀ i, i < 4 → aI i = nI (f i) ∧ f i < 12) (h : post (nI (gk_ex f 4 w))) : wpX_messageIn post (lt, ct, fs, cc, nI 4, ms, em, rc, de, fo, aP, aR, aC, aI) x := by
  subst hx
  exact ⟨_, wx_mil hw hf h 4 0 rfl⟩
theorem wx_er16 {post : Int32 → Prop} {J : Int32 → Prop} {col : Nat → Nat} {T i : Nat} (hT : T < 2 ^ 8) (hi : i < 12) (hc : ∀ j, j < 12 → aP j = nI (col j) ∧ col j < 2 ^ 8)
    (h1 : ∀ j, i ≤ j → j < 12 → gs_s col 12 (2 ^ i ||| 2 ^ j) = T → post (nI (2 ^ i ||| 2 ^ j)))
    (hJ : (∀ j, i ≤ j → j < 12 → gs_s col 12 (2 ^ i ||| 2 ^ j) ≠ T) → J (nI (i + 1))) :
    ∀ d j, j + d = 12 → i ≤ j → (∀ k, i ≤ k → k < j → gs_s col 12 (2 ^ i ||| 2 ^ k) ≠ T) → wX_errorsWithSyndrome_16 post J (nI T) (nI i) lt ct fs cc ic ms em rc de fo aP aR aC aI (d + 1) (nI j) := by
  intro d
  induction d with
  | zero =>
    intro j hj _ hn
    have : j = 12 := by omega
    subst this
    exact pk_le 12 12 (fun _ => nm_r (nI_1 i) (hJ hn)) (fun z => absurd z (by omega))
  | succ d ih =>
    intro j hj hij hn
    have hj12 : j < 12 := by omega
    have e : ((1 : Int32) <<< (nI i &&& 31)) ||| ((1 : Int32) <<< (nI j &&& 31)) = nI (2 ^ i ||| 2 ^ j) := by
      rw [gp_one (by omega), gp_one (by omega), gc_or]
    have hs : gs_s col 12 (2 ^ i ||| 2 ^ j) < 2 ^ 8 := gs_lt 12 (fun k hk => (hc k hk).2)
    refine pk_le 12 j (fun z => absurd z (by omega)) (fun _ => nm_r e (wx_syn (2 ^ i ||| 2 ^ j) rfl (gy_t3 i hi j hj12).2 (fun k hk => (hc k hk).1) (pk_eq (gs_s col 12 (2 ^ i ||| 2 ^ j)) T (fun y => h1 j hij hj12 y) (fun y => nm_r (nI_1 j) (ih (j + 1) (by omega) (by omega) (fun k hk hkj => ?_))) rfl rfl (gp_s8 hs) (gp_s8 hT))))
    by_cases q : k = j
    · subst q; exact y
    · exact hn k hk (by omega)
theorem wx_er8 {post : Int32 → Prop} {col : Nat → Nat} {T : Nat} (hT : T < 2 ^ 8) (hc : ∀ j, j < 12 → aP j = nI (col j) ∧ col j < 2 ^ 8)
    (h1 : ∀ i j, i ≤ j → j < 12 → gs_s col 12 (2 ^ i ||| 2 ^ j) = T → post (nI (2 ^ i ||| 2 ^ j)))
    (h2 : (∀ i j, i ≤ j → j < 12 → gs_s col 12 (2 ^ i ||| 2 ^ j) ≠ T) → post (-1)) :
    ∀ d i, i + d = 12 → (∀ k j, k < i → k ≤ j → j < 12 → gs_s col 12 (2 ^ k ||| 2 ^ j) ≠ T) → wX_errorsWithSyndrome_8 post (nI T) lt ct fs cc ic ms em rc de fo aP aR aC aI (d + 1) (nI i) := by
  intro d
  induction d with
  | zero =>
    intro i hi hn
    have : i = 12 := by omega
    subst this
    exact pk_le 12 12 (fun _ => h2 (fun i j hij hj => hn i j (by omega) hij hj)) (fun z => absurd z (by omega))
  | succ d ih =>
    intro i hi hn
    refine pk_le 12 i (fun z => absurd z (by omega)) (fun _ => ⟨_, wx_er16 hT (by omega) hc (fun j => h1 i j) (fun hno => ih (i + 1) (by omega) (fun k j hk hkj hj => ?_)) (12 - i) i (by omega) (Nat.le_refl i) (fun k hk hk' => by omega)⟩)
    by_cases q : k = i
    · subst q; exact hno j hkj hj
    · exact hn k j (by omega) hkj hj
theorem wx_er {post : Int32 → Prop} {col : Nat → Nat} {T : Nat} (hT : T < 2 ^ 8) (hc : ∀ j, j < 12 → aP j = nI (col j) ∧ col j < 2 ^ 8)
    (h1 : ∀ e, e < 4096 → gs_w 12 e ≤ 2 → gs_s col 12 e = T → post (nI e))
    (h2 : (∀ e, e < 4096 → gs_w 12 e ≤ 2 → gs_s col 12 e ≠ T) → post (-1)) : wpX_errorsWithSyndrome post (lt, ct, fs, cc, ic, ms, em, rc, de, fo, aP, aR, aC, aI) (nI T) := by
  refine pk_eq T 0 (fun z => ?_) (fun z => ⟨_, wx_er8 hT hc (fun i j hij hj y => h1 _ (gy_t3 i (by omega) j hj).2 (gy_t3 i (by omega) j hj).1 y) (fun hno => h2 (fun e he hw y => ?_)) 12 0 rfl (fun k j hk => absurd hk (Nat.not_lt_zero k))⟩) rfl rfl (gp_s8 hT)
  · exact h1 0 (by decide) (by decide) (by rw [gs_zero, z])
  · by_cases q : e = 0
    · subst q
      rw [gs_zero] at y
      exact z y.symm
    · obtain ⟨i, j, hij, hj, ee⟩ := gy_w2 he hw q
      subst ee
      exact hno i j hij hj y
end
end
section
/-! the reference: field and ring products, inverse, square root, syndrome, parity, weight -/
section
variable {ya yb ys yk yr yc ym ye yw yd yf : Int32} {aK aW aN aL aD : Nat → Int32}
theorem wy_37s {post : Int32 → Prop} {a d n : Nat} (ha : a < 2 ^ 8) (h4 : 4 ≤ d) (h6 : d ≤ 6) (h : wY_gfMul_37 post ya yb ys yk yr yc ym ye yw yd yf aK aW aN aL aD n (nI (gh_r a d)) (nI (d - 1))) : wY_gfMul_37 post ya yb ys yk yr yc ym ye yw yd yf aK aW aN aL aD (n + 1) (nI a) (nI d) := by
  have em : nI d + (-1) = nI (d - 1) := by
    obtain ⟨k, rfl⟩ : ∃ k, d = k + 1 := ⟨d - 1, by omega⟩
    exact pk_m1 k
  have es : nI d - 4 = nI (d - 4) := pk_sub (b := 4) h4
  have hp : 2 ^ (d - 4) ≤ 2 ^ 2 := Nat.pow_le_pow_right (by decide) (by omega)
  have e : nI a ^^^ ((19 : Int32) <<< ((nI d - 4) &&& 31)) = nI (a ^^^ 19 * 2 ^ (d - 4)) := by
    rw [es, show (19 : Int32) = nI 19 from rfl, gc_shl (by omega) (by omega), nx_xor]
  refine pk_lt d 4 (fun z => absurd z (by omega)) (fun _ => gc_tb (gp_s8 ha) (by omega) (fun hb => nm_r em ?_) (fun hb => nm_r e (nm_r em ?_)))
  · rw [gh_rF hb] at h; exact h
  · rw [gh_rT hb] at h; exact h
theorem wy_37 {post : Int32 → Prop} {a : Nat} (ha : a < 2 ^ 8) (h : post (nI (gh_r (gh_r (gh_r a 6) 5) 4 % 16))) : wY_gfMul_37 post ya yb ys yk yr yc ym ye yw yd yf aK aW aN aL aD 4 (nI a) 6 := by
  have h6 := gh_rlt ha (show 6 ≤ 6 by omega)
  have h5 := gh_rlt h6 (show 5 ≤ 6 by omega)
  have h4 := gh_rlt h5 (show 4 ≤ 6 by omega)
  refine wy_37s (d := 6) ha (by omega) (by omega) (wy_37s (d := 5) h6 (by omega) (by omega) (wy_37s (d := 4) h5 (by omega) (by omega) ?_))
  refine pk_lt 3 4 (fun _ => ?_) (fun z => absurd z (by omega))
  rw [gp_m16 (gp_s8 h4)]
  exact h
theorem wy_5l {post : Int32 → Prop} {x y : Nat} (hx : x < 16) (hy : y < 16) (h : post (nI (gf_p x y))) : ∀ d i, i + d = 4 → wY_gfMul_5 post (nI x) (nI y) ya yb ys yk yr yc ym ye yw yd yf aK aW aN aL aD (d + 1) (nI (gs_s (gh_y x) i y)) (nI i) := by
  intro d
  induction d with
  | zero =>
    intro i hi
    have : i = 4 := by omega
    subst this
    rw [← gh_ye x hx y hy] at h
    exact pk_le 4 4 (fun _ => ⟨4, wy_37 (gh_ylt hx y 4 (by omega)) h⟩) (fun z => absurd z (by omega))
  | succ d ih =>
    intro i hi
    have e := ih (i + 1) (by omega)
    have hp : 2 ^ i ≤ 2 ^ 3 := Nat.pow_le_pow_right (by decide) (by omega)
    have hm : x * 2 ^ i ≤ 15 * 2 ^ 3 := Nat.mul_le_mul (by omega) hp
    refine pk_le 4 i (fun z => absurd z (by omega)) (fun _ => gc_tb (by omega) (by omega) (fun hb => nm_r (nI_1 i) ?_) (fun hb => nm_r (show _ = nI (gs_s (gh_y x) (i + 1) y) by rw [gc_shl (by omega) (by omega), nx_xor, gs_sT hb] <;> rfl) (nm_r (nI_1 i) e)))
    rw [gs_sF hb] at e
    exact e
theorem wy_gf {post : Int32 → Prop} {u v : Int32} (x y : Nat) (hu : u = nI x) (hv : v = nI y) (hx : x < 16) (hy : y < 16) (h : post (nI (gf_p x y))) : wpY_gfMul post (ya, yb, ys, yk, yr, yc, ym, ye, yw, yd, yf, aK, aW, aN, aL, aD) u v := by
  subst hu hv
  exact ⟨_, wy_5l hx hy h 4 0 rfl⟩
theorem wy_rm {post : Int32 → Prop} {A B p q : Nat} (hA : A < 16) (hB : B < 16) (hp : p < 256) (hq : q < 256) (h : post (nI (gr_p A B p q))) : wpY_ringMul post (nI A, nI B, ys, yk, yr, yc, ym, ye, yw, yd, yf, aK, aW, aN, aL, aD) (nI p) (nI q) := by
  have d1 : ∀ w, w < 256 → (nI w >>> ((4 : Int32) &&& 31)) &&& 15 = nI (w / 16) := by
    intro w hw
    rw [gp_sh4 (by omega), gp_m16 (by omega), Nat.mod_eq_of_lt (by omega)]
  refine nm_r (d1 p hp) (nm_r (gp_m16 (w := p) (by omega)) (nm_r (d1 q hq) (nm_r (gp_m16 (w := q) (by omega)) ?_)))
  refine wy_gf (p / 16) (q / 16) rfl rfl (by omega) (by omega) ?_
  refine wy_gf (p / 16) (q % 16) rfl rfl (by omega) (by omega) ?_
  refine wy_gf (p % 16) (q / 16) rfl rfl (by omega) (by omega) ?_
  refine nm_r (nx_xor _ _) ?_
  refine wy_gf (p % 16) (q % 16) rfl rfl (by omega) (by omega) ?_
  refine wy_gf (gf_p (p / 16) (q / 16)) A rfl rfl (gf_lt _ _) hA ?_
  refine nm_r (show _ = nI (gr_1 A (p / 16) (p % 16) (q / 16) (q % 16)) by rw [nx_xor] <;> rfl) ?_
  refine wy_gf (gf_p (p / 16) (q / 16)) B rfl rfl (gf_lt _ _) hB ?_
  refine nm_r (show _ = nI (gr_0 B (p / 16) (p % 16) (q / 16) (q % 16)) by rw [nx_xor] <;> rfl) ?_
  have e : nI (gr_1 A (p / 16) (p % 16) (q / 16) (q % 16)) * 16 + nI (gr_0 B (p / 16) (p % 16) (q / 16) (q % 16)) = nI (gr_p A B p q) := by
    rw [show (16 : Int32) = nI 16 from rfl, pk_mul, nI_add] <;> rfl
  rw [e]
  exact h
theorem wy_invl {post : Int32 → Prop} {A B p : Nat} (hA : A < 16) (hB : B < 16) (hr : gr_rt A B = false) (h0 : 0 < p) (hp : p < 256) (h : post (nI (gr_v A B p 7))) : ∀ d q, q + d = gr_v A B p 7 → 0 < q → wY_ringInverse_19 post (nI p) (nI A) (nI B) ys yk yr yc ym ye yw yd yf aK aW aN aL aD (d + 1) (nI q) := by
  obtain ⟨i1, i2, i3⟩ := gr_inv hA hB hr h0 hp
  have hl := gr_vlt A B p 7
  intro d
  induction d with
  | zero =>
    intro q hq hq0
    have : q = gr_v A B p 7 := by omega
    subst this
    exact pk_le 256 (gr_v A B p 7) (fun z => absurd z (by omega)) (fun _ => wy_rm hA hB hp hl (pk_eq (gr_p A B p (gr_v A B p 7)) 1 (fun _ => h) (fun y => absurd i1 y) rfl rfl (by have := gr_lt A B p (gr_v A B p 7); omega)))
  | succ d ih =>
    intro q hq hq0
    have hl2 := gr_lt A B p q
    exact pk_le 256 q (fun z => absurd z (by omega)) (fun _ => wy_rm hA hB hp (by omega) (pk_eq (gr_p A B p q) 1 (fun y => absurd (i2 q (by omega) y) (by omega)) (fun _ => nm_r (nI_1 q) (ih (q + 1) (by omega) (by omega))) rfl rfl (by omega)))
theorem wy_inv {post : Int32 → Prop} {A B : Nat} {x : Int32} (p : Nat) (hx : x = nI p) (hA : A < 16) (hB : B < 16) (hr : gr_rt A B = false) (h0 : 0 < p) (hp : p < 256) (h : post (nI (gr_v A B p 7))) : wpY_ringInverse post (nI A, nI B, ys, yk, yr, yc, ym, ye, yw, yd, yf, aK, aW, aN, aL, aD) x := by
  subst hx
  have i3 := (gr_inv hA hB hr h0 hp).2.2
  exact pk_lt p 0 (fun z => absurd z (by omega)) (fun _ => pk_lt 255 p (fun z => absurd z (by omega)) (fun _ => pk_eq p 0 (fun z => absurd z (by omega)) (fun _ => ⟨_, wy_invl hA hB hr h0 hp h (gr_v A B p 7 - 1) 1 (by omega) (by omega)⟩)))
theorem wy_sql {post : Int32 → Prop} {A B p : Nat} (hA : A < 16) (hB : B < 16) (hr : gr_rt A B = false) (hp : p < 256) (h : post (nI (gr_i A B 7 p))) : ∀ d q, q + d = gr_i A B 7 p → wY_ringSqrt_15 post (nI p) (nI A) (nI B) ys yk yr yc ym ye yw yd yf aK aW aN aL aD (d + 1) (nI q) := by
  obtain ⟨i1, i2⟩ := gr_sqr hA hB hr hp
  have hl := gr_ilt A B hp 7
  intro d
  induction d with
  | zero =>
    intro q hq
    have : q = gr_i A B 7 p := by omega
    subst this
    exact pk_le 256 (gr_i A B 7 p) (fun z => absurd z (by omega)) (fun _ => wy_rm hA hB hl hl (pk_eq (gr_p A B (gr_i A B 7 p) (gr_i A B 7 p)) p (fun _ => h) (fun y => absurd i1 y) rfl rfl (by have := gr_lt A B (gr_i A B 7 p) (gr_i A B 7 p); omega)))
  | succ d ih =>
    intro q hq
    have hl2 := gr_lt A B q q
    exact pk_le 256 q (fun z => absurd z (by omega)) (fun _ => wy_rm hA hB (by omega) (by omega) (pk_eq (gr_p A B q q) p (fun y => absurd (i2 q (by omega) y) (by omega)) (fun _ => nm_r (nI_1 q) (ih (q + 1) (by omega))) rfl rfl (by omega)))
theorem wy_synl {post : Int32 → Prop} {col : Nat → Nat} {w : Nat} (hw : w < 2 ^ 12) (hc : ∀ j, j < 12 → aK j = nI (col j)) (h : post (nI (gs_s col 12 w))) : ∀ d j, j + d = 12 → wY_syndrome_17 post (nI w) ya yb ys yk yr yc ym ye yw yd yf aK aW aN aL aD (d + 1) (nI (gs_s col j w)) (nI j) := by
  intro d
  induction d with
  | zero =>
    intro j hj
    have : j = 12 := by omega
    subst this
    exact pk_le 12 12 (fun _ => h) (fun z => absurd z (by omega))
  | succ d ih =>
    intro j hj
    have e := ih (j + 1) (by omega)
    refine pk_le 12 j (fun z => absurd z (by omega)) (fun _ => gc_tb (gp_s12 hw) (by omega) (fun hb => nm_r (nI_1 j) ?_) (fun hb => ⟨vp_in_nI (by omega) (by omega), nm_r (show _ = nI (gs_s col (j + 1) w) by rw [nI_clamp (by omega), hc j (by omega), nx_xor, gs_sT hb]) (nm_r (nI_1 j) e)⟩))
    rw [gs_sF hb] at e
    exact e
theorem wy_syn {post : Int32 → Prop} {col : Nat → Nat} {w : Nat} (hw : w < 2 ^ 12) (hc : ∀ j, j < 12 → aK j = nI (col j)) (h : post (nI (gs_s col 12 w))) : wpY_syndrome post (ya, yb, ys, yk, yr, yc, ym, ye, yw, yd, yf, aK, aW, aN, aL, aD) (nI w) := by
  have hw : w < 4096 := hw
  exact pk_lt w 0 (fun z => absurd z (by omega)) (fun _ => pk_le w 4095 (fun _ => ⟨_, wy_synl hw hc h 12 0 rfl⟩) (fun z => absurd z (by omega)))
theorem wy_parl {post : Int32 → Prop} {w : Nat} (hw : w < 2 ^ 31) (h : post (nI (gs_q 12 w).toNat)) : ∀ d j, j + d = 12 → wY_parity_4 post (nI w) ya yb ys yk yr yc ym ye yw yd yf aK aW aN aL aD (d + 1) (nI (gs_q j w).toNat) (nI j) := by
  intro d
  induction d with
  | zero =>
    intro j hj
    have : j = 12 := by omega
    subst this
    exact pk_le 12 12 (fun _ => h) (fun z => absurd z (by omega))
  | succ d ih =>
    intro j hj
    have e : nI (gs_q j w).toNat ^^^ ((nI w >>> (nI j &&& 31)) &&& 1) = nI (gs_q (j + 1) w).toNat := by
      rw [gc_bitb hw (by omega)]
      exact gp_q w j
    exact pk_le 12 j (fun z => absurd z (by omega)) (fun _ => nm_r e (nm_r (nI_1 j) (ih (j + 1) (by omega))))
theorem wy_par {post : Int32 → Prop} {x : Int32} (w : Nat) (hx : x = nI w) (hw : w < 2 ^ 31) (h : post (nI (gs_q 12 w).toNat)) : wpY_parity post (ya, yb, ys, yk, yr, yc, ym, ye, yw, yd, yf, aK, aW, aN, aL, aD) x := by
  subst hx
  exact ⟨_, wy_parl hw h 12 0 rfl⟩
theorem wy_wtl {post : Int32 → Prop} {w : Nat} (hw : w < 2 ^ 31) (h : post (nI (gs_w 12 w))) : ∀ d j, j + d = 12 → wY_weight_4 post (nI w) ya yb ys yk yr yc ym ye yw yd yf aK aW aN aL aD (d + 1) (nI (gs_w j w)) (nI j) := by
  intro d
  induction d with
  | zero =>
    intro j hj
    have : j = 12 := by omega
    subst this
    exact pk_le 12 12 (fun _ => h) (fun z => absurd z (by omega))
  | succ d ih =>
    intro j hj
    have e : nI (gs_w j w) + ((nI w >>> (nI j &&& 31)) &&& 1) = nI (gs_w (j + 1) w) := by
      rw [gc_bitb hw (by omega)]
      exact gp_w w j
    exact pk_le 12 j (fun z => absurd z (by omega)) (fun _ => nm_r e (nm_r (nI_1 j) (ih (j + 1) (by omega))))
theorem wy_wt {post : Int32 → Prop} {w : Nat} (hw : w < 2 ^ 31) (h : post (nI (gs_w 12 w))) : wpY_weight post (ya, yb, ys, yk, yr, yc, ym, ye, yw, yd, yf, aK, aW, aN, aL, aD) (nI w) :=
  ⟨_, wy_wtl hw h 12 0 rfl⟩
theorem wy_lowl {post : Int32 → Prop} {v q : Nat} (hv : v < 2 ^ 12) (hq : q < 12) (hl : gy_lo v q) (h : post (nI q)) : ∀ d j, j + d = q → wY_lowest_2 post (nI v) ya yb ys yk yr yc ym ye yw yd yf aK aW aN aL aD (d + 1) (nI j) := by
  intro d
  induction d with
  | zero =>
    intro j hj
    have : j = q := by omega
    subst this
    exact pk_le 12 j (fun z => absurd z (by omega)) (fun _ => gc_tb (gp_s12 hv) (by omega) (fun hb => by rw [hl.1] at hb; cases hb) (fun _ => h))
  | succ d ih =>
    intro j hj
    have hb' := hl.2 j (by omega)
    exact pk_le 12 j (fun z => absurd z (by omega)) (fun _ => gc_tb (gp_s12 hv) (by omega) (fun _ => nm_r (nI_1 j) (ih (j + 1) (by omega))) (fun hb => by rw [hb'] at hb; cases hb))
theorem wy_low {post : Int32 → Prop} {v q : Nat} (hv : v < 2 ^ 12) (hq : q < 12) (hl : gy_lo v q) (h : post (nI q)) : wpY_lowest post (ya, yb, ys, yk, yr, yc, ym, ye, yw, yd, yf, aK, aW, aN, aL, aD) (nI v) :=
  ⟨_, wy_lowl hv hq hl h q 0 (Nat.zero_add q)⟩
theorem wy_exl {post : Int32 → Prop} {f : Nat → Nat} {w : Nat} (hw : w < 2 ^ 12) (hf : ∀ i, i < 4 → aN i = nI (f i) ∧ f i < 12) (h : post (nI (gk_ex f 4 w))) : ∀ d i, i + d = 4 → wY_extract_4 post (nI w) ya yb ys (nI 4) yr yc ym ye yw yd yf aK aW aN aL aD (d + 1) (nI (gk_ex f i w)) (nI i) := by
  intro d
  induction d with
  | zero =>
    intro i hi
    have : i = 4 := by omega
    subst this
    exact pk_le 4 4 (fun _ => h) (fun z => absurd z (by omega))
  | succ d ih =>
    intro i hi
    have e2 : nI (gk_ex f i w) ||| (((nI w >>> (aN (nI i).toNatClampNeg &&& 31)) &&& 1) <<< (nI i &&& 31)) = nI (gk_ex f (i + 1) w) := by
      have h3 := (hf i (by omega)).2
      rw [nI_clamp (by omega), (hf i (by omega)).1]
      exact gp_or (gp_s12 hw) (by omega) (by omega)
    exact pk_le 4 i (fun z => absurd z (by omega)) (fun _ => ⟨vp_in_nI (by omega) (by omega), nm_r e2 (nm_r (nI_1 i) (ih (i + 1) (by omega)))⟩)
theorem wy_ex {post : Int32 → Prop} {f : Nat → Nat} {x : Int32} (w : Nat) (hx : x = nI w) (hw : w < 2 ^ 12) (hf : ∀ i, i < 4 → aN i = nI (f i) ∧ f i < 12) (h : post (nI (gk_ex f 4 w))) : wpY_extract post (ya, yb, ys, nI 4, yr, yc, ym, ye, yw, yd, yf, aK, aW, aN, aL, aD) x := by
  subst hx
  exact ⟨_, wy_exl hw hf h 4 0 rfl⟩
end
end
section
/-! the reference's constructor -/
theorem wy_nb1 : vp_nar .boolean 1 = 1 := by
  show (1 : Int32) &&& 1 = 1
  decide
theorem wy_nb0 : vp_nar .boolean 0 = 0 := by
  show (0 : Int32) &&& 1 = 0
  decide
section
variable {ya yb ys yk yr yc ym ye yw yd yf : Int32} {aK aW aN aL aD : Nat → Int32}
theorem wy_181 {post : SY → Prop} {J : Int32 → Int32 → Int32 → Int32 → Prop} {x3 x4 x5 : Int32} {ca cb t : Nat} (hca : ca < 16) (hcb : cb < 16)
    (h0 : gr_rt ca cb = false → J 1 (nI (t + 1)) (nI ca) (nI cb)) (h1 : gr_rt ca cb = true → J x5 (nI (t + 1)) ya yb) :
    ∀ d z, z + d = 16 → wY_init_181 post J x3 x4 x5 (nI t) (nI ca) (nI cb) ya yb ys yk yr yc ym ye yw yd yf aK aW aN aL aD (d + 1) (nI (gc_ex z fun z => Nat.beq (gf_p z z ^^^ gf_p ca z ^^^ cb) 0).toNat) (nI z) := by
  intro d
  induction d with
  | zero =>
    intro z hz
    have : z = 16 := by omega
    subst this
    exact pk_le 16 16 (fun _ => gc_tb' (b := gr_rt ca cb) rfl (fun hb => nm_r (nI_1 t) (h0 hb)) (fun hb => nm_r (nI_1 t) (h1 hb))) (fun z => absurd z (by omega))
  | succ d ih =>
    intro z hz
    have e := ih (z + 1) (by omega)
    have hl : gf_p z z ^^^ gf_p ca z ^^^ cb < 16 := gx_lt (gx_lt (gf_lt _ _) (gf_lt _ _)) hcb
    refine pk_le 16 z (fun z => absurd z (by omega)) (fun _ => wy_gf z z rfl rfl (by omega) (by omega) (wy_gf ca z rfl rfl hca (by omega) (nm_r (show _ = nI (gf_p z z ^^^ gf_p ca z ^^^ cb) by rw [nx_xor, nx_xor]) (pk_eq (gf_p z z ^^^ gf_p ca z ^^^ cb) 0 (fun y => nm_r (nI_1 z) ?_) (fun y => nm_r (nI_1 z) ?_)))))
    · rw [show (gc_ex (z + 1) fun z => Nat.beq (gf_p z z ^^^ gf_p ca z ^^^ cb) 0) = true from gc_ex_t (p := fun z => Nat.beq (gf_p z z ^^^ gf_p ca z ^^^ cb) 0) (Nat.lt_succ_self z) (gb_t y)] at e
      exact e
    · have e2 : (gc_ex (z + 1) fun z => Nat.beq (gf_p z z ^^^ gf_p ca z ^^^ cb) 0) = gc_ex z fun z => Nat.beq (gf_p z z ^^^ gf_p ca z ^^^ cb) 0 := by
        show ((gc_ex z fun z => Nat.beq (gf_p z z ^^^ gf_p ca z ^^^ cb) 0) || Nat.beq (gf_p z z ^^^ gf_p ca z ^^^ cb) 0) = _
        rw [gb_f y, Bool.or_false]
      rw [e2] at e
      exact e
theorem wy_139 {post : SY → Prop} {x4 : Int32} {c t0 : Nat} (hc : c < 256) (ht : t0 < 256) (h0 : gr_rt ((c + t0) % 256 / 16) ((c + t0) % 256 % 16) = false) (hl : ∀ i, i < t0 → gr_rt ((c + i) % 256 / 16) ((c + i) % 256 % 16) = true)
    (h : ∃ n, wY_init_253 post x4 (nI ((c + t0) % 256 / 16)) (nI ((c + t0) % 256 % 16)) ys yk yr yc ym ye yw yd yf n 0 aK aW aN aL aD) :
    ∀ d t ya yb, t + d = t0 → wY_init_139 post (nI c) x4 ys yk yr yc ym ye yw yd yf aK aW aN aL aD (d + 2) 0 (nI t) ya yb := by
  have e7 : ∀ t, t < 256 → (nI c + nI t) &&& 255 = nI ((c + t) % 256) := by
    intro t ht
    rw [nI_add]
    exact gp_m256 (by omega)
  have e8 : ∀ t, nI ((c + t) % 256) >>> ((4 : Int32) &&& 31) = nI ((c + t) % 256 / 16) := fun t => gp_sh4 (by omega)
  have e9 : ∀ t, nI ((c + t) % 256) &&& 15 = nI ((c + t) % 256 % 16) := fun t => gp_m16 (by omega)
  intro d
  induction d with
  | zero =>
    intro t ya yb ht'
    have : t = t0 := by omega
    subst this
    refine pk_le 256 t (fun z => absurd z (by omega)) (fun _ => br_t rfl (nm_r (e7 t ht) (nm_r (e8 t) (nm_r (e9 t) ⟨_, wy_181 (by omega) (by omega) (fun _ => ?_) (fun hb => ?_) 16 0 rfl⟩))))
    · exact pk_le 256 (t + 1) (fun _ => h) (fun _ => br_f (by decide) h)
    · rw [h0] at hb; cases hb
  | succ d ih =>
    intro t ya yb ht'
    refine pk_le 256 t (fun z => absurd z (by omega)) (fun _ => br_t rfl (nm_r (e7 t (by omega)) (nm_r (e8 t) (nm_r (e9 t) ⟨_, wy_181 (by omega) (by omega) (fun hb => ?_) (fun hb => ?_) 16 0 rfl⟩))))
    · rw [hl t (by omega)] at hb; cases hb
    · exact ih (t + 1) ya yb (by omega)
theorem wy_253 {post : SY → Prop} {A B s : Nat} (hA : A < 16) (hB : B < 16) (hr : gr_rt A B = false) (hs : s < 16)
    (h : ∀ aK', (∀ i, i < 12 → aK' i = nI (gg_col A B s i)) → ∃ n, wY_init_296 post (nI A) (nI B) ys yk yr ym ye yw yd yf n 0 0 aK' aW aN aL aD) :
    ∀ d j aK, j + d = 12 → (∀ i, i < j → aK i = nI (gg_col A B s i)) → wY_init_253 post (nI s) (nI A) (nI B) ys yk yr yc ym ye yw yd yf (d + 1) (nI j) aK aW aN aL aD := by
  intro d
  induction d with
  | zero =>
    intro j aK hj hi
    have : j = 12 := by omega
    subst this
    exact pk_le 12 12 (fun _ => h aK hi) (fun z => absurd z (by omega))
  | succ d ih =>
    intro j aK hj hi
    have e : (16 : Int32) + ((nI s + nI j) &&& 15) = nI (16 + (s + j) % 16) := by
      rw [nI_add, gp_m16 (by omega)]
      exact nI_add 16 _
    refine pk_le 12 j (fun z => absurd z (by omega)) (fun _ => wy_inv (16 + (s + j) % 16) e hA hB hr (by omega) (by omega) ⟨vp_in_nI (by omega) (by omega), nm_r (show _ = upd aK j (nI (gr_v A B (16 + (s + j) % 16) 7)) by rw [nI_clamp (by omega)]) (nm_r (nI_1 j) (ih (j + 1) _ (by omega) (fun i hi' => ?_)))⟩)
    by_cases q : i = j
    · subst q; rw [pk_us] <;> rfl
    · rw [pk_un q]; exact hi i (by omega)
theorem wy_296 {post : SY → Prop} {col : Nat → Nat} (hc : ∀ j, j < 12 → aK j = nI (col j) ∧ col j < 2 ^ 8)
    (h : ∀ cnt aL', gy_cl col 4096 cnt aL' → ∃ n, wY_init_343 post ya yb ys yk yr (nI cnt) ym ye yw yd yf n 0 aK aW aN aL' aD) :
    ∀ d w cnt aL, w + d = 4096 → gy_cl col w cnt aL → wY_init_296 post ya yb ys yk yr ym ye yw yd yf (d + 1) (nI w) (nI cnt) aK aW aN aL aD := by
  intro d
  induction d with
  | zero =>
    intro w cnt aL hw hi
    have : w = 4096 := by omega
    subst this
    exact pk_le 4096 4096 (fun _ => h cnt aL hi) (fun z => absurd z (by omega))
  | succ d ih =>
    intro w cnt aL hw hi
    have h1 := hi.1
    have hs : gs_s col 12 w < 2 ^ 8 := gs_lt 12 (fun k hk => (hc k hk).2)
    exact pk_le 4096 w (fun z => absurd z (by omega)) (fun _ => wy_syn (show w < 2 ^ 12 by omega) (fun j hj => (hc j hj).1) (pk_eq (gs_s col 12 w) 0
      (fun y => ⟨vp_in_nI (by omega) (by omega), nm_r (show _ = upd aL cnt (nI w) by rw [nI_clamp (by omega)]) (nm_r (nI_1 cnt) (nm_r (nI_1 w) (ih (w + 1) (cnt + 1) _ (by omega) (gy_clT hi y))))⟩)
      (fun y => nm_r (nI_1 w) (ih (w + 1) cnt aL (by omega) (gy_clF hi y))) rfl rfl (gp_s8 hs)))
theorem wy_357 {post : SY → Prop} {J : Int32 → (Nat → Int32) → (Nat → Int32) → (Nat → Int32) → (Nat → Int32) → (Nat → Int32) → Prop} {col : Nat → Nat} {v cnt : Nat} (hv : v < 4096) (hl : gy_cl col 4096 cnt aL)
    (h : ∀ s : Int32, ((s = 1 ∧ gk_dual col v) ∨ (s = 0 ∧ ¬ gk_dual col v)) → J (nI (v + 1)) aK aW aN aL (upd aD v s)) :
    ∀ d i s, i + d = cnt → gy_ok aL v i s → wY_init_357 post J (nI v) ya yb ys yk yr (nI cnt) ym ye yw yd yf aK aW aN aL aD (d + 1) s (nI i) := by
  have hcnt := hl.1
  intro d
  induction d with
  | zero =>
    intro i s hi ho
    have : i = cnt := by omega
    subst this
    have hE := gy_okE hl ho
    have hn : vp_nar .boolean s = s := by
      rcases hE with z | z
      · rw [z.1, wy_nb1]
      · rw [z.1, wy_nb0]
    exact pk_le i i (fun _ => ⟨vp_in_nI hv (by omega), nm_r (show _ = upd aD v s by rw [nI_clamp (by omega), hn]) (nm_r (nI_1 v) (h s hE))⟩) (fun z => absurd z (by omega))
  | succ d ih =>
    intro i s hi ho
    obtain ⟨x, hx, _, ex⟩ := hl.2.2 i (by omega)
    have e : nI v &&& aL (nI i).toNatClampNeg = nI (v &&& x) := by
      rw [nI_clamp (by omega), ex, nx_and]
    refine pk_le cnt i (fun z => absurd z (by omega)) (fun _ => ⟨vp_in_nI (by omega) (by omega), wy_par (v &&& x) e (gp_s12 (Nat.and_lt_two_pow _ hx)) ?_⟩)
    cases hq : gs_q 12 (v &&& x)
    · exact br_f (by decide) (nm_r (nI_1 i) (ih (i + 1) s (by omega) (gy_okF ho hx ex hq)))
    · exact br_t (by decide) (nm_r (nI_1 i) (ih (i + 1) 0 (by omega) (gy_okT hx ex hq)))
theorem wy_343 {post : SY → Prop} {col : Nat → Nat} {cnt : Nat} (hl : gy_cl col 4096 cnt aL)
    (h : ∀ aD', gy_du col aD' 4096 → ∃ n, wY_init_414 post ya yb ys yk yr (nI cnt) ym ye yw yd yf aK aW aN aL aD' n 0 0) :
    ∀ d v aD, v + d = 4096 → gy_du col aD v → wY_init_343 post ya yb ys yk yr (nI cnt) ym ye yw yd yf (d + 1) (nI v) aK aW aN aL aD := by
  intro d
  induction d with
  | zero =>
    intro v aD hv hd
    have : v = 4096 := by omega
    subst this
    exact pk_le 4096 4096 (fun _ => h aD hd) (fun z => absurd z (by omega))
  | succ d ih =>
    intro v aD hv hd
    exact pk_le 4096 v (fun z => absurd z (by omega)) (fun _ => ⟨_, wy_357 (by omega) hl (fun s hs => ih (v + 1) _ (by omega) (gy_duS hd hs)) cnt 0 1 (Nat.zero_add cnt) (gy_ok0 aL v)⟩)
theorem wy_424 {post : SY → Prop} {J : Int32 → Int32 → Prop} {col r c f E : Nat → Nat} {q : Nat} (H : gk_ok col r c f E) (hq : q < 12) (hd : gy_du col aD 4096)
    (h : J (nI (gk_pm c % 2 ^ (q + 1))) (nI (q + 1))) :
    ∀ d v s, v + d = 4096 → 0 < v → gy_pv col c q v s → wY_init_424 post J (nI q) ya yb ys yk yr yc ym ye yw yd yf aK aW aN aL aD (d + 1) s (nI v) := by
  intro d
  induction d with
  | zero =>
    intro v s hv _ hp
    have : v = 4096 := by omega
    subst this
    have e := gy_pvE H hp
    subst e
    exact pk_le 4096 4096 (fun _ => nm_r (nI_1 q) h) (fun z => absurd z (by omega))
  | succ d ih =>
    intro v s hv h0 hp
    have e : aD (nI v).toNatClampNeg = aD v := by rw [nI_clamp (by omega)]
    obtain ⟨p, hp12, hlo⟩ := gy_loE (show v < 2 ^ 12 by omega) h0
    refine pk_le 4096 v (fun z => absurd z (by omega)) (fun _ => ⟨vp_in_nI (by omega) (by omega), ?_⟩)
    rcases hd v (by omega) with ⟨h1, hdu⟩ | ⟨h1, hdu⟩
    · refine br_f (by rw [e, h1]; decide) (wy_low (show v < 2 ^ 12 by omega) hp12 hlo (pk_eq p q (fun y => nm_r (show _ = s ||| nI (2 ^ q) by rw [gp_one (by omega)]) (nm_r (nI_1 v) (ih (v + 1) _ (by omega) (by omega) (gy_pvT H hq (show v < 2 ^ 12 by omega) hp hdu (y ▸ hlo))))) (fun y => nm_r (nI_1 v) (ih (v + 1) s (by omega) (by omega) (gy_pvF hp (fun z => y (gy_loU hlo z.2)))))))
    · exact br_t (by rw [e, h1]) (nm_r (nI_1 v) (ih (v + 1) s (by omega) (by omega) (gy_pvF hp (fun z => hdu z.1))))
theorem wy_414 {post : SY → Prop} {col r c f E : Nat → Nat} (H : gk_ok col r c f E) (hd : gy_du col aD 4096)
    (h : ∃ n, wY_init_482 post (nI (gk_pm c)) ya yb ys yk yc ym ye yw yd yf n 0 0 aK aW aN aL aD) :
    ∀ d q, q + d = 12 → wY_init_414 post ya yb ys yk yr yc ym ye yw yd yf aK aW aN aL aD (d + 1) (nI (gk_pm c % 2 ^ q)) (nI q) := by
  intro d
  induction d with
  | zero =>
    intro q hq
    have : q = 12 := by omega
    subst this
    rw [gy_pm12 H]
    exact pk_le 12 12 (fun _ => h) (fun z => absurd z (by omega))
  | succ d ih =>
    intro q hq
    exact pk_le 12 q (fun z => absurd z (by omega)) (fun _ => ⟨_, wy_424 H (by omega) hd (ih (q + 1) (by omega)) 4095 1 _ rfl (by omega) (gy_pv1 col c q)⟩)
theorem wy_502 {post : SY → Prop} {J : Int32 → Int32 → (Nat → Int32) → (Nat → Int32) → (Nat → Int32) → (Nat → Int32) → (Nat → Int32) → Prop} {col r c f E : Nat → Nat} {n : Nat} (H : gk_ok col r c f E) (hn : n < 8) (hd : gy_du col aD 4096)
    (h : ∀ aW', gy_rv r n 4096 aW' → J (nI (c n + 1)) (nI (n + 1)) aK aW' aN aL aD) :
    ∀ d v aW, v + d = 4096 → 0 < v → gy_rv r n v aW → wY_init_502 post J (nI (gk_pm c)) (nI (c n)) ya yb ys yk (nI n) yc ym ye yw yd yf (d + 1) (nI v) aK aW aN aL aD := by
  have hc := (gk_2 H n hn).2.1
  intro d
  induction d with
  | zero =>
    intro v aW hv _ hp
    have : v = 4096 := by omega
    subst this
    exact pk_le 4096 4096 (fun _ => nm_r (nI_1 n) (nm_r (nI_1 (c n)) (h aW hp))) (fun z => absurd z (by omega))
  | succ d ih =>
    intro v aW hv h0 hp
    have hv12 : v < 2 ^ 12 := by omega
    have e : aD (nI v).toNatClampNeg = aD v := by rw [nI_clamp (by omega)]
    have ea : nI v &&& nI (gk_pm c) = nI (v &&& gk_pm c) := nx_and _ _
    have eo : (1 : Int32) <<< (nI (c n) &&& 31) = nI (2 ^ c n) := gp_one (by omega)
    have hpw : 2 ^ c n < 2 ^ 12 := Nat.pow_lt_pow_right (by decide) hc
    have hi := gy_rvi H hn hv12
    obtain ⟨p, hp12, hlo⟩ := gy_loE hv12 h0
    refine pk_le 4096 v (fun z => absurd z (by omega)) (fun _ => ⟨vp_in_nI (by omega) (by omega), ?_⟩)
    rcases hd v (by omega) with ⟨h1, hdu⟩ | ⟨h1, hdu⟩
    · refine br_f (by rw [e, h1]; decide) (wy_low hv12 hp12 hlo (pk_eq p (c n) (fun y => pk_eq (v &&& gk_pm c) (2 ^ c n) (fun z => ⟨vp_in_nI (by omega) (by omega), ?_⟩) (fun z => nm_r (nI_1 v) (ih (v + 1) aW (by omega) (by omega) (gy_rvF hp (fun w => z (hi.mpr w).2.2)))) ea eo (gp_s12 (Nat.and_lt_two_pow _ (gk_pml H))) (gp_s12 hpw)) (fun y => nm_r (nI_1 v) (ih (v + 1) aW (by omega) (by omega) (gy_rvF hp (fun w => y (gy_loU hlo (hi.mpr w).2.1)))))))
      have hvr := hi.mp ⟨hdu, y ▸ hlo, z⟩
      refine nm_r (show _ = upd aW n (nI v) by rw [nI_clamp (by omega)]) (nm_r (nI_1 v) (ih (v + 1) _ (by omega) (by omega) ?_))
      rw [hvr] at hp ⊢
      exact gy_rvT hp
    · exact br_t (by rw [e, h1]) (nm_r (nI_1 v) (ih (v + 1) aW (by omega) (by omega) (gy_rvF hp (fun w => hdu (hi.mpr w).1))))
theorem wy_482 {post : SY → Prop} {col r c f E : Nat → Nat} (H : gk_ok col r c f E) (hd : gy_du col aD 4096)
    (h : ∀ aW', (∀ i, i < 8 → aW' i = nI (r i)) → ∃ n, wY_init_584 post (nI (gk_pm c)) ya yb ys (nI 8) yc ym ye yw yd yf n 0 0 aK aW' aN aL aD) :
    ∀ d q n aW, q + d = 12 → gy_rw c r q n aW → wY_init_482 post (nI (gk_pm c)) ya yb ys yk yc ym ye yw yd yf (d + 1) (nI q) (nI n) aK aW aN aL aD := by
  intro d
  induction d with
  | zero =>
    intro q n aW hq hw
    have : q = 12 := by omega
    subst this
    obtain ⟨e, hr⟩ := gy_rwE H hw
    subst e
    exact pk_le 12 12 (fun _ => h aW hr) (fun z => absurd z (by omega))
  | succ d ih =>
    intro q n aW hq hw
    refine pk_le 12 q (fun z => absurd z (by omega)) (fun _ => gc_tb (gp_s12 (gk_pml H)) (by omega) (fun hb => nm_r (nI_1 q) (ih (q + 1) n aW (by omega) (gy_rwN hw (fun i hi z => ?_)))) (fun hb => ?_))
    · rw [← z, gk_pmc c hi] at hb
      cases hb
    · obtain ⟨i, hi, e⟩ := gk_pmi hb
      have ein := gy_rwi H hw hi e
      subst ein
      subst e
      exact ⟨_, wy_502 H hi hd (fun aW' hv => ih (c i + 1) (i + 1) aW' (by omega) (gy_rwS H ⟨hw.1, hw.2.1, hv.1⟩ hi rfl (hv.2 (gk_2 H i hi).1))) 4095 1 aW rfl (by omega) ⟨hw.2.2, fun z => absurd z (by have := gk_rpos H hi; omega)⟩⟩
theorem wy_584 {post : SY → Prop} {col r c f E : Nat → Nat} (H : gk_ok col r c f E)
    (h : ∀ aN', (∀ i, i < 4 → aN' i = nI (f i)) → post (ya, yb, ys, nI 4, yr, yc, ym, ye, yw, yd, yf, aK, aW, aN', aL, aD)) :
    ∀ d q n aN, q + d = 12 → gy_if f q n aN → wY_init_584 post (nI (gk_pm c)) ya yb ys yr yc ym ye yw yd yf (d + 1) (nI q) (nI n) aK aW aN aL aD := by
  intro d
  induction d with
  | zero =>
    intro q n aN hq hw
    have : q = 12 := by omega
    subst this
    obtain ⟨e, hr⟩ := gy_ifE H hw
    subst e
    exact pk_le 12 12 (fun _ => h aN hr) (fun z => absurd z (by omega))
  | succ d ih =>
    intro q n aN hq hw
    refine pk_le 12 q (fun z => absurd z (by omega)) (fun _ => gc_tb (gp_s12 (gk_pml H)) (by omega) (fun hb => ?_) (fun hb => nm_r (nI_1 q) (ih (q + 1) n aN (by omega) (gy_ifN hw (fun j hj z => ?_)))))
    · rcases gk_5 H q (by omega) with ⟨i, hi, e⟩ | ⟨j, hj, e⟩
      · rw [← e, gk_pmc c hi] at hb
        cases hb
      · obtain ⟨hn, hw'⟩ := gy_ifS H hw hj e
        exact ⟨vp_in_nI (by omega) (by omega), nm_r (show _ = upd aN n (nI q) by rw [nI_clamp (by omega)]) (nm_r (nI_1 n) (nm_r (nI_1 q) (ih (q + 1) (n + 1) _ (by omega) hw')))⟩
    · rw [gk_pmn (fun i hi y => gk_6 H i hi j hj (y.trans z.symm))] at hb
      cases hb
end
end
section
/-! the reference: whole constructor, encrypt, decrypt -/
section
variable {ya yb ys yk yr yc ym ye yw yd yf : Int32} {aK aW aN aL aD : Nat → Int32}
theorem wy_414z {post : SY → Prop} {col r c f E : Nat → Nat} (H : gk_ok col r c f E) (hd : gy_du col aD 4096)
    (h : ∃ n, wY_init_482 post (nI (gk_pm c)) ya yb ys yk yc ym ye yw yd yf n 0 0 aK aW aN aL aD) : ∃ n, wY_init_414 post ya yb ys yk yr yc ym ye yw yd yf aK aW aN aL aD n 0 0 := by
  have e := wy_414 (post := post) (yr := yr) H hd h 12 0 rfl
  rw [Nat.pow_zero, Nat.mod_one] at e
  exact ⟨_, e⟩
theorem wy_all {post : SY → Prop} {A B s : Nat} {r c f E : Nat → Nat} (hA : A < 16) (hB : B < 16) (hr : gr_rt A B = false) (hs : s < 16) (H : gk_ok (gg_col A B s) r c f E)
    (h : ∀ yc' aK' aW' aN' aL' aD', (∀ i, i < 12 → aK' i = nI (gg_col A B s i)) → (∀ i, i < 8 → aW' i = nI (r i)) → (∀ i, i < 4 → aN' i = nI (f i)) → post (nI A, nI B, ys, nI 4, nI 8, yc', ym, ye, yw, yd, yf, aK', aW', aN', aL', aD')) :
    ∃ n, wY_init_253 post (nI s) (nI A) (nI B) ys yk yr yc ym ye yw yd yf n 0 aK aW aN aL aD := by
  refine ⟨_, wy_253 hA hB hr hs (fun aK' hK => ?_) 12 0 aK rfl (fun i hi => absurd hi (Nat.not_lt_zero i))⟩
  refine ⟨_, wy_296 (col := gg_col A B s) (fun j hj => ⟨hK j hj, gk_11 H j hj⟩) (fun cnt aL' hL => ?_) 4096 0 0 aL rfl (gy_cl0 _ _)⟩
  refine ⟨_, wy_343 hL (fun aD' hD => ?_) 4096 0 aD rfl (fun x hx => absurd hx (Nat.not_lt_zero x))⟩
  refine wy_414z H hD ?_
  refine ⟨_, wy_482 H hD (fun aW' hW => ?_) 12 0 0 aW rfl (gy_rw0 c r _)⟩
  refine ⟨_, wy_584 H (fun aN' hN => ?_) 12 0 0 aN rfl (gy_if0 f _)⟩
  exact h _ _ _ _ _ _ hK hW hN
theorem wy_112 {post : SY → Prop} {c0 t0 s : Nat} {r c f E : Nat → Nat} (hc : c0 < 256) (ht : t0 < 256) (h0 : gr_rt ((c0 + t0) % 256 / 16) ((c0 + t0) % 256 % 16) = false) (hl : ∀ i, i < t0 → gr_rt ((c0 + i) % 256 / 16) ((c0 + i) % 256 % 16) = true) (hs : s < 16)
    (H : gk_ok (gg_col ((c0 + t0) % 256 / 16) ((c0 + t0) % 256 % 16) s) r c f E)
    (h : ∀ yc' aK' aW' aN' aL' aD', (∀ i, i < 12 → aK' i = nI (gg_col ((c0 + t0) % 256 / 16) ((c0 + t0) % 256 % 16) s i)) → (∀ i, i < 8 → aW' i = nI (r i)) → (∀ i, i < 4 → aN' i = nI (f i)) → post (nI ((c0 + t0) % 256 / 16), nI ((c0 + t0) % 256 % 16), nI s, nI 4, nI 8, yc', ym, ye, yw, yd, yf, aK', aW', aN', aL', aD')) :
    wY_init_112 post (nI c0) (nI s) ya yb ys yk yr yc ym ye yw yd yf aK aW aN aL aD :=
  nm_e (nm_e ⟨_, wy_139 hc ht h0 hl (wy_all (by omega) (by omega) h0 hs H h) t0 0 _ _ (Nat.zero_add t0)⟩)
theorem wy_101 {post : SY → Prop} {y : Int32} {c0 s : Nat} (h1 : y < 0 → s = 0) (h2 : ∀ j, j < 2 ^ 31 → y = nI j → s = min j 15) (h : wY_init_112 post (nI c0) (nI s) ya yb ys yk yr yc ym ye yw yd yf aK aW aN aL aD) : wY_init_90 post y (nI c0) ya yb ys yk yr yc ym ye yw yd yf aK aW aN aL aD := by
  rcases gi_of y with q | ⟨j, hj, e⟩
  · have := h1 q
    subst this
    exact br_f (Int32.not_le.mpr q) (pk_le 0 15 (fun _ => h) (fun z => absurd z (by omega)))
  · have hm := h2 j hj e
    subst e
    refine br_t (nI_pos' hj) (pk_le j 15 (fun z => ?_) (fun z => ?_))
    · have : s = j := by omega
      subst this
      exact h
    · have : s = 15 := by omega
      subst this
      exact h
theorem wy_79 {post : SY → Prop} {x y : Int32} {c0 s : Nat} (g1 : x < 0 → c0 = 0) (g2 : ∀ j, j < 2 ^ 31 → x = nI j → c0 = min j 255) (h1 : y < 0 → s = 0) (h2 : ∀ j, j < 2 ^ 31 → y = nI j → s = min j 15)
    (h : wY_init_112 post (nI c0) (nI s) 0 0 0 0 0 0 0 0 0 (-1) (-1) (fun _ => 0) (fun _ => 0) (fun _ => 0) (fun _ => 0) (fun _ => 0)) : wpY_init post x y := by
  have h9 := wy_101 h1 h2 h
  rcases gi_of x with q | ⟨j, hj, e⟩
  · have := g1 q
    subst this
    exact br_f (Int32.not_le.mpr q) (pk_le 0 255 (fun _ => h9) (fun z => absurd z (by omega)))
  · have hm := g2 j hj e
    subst e
    refine br_t (nI_pos' hj) (pk_le j 255 (fun z => ?_) (fun z => ?_))
    · have : c0 = j := by omega
      subst this
      exact h9
    · have : c0 = 255 := by omega
      subst this
      exact h9
theorem wy_encl {post : Int32 → SY → Prop} {col r c f E : Nat → Nat} {m e : Nat} (H : gk_ok col r c f E) (hm : m < 2 ^ 4) (hK : ∀ j, j < 12 → aK j = nI (col j)) (hN : ∀ i, i < 4 → aN i = nI (f i) ∧ f i < 12)
    (h : post (nI (gs_s E 4 m ^^^ e)) (ya, yb, ys, nI 4, yr, yc, nI m, nI e, nI (gs_s E 4 m ^^^ e), yd, yf, aK, aW, aN, aL, aD)) :
    ∀ d x g, x + d = 4096 → ((g = 0 ∧ x ≤ gs_s E 4 m) ∨ (g = gs_s E 4 m ∧ gs_s E 4 m < x)) → wY_encrypt_4 post ya yb ys (nI 4) yr yc (nI m) (nI e) yw yd yf aK aW aN aL aD (d + 1) (nI g) (nI x) := by
  have hG : gs_s E 4 m < 4096 := gk_Gl H m
  intro d
  induction d with
  | zero =>
    intro x g hx hg
    have : x = 4096 := by omega
    subst this
    have : g = gs_s E 4 m := by omega
    subst this
    exact pk_le 4096 4096 (fun _ => nm_r (nx_xor _ _) h) (fun z => absurd z (by omega))
  | succ d ih =>
    intro x g hx hg
    have hx12 : x < 2 ^ 12 := by omega
    have hi := gy_enc H hx12 hm
    have hs : gs_s col 12 x < 2 ^ 8 := gs_lt 12 (gk_11 H)
    have hxl : gk_ex f 4 x < 2 ^ 4 := gk_exl f 4 x
    refine pk_le 4096 x (fun z => absurd z (by omega)) (fun _ => wy_syn hx12 hK (pk_eq (gs_s col 12 x) 0 (fun y => wy_ex x rfl hx12 hN (pk_eq (gk_ex f 4 x) m (fun z => nm_r (nI_1 x) (ih (x + 1) x (by omega) ?_)) (fun z => nm_r (nI_1 x) (ih (x + 1) g (by omega) ?_)) rfl rfl (by omega) (by omega))) (fun y => nm_r (nI_1 x) (ih (x + 1) g (by omega) ?_)) rfl rfl (gp_s8 hs)))
    · have := hi.mp ⟨y, z⟩
      exact Or.inr ⟨this, by omega⟩
    · have hne : x ≠ gs_s E 4 m := fun w => z (hi.mpr w).2
      omega
    · have hne : x ≠ gs_s E 4 m := fun w => y (hi.mpr w).1
      omega
theorem wy_enc {post : Int32 → SY → Prop} {col r c f E : Nat → Nat} {m e : Nat} (H : gk_ok col r c f E) (hm : m < 2 ^ 4) (hK : ∀ j, j < 12 → aK j = nI (col j)) (hN : ∀ i, i < 4 → aN i = nI (f i) ∧ f i < 12)
    (h : post (nI (gs_s E 4 m ^^^ e)) (ya, yb, ys, nI 4, yr, yc, nI m, nI e, nI (gs_s E 4 m ^^^ e), yd, yf, aK, aW, aN, aL, aD)) : wpY_encrypt post (ya, yb, ys, nI 4, yr, yc, nI m, nI e, yw, yd, yf, aK, aW, aN, aL, aD) :=
  ⟨_, wy_encl H hm hK hN h 4096 0 0 rfl (Or.inl ⟨rfl, Nat.zero_le _⟩)⟩
theorem wy_decl {post : Int32 → SY → Prop} {col f : Nat → Nat} {w T : Nat} (hw : w < 2 ^ 12) (hT : T < 2 ^ 8) (hK : ∀ j, j < 12 → aK j = nI (col j) ∧ col j < 2 ^ 8) (hN : ∀ i, i < 4 → aN i = nI (f i) ∧ f i < 12)
    (h1 : ∀ e, e < 4096 → gs_w 12 e ≤ 2 → gs_s col 12 e = T → post (nI (gs_w 12 e)) (ya, yb, ys, nI 4, yr, yc, ym, ye, nI w, nI (gk_ex f 4 (w ^^^ e)), nI e, aK, aW, aN, aL, aD))
    (h2 : (∀ e, e < 4096 → gs_w 12 e ≤ 2 → gs_s col 12 e ≠ T) → post (-1) (ya, yb, ys, nI 4, yr, yc, ym, ye, nI w, -1, -1, aK, aW, aN, aL, aD)) :
    ∀ d x, x + d = 4096 → (∀ e, e < x → gs_w 12 e ≤ 2 → gs_s col 12 e ≠ T) → wY_decrypt_11 post (nI T) ya yb ys (nI 4) yr yc ym ye (nI w) yd yf aK aW aN aL aD (d + 1) (nI x) := by
  intro d
  induction d with
  | zero =>
    intro x hx hn
    have : x = 4096 := by omega
    subst this
    exact pk_le 4096 4096 (fun _ => h2 hn) (fun z => absurd z (by omega))
  | succ d ih =>
    intro x hx hn
    have hx12 : x < 2 ^ 12 := by omega
    have hs : gs_s col 12 x < 2 ^ 8 := gs_lt 12 (fun j hj => (hK j hj).2)
    have hwl := gs_wle x 12
    refine pk_le 4096 x (fun z => absurd z (by omega)) (fun _ => wy_wt (gp_s12 hx12) (pk_lt 2 (gs_w 12 x) (fun y => nm_r (nI_1 x) (ih (x + 1) (by omega) (fun e he hw2 => ?_))) (fun y => wy_syn hx12 (fun j hj => (hK j hj).1) (pk_eq (gs_s col 12 x) T (fun z => wy_ex (w ^^^ x) (nx_xor _ _) (Nat.xor_lt_two_pow hw hx12) hN (wy_wt (gp_s12 hx12) (h1 x (by omega) y z))) (fun z => nm_r (nI_1 x) (ih (x + 1) (by omega) (fun e he hw2 => ?_))) rfl rfl (gp_s8 hs) (gp_s8 hT)))))
    · by_cases q : e = x
      · subst q; omega
      · exact hn e (by omega) hw2
    · by_cases q : e = x
      · subst q; exact z
      · exact hn e (by omega) hw2
theorem wy_dec {post : Int32 → SY → Prop} {col f : Nat → Nat} {w T : Nat} (hw : w < 2 ^ 12) (hT : gs_s col 12 w = T) (hK : ∀ j, j < 12 → aK j = nI (col j) ∧ col j < 2 ^ 8) (hN : ∀ i, i < 4 → aN i = nI (f i) ∧ f i < 12)
    (h1 : ∀ e, e < 4096 → gs_w 12 e ≤ 2 → gs_s col 12 e = T → post (nI (gs_w 12 e)) (ya, yb, ys, nI 4, yr, yc, ym, ye, nI w, nI (gk_ex f 4 (w ^^^ e)), nI e, aK, aW, aN, aL, aD))
    (h2 : (∀ e, e < 4096 → gs_w 12 e ≤ 2 → gs_s col 12 e ≠ T) → post (-1) (ya, yb, ys, nI 4, yr, yc, ym, ye, nI w, -1, -1, aK, aW, aN, aL, aD)) : wpY_decrypt post (ya, yb, ys, nI 4, yr, yc, ym, ye, nI w, yd, yf, aK, aW, aN, aL, aD) := by
  have hs : gs_s col 12 w < 2 ^ 8 := gs_lt 12 (fun j hj => (hK j hj).2)
  unfold wpY_decrypt
  dsimp only
  refine wy_syn hw (fun j hj => (hK j hj).1) ?_
  rw [hT] at hs ⊢
  exact ⟨_, wy_decl hw hs hK hN h1 h2 4096 0 rfl (fun e he => absurd he (Nat.not_lt_zero e))⟩
end
end
section
/-! the relation: one polynomial, one shift, one code, the same five numbers -/
def gq_R (A B s : Nat) (r c f E : Nat → Nat) (m e w : Nat) (aP aR aC aI aK aW aN : Nat → Int32) : Prop :=
  (A < 16 ∧ B < 16 ∧ gr_rt A B = false ∧ s < 16 ∧ gk_ok (gg_col A B s) r c f E) ∧
  (m < 2 ^ 4 ∧ e < 2 ^ 12 ∧ w < 2 ^ 12) ∧
  (∀ j, j < 12 → aP j = nI (gg_col A B s j) ∧ aK j = nI (gg_col A B s j)) ∧
  (∀ i, i < 8 → aR i = nI (r i) ∧ aC i = nI (c i) ∧ aW i = nI (r i)) ∧
  (∀ i, i < 4 → aI i = nI (f i) ∧ aN i = nI (f i))
def i_Rel (k : Nat) (u : SX) (v : SY) : Prop :=
  ∃ (A B s : Nat) (r c f E : Nat → Nat) (m e w : Nat) (de fo : Int32) (aP aR aC aI : Nat → Int32) (yr yc : Int32) (aK aW aN aL aD : Nat → Int32),
    u = (nI A, nI B, nI s, nI 8, nI 4, nI m, nI e, nI w, de, fo, aP, aR, aC, aI) ∧ v = (nI A, nI B, nI s, nI 4, yr, yc, nI m, nI e, nI w, de, fo, aK, aW, aN, aL, aD) ∧ gq_R A B s r c f E m e w aP aR aC aI aK aW aN
theorem i_mk {k : Nat} {A B s : Nat} {r c f E : Nat → Nat} {m e w : Nat} {de fo : Int32} {aP aR aC aI : Nat → Int32} {yr yc : Int32} {aK aW aN aL aD : Nat → Int32} (h : gq_R A B s r c f E m e w aP aR aC aI aK aW aN) :
    i_Rel k (nI A, nI B, nI s, nI 8, nI 4, nI m, nI e, nI w, de, fo, aP, aR, aC, aI) (nI A, nI B, nI s, nI 4, yr, yc, nI m, nI e, nI w, de, fo, aK, aW, aN, aL, aD) := ⟨A, B, s, r, c, f, E, m, e, w, de, fo, aP, aR, aC, aI, yr, yc, aK, aW, aN, aL, aD, rfl, rfl, h⟩
theorem i_up {k : Nat} {u : SX} {v : SY} (h : i_Rel k u v) : i_Rel (k + 3) u v := h
theorem i_vc0 (k0 : Int32) (k1 : Int32) : wpX_init (fun u => wpY_init (fun v => i_Rel 2 u v) k0 k1) k0 k1 := by
  obtain ⟨c0, hc0, g1, g2, hX1⟩ := wx_clamp k0 255 (by decide)
  obtain ⟨s, hs, h1, h2, hX2⟩ := wx_clamp k1 15 (by decide)
  obtain ⟨t0, ht, hr0, hl⟩ := gr_first (show c0 < 256 by omega)
  obtain ⟨r, c, f, E, e9, H⟩ := gg_ok (A := (c0 + t0) % 256 / 16) (B := (c0 + t0) % 256 % 16) (s := s) (by omega) (by omega) hr0 (by omega)
  unfold wpX_init
  refine hX1 _ (wx_fw (by omega) ht hr0 hl ⟨by decide, nm_r (gp_d16 (w := (c0 + t0) % 256) (by omega)) ⟨by decide, nm_r (gp_r16 (w := (c0 + t0) % 256) (by omega)) (hX2 _ (wx_fps (by omega) (by omega) (by omega) (fun aP' hP => wx_fr (col := gg_col ((c0 + t0) % 256 / 16) ((c0 + t0) % 256 % 16) s) (fun j hj => ⟨hP j hj, gk_11 H j hj⟩) (fun aR' hR => wx_rr e9 hR (fun aR2 aC2 aI2 hr2 hc2 hi2 => ?_)))))⟩⟩)
  refine wy_79 g1 g2 h1 h2 (wy_112 (by omega) ht hr0 hl (by omega) H (fun yc' aK' aW' aN' aL' aD' hK hW hN => ?_))
  exact i_mk (m := 0) (e := 0) (w := 0) ⟨⟨by omega, by omega, hr0, by omega, H⟩, ⟨by decide, by decide, by decide⟩, fun j hj => ⟨hP j hj, hK j hj⟩, fun i hi => ⟨(hr2 i hi).1, hc2 i hi, hW i hi⟩, fun i hi => ⟨hi2 i hi, hN i hi⟩⟩
theorem i_vc_support {k : Nat} {u : SX} {v : SY} (I : i_Rel k u v) (hk : k + 3 ≤ 1538) (v1 : Int32) : wpX_support (fun r => wpY_support (fun r' => r' = r ∧ i_Rel (k + 3) u v) v v1) u v1 := by
  have J := i_up I
  obtain ⟨A, B, s, r, c, f, E, m, e, w, de, fo, aP, aR, aC, aI, yr, yc, aK, aW, aN, aL, aD, rfl, rfl, hh⟩ := I
  obtain ⟨⟨hA, hB, hr, hs, H⟩, ⟨hm, he, hw⟩, hP, hR, hF⟩ := hh
  rcases gi_of v1 with q | ⟨p, hp, rfl⟩
  · exact br_t q (br_t q ⟨rfl, J⟩)
  · refine pk_lt p 0 (fun z => absurd z (by omega)) (fun _ => pk_lt p 12 (fun z => wx_sup hs z (pk_lt p 0 (fun z => absurd z (by omega)) (fun _ => pk_le p 11 (fun _ => ⟨by decide, ?_, J⟩) (fun z => absurd z (by omega))))) (fun z => pk_lt p 0 (fun z => absurd z (by omega)) (fun _ => pk_le p 11 (fun z => absurd z (by omega)) (fun _ => ⟨rfl, J⟩))))
    rw [nI_add]
    exact gp_r16 (by omega)
theorem i_vc_fieldMul {k : Nat} {u : SX} {v : SY} (I : i_Rel k u v) (hk : k + 3 ≤ 1538) (v1 : Int32) (v2 : Int32) : wpX_fieldMul (fun r => wpY_fieldMul (fun r' => r' = r ∧ i_Rel (k + 3) u v) v v1 v2) u v1 v2 := by
  have J := i_up I
  obtain ⟨A, B, s, r, c, f, E, m, e, w, de, fo, aP, aR, aC, aI, yr, yc, aK, aW, aN, aL, aD, rfl, rfl, hh⟩ := I
  obtain ⟨⟨hA, hB, hr, hs, H⟩, ⟨hm, he, hw⟩, hP, hR, hF⟩ := hh
  rcases gi_of v1 with q | ⟨a, ha, rfl⟩
  · exact br_t q (br_t q ⟨rfl, J⟩)
  · refine pk_lt a 0 (fun z => absurd z (by omega)) (fun _ => pk_le 16 a (fun z => pk_lt a 0 (fun z => absurd z (by omega)) (fun _ => pk_lt 15 a (fun _ => ⟨rfl, J⟩) (fun z => absurd z (by omega)))) (fun y => ?_))
    rcases gi_of v2 with q | ⟨b, hb, rfl⟩
    · exact br_t q (pk_lt a 0 (fun z => absurd z (by omega)) (fun _ => pk_lt 15 a (fun z => absurd z (by omega)) (fun _ => br_t q ⟨rfl, J⟩)))
    · exact pk_lt b 0 (fun z => absurd z (by omega)) (fun _ => pk_lt b 16 (fun x => wx_fp a b rfl rfl y x (pk_lt a 0 (fun z => absurd z (by omega)) (fun _ => pk_lt 15 a (fun z => absurd z (by omega)) (fun _ => pk_lt b 0 (fun z => absurd z (by omega)) (fun _ => pk_le b 15 (fun _ => wy_gf a b rfl rfl y x ⟨rfl, J⟩) (fun z => absurd z (by omega))))))) (fun x => pk_lt a 0 (fun z => absurd z (by omega)) (fun _ => pk_lt 15 a (fun z => absurd z (by omega)) (fun _ => pk_lt b 0 (fun z => absurd z (by omega)) (fun _ => pk_le b 15 (fun z => absurd z (by omega)) (fun _ => ⟨rfl, J⟩))))))
theorem i_vc_ringInverse {k : Nat} {u : SX} {v : SY} (I : i_Rel k u v) (hk : k + 3 ≤ 1538) (v1 : Int32) : wpX_ringInverse (fun r => wpY_ringInverse (fun r' => r' = r ∧ i_Rel (k + 3) u v) v v1) u v1 := by
  have J := i_up I
  obtain ⟨A, B, s, r, c, f, E, m, e, w, de, fo, aP, aR, aC, aI, yr, yc, aK, aW, aN, aL, aD, rfl, rfl, hh⟩ := I
  obtain ⟨⟨hA, hB, hr, hs, H⟩, ⟨hm, he, hw⟩, hP, hR, hF⟩ := hh
  rcases gi_of v1 with q | ⟨p, hp, rfl⟩
  · exact br_t (gi_le (k := 0) q (by decide)) (br_t q ⟨rfl, J⟩)
  · exact pk_le p 0 (fun y => pk_lt p 0 (fun z => absurd z (by omega)) (fun _ => pk_lt 255 p (fun z => absurd z (by omega)) (fun _ => pk_eq p 0 (fun _ => ⟨rfl, J⟩) (fun z => absurd z (by omega))))) (fun x => pk_lt p 256 (fun y => wx_inv p rfl hA hB y (wy_inv p rfl hA hB hr x y ⟨rfl, J⟩)) (fun y => pk_lt p 0 (fun z => absurd z (by omega)) (fun _ => pk_lt 255 p (fun _ => ⟨rfl, J⟩) (fun z => absurd z (by omega)))))
theorem i_vc_ringSqrt {k : Nat} {u : SX} {v : SY} (I : i_Rel k u v) (hk : k + 3 ≤ 1538) (v1 : Int32) : wpX_ringSqrt (fun r => wpY_ringSqrt (fun r' => r' = r ∧ i_Rel (k + 3) u v) v v1) u v1 := by
  have J := i_up I
  obtain ⟨A, B, s, r, c, f, E, m, e, w, de, fo, aP, aR, aC, aI, yr, yc, aK, aW, aN, aL, aD, rfl, rfl, hh⟩ := I
  obtain ⟨⟨hA, hB, hr, hs, H⟩, ⟨hm, he, hw⟩, hP, hR, hF⟩ := hh
  rcases gi_of v1 with q | ⟨p, hp, rfl⟩
  · exact br_t q (br_t q ⟨rfl, J⟩)
  · exact pk_lt p 0 (fun z => absurd z (by omega)) (fun _ => pk_lt p 256 (fun y => wx_sq hA hB y (pk_lt p 0 (fun z => absurd z (by omega)) (fun _ => pk_le p 255 (fun _ => ⟨_, wy_sql hA hB hr y ⟨rfl, J⟩ (gr_i A B 7 p) 0 (Nat.zero_add _)⟩) (fun z => absurd z (by omega))))) (fun y => pk_lt p 0 (fun z => absurd z (by omega)) (fun _ => pk_le p 255 (fun z => absurd z (by omega)) (fun _ => ⟨rfl, J⟩))))
theorem i_vc_syndrome {k : Nat} {u : SX} {v : SY} (I : i_Rel k u v) (hk : k + 3 ≤ 1538) (v1 : Int32) : wpX_syndrome (fun r => wpY_syndrome (fun r' => r' = r ∧ i_Rel (k + 3) u v) v v1) u v1 := by
  have J := i_up I
  obtain ⟨A, B, s, r, c, f, E, m, e, w, de, fo, aP, aR, aC, aI, yr, yc, aK, aW, aN, aL, aD, rfl, rfl, hh⟩ := I
  obtain ⟨⟨hA, hB, hr, hs, H⟩, ⟨hm, he, hw⟩, hP, hR, hF⟩ := hh
  rcases gi_of v1 with q | ⟨p, hp, rfl⟩
  · exact br_t q (br_t q ⟨rfl, J⟩)
  · exact pk_lt p 0 (fun z => absurd z (by omega)) (fun _ => pk_le p 4095 (fun y => wx_syn p rfl (show p < 2 ^ 12 by omega) (fun j hj => (hP j hj).1) (wy_syn (show p < 2 ^ 12 by omega) (fun j hj => (hP j hj).2) ⟨rfl, J⟩)) (fun y => pk_lt p 0 (fun z => absurd z (by omega)) (fun _ => pk_le p 4095 (fun z => absurd z (by omega)) (fun _ => ⟨rfl, J⟩))))
theorem i_vc_checkRow {k : Nat} {u : SX} {v : SY} (I : i_Rel k u v) (hk : k + 3 ≤ 1538) (v1 : Int32) : wpX_checkRow (fun r => wpY_checkRow (fun r' => r' = r ∧ i_Rel (k + 3) u v) v v1) u v1 := by
  have J := i_up I
  obtain ⟨A, B, s, r, c, f, E, m, e, w, de, fo, aP, aR, aC, aI, yr, yc, aK, aW, aN, aL, aD, rfl, rfl, hh⟩ := I
  obtain ⟨⟨hA, hB, hr, hs, H⟩, ⟨hm, he, hw⟩, hP, hR, hF⟩ := hh
  rcases gi_of v1 with q | ⟨p, hp, rfl⟩
  · exact br_t q (br_t q ⟨rfl, J⟩)
  · have e8 : (12 : Int32) - nI 4 = nI 8 := by decide
    refine pk_lt p 0 (fun z => absurd z (by omega)) (fun _ => pk_lt p 8 (fun y => ⟨vp_in_nI y (by omega), pk_lt p 0 (fun z => absurd z (by omega)) (fun _ => pk_lt p 8 (fun _ => ⟨vp_in_nI (by omega) (by omega), ?_, J⟩) (fun z => absurd z (by omega)) rfl e8)⟩) (fun y => pk_lt p 0 (fun z => absurd z (by omega)) (fun _ => pk_lt p 8 (fun z => absurd z (by omega)) (fun _ => ⟨rfl, J⟩) rfl e8)))
    rw [nI_clamp (by omega), (hR p y).2.2, (hR p y).1]
theorem i_vc_infoPosition {k : Nat} {u : SX} {v : SY} (I : i_Rel k u v) (hk : k + 3 ≤ 1538) (v1 : Int32) : wpX_infoPosition (fun r => wpY_infoPosition (fun r' => r' = r ∧ i_Rel (k + 3) u v) v v1) u v1 := by
  have J := i_up I
  obtain ⟨A, B, s, r, c, f, E, m, e, w, de, fo, aP, aR, aC, aI, yr, yc, aK, aW, aN, aL, aD, rfl, rfl, hh⟩ := I
  obtain ⟨⟨hA, hB, hr, hs, H⟩, ⟨hm, he, hw⟩, hP, hR, hF⟩ := hh
  rcases gi_of v1 with q | ⟨p, hp, rfl⟩
  · exact br_t q (br_t q ⟨rfl, J⟩)
  · refine pk_lt p 0 (fun z => absurd z (by omega)) (fun _ => pk_lt p 4 (fun y => ⟨vp_in_nI (by omega) (by omega), pk_lt p 0 (fun z => absurd z (by omega)) (fun _ => pk_lt p 4 (fun _ => ⟨vp_in_nI (by omega) (by omega), ?_, J⟩) (fun z => absurd z (by omega)))⟩) (fun y => pk_lt p 0 (fun z => absurd z (by omega)) (fun _ => pk_lt p 4 (fun z => absurd z (by omega)) (fun _ => ⟨rfl, J⟩))))
    rw [nI_clamp (by omega), (hF p y).2, (hF p y).1]
theorem i_vc_setMessage {k : Nat} {u : SX} {v : SY} (I : i_Rel k u v) (hk : k + 3 ≤ 1538) (v1 : Int32) : wpX_setMessage (fun r u' => wpY_setMessage (fun r' v' => r' = r ∧ i_Rel (k + 3) u' v') v v1) u v1 := by
  have J := i_up I
  obtain ⟨A, B, s, r, c, f, E, m, e, w, de, fo, aP, aR, aC, aI, yr, yc, aK, aW, aN, aL, aD, rfl, rfl, hh⟩ := I
  have h0 := hh
  obtain ⟨⟨hA, hB, hr, hs, H⟩, ⟨hm, he, hw⟩, hP, hR, hF⟩ := hh
  rcases gi_of v1 with q | ⟨p, hp, rfl⟩
  · exact br_t q (br_t q ⟨rfl, J⟩)
  · have e16 : (1 : Int32) <<< (nI 4 &&& 31) = nI 16 := by decide
    exact pk_lt p 0 (fun z => absurd z (by omega)) (fun _ => pk_lt p 16 (fun y => pk_lt p 0 (fun z => absurd z (by omega)) (fun _ => pk_lt p 16 (fun _ => ⟨rfl, i_mk ⟨h0.1, ⟨y, h0.2.1.2⟩, h0.2.2⟩⟩) (fun z => absurd z (by omega)) rfl e16)) (fun y => pk_lt p 0 (fun z => absurd z (by omega)) (fun _ => pk_lt p 16 (fun z => absurd z (by omega)) (fun _ => ⟨rfl, J⟩) rfl e16)) rfl e16)
theorem i_vc_setErrors {k : Nat} {u : SX} {v : SY} (I : i_Rel k u v) (hk : k + 3 ≤ 1538) (v1 : Int32) : wpX_setErrors (fun r u' => wpY_setErrors (fun r' v' => r' = r ∧ i_Rel (k + 3) u' v') v v1) u v1 := by
  have J := i_up I
  obtain ⟨A, B, s, r, c, f, E, m, e, w, de, fo, aP, aR, aC, aI, yr, yc, aK, aW, aN, aL, aD, rfl, rfl, hh⟩ := I
  have h0 := hh
  obtain ⟨⟨hA, hB, hr, hs, H⟩, ⟨hm, he, hw⟩, hP, hR, hF⟩ := hh
  rcases gi_of v1 with q | ⟨p, hp, rfl⟩
  · exact br_t q (br_t q ⟨rfl, J⟩)
  · have hw12 := gs_wle p 12
    exact pk_lt p 0 (fun z => absurd z (by omega)) (fun _ => pk_lt 4095 p (fun y => pk_lt p 0 (fun z => absurd z (by omega)) (fun _ => pk_le p 4095 (fun z => absurd z (by omega)) (fun _ => ⟨rfl, J⟩))) (fun y => wx_wt p rfl hp (pk_le (gs_w 12 p) 2 (fun x => pk_lt p 0 (fun z => absurd z (by omega)) (fun _ => pk_le p 4095 (fun _ => wy_wt hp (pk_le (gs_w 12 p) 2 (fun _ => ⟨rfl, i_mk ⟨h0.1, ⟨h0.2.1.1, show p < 2 ^ 12 by omega, h0.2.1.2.2⟩, h0.2.2⟩⟩) (fun z => absurd z (by omega)))) (fun z => absurd z (by omega)))) (fun x => pk_lt p 0 (fun z => absurd z (by omega)) (fun _ => pk_le p 4095 (fun _ => wy_wt hp (pk_le (gs_w 12 p) 2 (fun z => absurd z (by omega)) (fun _ => ⟨rfl, J⟩))) (fun z => absurd z (by omega)))))))
theorem i_vc_encrypt {k : Nat} {u : SX} {v : SY} (I : i_Rel k u v) (hk : k + 3 ≤ 1538) : wpX_encrypt (fun r u' => wpY_encrypt (fun r' v' => r' = r ∧ i_Rel (k + 3) u' v') v) u := by
  have J := i_up I
  obtain ⟨A, B, s, r, c, f, E, m, e, w, de, fo, aP, aR, aC, aI, yr, yc, aK, aW, aN, aL, aD, rfl, rfl, hh⟩ := I
  have h0 := hh
  obtain ⟨⟨hA, hB, hr, hs, H⟩, ⟨hm, he, hw⟩, hP, hR, hF⟩ := hh
  have hG : gs_s E 4 m ^^^ e < 2 ^ 12 := Nat.xor_lt_two_pow (gk_Gl H m) he
  unfold wpX_encrypt
  dsimp only
  refine wx_cw (r := r) (c := c) (f := f) hm (fun i hi => ⟨(hR i hi).1, (hR i hi).2.1, (gk_2 H i hi).2.1⟩) (fun i hi => ⟨(hF i hi).1, (gk_3 H i hi).1⟩) (gk_iwl H m) (nm_r (show _ = nI (gs_s E 4 m ^^^ e) by rw [nx_xor, gk_cwe H]) ?_)
  exact wy_enc H hm (fun j hj => (hP j hj).2) (fun i hi => ⟨(hF i hi).2, (gk_3 H i hi).1⟩) ⟨rfl, i_mk ⟨h0.1, ⟨hm, he, hG⟩, h0.2.2⟩⟩
theorem i_vc_setReceived {k : Nat} {u : SX} {v : SY} (I : i_Rel k u v) (hk : k + 3 ≤ 1538) (v1 : Int32) : wpX_setReceived (fun r u' => wpY_setReceived (fun r' v' => r' = r ∧ i_Rel (k + 3) u' v') v v1) u v1 := by
  have J := i_up I
  obtain ⟨A, B, s, r, c, f, E, m, e, w, de, fo, aP, aR, aC, aI, yr, yc, aK, aW, aN, aL, aD, rfl, rfl, hh⟩ := I
  have h0 := hh
  obtain ⟨⟨hA, hB, hr, hs, H⟩, ⟨hm, he, hw⟩, hP, hR, hF⟩ := hh
  rcases gi_of v1 with q | ⟨p, hp, rfl⟩
  · exact br_t q (br_t q ⟨rfl, J⟩)
  · exact pk_lt p 0 (fun z => absurd z (by omega)) (fun _ => pk_le p 4095 (fun y => pk_lt p 0 (fun z => absurd z (by omega)) (fun _ => pk_le p 4095 (fun _ => ⟨rfl, i_mk ⟨h0.1, ⟨h0.2.1.1, h0.2.1.2.1, show p < 2 ^ 12 by omega⟩, h0.2.2⟩⟩) (fun z => absurd z (by omega)))) (fun y => pk_lt p 0 (fun z => absurd z (by omega)) (fun _ => pk_le p 4095 (fun z => absurd z (by omega)) (fun _ => ⟨rfl, J⟩))))
theorem i_vc_decrypt {k : Nat} {u : SX} {v : SY} (I : i_Rel k u v) (hk : k + 3 ≤ 1538) : wpX_decrypt (fun r u' => wpY_decrypt (fun r' v' => r' = r ∧ i_Rel (k + 3) u' v') v) u := by
  have J := i_up I
  obtain ⟨A, B, s, r, c, f, E, m, e, w, de, fo, aP, aR, aC, aI, yr, yc, aK, aW, aN, aL, aD, rfl, rfl, hh⟩ := I
  have h0 := hh
  obtain ⟨⟨hA, hB, hr, hs, H⟩, ⟨hm, he, hw⟩, hP, hR, hF⟩ := hh
  have hT : gs_s (gg_col A B s) 12 w < 2 ^ 8 := gs_lt 12 (gk_11 H)
  have hX : ∀ j, j < 12 → aP j = nI (gg_col A B s j) ∧ gg_col A B s j < 2 ^ 8 := fun j hj => ⟨(hP j hj).1, gk_11 H j hj⟩
  have hY : ∀ j, j < 12 → aK j = nI (gg_col A B s j) ∧ gg_col A B s j < 2 ^ 8 := fun j hj => ⟨(hP j hj).2, gk_11 H j hj⟩
  have fX : ∀ i, i < 4 → aI i = nI (f i) ∧ f i < 12 := fun i hi => ⟨(hF i hi).1, (gk_3 H i hi).1⟩
  have fY : ∀ i, i < 4 → aN i = nI (f i) ∧ f i < 12 := fun i hi => ⟨(hF i hi).2, (gk_3 H i hi).1⟩
  unfold wpX_decrypt
  dsimp only
  refine wx_syn w rfl hw (fun j hj => (hP j hj).1) (wx_er hT hX (fun x hx hx2 hxs => ?_) (fun hno => ?_))
  · have hne : ¬ nI x = -1 := by
      intro z
      have y : ¬ nI x < 0 := nI_pos (by omega)
      rw [z] at y
      exact y (by decide)
    refine br_f hne (wx_mi (f := f) (w ^^^ x) (nx_xor _ _) (Nat.xor_lt_two_pow hw hx) fX (wx_wt x rfl (by omega) ?_))
    refine wy_dec hw rfl hY fY (fun y hy hy2 hys => ?_) (fun hno => absurd hxs (hno x hx hx2))
    have : y = x := gk_dist H hy hx hy2 hx2 (hys.trans hxs.symm)
    subst this
    exact ⟨rfl, i_mk h0⟩
  · refine br_t rfl ?_
    exact wy_dec hw rfl hY fY (fun y hy hy2 hys => absurd hys (hno y hy hy2)) (fun _ => ⟨rfl, i_mk h0⟩)
end
section
/-! the methods that only answer a field -/
theorem i_vc_goppaPoly {k : Nat} {u : SX} {v : SY} (I : i_Rel k u v) (hk : k + 3 ≤ 1538) : wpX_goppaPoly (fun r => wpY_goppaPoly (fun r' => r' = r ∧ i_Rel (k + 3) u v) v) u := by
  have J := i_up I
  obtain ⟨A, B, s, r, c, f, E, m, e, w, de, fo, aP, aR, aC, aI, yr, yc, aK, aW, aN, aL, aD, rfl, rfl, hh⟩ := I
  obtain ⟨⟨hA, hB, hr, hs, H⟩, ⟨hm, he, hw⟩, hP, hR, hF⟩ := hh
  exact ⟨rfl, J⟩
theorem i_vc_dimension {k : Nat} {u : SX} {v : SY} (I : i_Rel k u v) (hk : k + 3 ≤ 1538) : wpX_dimension (fun r => wpY_dimension (fun r' => r' = r ∧ i_Rel (k + 3) u v) v) u := by
  have J := i_up I
  obtain ⟨A, B, s, r, c, f, E, m, e, w, de, fo, aP, aR, aC, aI, yr, yc, aK, aW, aN, aL, aD, rfl, rfl, hh⟩ := I
  obtain ⟨⟨hA, hB, hr, hs, H⟩, ⟨hm, he, hw⟩, hP, hR, hF⟩ := hh
  exact ⟨rfl, J⟩
theorem i_vc_decodedMessage {k : Nat} {u : SX} {v : SY} (I : i_Rel k u v) (hk : k + 3 ≤ 1538) : wpX_decodedMessage (fun r => wpY_decodedMessage (fun r' => r' = r ∧ i_Rel (k + 3) u v) v) u := by
  have J := i_up I
  obtain ⟨A, B, s, r, c, f, E, m, e, w, de, fo, aP, aR, aC, aI, yr, yc, aK, aW, aN, aL, aD, rfl, rfl, hh⟩ := I
  obtain ⟨⟨hA, hB, hr, hs, H⟩, ⟨hm, he, hw⟩, hP, hR, hF⟩ := hh
  exact ⟨rfl, J⟩
theorem i_vc_foundErrors {k : Nat} {u : SX} {v : SY} (I : i_Rel k u v) (hk : k + 3 ≤ 1538) : wpX_foundErrors (fun r => wpY_foundErrors (fun r' => r' = r ∧ i_Rel (k + 3) u v) v) u := by
  have J := i_up I
  obtain ⟨A, B, s, r, c, f, E, m, e, w, de, fo, aP, aR, aC, aI, yr, yc, aK, aW, aN, aL, aD, rfl, rfl, hh⟩ := I
  obtain ⟨⟨hA, hB, hr, hs, H⟩, ⟨hm, he, hw⟩, hP, hR, hF⟩ := hh
  exact ⟨rfl, J⟩
end
