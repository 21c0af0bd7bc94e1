/-! the field of sixteen by a table, the ring over it: laws, inverse, square root -/
def gf_T : Nat := 116196760129267793630862849262464326346044543732748708940920453221664288556434379745879494961270582141731748813355742142288220638766218855867759359510984593843506004200114943278699875244065120512813025380665946106619127097398772031257643617143689515450995722003729973585221105779229319991106539050771048038400
def gf_g (x y : Nat) : Nat := (gf_T >>> (64 * x + 4 * y)) % 16
def gf_p (a b : Nat) : Nat := gf_g (a % 16) (b % 16)
theorem gf_lt (a b : Nat) : gf_p a b < 16 := Nat.mod_lt _ (by decide)
theorem gf_m (a : Nat) : a % 16 < 16 := Nat.mod_lt _ (by decide)
theorem gf_mm (a b : Nat) : gf_p a b % 16 = gf_p a b := Nat.mod_eq_of_lt (gf_lt a b)
theorem gf_t1 : ∀ a, a < 16 → ∀ b, b < 16 → gf_g a b = gf_g b a := by decide +kernel
theorem gf_t2 : ∀ a, a < 16 → ∀ b, b < 16 → ∀ c, c < 16 → gf_g (gf_g a b) c = gf_g a (gf_g b c) := by decide +kernel
theorem gf_t3 : ∀ a, a < 16 → ∀ b, b < 16 → ∀ c, c < 16 → gf_g (a ^^^ b) c = gf_g a c ^^^ gf_g b c := by decide +kernel
theorem gf_t4 : ∀ a, a < 16 → gf_g 0 a = 0 ∧ gf_g 1 a = a := by decide +kernel
theorem gf_comm (a b : Nat) : gf_p a b = gf_p b a := gf_t1 _ (gf_m a) _ (gf_m b)
theorem gf_assoc (a b c : Nat) : gf_p (gf_p a b) c = gf_p a (gf_p b c) := by
  show gf_g (gf_p a b % 16) (c % 16) = gf_g (a % 16) (gf_p b c % 16)
  rw [gf_mm, gf_mm]
  exact gf_t2 _ (gf_m a) _ (gf_m b) _ (gf_m c)
theorem gf_lc (a b c : Nat) : gf_p a (gf_p b c) = gf_p b (gf_p a c) := by rw [← gf_assoc, gf_comm a b, gf_assoc]
theorem gx_m (a b : Nat) : (a ^^^ b) % 16 = (a % 16) ^^^ (b % 16) := Nat.xor_mod_two_pow (n := 4)
theorem gx_d (a b : Nat) : (a ^^^ b) / 16 = (a / 16) ^^^ (b / 16) := Nat.xor_div_two_pow (n := 4)
theorem gx_lt {a b : Nat} (ha : a < 16) (hb : b < 16) : a ^^^ b < 16 := Nat.xor_lt_two_pow (n := 4) ha hb
theorem gx_lt8 {a b : Nat} (ha : a < 256) (hb : b < 256) : a ^^^ b < 256 := Nat.xor_lt_two_pow (n := 8) ha hb
theorem gf_dl (a b c : Nat) : gf_p (a ^^^ b) c = gf_p a c ^^^ gf_p b c := by
  show gf_g ((a ^^^ b) % 16) (c % 16) = _
  rw [gx_m]
  exact gf_t3 _ (gf_m a) _ (gf_m b) _ (gf_m c)
theorem gf_dr (a b c : Nat) : gf_p a (b ^^^ c) = gf_p a b ^^^ gf_p a c := by rw [gf_comm, gf_dl, gf_comm b, gf_comm c]
theorem gf_0 (a : Nat) : gf_p 0 a = 0 := (gf_t4 _ (gf_m a)).1
theorem gf_1 (a : Nat) : gf_p 1 a = a % 16 := (gf_t4 _ (gf_m a)).2
theorem gf_x0 (a : Nat) : gf_p a 0 = 0 := by rw [gf_comm, gf_0]
theorem gx_lc (a b c : Nat) : a ^^^ (b ^^^ c) = b ^^^ (a ^^^ c) := by rw [← Nat.xor_assoc, Nat.xor_comm a b, Nat.xor_assoc]
theorem gx_c (a b : Nat) : a ^^^ (a ^^^ b) = b := by rw [← Nat.xor_assoc, Nat.xor_self, Nat.zero_xor]
theorem gx_4 (a b c : Nat) : (a ^^^ c) ^^^ (b ^^^ c) = a ^^^ b := by
  rw [Nat.xor_assoc, Nat.xor_comm b c, ← Nat.xor_assoc c c b, Nat.xor_self, Nat.zero_xor]
theorem gx_3 (a b c : Nat) : (a ^^^ b) ^^^ c = (a ^^^ c) ^^^ b := by rw [Nat.xor_assoc, Nat.xor_comm b c, Nat.xor_assoc]
theorem gx_eq {a b : Nat} (h : a ^^^ b = 0) : a = b := by
  have e := gx_c a b
  rw [h, Nat.xor_zero] at e
  exact e
/-! the ring -/
def gr_1 (A p1 p0 q1 q0 : Nat) : Nat := gf_p p1 q0 ^^^ gf_p p0 q1 ^^^ gf_p (gf_p p1 q1) A
def gr_0 (B p1 p0 q1 q0 : Nat) : Nat := gf_p p0 q0 ^^^ gf_p (gf_p p1 q1) B
def gr_p (A B p q : Nat) : Nat := gr_1 A (p / 16) (p % 16) (q / 16) (q % 16) * 16 + gr_0 B (p / 16) (p % 16) (q / 16) (q % 16)
theorem gr_1l (A p1 p0 q1 q0 : Nat) : gr_1 A p1 p0 q1 q0 < 16 := gx_lt (gx_lt (gf_lt _ _) (gf_lt _ _)) (gf_lt _ _)
theorem gr_0l (B p1 p0 q1 q0 : Nat) : gr_0 B p1 p0 q1 q0 < 16 := gx_lt (gf_lt _ _) (gf_lt _ _)
theorem gr_d (A B p q : Nat) : gr_p A B p q / 16 = gr_1 A (p / 16) (p % 16) (q / 16) (q % 16) := by
  have h1 := gr_0l B (p / 16) (p % 16) (q / 16) (q % 16)
  unfold gr_p
  omega
theorem gr_m (A B p q : Nat) : gr_p A B p q % 16 = gr_0 B (p / 16) (p % 16) (q / 16) (q % 16) := by
  have h1 := gr_0l B (p / 16) (p % 16) (q / 16) (q % 16)
  unfold gr_p
  omega
theorem gr_lt (A B p q : Nat) : gr_p A B p q < 256 := by
  have h1 := gr_0l B (p / 16) (p % 16) (q / 16) (q % 16)
  have h2 := gr_1l A (p / 16) (p % 16) (q / 16) (q % 16)
  unfold gr_p
  omega
theorem gr_ext {x y : Nat} (h1 : x / 16 = y / 16) (h0 : x % 16 = y % 16) : x = y := by omega
theorem gr_a1 (A B p1 p0 q1 q0 r1 r0 : Nat) : gr_1 A (gr_1 A p1 p0 q1 q0) (gr_0 B p1 p0 q1 q0) r1 r0 = gr_1 A p1 p0 (gr_1 A q1 q0 r1 r0) (gr_0 B q1 q0 r1 r0) := by
  simp only [gr_1, gr_0, gf_dl, gf_dr, gf_assoc, gf_comm, gf_lc, Nat.xor_assoc, Nat.xor_comm, gx_lc]
theorem gr_a0 (A B p1 p0 q1 q0 r1 r0 : Nat) : gr_0 B (gr_1 A p1 p0 q1 q0) (gr_0 B p1 p0 q1 q0) r1 r0 = gr_0 B p1 p0 (gr_1 A q1 q0 r1 r0) (gr_0 B q1 q0 r1 r0) := by
  simp only [gr_1, gr_0, gf_dl, gf_dr, gf_assoc, gf_comm, gf_lc, Nat.xor_assoc, Nat.xor_comm, gx_lc]
theorem gr_assoc (A B p q r : Nat) : gr_p A B (gr_p A B p q) r = gr_p A B p (gr_p A B q r) := by
  apply gr_ext
  · rw [gr_d, gr_d, gr_d, gr_m, gr_d, gr_m, gr_a1]
  · rw [gr_m, gr_m, gr_d, gr_m, gr_d, gr_m, gr_a0]
theorem gr_comm (A B p q : Nat) : gr_p A B p q = gr_p A B q p := by
  apply gr_ext
  · rw [gr_d, gr_d]
    simp only [gr_1, gf_comm, Nat.xor_assoc, Nat.xor_comm, gx_lc]
  · rw [gr_m, gr_m]
    simp only [gr_0, gf_comm, Nat.xor_assoc, Nat.xor_comm, gx_lc]
theorem gr_one (A B : Nat) {p : Nat} (h : p < 256) : gr_p A B 1 p = p := by
  apply gr_ext
  · rw [gr_d, gr_1, show 1 / 16 = 0 from rfl, show 1 % 16 = 1 from rfl, gf_0, gf_0, gf_0, gf_1, Nat.zero_xor, Nat.xor_zero]
    omega
  · rw [gr_m, gr_0, show 1 / 16 = 0 from rfl, show 1 % 16 = 1 from rfl, gf_0, gf_0, gf_1, Nat.xor_zero]
    omega
theorem gr_zero (A B p : Nat) : gr_p A B p 0 = 0 := by
  apply gr_ext
  · rw [gr_d, gr_1, show 0 / 16 = 0 from rfl, show 0 % 16 = 0 from rfl]
    simp only [gf_x0, gf_0, Nat.xor_self]
  · rw [gr_m, gr_0, show 0 / 16 = 0 from rfl, show 0 % 16 = 0 from rfl]
    simp only [gf_x0, gf_0, Nat.xor_self]
/-! squares -/
theorem gf_sq (a b : Nat) : gf_p (a ^^^ b) (a ^^^ b) = gf_p a a ^^^ gf_p b b := by
  rw [gf_dl, gf_dr, gf_dr, gf_comm b a, Nat.xor_assoc, gx_c]
theorem gr_s1 (A p1 p0 : Nat) : gr_1 A p1 p0 p1 p0 = gf_p (gf_p p1 p1) A := by
  rw [gr_1, gf_comm p0 p1, Nat.xor_self, Nat.zero_xor]
theorem gr_sadd (A B p q : Nat) : gr_p A B (p ^^^ q) (p ^^^ q) = gr_p A B p p ^^^ gr_p A B q q := by
  apply gr_ext
  · rw [gx_d, gr_d, gr_d, gr_d, gr_s1, gr_s1, gr_s1, gx_d, gf_sq, gf_dl]
  · rw [gx_m, gr_m, gr_m, gr_m, gr_0, gr_0, gr_0, gx_d, gx_m, gf_sq, gf_sq, gf_dl]
    simp only [Nat.xor_assoc, Nat.xor_comm, gx_lc]
def gr_i (A B : Nat) : Nat → Nat → Nat
  | 0, p => p
  | n + 1, p => gc_st (gr_i A B n p) fun x => gr_p A B x x
theorem gr_iS (A B n p : Nat) : gr_i A B (n + 1) p = gr_p A B (gr_i A B n p) (gr_i A B n p) := gc_st_e _ _
theorem gr_iadd (A B : Nat) : ∀ n p q, gr_i A B n (p ^^^ q) = gr_i A B n p ^^^ gr_i A B n q := by
  intro n
  induction n with
  | zero => intro p q; rfl
  | succ n ih => intro p q; rw [gr_iS, gr_iS, gr_iS, ih, gr_sadd]
theorem gr_ilt (A B : Nat) {p : Nat} (h : p < 256) : ∀ n, gr_i A B n p < 256 := by
  intro n
  cases n with
  | zero => exact h
  | succ n => rw [gr_iS]; exact gr_lt _ _ _ _
theorem gr_iq (A B : Nat) : ∀ n q, gr_i A B n (gr_p A B q q) = gr_i A B (n + 1) q := by
  intro n
  induction n with
  | zero => intro q; exact (gr_iS A B 0 q).symm
  | succ n ih => intro q; rw [gr_iS A B n, ih, gr_iS A B (n + 1)]
theorem gx_top : ∀ n, n < 8 → ∀ y, y < 2 ^ n → y ^^^ 2 ^ n = y + 2 ^ n := by decide +kernel
theorem gx_lin {g : Nat → Nat} (add : ∀ x y, g (x ^^^ y) = g x ^^^ g y) (h : ∀ i, i < 8 → g (2 ^ i) = 2 ^ i) : ∀ n, n ≤ 8 → ∀ x, x < 2 ^ n → g x = x := by
  intro n
  induction n with
  | zero =>
    intro _ x hx
    have e : x = 0 := by
      have : (2 : Nat) ^ 0 = 1 := rfl
      omega
    subst e
    have e := add 0 0
    rw [Nat.xor_self, Nat.xor_self] at e
    exact e
  | succ n ih =>
    intro hn x hx
    by_cases z : x < 2 ^ n
    · exact ih (by omega) x z
    · have e2 : (2 : Nat) ^ (n + 1) = 2 ^ n + 2 ^ n := by rw [Nat.pow_succ]; omega
      have e : x = (x - 2 ^ n) ^^^ 2 ^ n := by
        rw [gx_top n (by omega) _ (by omega)]
        omega
      rw [e, add, ih (by omega) _ (by omega), h n (by omega)]
/-! polynomials without a root -/
def gr_rt (A B : Nat) : Bool := gc_ex 16 fun z => Nat.beq (gf_p z z ^^^ gf_p A z ^^^ B) 0
def gr_N (A B p1 p0 : Nat) : Nat := gf_p p0 p0 ^^^ gf_p A (gf_p p0 p1) ^^^ gf_p B (gf_p p1 p1)
def gf_V : Nat := 9460475325918865680
def gf_v (n : Nat) : Nat := (gf_V >>> (4 * n)) % 16
theorem gf_tv : ∀ n, n < 16 → n ≠ 0 → gf_p n (gf_v n) = 1 := by decide +kernel
theorem gr_tF : (gc_al 16 fun A => gc_al 16 fun B => gr_rt A B || gc_al 8 fun i => Nat.beq (gr_i A B 8 (2 ^ i)) (2 ^ i)) = true := by decide +kernel
theorem gr_tN : (gc_al 16 fun A => gc_al 16 fun B => gr_rt A B || gc_al 16 fun p1 => gc_al 16 fun p0 => (Nat.beq p1 0 && Nat.beq p0 0) || !(Nat.beq (gr_N A B p1 p0) 0)) = true := by decide +kernel
section
variable {A B : Nat}
theorem gr_F {p : Nat} (hA : A < 16) (hB : B < 16) (hr : gr_rt A B = false) (hp : p < 256) : gr_i A B 8 p = p := by
  have h := gc_al_i (gc_al_i gr_tF A hA) B hB
  rw [hr, Bool.false_or] at h
  exact gx_lin (gr_iadd A B 8) (fun i hi => Nat.eq_of_beq_eq_true (gc_al_i h i hi)) 8 (Nat.le_refl 8) p hp
theorem gr_Nz {p1 p0 : Nat} (hA : A < 16) (hB : B < 16) (hr : gr_rt A B = false) (h1 : p1 < 16) (h0 : p0 < 16) (hz : ¬ (p1 = 0 ∧ p0 = 0)) : gr_N A B p1 p0 ≠ 0 := by
  have h := gc_al_i (gc_al_i gr_tN A hA) B hB
  rw [hr, Bool.false_or] at h
  have h2 := gc_al_i (gc_al_i h p1 h1) p0 h0
  intro e
  rw [e] at h2
  have h3 : (Nat.beq p1 0 && Nat.beq p0 0) = true := by
    revert h2
    cases (Nat.beq p1 0 && Nat.beq p0 0)
    · intro z; exact absurd z (by decide)
    · intro _; rfl
  rw [Bool.and_eq_true] at h3
  exact hz ⟨Nat.eq_of_beq_eq_true h3.1, Nat.eq_of_beq_eq_true h3.2⟩
theorem gr_Nl (A B p1 p0 : Nat) : gr_N A B p1 p0 < 16 := gx_lt (gx_lt (gf_lt _ _) (gf_lt _ _)) (gf_lt _ _)
theorem gr_J1 (A p1 p0 k : Nat) : gr_1 A p1 p0 (gf_p p1 k) (gf_p (p0 ^^^ gf_p A p1) k) = 0 := by
  simp only [gr_1, gf_dl, gf_dr, gf_assoc, gf_comm, gf_lc, Nat.xor_assoc, Nat.xor_comm, gx_lc, gx_c, Nat.xor_self]
theorem gr_J0 (A B p1 p0 k : Nat) : gr_0 B p1 p0 (gf_p p1 k) (gf_p (p0 ^^^ gf_p A p1) k) = gf_p (gr_N A B p1 p0) k := by
  simp only [gr_0, gr_N, gf_dl, gf_dr, gf_assoc, gf_comm, gf_lc, Nat.xor_assoc, Nat.xor_comm, gx_lc]
theorem gr_J {p : Nat} (hA : A < 16) (hB : B < 16) (hr : gr_rt A B = false) (h0 : 0 < p) (hp : p < 256) : ∃ J, J < 256 ∧ gr_p A B p J = 1 := by
  have hN := gr_Nz (p1 := p / 16) (p0 := p % 16) hA hB hr (by omega) (by omega) (by omega)
  have hv := gf_tv _ (gr_Nl A B (p / 16) (p % 16)) hN
  have l1 := gf_lt (p / 16) (gf_v (gr_N A B (p / 16) (p % 16)))
  have l0 := gf_lt (p % 16 ^^^ gf_p A (p / 16)) (gf_v (gr_N A B (p / 16) (p % 16)))
  have e1 := gr_J1 A (p / 16) (p % 16) (gf_v (gr_N A B (p / 16) (p % 16)))
  have e0 := gr_J0 A B (p / 16) (p % 16) (gf_v (gr_N A B (p / 16) (p % 16)))
  rw [hv] at e0
  revert l1 l0 e1 e0
  generalize gf_p (p / 16) (gf_v (gr_N A B (p / 16) (p % 16))) = j1
  generalize gf_p (p % 16 ^^^ gf_p A (p / 16)) (gf_v (gr_N A B (p / 16) (p % 16))) = j0
  intro l1 l0 e1 e0
  have d1 : (j1 * 16 + j0) / 16 = j1 := by omega
  have d0 : (j1 * 16 + j0) % 16 = j0 := by omega
  refine ⟨j1 * 16 + j0, by omega, ?_⟩
  apply gr_ext
  · show gr_p A B p (j1 * 16 + j0) / 16 = 0
    rw [gr_d, d1, d0, e1]
  · show gr_p A B p (j1 * 16 + j0) % 16 = 1
    rw [gr_m, d1, d0, e0]
/-- the powers' product of the class -/
def gr_v (A B p : Nat) : Nat → Nat
  | 0 => 1
  | k + 1 => gc_st (gr_v A B p k) fun x => gc_st (gr_i A B (k + 1) p) fun y => gr_p A B x y
theorem gr_vS (A B p k : Nat) : gr_v A B p (k + 1) = gr_p A B (gr_v A B p k) (gr_i A B (k + 1) p) := by
  show gc_st _ _ = _
  rw [gc_st_e, gc_st_e]
theorem gr_vlt (A B p : Nat) : ∀ k, gr_v A B p k < 256 := by
  intro k
  cases k with
  | zero => show 1 < 256; decide
  | succ k => rw [gr_vS]; exact gr_lt _ _ _ _
theorem gr_vp (A B p : Nat) : ∀ k, gr_p A B (gr_v A B p k) (gr_p A B p p) = gr_i A B (k + 1) p := by
  intro k
  induction k with
  | zero => exact (gr_one A B (gr_lt A B p p)).trans (gr_iS A B 0 p).symm
  | succ k ih => rw [gr_vS, gr_assoc, gr_comm A B (gr_i A B (k + 1) p), ← gr_assoc, ih, gr_iS A B (k + 1)]
theorem gr_ivJ {p J : Nat} (hA : A < 16) (hB : B < 16) (hr : gr_rt A B = false) (hp : p < 256) (hJ : J < 256) (h1 : gr_p A B p J = 1) : gr_v A B p 7 = J := by
  have e : gr_p A B (gr_v A B p 7) (gr_p A B p p) = gr_i A B 8 p := gr_vp A B p 7
  rw [gr_F hA hB hr hp] at e
  have e2 : gr_p A B (gr_p A B p p) (gr_p A B J J) = 1 := by
    rw [gr_assoc, gr_comm A B p (gr_p A B J J), gr_assoc, gr_comm A B J p, h1, gr_comm A B J 1, gr_one _ _ hJ, h1]
  have e3 : gr_p A B (gr_v A B p 7) 1 = gr_v A B p 7 := by rw [gr_comm, gr_one _ _ (gr_vlt _ _ _ _)]
  rw [← e3, ← e2, ← gr_assoc, e, ← gr_assoc, h1, gr_one _ _ hJ]
/-- the class's inverse is the one inverse -/
theorem gr_inv {p : Nat} (hA : A < 16) (hB : B < 16) (hr : gr_rt A B = false) (h0 : 0 < p) (hp : p < 256) : gr_p A B p (gr_v A B p 7) = 1 ∧ (∀ q, q < 256 → gr_p A B p q = 1 → q = gr_v A B p 7) ∧ 0 < gr_v A B p 7 := by
  obtain ⟨J, hJ, h1⟩ := gr_J hA hB hr h0 hp
  have e := gr_ivJ hA hB hr hp hJ h1
  rw [e]
  refine ⟨h1, fun q hq hq1 => ?_, ?_⟩
  · have e2 : gr_p A B (gr_p A B p J) q = gr_p A B (gr_p A B p q) J := by rw [gr_assoc, gr_comm A B J q, ← gr_assoc]
    rw [h1, hq1, gr_one _ _ hq, gr_one _ _ hJ] at e2
    exact e2
  · rcases Nat.eq_zero_or_pos J with z | z
    · rw [z, gr_zero] at h1
      exact absurd h1 (by decide)
    · exact z
theorem gr_sqr {p : Nat} (hA : A < 16) (hB : B < 16) (hr : gr_rt A B = false) (hp : p < 256) : gr_p A B (gr_i A B 7 p) (gr_i A B 7 p) = p ∧ (∀ q, q < 256 → gr_p A B q q = p → q = gr_i A B 7 p) := by
  refine ⟨?_, fun q hq e => ?_⟩
  · rw [← gr_iS]
    exact gr_F hA hB hr hp
  · rw [← e, gr_iq]
    exact (gr_F hA hB hr hq).symm
end
/-! the first polynomial without a root -/
theorem gr_first {c : Nat} (hc : c < 256) : ∃ t, t < 256 ∧ gr_rt ((c + t) % 256 / 16) ((c + t) % 256 % 16) = false ∧ ∀ i, i < t → gr_rt ((c + i) % 256 / 16) ((c + i) % 256 % 16) = true := by
  have h : ∃ t, gr_rt ((c + t) % 256 / 16) ((c + t) % 256 % 16) = false ∧ t < 256 := by
    refine ⟨(24 + 256 - c) % 256, ?_, Nat.mod_lt _ (by decide)⟩
    have e : (c + (24 + 256 - c) % 256) % 256 = 24 := by omega
    rw [e]
    decide +kernel
  obtain ⟨t, ⟨h1, h2⟩, h3⟩ := gc_least _ h
  refine ⟨t, h2, h1, fun i hi => ?_⟩
  cases e : gr_rt ((c + i) % 256 / 16) ((c + i) % 256 % 16)
  · exact absurd ⟨e, by omega⟩ (h3 i hi)
  · rfl
