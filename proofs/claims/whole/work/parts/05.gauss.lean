/-! the class's elimination as a reckoning, and what it gives for each of the codes -/
abbrev gg_S : Type := (Nat → Nat) × (Nat → Nat) × (Nat → Nat) × Nat × Nat
theorem gg_ex5 (S : gg_S) : ∃ r c f cc ic, S = (r, c, f, cc, ic) := ⟨S.1, S.2.1, S.2.2.1, S.2.2.2.1, S.2.2.2.2, rfl⟩
theorem gb_t {i j : Nat} (h : i = j) : Nat.beq i j = true := by subst h; exact Nat.beq_refl i
theorem gb_f {i j : Nat} (h : ¬ i = j) : Nat.beq i j = false := by
  cases e : Nat.beq i j
  · rfl
  · exact absurd (Nat.eq_of_beq_eq_true e) h
theorem gb_d (i j : Nat) : Nat.beq i j = decide (i = j) := by
  by_cases h : i = j
  · rw [gb_t h, decide_eq_true h]
  · rw [gb_f h, decide_eq_false h]
def gg_fi (r : Nat → Nat) (p : Nat) : Nat → Nat → Nat
  | 0, i => i
  | d + 1, i => cond ((r i).testBit p) i (gg_fi r p d (i + 1))
theorem gg_fige (r : Nat → Nat) (p : Nat) : ∀ d i, i ≤ gg_fi r p d i := by
  intro d
  induction d with
  | zero => intro i; exact Nat.le_refl i
  | succ d ih =>
    intro i
    show i ≤ cond ((r i).testBit p) i (gg_fi r p d (i + 1))
    have := ih (i + 1)
    cases (r i).testBit p
    · show i ≤ gg_fi r p d (i + 1); omega
    · exact Nat.le_refl i
def gg_sw (r : Nat → Nat) (i h : Nat) : Nat → Nat := fun k => cond (Nat.beq k h) (r i) (cond (Nat.beq k i) (r h) (r k))
def gg_cl (s : Nat → Nat) (p h : Nat) : Nat → Nat := fun k => cond (!(Nat.beq k h) && (s k).testBit p) (s k ^^^ s h) (s k)
def gg_sel (x0 x1 x2 x3 x4 x5 x6 x7 : Nat) : Nat → Nat
  | 0 => x0
  | 1 => x1
  | 2 => x2
  | 3 => x3
  | 4 => x4
  | 5 => x5
  | 6 => x6
  | 7 => x7
  | _ => 0
theorem gg_sele (t : Nat → Nat) : ∀ k, k < 8 → gg_sel (t 0) (t 1) (t 2) (t 3) (t 4) (t 5) (t 6) (t 7) k = t k
  | 0, _ => rfl
  | 1, _ => rfl
  | 2, _ => rfl
  | 3, _ => rfl
  | 4, _ => rfl
  | 5, _ => rfl
  | 6, _ => rfl
  | 7, _ => rfl
  | n + 8, h => absurd h (by omega)
def gg_fz {α : Type} (t : Nat → Nat) (k : (Nat → Nat) → α) : α :=
  gc_st (t 0) fun x0 => gc_st (t 1) fun x1 => gc_st (t 2) fun x2 => gc_st (t 3) fun x3 => gc_st (t 4) fun x4 => gc_st (t 5) fun x5 => gc_st (t 6) fun x6 => gc_st (t 7) fun x7 => k (gg_sel x0 x1 x2 x3 x4 x5 x6 x7)
theorem gg_fze {α : Type} (t : Nat → Nat) (k : (Nat → Nat) → α) : gg_fz t k = k (gg_sel (t 0) (t 1) (t 2) (t 3) (t 4) (t 5) (t 6) (t 7)) := by
  unfold gg_fz
  simp only [gc_st_e]
def gg_step (S : gg_S) (p : Nat) : gg_S := match S with
  | (r, c, f, cc, ic) => gc_st (gg_fi r p (8 - cc) cc) fun pv =>
    cond (decide (pv < 8))
      (gg_fz (gg_cl (gg_sw r pv cc) p cc) fun r' => gc_st (cc + 1) fun cc' => (r', (fun k => cond (Nat.beq k cc) p (c k)), f, cc', ic))
      (gc_st (ic + 1) fun ic' => (r, c, (fun k => cond (Nat.beq k ic) p (f k)), cc, ic'))
theorem gg_stepF {r c f : Nat → Nat} {cc ic p pv : Nat} (hp : gg_fi r p (8 - cc) cc = pv) (h : ¬ pv < 8) : gg_step (r, c, f, cc, ic) p = (r, c, (fun k => cond (Nat.beq k ic) p (f k)), cc, ic + 1) := by
  unfold gg_step
  dsimp only
  rw [gc_st_e, hp, gc_cf (decide_eq_false h), gc_st_e]
theorem gg_stepT {r c f : Nat → Nat} {cc ic p pv : Nat} (hp : gg_fi r p (8 - cc) cc = pv) (h : pv < 8) : ∃ r', (∀ k, k < 8 → r' k = gg_cl (gg_sw r pv cc) p cc k) ∧ gg_step (r, c, f, cc, ic) p = (r', (fun k => cond (Nat.beq k cc) p (c k)), f, cc + 1, ic) := by
  refine ⟨_, gg_sele _, ?_⟩
  unfold gg_step
  dsimp only
  rw [gc_st_e, hp, gc_ct (decide_eq_true h), gg_fze, gc_st_e]
def gg_r (col : Nat → Nat) (b : Nat) : Nat := gs_o 0 (fun j => (col j).testBit b) (fun j => j) 12
def gg_0 (col : Nat → Nat) : gg_S := gg_fz (gg_r col) fun r => (r, (fun _ => 0), (fun _ => 0), 0, 0)
def gg_a (col : Nat → Nat) : Nat → gg_S
  | 0 => gg_0 col
  | n + 1 => gg_step (gg_a col n) n
theorem gg_0e (col : Nat → Nat) : ∃ r, (∀ k, k < 8 → r k = gg_r col k) ∧ gg_a col 0 = (r, (fun _ => 0), (fun _ => 0), 0, 0) := by
  refine ⟨_, gg_sele _, ?_⟩
  show gg_0 col = _
  unfold gg_0
  rw [gg_fze]
/-- row operations keep what the rows annihilate -/
theorem gg_par {col : Nat → Nat} {w : Nat} (hs : gs_s col 12 w = 0) : ∀ n r c f cc ic, gg_a col n = (r, c, f, cc, ic) → ∀ k, k < 8 → gs_q 12 (r k &&& w) = false := by
  intro n
  induction n with
  | zero =>
    intro r c f cc ic h k hk
    obtain ⟨r0, h0, e0⟩ := gg_0e col
    rw [e0] at h
    cases h
    rw [h0 k hk, gs_row (col := col) (R := gg_r col k) (b := k) 12 (fun j hj => gs_o1 (g := fun j => (col j).testBit k) (s := fun j => j) hj (fun _ _ z => z) (Nat.zero_testBit _)), hs, Nat.zero_testBit]
  | succ n ih =>
    intro r c f cc ic h k hk
    have h : gg_step (gg_a col n) n = (r, c, f, cc, ic) := h
    obtain ⟨r1, c1, f1, cc1, ic1, e1⟩ := gg_ex5 (gg_a col n)
    have ih := ih r1 c1 f1 cc1 ic1 e1
    rw [e1] at h
    by_cases hv : gg_fi r1 n (8 - cc1) cc1 < 8
    · obtain ⟨r', hr', e'⟩ := gg_stepT (c := c1) (f := f1) (ic := ic1) rfl hv
      rw [e'] at h
      cases h
      have hge := gg_fige r1 n (8 - cc1) cc1
      have hsw : ∀ k, k < 8 → gs_q 12 (gg_sw r1 (gg_fi r1 n (8 - cc1) cc1) cc1 k &&& w) = false := by
        intro k hk
        unfold gg_sw
        cases Nat.beq k cc1
        · cases Nat.beq k (gg_fi r1 n (8 - cc1) cc1)
          · exact ih k hk
          · exact ih cc1 (by omega)
        · exact ih _ hv
      rw [hr' k hk]
      unfold gg_cl
      cases (!(Nat.beq k cc1) && (gg_sw r1 (gg_fi r1 n (8 - cc1) cc1) cc1 k).testBit n)
      · exact hsw k hk
      · show gs_q 12 ((_ ^^^ _) &&& w) = false
        rw [Nat.and_xor_distrib_right, gs_qxor, hsw k hk, hsw cc1 (by omega)] <;> rfl
    · rw [gg_stepF (c := c1) (f := f1) (ic := ic1) rfl hv] at h
      cases h
      exact ih k hk
/-! the check of one code -/
def gg_E (r c f : Nat → Nat) (j : Nat) : Nat := gs_o (2 ^ f j) (fun i => (r i).testBit (f j)) c 8
def gg_l4 (x0 x1 x2 x3 : Nat) : Nat → Nat
  | 0 => x0
  | 1 => x1
  | 2 => x2
  | 3 => x3
  | _ => 0
theorem gg_l4e (t : Nat → Nat) : ∀ k, k < 4 → gg_l4 (t 0) (t 1) (t 2) (t 3) k = t k
  | 0, _ => rfl
  | 1, _ => rfl
  | 2, _ => rfl
  | 3, _ => rfl
  | n + 4, h => absurd h (by omega)
def gg_k1 (r c f : Nat → Nat) : Bool :=
  (gc_al 8 fun i => gc_al 8 fun j => (r i).testBit (c j) == Nat.beq i j) &&
  ((gc_al 8 fun i => decide (r i < 4096) && (decide (c i < 12) && Nat.beq (r i % 2 ^ c i) 0)) &&
  ((gc_al 12 fun p => (gc_ex 8 fun i => Nat.beq (c i) p) || (gc_ex 4 fun j => Nat.beq (f j) p)) &&
  ((gc_al 8 fun i => gc_al 4 fun j => !(Nat.beq (c i) (f j))) &&
  ((gc_al 8 fun j => gc_al j fun i => decide (c i < c j)) &&
  (gc_al 4 fun j => gc_al j fun i => decide (f i < f j))))))
def gg_k2 (col f E : Nat → Nat) : Bool :=
  (gc_al 4 fun j => decide (f j < 12) && (decide (E j < 4096) && Nat.beq (gs_s col 12 (E j)) 0)) &&
  ((gc_al 4 fun j => gc_al 4 fun i => (E j).testBit (f i) == Nat.beq j i) &&
  (gc_al 16 fun m => Nat.beq m 0 || gc_st (gs_s E 4 m) fun x => decide (5 ≤ gs_w 12 x)))
def gg_ck (col : Nat → Nat) : Bool := match gg_a col 12 with
  | (r, c, f, cc, ic) => Nat.beq cc 8 && (Nat.beq ic 4 && (gg_k1 r c f &&
    gc_st (gg_E r c f 0) fun e0 => gc_st (gg_E r c f 1) fun e1 => gc_st (gg_E r c f 2) fun e2 => gc_st (gg_E r c f 3) fun e3 => gg_k2 col f (gg_l4 e0 e1 e2 e3)))
theorem gg_cke {col : Nat → Nat} (h : gg_ck col = true) (h8 : ∀ j, j < 12 → col j < 2 ^ 8) : ∃ r c f E, gg_a col 12 = (r, c, f, 8, 4) ∧ gk_ok col r c f E := by
  unfold gg_ck at h
  obtain ⟨r, c, f, cc, ic, e⟩ := gg_ex5 (gg_a col 12)
  rw [e] at h
  dsimp only at h
  simp only [gc_st_e, Bool.and_eq_true] at h
  obtain ⟨h1, h2, h3, h4⟩ := h
  have e1 := Nat.eq_of_beq_eq_true h1
  have e2 := Nat.eq_of_beq_eq_true h2
  subst e1 e2
  unfold gg_k1 at h3
  simp only [Bool.and_eq_true] at h3
  obtain ⟨k1, k2, k3, k4, k5, k6⟩ := h3
  unfold gg_k2 at h4
  simp only [Bool.and_eq_true] at h4
  obtain ⟨k7, k8, k9⟩ := h4
  refine ⟨r, c, f, gg_l4 (gg_E r c f 0) (gg_E r c f 1) (gg_E r c f 2) (gg_E r c f 3), e, ?_, ?_, ?_, ?_, ?_, ?_, ?_, ?_, ?_, ?_, h8⟩
  · intro i hi j hj
    have := eq_of_beq (gc_al_i (gc_al_i k1 i hi) j hj)
    rw [this, gb_d]
  · intro i hi
    have z := gc_al_i k2 i hi
    simp only [Bool.and_eq_true, decide_eq_true_eq] at z
    refine ⟨z.1, z.2.1, fun j hj => ?_⟩
    have y := Nat.testBit_mod_two_pow (r i) (c i) j
    rw [Nat.eq_of_beq_eq_true z.2.2, Nat.zero_testBit, decide_eq_true hj, Bool.true_and] at y
    exact y.symm
  · intro j hj
    have z := gc_al_i k7 j hj
    simp only [Bool.and_eq_true, decide_eq_true_eq] at z
    exact ⟨z.1, z.2.1, Nat.eq_of_beq_eq_true z.2.2⟩
  · intro j hj i hi
    have := eq_of_beq (gc_al_i (gc_al_i k8 j hj) i hi)
    rw [this, gb_d]
  · intro p hp
    have z := gc_al_i k3 p hp
    rw [Bool.or_eq_true] at z
    rcases z with z | z
    · obtain ⟨i, hi, y⟩ := gc_ex_i z
      exact Or.inl ⟨i, hi, Nat.eq_of_beq_eq_true y⟩
    · obtain ⟨i, hi, y⟩ := gc_ex_i z
      exact Or.inr ⟨i, hi, Nat.eq_of_beq_eq_true y⟩
  · intro i hi j hj z
    have y := gc_al_i (gc_al_i k4 i hi) j hj
    rw [gb_t z] at y
    exact absurd y (by decide)
  · intro j hj i hi
    exact of_decide_eq_true (gc_al_i (gc_al_i k5 j hj) i hi)
  · intro j hj i hi
    exact of_decide_eq_true (gc_al_i (gc_al_i k6 j hj) i hi)
  · intro w hw i hi
    exact gg_par hw 12 r c f 8 4 e i hi
  · intro m hm h0
    have z := gc_al_i k9 m hm
    rw [gb_f h0, Bool.false_or, gc_st_e] at z
    exact of_decide_eq_true z
/-! all codes -/
def gg_col (A B s j : Nat) : Nat := gr_v A B (16 + (s + j) % 16) 7
def gg_s16 (x0 x1 x2 x3 x4 x5 x6 x7 x8 x9 x10 x11 x12 x13 x14 x15 : Nat) : Nat → Nat
  | 0 => x0
  | 1 => x1
  | 2 => x2
  | 3 => x3
  | 4 => x4
  | 5 => x5
  | 6 => x6
  | 7 => x7
  | 8 => x8
  | 9 => x9
  | 10 => x10
  | 11 => x11
  | 12 => x12
  | 13 => x13
  | 14 => x14
  | _ => x15
theorem gg_s16e (A B : Nat) : ∀ k, k < 16 → gg_s16 (gr_v A B 16 7) (gr_v A B 17 7) (gr_v A B 18 7) (gr_v A B 19 7) (gr_v A B 20 7) (gr_v A B 21 7) (gr_v A B 22 7) (gr_v A B 23 7) (gr_v A B 24 7) (gr_v A B 25 7) (gr_v A B 26 7) (gr_v A B 27 7) (gr_v A B 28 7) (gr_v A B 29 7) (gr_v A B 30 7) (gr_v A B 31 7) k = gr_v A B (16 + k) 7
  | 0, _ => rfl
  | 1, _ => rfl
  | 2, _ => rfl
  | 3, _ => rfl
  | 4, _ => rfl
  | 5, _ => rfl
  | 6, _ => rfl
  | 7, _ => rfl
  | 8, _ => rfl
  | 9, _ => rfl
  | 10, _ => rfl
  | 11, _ => rfl
  | 12, _ => rfl
  | 13, _ => rfl
  | 14, _ => rfl
  | 15, _ => rfl
  | n + 16, h => absurd h (by omega)
def gg_cs (A B : Nat) (k : (Nat → Nat) → Bool) : Bool :=
  gc_st (gr_v A B 16 7) fun x0 => gc_st (gr_v A B 17 7) fun x1 => gc_st (gr_v A B 18 7) fun x2 => gc_st (gr_v A B 19 7) fun x3 => gc_st (gr_v A B 20 7) fun x4 => gc_st (gr_v A B 21 7) fun x5 => gc_st (gr_v A B 22 7) fun x6 => gc_st (gr_v A B 23 7) fun x7 => gc_st (gr_v A B 24 7) fun x8 => gc_st (gr_v A B 25 7) fun x9 => gc_st (gr_v A B 26 7) fun x10 => gc_st (gr_v A B 27 7) fun x11 => gc_st (gr_v A B 28 7) fun x12 => gc_st (gr_v A B 29 7) fun x13 => gc_st (gr_v A B 30 7) fun x14 => gc_st (gr_v A B 31 7) fun x15 => k (gg_s16 x0 x1 x2 x3 x4 x5 x6 x7 x8 x9 x10 x11 x12 x13 x14 x15)
theorem gg_cse (A B : Nat) (k : (Nat → Nat) → Bool) : gg_cs A B k = k (gg_s16 (gr_v A B 16 7) (gr_v A B 17 7) (gr_v A B 18 7) (gr_v A B 19 7) (gr_v A B 20 7) (gr_v A B 21 7) (gr_v A B 22 7) (gr_v A B 23 7) (gr_v A B 24 7) (gr_v A B 25 7) (gr_v A B 26 7) (gr_v A B 27 7) (gr_v A B 28 7) (gr_v A B 29 7) (gr_v A B 30 7) (gr_v A B 31 7)) := by
  unfold gg_cs
  simp only [gc_st_e]
def gg_cA (A : Nat) : Bool := gc_al 16 fun B => gr_rt A B || gg_cs A B fun x => gc_al 16 fun s => gg_ck fun j => x ((s + j) % 16)
