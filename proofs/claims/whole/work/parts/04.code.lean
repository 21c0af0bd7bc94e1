/-! a code by its columns, reduced rows, check and information positions, and words E -/
def gk_ok (col r c f E : Nat → Nat) : Prop :=
  (∀ i, i < 8 → ∀ j, j < 8 → (r i).testBit (c j) = decide (i = j)) ∧
  (∀ i, i < 8 → r i < 2 ^ 12 ∧ c i < 12 ∧ ∀ j, j < c i → (r i).testBit j = false) ∧
  (∀ j, j < 4 → f j < 12 ∧ E j < 2 ^ 12 ∧ gs_s col 12 (E j) = 0) ∧
  (∀ j, j < 4 → ∀ i, i < 4 → (E j).testBit (f i) = decide (j = i)) ∧
  (∀ p, p < 12 → (∃ i, i < 8 ∧ c i = p) ∨ (∃ j, j < 4 ∧ f j = p)) ∧
  (∀ i, i < 8 → ∀ j, j < 4 → c i ≠ f j) ∧
  (∀ j, j < 8 → ∀ i, i < j → c i < c j) ∧
  (∀ j, j < 4 → ∀ i, i < j → f i < f j) ∧
  (∀ w, gs_s col 12 w = 0 → ∀ i, i < 8 → gs_q 12 (r i &&& w) = false) ∧
  (∀ m, m < 16 → m ≠ 0 → 5 ≤ gs_w 12 (gs_s E 4 m)) ∧
  (∀ j, j < 12 → col j < 2 ^ 8)
section
variable {col r c f E : Nat → Nat}
theorem gk_1 (H : gk_ok col r c f E) : ∀ i, i < 8 → ∀ j, j < 8 → (r i).testBit (c j) = decide (i = j) := H.1
theorem gk_2 (H : gk_ok col r c f E) : ∀ i, i < 8 → r i < 2 ^ 12 ∧ c i < 12 ∧ ∀ j, j < c i → (r i).testBit j = false := H.2.1
theorem gk_3 (H : gk_ok col r c f E) : ∀ j, j < 4 → f j < 12 ∧ E j < 2 ^ 12 ∧ gs_s col 12 (E j) = 0 := H.2.2.1
theorem gk_4 (H : gk_ok col r c f E) : ∀ j, j < 4 → ∀ i, i < 4 → (E j).testBit (f i) = decide (j = i) := H.2.2.2.1
theorem gk_5 (H : gk_ok col r c f E) : ∀ p, p < 12 → (∃ i, i < 8 ∧ c i = p) ∨ (∃ j, j < 4 ∧ f j = p) := H.2.2.2.2.1
theorem gk_6 (H : gk_ok col r c f E) : ∀ i, i < 8 → ∀ j, j < 4 → c i ≠ f j := H.2.2.2.2.2.1
theorem gk_7 (H : gk_ok col r c f E) : ∀ j, j < 8 → ∀ i, i < j → c i < c j := H.2.2.2.2.2.2.1
theorem gk_8 (H : gk_ok col r c f E) : ∀ j, j < 4 → ∀ i, i < j → f i < f j := H.2.2.2.2.2.2.2.1
theorem gk_9 (H : gk_ok col r c f E) : ∀ w, gs_s col 12 w = 0 → ∀ i, i < 8 → gs_q 12 (r i &&& w) = false := H.2.2.2.2.2.2.2.2.1
theorem gk_10 (H : gk_ok col r c f E) : ∀ m, m < 16 → m ≠ 0 → 5 ≤ gs_w 12 (gs_s E 4 m) := H.2.2.2.2.2.2.2.2.2.1
theorem gk_11 (H : gk_ok col r c f E) : ∀ j, j < 12 → col j < 2 ^ 8 := H.2.2.2.2.2.2.2.2.2.2
theorem gk_ci (H : gk_ok col r c f E) {i j : Nat} (hi : i < 8) (hj : j < 8) (e : c i = c j) : i = j := by
  rcases Nat.lt_trichotomy i j with z | z | z
  · have := gk_7 H j hj i z; omega
  · exact z
  · have := gk_7 H i hi j z; omega
theorem gk_fi (H : gk_ok col r c f E) {i j : Nat} (hi : i < 4) (hj : j < 4) (e : f i = f j) : i = j := by
  rcases Nat.lt_trichotomy i j with z | z | z
  · have := gk_8 H j hj i z; omega
  · exact z
  · have := gk_8 H i hi j z; omega
def gk_dual (col : Nat → Nat) (v : Nat) : Prop := ∀ w, w < 4096 → gs_s col 12 w = 0 → gs_q 12 (v &&& w) = false
theorem gk_dx {u v : Nat} (hu : gk_dual col u) (hv : gk_dual col v) : gk_dual col (u ^^^ v) := by
  intro w hw hs
  rw [Nat.and_xor_distrib_right, gs_qxor, hu w hw hs, hv w hw hs] <;> rfl
theorem gk_dr (H : gk_ok col r c f E) {i : Nat} (hi : i < 8) : gk_dual col (r i) := fun w _ hs => gk_9 H w hs i hi
theorem gk_d0 : gk_dual col 0 := by
  intro w _ _
  rw [Nat.zero_and]
  exact gs_qz 12 (fun j _ => Nat.zero_testBit j)
theorem gk_ds (H : gk_ok col r c f E) (m : Nat) : ∀ n, n ≤ 8 → gk_dual col (gs_s r n m) := by
  intro n
  induction n with
  | zero => intro _; exact gk_d0
  | succ n ih =>
    intro hn
    cases hm : m.testBit n
    · rw [gs_sF hm]; exact ih (by omega)
    · rw [gs_sT hm]; exact gk_dx (ih (by omega)) (gk_dr H (by omega))
/-- a word of the dual with no check bit is 0 -/
theorem gk_dz (H : gk_ok col r c f E) {d : Nat} (hd : d < 2 ^ 12) (hu : gk_dual col d) (hc : ∀ i, i < 8 → d.testBit (c i) = false) : d = 0 := by
  apply gc_ext (n := 12) hd (by decide)
  intro p hp
  rw [Nat.zero_testBit]
  rcases gk_5 H p hp with ⟨i, hi, e⟩ | ⟨j, hj, e⟩
  · rw [← e]; exact hc i hi
  · have h := hu (E j) (gk_3 H j hj).2.1 (gk_3 H j hj).2.2
    rw [gs_q1 (x := d &&& E j) (q := f j) 12 (gk_3 H j hj).1 (fun p' hp' hne => by
      rw [Nat.testBit_and]
      rcases gk_5 H p' hp' with ⟨i, hi, e'⟩ | ⟨j', hj', e'⟩
      · rw [← e', hc i hi, Bool.false_and]
      · rw [← e', gk_4 H j hj j' hj', decide_eq_false (fun z => hne (by rw [← e', z])), Bool.and_false])] at h
    rw [Nat.testBit_and, gk_4 H j hj j hj, decide_eq_true rfl, Bool.and_true] at h
    rw [← e]; exact h
/-- a word with all parities 0 and no information bit is 0 -/
theorem gk_ker (H : gk_ok col r c f E) {w : Nat} (hw : w < 2 ^ 12) (hp : ∀ i, i < 8 → gs_q 12 (r i &&& w) = false) (hf : ∀ j, j < 4 → w.testBit (f j) = false) : w = 0 := by
  apply gc_ext (n := 12) hw (by decide)
  intro p hp'
  rw [Nat.zero_testBit]
  rcases gk_5 H p hp' with ⟨i, hi, e⟩ | ⟨j, hj, e⟩
  · have h := hp i hi
    rw [gs_q1 (x := r i &&& w) (q := c i) 12 (gk_2 H i hi).2.1 (fun p' hp' hne => by
      rw [Nat.testBit_and]
      rcases gk_5 H p' hp' with ⟨i', hi', e'⟩ | ⟨j', hj', e'⟩
      · rw [← e', gk_1 H i hi i' hi', decide_eq_false (fun z => hne (by rw [← e', z])), Bool.false_and]
      · rw [← e', hf j' hj', Bool.and_false])] at h
    rw [Nat.testBit_and, gk_1 H i hi i hi, decide_eq_true rfl, Bool.true_and] at h
    rw [← e]; exact h
  · rw [← e]; exact hf j hj
/-- the bits of w at the places f -/
def gk_ex (f : Nat → Nat) (n w : Nat) : Nat := gs_o 0 (fun i => w.testBit (f i)) (fun i => i) n
theorem gk_exb {f : Nat → Nat} {n w k : Nat} (hk : k < n) : (gk_ex f n w).testBit k = w.testBit (f k) :=
  gs_o1 (g := fun i => w.testBit (f i)) (s := fun i => i) hk (fun _ _ z => z) (Nat.zero_testBit _)
theorem gk_exl (f : Nat → Nat) (n w : Nat) : gk_ex f n w < 2 ^ n := gs_olt (Nat.two_pow_pos n) n (fun _ hi => hi)
theorem gk_exe {f : Nat → Nat} {n w m : Nat} (hm : m < 2 ^ n) (h : ∀ j, j < n → w.testBit (f j) = m.testBit j) : gk_ex f n w = m :=
  gc_ext (gk_exl f n w) hm (fun i hi => by rw [gk_exb hi, h i hi])
theorem gk_Gb (H : gk_ok col r c f E) (m : Nat) {j : Nat} (hj : j < 4) : (gs_s E 4 m).testBit (f j) = m.testBit j := gs_b1 4 hj (fun i hi => gk_4 H i hi j hj)
theorem gk_Gl (H : gk_ok col r c f E) (m : Nat) : gs_s E 4 m < 2 ^ 12 := gs_lt 4 (fun j hj => (gk_3 H j hj).2.1)
theorem gk_Gs (H : gk_ok col r c f E) (m : Nat) : gs_s col 12 (gs_s E 4 m) = 0 := by
  rw [gs_comp]
  exact gs_allz 4 (fun j hj _ => (gk_3 H j hj).2.2)
theorem gk_Ge (H : gk_ok col r c f E) {m : Nat} (hm : m < 2 ^ 4) : gk_ex f 4 (gs_s E 4 m) = m := gk_exe hm (fun _ hj => gk_Gb H m hj)
theorem gk_U (H : gk_ok col r c f E) {w m : Nat} (hw : w < 2 ^ 12) (hp : ∀ i, i < 8 → gs_q 12 (r i &&& w) = false) (hf : ∀ j, j < 4 → w.testBit (f j) = m.testBit j) : w = gs_s E 4 m := by
  apply gx_eq
  refine gk_ker H (Nat.xor_lt_two_pow hw (gk_Gl H m)) (fun i hi => ?_) (fun j hj => ?_)
  · rw [Nat.and_xor_distrib_left, gs_qxor, hp i hi, gk_9 H _ (gk_Gs H m) i hi] <;> rfl
  · rw [Nat.testBit_xor, hf j hj, gk_Gb H m hj, Bool.xor_self]
theorem gk_C (H : gk_ok col r c f E) {w : Nat} (hw : w < 2 ^ 12) (hs : gs_s col 12 w = 0) : w = gs_s E 4 (gk_ex f 4 w) :=
  gk_U H hw (gk_9 H w hs) (fun _ hj => (gk_exb hj).symm)
/-- two words of weight at most 2 with one syndrome are one word -/
theorem gk_dist (H : gk_ok col r c f E) {e e' : Nat} (he : e < 2 ^ 12) (he' : e' < 2 ^ 12) (w1 : gs_w 12 e ≤ 2) (w2 : gs_w 12 e' ≤ 2) (hs : gs_s col 12 e = gs_s col 12 e') : e = e' := by
  apply gx_eq
  have h0 : gs_s col 12 (e ^^^ e') = 0 := by rw [gs_xor, hs, Nat.xor_self]
  have hw := gs_wxor e e' 12
  have hC := gk_C H (Nat.xor_lt_two_pow he he') h0
  by_cases z : gk_ex f 4 (e ^^^ e') = 0
  · rw [z, gs_zero] at hC
    exact hC
  · have h5 := gk_10 H _ (gk_exl f 4 _) z
    rw [← hC] at h5
    omega
/-- a word of the dual is the sum of the rows of its check bits -/
theorem gk_vr (H : gk_ok col r c f E) {v : Nat} (hv : v < 2 ^ 12) (hu : gk_dual col v) : v = gs_s r 8 (gk_ex c 8 v) := by
  apply gx_eq
  refine gk_dz H (Nat.xor_lt_two_pow hv (gs_lt 8 fun j hj => (gk_2 H j hj).1)) (gk_dx hu (gk_ds H _ 8 (Nat.le_refl 8))) (fun i hi => ?_)
  rw [Nat.testBit_xor, gs_b1 8 hi (fun j hj => gk_1 H j hj i hi), gk_exb hi, Bool.xor_self]
/-- the lowest bit of a word of the dual stands at a check position -/
theorem gk_low (H : gk_ok col r c f E) {v q : Nat} (hv : v < 2 ^ 12) (hu : gk_dual col v) (hq : q < 12) (h1 : v.testBit q = true) (h0 : ∀ p, p < q → v.testBit p = false) : ∃ i, i < 8 ∧ c i = q := by
  rcases gk_5 H q hq with z | ⟨j, hj, e⟩
  · exact z
  · have h2 : v.testBit q = false := by
      rw [gk_vr H hv hu]
      refine gs_bz 8 (fun i hi hm => ?_)
      rw [gk_exb hi] at hm
      have hne : c i ≠ q := by rw [← e]; exact gk_6 H i hi j hj
      have hnl : ¬ c i < q := by
        intro z
        rw [h0 _ z] at hm
        cases hm
      exact (gk_2 H i hi).2.2 q (by omega)
    rw [h2] at h1
    cases h1
/-- the mask of the check positions -/
def gk_pm (c : Nat → Nat) : Nat := gs_o 0 (fun _ => true) c 8
theorem gk_pmc (c : Nat → Nat) {i : Nat} (hi : i < 8) : (gk_pm c).testBit (c i) = true := by
  unfold gk_pm
  rw [gs_ob]
  cases he : gc_ex 8 fun j => true && decide (c j = c i)
  · have := gc_ex_n he i hi
    rw [decide_eq_true rfl] at this
    exact absurd this (by decide)
  · rw [Bool.or_true]
theorem gk_pmn {c : Nat → Nat} {p : Nat} (h : ∀ i, i < 8 → c i ≠ p) : (gk_pm c).testBit p = false := by
  unfold gk_pm
  rw [gs_o0 h, Nat.zero_testBit]
theorem gk_pmi {c : Nat → Nat} {p : Nat} (h : (gk_pm c).testBit p = true) : ∃ i, i < 8 ∧ c i = p := by
  unfold gk_pm at h
  rw [gs_ob, Nat.zero_testBit, Bool.false_or] at h
  obtain ⟨i, hi, q⟩ := gc_ex_i h
  rw [Bool.true_and, decide_eq_true_eq] at q
  exact ⟨i, hi, q⟩
theorem gk_pml (H : gk_ok col r c f E) : gk_pm c < 2 ^ 12 := gs_olt (by decide) 8 (fun i hi => (gk_2 H i hi).2.1)
theorem gk_only (H : gk_ok col r c f E) {v i : Nat} (hi : i < 8) (hv : v < 2 ^ 12) (hu : gk_dual col v) (he : v &&& gk_pm c = 2 ^ c i) : v = r i := by
  apply gx_eq
  refine gk_dz H (Nat.xor_lt_two_pow hv (gk_2 H i hi).1) (gk_dx hu (gk_dr H hi)) (fun j hj => ?_)
  have h : (v &&& gk_pm c).testBit (c j) = (2 ^ c i).testBit (c j) := by rw [he]
  rw [Nat.testBit_and, gk_pmc c hj, Bool.and_true, Nat.testBit_two_pow] at h
  rw [Nat.testBit_xor, h, gk_1 H i hi j hj]
  by_cases z : i = j
  · subst z; rw [decide_eq_true rfl, decide_eq_true rfl] <;> rfl
  · rw [decide_eq_false z, decide_eq_false (fun y => z (gk_ci H hi hj y))] <;> rfl
theorem gk_rpm (H : gk_ok col r c f E) {i : Nat} (hi : i < 8) : r i &&& gk_pm c = 2 ^ c i := by
  refine gc_ext (n := 12) (Nat.and_lt_two_pow _ (gk_pml H)) (Nat.pow_lt_pow_right (by decide) (gk_2 H i hi).2.1) (fun p hp => ?_)
  rw [Nat.testBit_and, Nat.testBit_two_pow]
  rcases gk_5 H p hp with ⟨j, hj, e⟩ | ⟨j, hj, e⟩
  · rw [← e, gk_pmc c hj, gk_1 H i hi j hj, Bool.and_true]
    by_cases z : i = j
    · subst z; rw [decide_eq_true rfl, decide_eq_true rfl]
    · rw [decide_eq_false z, decide_eq_false (fun y => z (gk_ci H hi hj y))]
  · rw [← e, gk_pmn (fun k hk => gk_6 H k hk j hj), Bool.and_false, decide_eq_false (gk_6 H i hi j hj)]
theorem gk_rlow (H : gk_ok col r c f E) {i : Nat} (hi : i < 8) : (r i).testBit (c i) = true := by
  rw [gk_1 H i hi i hi, decide_eq_true rfl]
theorem gk_rpos (H : gk_ok col r c f E) {i : Nat} (hi : i < 8) : 0 < r i := by
  rcases Nat.eq_zero_or_pos (r i) with z | z
  · have h := gk_rlow H hi
    rw [z, Nat.zero_testBit] at h
    cases h
  · exact z
/-- the class's codeword -/
def gk_iw (f : Nat → Nat) (m : Nat) : Nat := gs_o 0 (fun i => m.testBit i) f 4
def gk_cw (r c f : Nat → Nat) (m : Nat) : Nat := gs_o (gk_iw f m) (fun i => gs_q 12 (r i &&& gk_iw f m)) c 8
theorem gk_iwl (H : gk_ok col r c f E) (m : Nat) : gk_iw f m < 2 ^ 12 := gs_olt (by decide) 4 (fun i hi => (gk_3 H i hi).1)
theorem gk_cwl (H : gk_ok col r c f E) (m : Nat) : gk_cw r c f m < 2 ^ 12 := gs_olt (gk_iwl H m) 8 (fun i hi => (gk_2 H i hi).2.1)
theorem gk_cwe (H : gk_ok col r c f E) (m : Nat) : gk_cw r c f m = gs_s E 4 m := by
  have hic : ∀ i, i < 8 → (gk_iw f m).testBit (c i) = false := fun i hi => by
    unfold gk_iw
    rw [gs_o0 (fun j hj => (gk_6 H i hi j hj).symm), Nat.zero_testBit]
  have hif : ∀ j, j < 4 → (gk_iw f m).testBit (f j) = m.testBit j := fun j hj =>
    gs_o1 (g := fun i => m.testBit i) (s := f) hj (fun i hi z => gk_fi H hi hj z) (Nat.zero_testBit _)
  have hcf : ∀ j, j < 4 → (gk_cw r c f m).testBit (f j) = m.testBit j := fun j hj => by
    unfold gk_cw
    rw [gs_o0 (fun i hi => gk_6 H i hi j hj), hif j hj]
  have hcc : ∀ i, i < 8 → (gk_cw r c f m).testBit (c i) = gs_q 12 (r i &&& gk_iw f m) := fun i hi =>
    gs_o1 (g := fun i => gs_q 12 (r i &&& gk_iw f m)) (s := c) hi (fun j hj z => gk_ci H hj hi z) (hic i hi)
  refine gk_U H (gk_cwl H m) (fun i hi => ?_) hcf
  have e : r i &&& gk_cw r c f m = (r i &&& gk_iw f m) ^^^ ((gs_q 12 (r i &&& gk_iw f m)).toNat * 2 ^ c i) := by
    have hl : (gs_q 12 (r i &&& gk_iw f m)).toNat * 2 ^ c i < 2 ^ 12 := by
      have h1 : 2 ^ c i < 2 ^ 12 := Nat.pow_lt_pow_right (by decide) (gk_2 H i hi).2.1
      cases gs_q 12 (r i &&& gk_iw f m)
      · show 0 * 2 ^ c i < 2 ^ 12; omega
      · show 1 * 2 ^ c i < 2 ^ 12; omega
    have hb : ∀ p, ((gs_q 12 (r i &&& gk_iw f m)).toNat * 2 ^ c i).testBit p = (gs_q 12 (r i &&& gk_iw f m) && decide (c i = p)) := fun p => by
      cases gs_q 12 (r i &&& gk_iw f m)
      · show (0 * 2 ^ c i).testBit p = false
        rw [Nat.zero_mul, Nat.zero_testBit]
      · show (1 * 2 ^ c i).testBit p = (true && decide (c i = p))
        rw [Nat.one_mul, Nat.testBit_two_pow, Bool.true_and]
    refine gc_ext (n := 12) (Nat.and_lt_two_pow _ (gk_cwl H m)) (Nat.xor_lt_two_pow (Nat.and_lt_two_pow _ (gk_iwl H m)) hl) (fun p hp => ?_)
    rw [Nat.testBit_xor, hb, Nat.testBit_and, Nat.testBit_and]
    rcases gk_5 H p hp with ⟨j, hj, e⟩ | ⟨j, hj, e⟩
    · rw [← e, hcc j hj, hic j hj, gk_1 H i hi j hj]
      by_cases z : i = j
      · subst z
        rw [decide_eq_true rfl, decide_eq_true rfl, Bool.true_and, Bool.and_false, Bool.and_true, Bool.false_xor]
      · rw [decide_eq_false z, decide_eq_false (fun y => z (gk_ci H hi hj y)), Bool.false_and, Bool.false_and, Bool.and_false, Bool.xor_self]
    · rw [← e, hcf j hj, hif j hj, decide_eq_false (gk_6 H i hi j hj), Bool.and_false, Bool.xor_false]
  rw [e, gs_qxor]
  cases hq : gs_q 12 (r i &&& gk_iw f m)
  · rw [show (false : Bool).toNat * 2 ^ c i = 0 from Nat.zero_mul _, gs_qz 12 (fun j _ => Nat.zero_testBit j)] <;> rfl
  · rw [show (true : Bool).toNat * 2 ^ c i = 2 ^ c i from Nat.one_mul _, gs_q1 (x := 2 ^ c i) (q := c i) 12 (gk_2 H i hi).2.1 (fun j _ hne => by rw [Nat.testBit_two_pow, decide_eq_false (fun z => hne z.symm)]), Nat.testBit_two_pow, decide_eq_true rfl] <;> rfl
end
