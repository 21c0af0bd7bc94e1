/-! the class's arrays while its rows are reduced -/
def gz_r (a : Nat → Int32) (r : Nat → Nat) : Prop := ∀ i, i < 8 → a i = nI (r i) ∧ r i < 2 ^ 12
theorem gz_sw {a : Nat → Int32} {r : Nat → Nat} {p h : Nat} (H : gz_r a r) (hp : p < 8) (hh : h < 8) : gz_r (upd (upd a p (a h)) h (a p)) (gg_sw r p h) := by
  intro i hi
  by_cases e : i = h
  · subst e
    rw [pk_us, show gg_sw r p i i = r p from gc_ct (gb_t rfl)]
    exact H p hp
  · rw [pk_un e]
    by_cases e2 : i = p
    · subst e2
      rw [pk_us, show gg_sw r i h i = r h from (gc_cf (gb_f e)).trans (gc_ct (gb_t rfl))]
      exact H h hh
    · rw [pk_un e2, show gg_sw r p h i = r i from (gc_cf (gb_f e)).trans (gc_cf (gb_f e2))]
      exact H i hi
theorem gz_clT {s : Nat → Nat} {p h k : Nat} (e : k ≠ h) (b : (s k).testBit p = true) : gg_cl s p h k = s k ^^^ s h :=
  gc_ct (by rw [gb_f e, b] <;> rfl)
theorem gz_clF {s : Nat → Nat} {p h k : Nat} (b : (s k).testBit p = false) : gg_cl s p h k = s k :=
  gc_cf (by rw [b, Bool.and_false])
theorem gz_clH {s : Nat → Nat} {p h k : Nat} (e : k = h) : gg_cl s p h k = s k :=
  gc_cf (by rw [gb_t e] <;> rfl)
/-- the rows while h is added to those below i -/
def gz_c (a : Nat → Int32) (s : Nat → Nat) (p h i : Nat) : Prop := ∀ k, k < 8 → s k < 2 ^ 12 ∧ (k < i → a k = nI (gg_cl s p h k)) ∧ (i ≤ k → a k = nI (s k))
theorem gz_c0 {a : Nat → Int32} {s : Nat → Nat} (p h : Nat) (H : gz_r a s) : gz_c a s p h 0 := fun k hk => ⟨(H k hk).2, fun z => absurd z (Nat.not_lt_zero k), fun _ => (H k hk).1⟩
theorem gz_ch {a : Nat → Int32} {s : Nat → Nat} {p h i : Nat} (H : gz_c a s p h i) (hh : h < 8) : a h = nI (s h) := by
  rcases Nat.lt_or_ge h i with z | z
  · rw [(H h hh).2.1 z, gz_clH rfl]
  · exact (H h hh).2.2 z
theorem gz_cF {a : Nat → Int32} {s : Nat → Nat} {p h i : Nat} (H : gz_c a s p h i) (e : gg_cl s p h i = s i) : gz_c a s p h (i + 1) := by
  intro k hk
  refine ⟨(H k hk).1, fun z => ?_, fun z => (H k hk).2.2 (by omega)⟩
  by_cases y : k = i
  · subst y
    rw [e]
    exact (H k hk).2.2 (Nat.le_refl k)
  · exact (H k hk).2.1 (by omega)
theorem gz_cT {a : Nat → Int32} {s : Nat → Nat} {p h i : Nat} (H : gz_c a s p h i) (hh : h < 8) (hi : i < 8) (e : i ≠ h) (b : (s i).testBit p = true) : gz_c (upd a i (a i ^^^ a h)) s p h (i + 1) := by
  intro k hk
  refine ⟨(H k hk).1, fun z => ?_, fun z => ?_⟩
  · by_cases y : k = i
    · subst y
      rw [pk_us, gz_ch H hh, (H k hk).2.2 (Nat.le_refl k), nx_xor, gz_clT e b]
    · rw [pk_un y]
      exact (H k hk).2.1 (by omega)
  · rw [pk_un (by omega)]
    exact (H k hk).2.2 (by omega)
theorem gz_cE {a : Nat → Int32} {s : Nat → Nat} {p h : Nat} (H : gz_c a s p h 8) (hh : h < 8) : gz_r a (gg_cl s p h) := by
  intro k hk
  refine ⟨(H k hk).2.1 hk, ?_⟩
  by_cases e : k = h
  · rw [gz_clH e]; exact (H k hk).1
  · cases b : (s k).testBit p
    · rw [gz_clF b]; exact (H k hk).1
    · rw [gz_clT e b]; exact Nat.xor_lt_two_pow (H k hk).1 (H h hh).1
theorem gz_N {col r c f : Nat → Nat} {n cc ic pv : Nat} {aI : Nat → Int32} (e : gg_a col n = (r, c, f, cc, ic)) (hp : gg_fi r n (8 - cc) cc = pv) (hv : ¬ pv < 8) (hf : ∀ i, i < ic → aI i = nI (f i)) : ∃ f', gg_a col (n + 1) = (r, c, f', cc, ic + 1) ∧ ∀ i, i < ic + 1 → upd aI ic (nI n) i = nI (f' i) := by
  refine ⟨fun k => cond (Nat.beq k ic) n (f k), ?_, fun i hi => ?_⟩
  · show gg_step (gg_a col n) n = _
    rw [e, gg_stepF hp hv]
  · by_cases z : i = ic
    · subst z
      rw [pk_us]
      exact congrArg nI (gc_ct (gb_t rfl)).symm
    · rw [pk_un z, hf i (by omega)]
      exact congrArg nI (gc_cf (gb_f z)).symm
theorem gz_T {col r c f : Nat → Nat} {n cc ic pv : Nat} {aC : Nat → Int32} (e : gg_a col n = (r, c, f, cc, ic)) (hp : gg_fi r n (8 - cc) cc = pv) (hv : pv < 8) (hc : ∀ i, i < cc → aC i = nI (c i)) : ∃ r' c', gg_a col (n + 1) = (r', c', f, cc + 1, ic) ∧ (∀ k, k < 8 → r' k = gg_cl (gg_sw r pv cc) n cc k) ∧ ∀ i, i < cc + 1 → upd aC cc (nI n) i = nI (c' i) := by
  obtain ⟨r', hr', er⟩ := gg_stepT (c := c) (f := f) (ic := ic) hp hv
  refine ⟨r', fun k => cond (Nat.beq k cc) n (c k), ?_, hr', fun i hi => ?_⟩
  · show gg_step (gg_a col n) n = _
    rw [e, er]
  · by_cases z : i = cc
    · subst z
      rw [pk_us]
      exact congrArg nI (gc_ct (gb_t rfl)).symm
    · rw [pk_un z, hc i (by omega)]
      exact congrArg nI (gc_cf (gb_f z)).symm
theorem gz_rc {a : Nat → Int32} {r r' : Nat → Nat} (H : gz_r a r) (h : ∀ k, k < 8 → r' k = r k) : gz_r a r' := fun i hi => by
  rw [h i hi]
  exact H i hi
