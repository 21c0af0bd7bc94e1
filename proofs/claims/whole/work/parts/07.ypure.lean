/-! what the reference's construction, encryption and decryption reckon, without the walks -/
/-- the list of the words of syndrome 0 below w -/
def gy_cl (col : Nat → Nat) (w cnt : Nat) (cl : Nat → Int32) : Prop :=
  cnt ≤ w ∧ (∀ x, x < w → gs_s col 12 x = 0 → ∃ i, i < cnt ∧ cl i = nI x) ∧ (∀ i, i < cnt → ∃ x, x < w ∧ gs_s col 12 x = 0 ∧ cl i = nI x)
theorem gy_cl0 (col : Nat → Nat) (cl : Nat → Int32) : gy_cl col 0 0 cl :=
  ⟨Nat.le_refl 0, fun x h => absurd h (Nat.not_lt_zero x), fun i h => absurd h (Nat.not_lt_zero i)⟩
theorem gy_clT {col : Nat → Nat} {w cnt : Nat} {cl : Nat → Int32} (h : gy_cl col w cnt cl) (hs : gs_s col 12 w = 0) : gy_cl col (w + 1) (cnt + 1) (upd cl cnt (nI w)) := by
  refine ⟨Nat.succ_le_succ h.1, fun x hx hs' => ?_, fun i hi => ?_⟩
  · by_cases e : x = w
    · subst e
      exact ⟨cnt, by omega, pk_us⟩
    · obtain ⟨i, hi, ei⟩ := h.2.1 x (by omega) hs'
      exact ⟨i, by omega, by rw [pk_un (by omega)]; exact ei⟩
  · by_cases e : i = cnt
    · subst e
      exact ⟨w, by omega, hs, pk_us⟩
    · obtain ⟨x, hx, hs', ex⟩ := h.2.2 i (by omega)
      exact ⟨x, by omega, hs', by rw [pk_un e]; exact ex⟩
theorem gy_clF {col : Nat → Nat} {w cnt : Nat} {cl : Nat → Int32} (h : gy_cl col w cnt cl) (hs : gs_s col 12 w ≠ 0) : gy_cl col (w + 1) cnt cl := by
  refine ⟨Nat.le_succ_of_le h.1, fun x hx hs' => ?_, fun i hi => ?_⟩
  · by_cases e : x = w
    · subst e
      exact absurd hs' hs
    · exact h.2.1 x (by omega) hs'
  · obtain ⟨x, hx, hs', ex⟩ := h.2.2 i hi
    exact ⟨x, by omega, hs', ex⟩
/-- v against the first i words of the list -/
def gy_ok (cl : Nat → Int32) (v i : Nat) (s : Int32) : Prop :=
  (s = 1 ∧ ∀ k, k < i → ∀ x, x < 4096 → cl k = nI x → gs_q 12 (v &&& x) = false) ∨ (s = 0 ∧ ∃ k, k < i ∧ ∃ x, x < 4096 ∧ cl k = nI x ∧ gs_q 12 (v &&& x) = true)
theorem gy_ok0 (cl : Nat → Int32) (v : Nat) : gy_ok cl v 0 1 := Or.inl ⟨rfl, fun k h => absurd h (Nat.not_lt_zero k)⟩
theorem gy_okT {cl : Nat → Int32} {v i x : Nat} (hx : x < 4096) (e : cl i = nI x) (hq : gs_q 12 (v &&& x) = true) : gy_ok cl v (i + 1) 0 :=
  Or.inr ⟨rfl, i, Nat.lt_succ_self i, x, hx, e, hq⟩
theorem gy_okF {cl : Nat → Int32} {v i x : Nat} {s : Int32} (h : gy_ok cl v i s) (hx : x < 4096) (e : cl i = nI x) (hq : gs_q 12 (v &&& x) = false) : gy_ok cl v (i + 1) s := by
  rcases h with ⟨h1, h2⟩ | ⟨h1, k, hk, h2⟩
  · refine Or.inl ⟨h1, fun k hk y hy ey => ?_⟩
    by_cases z : k = i
    · subst z
      have : x = y := (nI_eq (by omega) (by omega)).mp (e.symm.trans ey)
      subst this
      exact hq
    · exact h2 k (by omega) y hy ey
  · exact Or.inr ⟨h1, k, by omega, h2⟩
/-- the table of the dual's words below v -/
def gy_du (col : Nat → Nat) (a : Nat → Int32) (v : Nat) : Prop := ∀ x, x < v → (a x = 1 ∧ gk_dual col x) ∨ (a x = 0 ∧ ¬ gk_dual col x)
theorem gy_okE {col : Nat → Nat} {cnt v : Nat} {cl : Nat → Int32} {s : Int32} (hc : gy_cl col 4096 cnt cl) (h : gy_ok cl v cnt s) : (s = 1 ∧ gk_dual col v) ∨ (s = 0 ∧ ¬ gk_dual col v) := by
  rcases h with ⟨h1, h2⟩ | ⟨h1, k, hk, x, hx, ex, hq⟩
  · refine Or.inl ⟨h1, fun w hw hs => ?_⟩
    obtain ⟨i, hi, ei⟩ := hc.2.1 w hw hs
    exact h2 i hi w hw ei
  · refine Or.inr ⟨h1, fun hd => ?_⟩
    obtain ⟨y, hy, hs, ey⟩ := hc.2.2 k hk
    have : x = y := (nI_eq (by omega) (by omega)).mp (ex.symm.trans ey)
    subst this
    rw [hd x hx hs] at hq
    cases hq
theorem gy_duS {col : Nat → Nat} {a : Nat → Int32} {v : Nat} {s : Int32} (h : gy_du col a v) (hs : (s = 1 ∧ gk_dual col v) ∨ (s = 0 ∧ ¬ gk_dual col v)) : gy_du col (upd a v s) (v + 1) := by
  intro x hx
  by_cases e : x = v
  · subst e
    rw [pk_us]
    exact hs
  · rw [pk_un e]
    exact h x (by omega)
/-- the lowest set bit -/
def gy_lo (v q : Nat) : Prop := v.testBit q = true ∧ ∀ p, p < q → v.testBit p = false
theorem gy_loE {v : Nat} (hv : v < 2 ^ 12) (h0 : 0 < v) : ∃ q, q < 12 ∧ gy_lo v q := by
  obtain ⟨q, h1, h2⟩ := gc_least (fun i => v.testBit i = true) (Nat.exists_testBit_of_ne_zero (by omega))
  refine ⟨q, ?_, h1, fun p hp => ?_⟩
  · rcases Nat.lt_or_ge q 12 with z | z
    · exact z
    · have h1 : v.testBit q = true := h1
      rw [gc_tb0 hv z] at h1
      cases h1
  · have z : ¬ v.testBit p = true := h2 p hp
    cases e : v.testBit p
    · rfl
    · exact absurd e z
theorem gy_loU {v p q : Nat} (hp : gy_lo v p) (hq : gy_lo v q) : p = q := by
  rcases Nat.lt_trichotomy p q with z | z | z
  · have := hq.2 p z
    rw [hp.1] at this
    cases this
  · exact z
  · have := hp.2 q z
    rw [hq.1] at this
    cases this
section
variable {col r c f E : Nat → Nat}
theorem gy_lor (H : gk_ok col r c f E) {i : Nat} (hi : i < 8) : gy_lo (r i) (c i) := ⟨gk_rlow H hi, (gk_2 H i hi).2.2⟩
/-- the mask while position q is looked through up to v -/
def gy_pv (col c : Nat → Nat) (q v : Nat) (s : Int32) : Prop :=
  (s = nI (gk_pm c % 2 ^ q) ∧ ∀ x, 0 < x → x < v → gk_dual col x → ¬ gy_lo x q) ∨ (s = nI (gk_pm c % 2 ^ (q + 1)) ∧ (gk_pm c).testBit q = true)
theorem gy_pv1 (col c : Nat → Nat) (q : Nat) : gy_pv col c q 1 (nI (gk_pm c % 2 ^ q)) := Or.inl ⟨rfl, fun x h0 h1 => by omega⟩
theorem gy_pvF {q v : Nat} {s : Int32} (h : gy_pv col c q v s) (hn : ¬ (gk_dual col v ∧ gy_lo v q)) : gy_pv col c q (v + 1) s := by
  rcases h with ⟨h1, h2⟩ | h
  · refine Or.inl ⟨h1, fun x h0 hx hd hl => ?_⟩
    by_cases e : x = v
    · subst e
      exact hn ⟨hd, hl⟩
    · exact h2 x h0 (by omega) hd hl
  · exact Or.inr h
theorem gy_or1 {P q : Nat} (h : P.testBit q = true) : P % 2 ^ q ||| 2 ^ q = P % 2 ^ (q + 1) := by
  apply Nat.eq_of_testBit_eq
  intro i
  rw [Nat.testBit_or, Nat.testBit_mod_two_pow, Nat.testBit_mod_two_pow, Nat.testBit_two_pow]
  rcases Nat.lt_trichotomy i q with z | z | z
  · rw [decide_eq_true z, decide_eq_true (show i < q + 1 by omega), decide_eq_false (show ¬ q = i by omega), Bool.or_false]
  · subst z
    rw [decide_eq_false (Nat.lt_irrefl i), decide_eq_true (Nat.lt_succ_self i), decide_eq_true rfl, h] <;> rfl
  · rw [decide_eq_false (show ¬ i < q by omega), decide_eq_false (show ¬ i < q + 1 by omega), decide_eq_false (show ¬ q = i by omega)] <;> rfl
theorem gy_or2 {P q : Nat} (h : P.testBit q = true) : P % 2 ^ (q + 1) ||| 2 ^ q = P % 2 ^ (q + 1) := by
  rw [← gy_or1 h, Nat.or_assoc, Nat.or_self]
theorem gy_or3 {P q : Nat} (h : P.testBit q = false) : P % 2 ^ q = P % 2 ^ (q + 1) := by
  apply Nat.eq_of_testBit_eq
  intro i
  rw [Nat.testBit_mod_two_pow, Nat.testBit_mod_two_pow]
  rcases Nat.lt_trichotomy i q with z | z | z
  · rw [decide_eq_true z, decide_eq_true (show i < q + 1 by omega)]
  · subst z
    rw [h, Bool.and_false, Bool.and_false]
  · rw [decide_eq_false (show ¬ i < q by omega), decide_eq_false (show ¬ i < q + 1 by omega)]
theorem gy_pvT (H : gk_ok col r c f E) {q v : Nat} {s : Int32} (hq : q < 12) (hv : v < 2 ^ 12) (h : gy_pv col c q v s) (hd : gk_dual col v) (hl : gy_lo v q) : gy_pv col c q (v + 1) (s ||| nI (2 ^ q)) := by
  obtain ⟨i, hi, e⟩ := gk_low H hv hd hq hl.1 hl.2
  have hb : (gk_pm c).testBit q = true := by rw [← e]; exact gk_pmc c hi
  refine Or.inr ⟨?_, hb⟩
  rcases h with ⟨h1, _⟩ | ⟨h1, _⟩
  · rw [h1, gc_or, gy_or1 hb]
  · rw [h1, gc_or, gy_or2 hb]
theorem gy_pvE (H : gk_ok col r c f E) {q : Nat} {s : Int32} (h : gy_pv col c q 4096 s) : s = nI (gk_pm c % 2 ^ (q + 1)) := by
  rcases h with ⟨h1, h2⟩ | ⟨h1, _⟩
  · cases hb : (gk_pm c).testBit q
    · rw [h1, gy_or3 hb]
    · obtain ⟨i, hi, e⟩ := gk_pmi hb
      subst e
      exact absurd (gy_lor H hi) (h2 _ (gk_rpos H hi) (gk_2 H i hi).1 (gk_dr H hi))
  · exact h1
theorem gy_pm12 (H : gk_ok col r c f E) : gk_pm c % 2 ^ 12 = gk_pm c := Nat.mod_eq_of_lt (gk_pml H)
/-- rows filled for the check positions below q: n of them -/
def gy_rw (c r : Nat → Nat) (q n : Nat) (a : Nat → Int32) : Prop := n ≤ 8 ∧ (∀ i, i < 8 → (i < n ↔ c i < q)) ∧ ∀ i, i < n → a i = nI (r i)
theorem gy_rw0 (c r : Nat → Nat) (a : Nat → Int32) : gy_rw c r 0 0 a := ⟨Nat.zero_le 8, fun i _ => ⟨fun h => by omega, fun h => by omega⟩, fun i h => absurd h (Nat.not_lt_zero i)⟩
theorem gy_rwN {q n : Nat} {a : Nat → Int32} (h : gy_rw c r q n a) (hn : ∀ i, i < 8 → c i ≠ q) : gy_rw c r (q + 1) n a :=
  ⟨h.1, fun i hi => by have h1 := h.2.1 i hi; have h2 := hn i hi; omega, h.2.2⟩
theorem gy_rwi (H : gk_ok col r c f E) {q n i : Nat} {a : Nat → Int32} (h : gy_rw c r q n a) (hi : i < 8) (e : c i = q) : i = n := by
  have h1 := h.2.1 i hi
  rcases Nat.lt_trichotomy i n with z | z | z
  · omega
  · exact z
  · have h2 := h.2.1 n (by omega)
    have h3 := gk_7 H i hi n z
    omega
theorem gy_rwS (H : gk_ok col r c f E) {q n : Nat} {a : Nat → Int32} (h : gy_rw c r q n a) (hn : n < 8) (e : c n = q) (ha : a n = nI (r n)) : gy_rw c r (q + 1) (n + 1) a := by
  refine ⟨by omega, fun i hi => ?_, fun i hi => ?_⟩
  · rcases Nat.lt_trichotomy i n with z | z | z
    · have h1 := gk_7 H n hn i z
      omega
    · subst z; omega
    · have h1 := gk_7 H i hi n z
      omega
  · by_cases z : i = n
    · subst z; exact ha
    · exact h.2.2 i (by omega)
/-- row n while position c n is looked through up to v -/
def gy_rv (r : Nat → Nat) (n v : Nat) (a : Nat → Int32) : Prop := (∀ i, i < n → a i = nI (r i)) ∧ (r n < v → a n = nI (r n))
theorem gy_rvF {n v : Nat} {a : Nat → Int32} (h : gy_rv r n v a) (hn : v ≠ r n) : gy_rv r n (v + 1) a := ⟨h.1, fun z => h.2 (by omega)⟩
theorem gy_rvT {n : Nat} {a : Nat → Int32} (h : gy_rv r n (r n) a) : gy_rv r n (r n + 1) (upd a n (nI (r n))) :=
  ⟨fun i hi => by rw [pk_un (by omega)]; exact h.1 i hi, fun _ => pk_us⟩
/-- when the reference takes v as the row of position c n -/
theorem gy_rvi (H : gk_ok col r c f E) {n v : Nat} (hn : n < 8) (hv : v < 2 ^ 12) : (gk_dual col v ∧ gy_lo v (c n) ∧ v &&& gk_pm c = 2 ^ c n) ↔ v = r n := by
  constructor
  · intro h
    exact gk_only H hn hv h.1 h.2.2
  · intro h
    subst h
    exact ⟨gk_dr H hn, gy_lor H hn, gk_rpm H hn⟩
/-- information positions below q: n of them -/
def gy_if (f : Nat → Nat) (q n : Nat) (a : Nat → Int32) : Prop := n ≤ 4 ∧ (∀ i, i < 4 → (i < n ↔ f i < q)) ∧ ∀ i, i < n → a i = nI (f i)
theorem gy_if0 (f : Nat → Nat) (a : Nat → Int32) : gy_if f 0 0 a := ⟨Nat.zero_le 4, fun i _ => ⟨fun h => by omega, fun h => by omega⟩, fun i h => absurd h (Nat.not_lt_zero i)⟩
theorem gy_ifN {q n : Nat} {a : Nat → Int32} (h : gy_if f q n a) (hn : ∀ i, i < 4 → f i ≠ q) : gy_if f (q + 1) n a :=
  ⟨h.1, fun i hi => by have h1 := h.2.1 i hi; have h2 := hn i hi; omega, h.2.2⟩
theorem gy_ifS (H : gk_ok col r c f E) {q n i : Nat} {a : Nat → Int32} (h : gy_if f q n a) (hi : i < 4) (e : f i = q) : n < 4 ∧ gy_if f (q + 1) (n + 1) (upd a n (nI q)) := by
  have h1 := h.2.1 i hi
  have hin : i = n := by
    rcases Nat.lt_trichotomy i n with z | z | z
    · omega
    · exact z
    · have h2 := h.2.1 n (by omega)
      have h3 := gk_8 H i hi n z
      omega
  subst hin
  refine ⟨hi, by omega, fun k hk => ?_, fun k hk => ?_⟩
  · rcases Nat.lt_trichotomy k i with z | z | z
    · have h1 := gk_8 H i hi k z
      omega
    · subst z; omega
    · have h1 := gk_8 H k hk i z
      omega
  · by_cases z : k = i
    · subst z; rw [pk_us, e]
    · rw [pk_un z]; exact h.2.2 k (by omega)
/-- after all positions: eight rows, four information positions -/
theorem gy_rwE (H : gk_ok col r c f E) {n : Nat} {a : Nat → Int32} (h : gy_rw c r 12 n a) : n = 8 ∧ ∀ i, i < 8 → a i = nI (r i) := by
  have hn : n = 8 := by
    rcases Nat.lt_or_ge n 8 with z | z
    · have h1 := h.2.1 n z
      have h2 := (gk_2 H n z).2.1
      omega
    · have := h.1; omega
  subst hn
  exact ⟨rfl, h.2.2⟩
theorem gy_ifE (H : gk_ok col r c f E) {n : Nat} {a : Nat → Int32} (h : gy_if f 12 n a) : n = 4 ∧ ∀ i, i < 4 → a i = nI (f i) := by
  have hn : n = 4 := by
    rcases Nat.lt_or_ge n 4 with z | z
    · have h1 := h.2.1 n z
      have h2 := (gk_3 H n z).1
      omega
    · have := h.1; omega
  subst hn
  exact ⟨rfl, h.2.2⟩
/-- the one word of the code with the message m -/
theorem gy_enc (H : gk_ok col r c f E) {w m : Nat} (hw : w < 2 ^ 12) (hm : m < 2 ^ 4) : (gs_s col 12 w = 0 ∧ gk_ex f 4 w = m) ↔ w = gs_s E 4 m := by
  constructor
  · intro h
    have e := gk_C H hw h.1
    rw [h.2] at e
    exact e
  · intro h
    subst h
    exact ⟨gk_Gs H m, gk_Ge H hm⟩
end
/-! words of weight at most 2 -/
theorem gy_t2 : (gc_al 64 fun a => gc_al 64 fun b => gc_st (64 * a + b) fun w => !(Nat.ble (gs_w 12 w) 2) || (Nat.beq w 0 || gc_ex 12 fun j => gc_ex (j + 1) fun i => Nat.beq w (2 ^ i ||| 2 ^ j))) = true := by decide +kernel
theorem gy_t3 : ∀ i, i < 12 → ∀ j, j < 12 → gs_w 12 (2 ^ i ||| 2 ^ j) ≤ 2 ∧ 2 ^ i ||| 2 ^ j < 4096 := by decide +kernel
theorem gy_w2 {w : Nat} (hw : w < 4096) (h2 : gs_w 12 w ≤ 2) (h0 : w ≠ 0) : ∃ i j, i ≤ j ∧ j < 12 ∧ w = 2 ^ i ||| 2 ^ j := by
  have h := gc_al_i (gc_al_i gy_t2 (w / 64) (by omega)) (w % 64) (by omega)
  simp only [gc_st_e, Nat.div_add_mod] at h
  rw [show Nat.ble (gs_w 12 w) 2 = true from Nat.ble_eq.mpr h2, gb_f h0] at h
  have h : (gc_ex 12 fun j => gc_ex (j + 1) fun i => Nat.beq w (2 ^ i ||| 2 ^ j)) = true := h
  obtain ⟨j, hj, h⟩ := gc_ex_i h
  obtain ⟨i, hi, h⟩ := gc_ex_i h
  exact ⟨i, j, by omega, hj, Nat.eq_of_beq_eq_true h⟩
