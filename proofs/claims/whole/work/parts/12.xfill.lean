/-! the class: what the constructor fills -/
section
variable {lt ct fs cc ic ms em rc de fo : Int32} {aP aR aC aI : Nat → Int32}
theorem wx_fpsl {post : SX → Prop} {A B s : Nat} (hA : A < 16) (hB : B < 16) (hs : s < 16) (h : ∀ aP', (∀ i, i < 12 → aP' i = nI (gg_col A B s i)) → post (nI A, nI B, nI s, cc, ic, ms, em, rc, de, fo, aP', aR, aC, aI)) : ∀ d j aP, j + d = 12 → (∀ i, i < j → aP i = nI (gg_col A B s i)) → wX_fillPositionSyndromes_2 post (nI A) (nI B) (nI s) cc ic ms em rc de fo (d + 1) (nI j) aP aR aC aI := by
  intro d
  induction d with
  | zero =>
    intro j aP hj hi
    have : j = 12 := by omega
    subst this
    exact pk_le 12 12 (fun _ => h aP hi) (fun z => absurd z (by omega))
  | succ d ih =>
    intro j aP hj hi
    have e : (16 : Int32) + nI ((s + j) % 16) = nI (16 + (s + j) % 16) := nI_add 16 _
    refine pk_le 12 j (fun z => absurd z (by omega)) (fun _ => wx_sup hs (by omega) (wx_inv (16 + (s + j) % 16) e hA hB (by omega) ⟨vp_in_nI (by omega) (by omega), nm_r (show _ = upd aP j (nI (gr_v A B (16 + (s + j) % 16) 7)) by rw [nI_clamp (by omega)]) (nm_r (nI_1 j) (ih (j + 1) _ (by omega) (fun i hi' => ?_)))⟩))
    by_cases q : i = j
    · subst q; rw [pk_us] <;> rfl
    · rw [pk_un q]; exact hi i (by omega)
theorem wx_fps {post : SX → Prop} {A B s : Nat} (hA : A < 16) (hB : B < 16) (hs : s < 16) (h : ∀ aP', (∀ i, i < 12 → aP' i = nI (gg_col A B s i)) → post (nI A, nI B, nI s, cc, ic, ms, em, rc, de, fo, aP', aR, aC, aI)) : wpX_fillPositionSyndromes post (nI A, nI B, nI s, cc, ic, ms, em, rc, de, fo, aP, aR, aC, aI) :=
  ⟨_, wx_fpsl hA hB hs h 12 0 aP rfl (fun i hi => absurd hi (Nat.not_lt_zero i))⟩
theorem wx_fr12 {post : SX → Prop} {J : Int32 → (Nat → Int32) → (Nat → Int32) → (Nat → Int32) → (Nat → Int32) → Prop} {col : Nat → Nat} {b : Nat} (hb : b < 8) (hc : ∀ j, j < 12 → aP j = nI (col j) ∧ col j < 2 ^ 8) (hJ : J (nI (b + 1)) aP (upd aR b (nI (gg_r col b))) aC aI) : ∀ d i, i + d = 12 → wX_fillRows_12 post J (nI b) lt ct fs cc ic ms em rc de fo aP aR aC aI (d + 1) (nI (gs_o 0 (fun j => (col j).testBit b) (fun j => j) i)) (nI i) := by
  intro d
  induction d with
  | zero =>
    intro i hi
    have : i = 12 := by omega
    subst this
    exact pk_le 12 12 (fun _ => ⟨vp_in_nI (by omega) (by omega), nm_r (show _ = upd aR b (nI (gg_r col b)) by rw [nI_clamp (by omega)] <;> rfl) (nm_r (nI_1 b) hJ)⟩) (fun z => absurd z (by omega))
  | succ d ih =>
    intro i hi
    have e : nI (gs_o 0 (fun j => (col j).testBit b) (fun j => j) i) ||| (((aP (nI i).toNatClampNeg >>> (nI b &&& 31)) &&& 1) <<< (nI i &&& 31)) = nI (gs_o 0 (fun j => (col j).testBit b) (fun j => j) (i + 1)) := by
      rw [nI_clamp (by omega), (hc i (by omega)).1]
      exact gp_or (gp_s8 (hc i (by omega)).2) (by omega) (by omega)
    exact pk_le 12 i (fun z => absurd z (by omega)) (fun _ => ⟨vp_in_nI (by omega) (by omega), nm_r e (nm_r (nI_1 i) (ih (i + 1) (by omega)))⟩)
theorem wx_frl {post : SX → Prop} {col : Nat → Nat} (hc : ∀ j, j < 12 → aP j = nI (col j) ∧ col j < 2 ^ 8) (h : ∀ aR', (∀ i, i < 8 → aR' i = nI (gg_r col i)) → post (lt, ct, fs, cc, ic, ms, em, rc, de, fo, aP, aR', aC, aI)) : ∀ d b aR, b + d = 8 → (∀ i, i < b → aR i = nI (gg_r col i)) → wX_fillRows_2 post lt ct fs cc ic ms em rc de fo (d + 1) (nI b) aP aR aC aI := by
  intro d
  induction d with
  | zero =>
    intro b aR hb hi
    have : b = 8 := by omega
    subst this
    exact pk_le 8 8 (fun _ => h aR hi) (fun z => absurd z (by omega))
  | succ d ih =>
    intro b aR hb hi
    refine pk_le 8 b (fun z => absurd z (by omega)) (fun _ => ⟨_, wx_fr12 (by omega) hc (ih (b + 1) _ (by omega) (fun i hi' => ?_)) 12 0 rfl⟩)
    by_cases q : i = b
    · subst q; rw [pk_us]
    · rw [pk_un q]; exact hi i (by omega)
theorem wx_fr {post : SX → Prop} {col : Nat → Nat} (hc : ∀ j, j < 12 → aP j = nI (col j) ∧ col j < 2 ^ 8) (h : ∀ aR', (∀ i, i < 8 → aR' i = nI (gg_r col i)) → post (lt, ct, fs, cc, ic, ms, em, rc, de, fo, aP, aR', aC, aI)) : wpX_fillRows post (lt, ct, fs, cc, ic, ms, em, rc, de, fo, aP, aR, aC, aI) :=
  ⟨_, wx_frl hc h 8 0 aR rfl (fun i hi => absurd hi (Nat.not_lt_zero i))⟩
theorem wx_unl {post : Int32 → Prop} {r : Nat → Nat} {p : Nat} (H : gz_r aR r) (hp : p < 12) : ∀ d i, i + d = 8 → (gg_fi r p d i < 8 → post (nI (gg_fi r p d i))) → (¬ gg_fi r p d i < 8 → post (-1)) → wX_unusedRowWith_5 post (nI p) lt ct fs cc ic ms em rc de fo aP aR aC aI (d + 1) (nI i) := by
  intro d
  induction d with
  | zero =>
    intro i hi _ h2
    have : i = 8 := by omega
    subst this
    exact pk_le 8 8 (fun _ => h2 (Nat.lt_irrefl 8)) (fun z => absurd z (by omega))
  | succ d ih =>
    intro i hi h1 h2
    have e : (aR (nI i).toNatClampNeg >>> (nI p &&& 31)) &&& 1 = nI ((r i).testBit p).toNat := by
      rw [nI_clamp (by omega), (H i (by omega)).1]
      exact gc_bitb (gp_s12 (H i (by omega)).2) (by omega)
    refine pk_le 8 i (fun z => absurd z (by omega)) (fun _ => ⟨vp_in_nI (by omega) (by omega), gc_tb' e (fun hb => nm_r (nI_1 i) ?_) (fun hb => ?_)⟩)
    · have e2 : gg_fi r p (d + 1) i = gg_fi r p d (i + 1) := gc_cf hb
      rw [e2] at h1 h2
      exact ih (i + 1) (by omega) h1 h2
    · have e2 : gg_fi r p (d + 1) i = i := gc_ct hb
      rw [e2] at h1
      exact h1 (by omega)
theorem wx_un {post : Int32 → Prop} {r : Nat → Nat} {p n : Nat} (H : gz_r aR r) (hp : p < 12) (hn : n ≤ 8) (h1 : gg_fi r p (8 - n) n < 8 → post (nI (gg_fi r p (8 - n) n))) (h2 : ¬ gg_fi r p (8 - n) n < 8 → post (-1)) : wpX_unusedRowWith post (lt, ct, fs, nI n, ic, ms, em, rc, de, fo, aP, aR, aC, aI) (nI p) :=
  ⟨_, wx_unl H hp (8 - n) n (by omega) h1 h2⟩
theorem wx_sw {post : SX → Prop} {p h : Nat} (hp : p < 8) (hh : h < 8) (H : post (lt, ct, fs, cc, ic, ms, em, rc, de, fo, aP, upd (upd aR p (aR h)) h (aR p), aC, aI)) : wpX_swapRows post (lt, ct, fs, cc, ic, ms, em, rc, de, fo, aP, aR, aC, aI) (nI p) (nI h) := by
  refine ⟨vp_in_nI hp (by omega), nm_r (show _ = aR p by rw [nI_clamp (by omega)]) ⟨vp_in_nI hh (by omega), vp_in_nI hp (by omega), nm_r (show _ = upd aR p (aR h) by rw [nI_clamp (by omega), nI_clamp (by omega)]) ⟨vp_in_nI hh (by omega), nm_r (show _ = upd (upd aR p (aR h)) h (aR p) by rw [nI_clamp (by omega)]) H⟩⟩⟩
theorem wx_cll {post : SX → Prop} {s : Nat → Nat} {p h : Nat} (hp : p < 12) (hh : h < 8) (H : ∀ aR', gz_r aR' (gg_cl s p h) → post (lt, ct, fs, cc, ic, ms, em, rc, de, fo, aP, aR', aC, aI)) : ∀ d i aR, i + d = 8 → gz_c aR s p h i → wX_clearInOtherRows_2 post (nI p) (nI h) lt ct fs cc ic ms em rc de fo (d + 1) (nI i) aP aR aC aI := by
  intro d
  induction d with
  | zero =>
    intro i aR hi hc
    have : i = 8 := by omega
    subst this
    exact pk_le 8 8 (fun _ => H aR (gz_cE hc hh)) (fun z => absurd z (by omega))
  | succ d ih =>
    intro i aR hi hc
    have e0 := (hc i (by omega)).2.2 (Nat.le_refl i)
    have e : (aR (nI i).toNatClampNeg >>> (nI p &&& 31)) &&& 1 = nI ((s i).testBit p).toNat := by
      rw [nI_clamp (by omega), e0]
      exact gc_bitb (gp_s12 (hc i (by omega)).1) (by omega)
    have e1 : upd aR (nI i).toNatClampNeg (aR (nI i).toNatClampNeg ^^^ aR (nI h).toNatClampNeg) = upd aR i (aR i ^^^ aR h) := by
      rw [nI_clamp (by omega), nI_clamp (by omega)]
    exact pk_le 8 i (fun z => absurd z (by omega)) (fun _ => pk_eq i h
      (fun y => nm_r (nI_1 i) (ih (i + 1) aR (by omega) (gz_cF hc (gz_clH y))))
      (fun y => ⟨vp_in_nI (by omega) (by omega), gc_tb' e
        (fun hb => nm_r (nI_1 i) (ih (i + 1) aR (by omega) (gz_cF hc (gz_clF hb))))
        (fun hb => ⟨vp_in_nI (by omega) (by omega), vp_in_nI hh (by omega), vp_in_nI (by omega) (by omega), nm_r e1 (nm_r (nI_1 i) (ih (i + 1) _ (by omega) (gz_cT hc hh (by omega) y hb)))⟩)⟩))
theorem wx_cl {post : SX → Prop} {s : Nat → Nat} {p h : Nat} (hp : p < 12) (hh : h < 8) (hs : gz_r aR s) (H : ∀ aR', gz_r aR' (gg_cl s p h) → post (lt, ct, fs, cc, ic, ms, em, rc, de, fo, aP, aR', aC, aI)) : wpX_clearInOtherRows post (lt, ct, fs, cc, ic, ms, em, rc, de, fo, aP, aR, aC, aI) (nI p) (nI h) :=
  ⟨_, wx_cll hp hh H 8 0 aR rfl (gz_c0 p h hs)⟩
/-- the elimination, position by position -/
theorem wx_rrl {post : SX → Prop} {col : Nat → Nat} {r9 c9 f9 : Nat → Nat} (e9 : gg_a col 12 = (r9, c9, f9, 8, 4))
    (H : ∀ aR' aC' aI', gz_r aR' r9 → (∀ i, i < 8 → aC' i = nI (c9 i)) → (∀ i, i < 4 → aI' i = nI (f9 i)) → post (lt, ct, fs, nI 8, nI 4, ms, em, rc, de, fo, aP, aR', aC', aI')) :
    ∀ d n aR aC aI r c f ncc nic, n + d = 12 → gg_a col n = (r, c, f, ncc, nic) → gz_r aR r → (∀ i, i < ncc → aC i = nI (c i)) → (∀ i, i < nic → aI i = nI (f i)) → ncc ≤ 8 → nic ≤ n → wX_reduceRows_12 post (d + 1) (nI n) lt ct fs (nI ncc) (nI nic) ms em rc de fo aP aR aC aI := by
  intro d
  induction d with
  | zero =>
    intro n aR aC aI r c f ncc nic hn e hr hc hf _ _
    have : n = 12 := by omega
    subst this
    rw [e9] at e
    cases e
    exact pk_le 12 12 (fun _ => H aR aC aI hr hc hf) (fun z => absurd z (by omega))
  | succ d ih =>
    intro n aR aC aI r c f ncc nic hn e hr hc hf h8 hi
    refine pk_le 12 n (fun z => absurd z (by omega)) (fun _ => wx_un hr (by omega) h8 (fun hv => ?_) (fun hv => ?_))
    · have hge := gg_fige r n (8 - ncc) ncc
      obtain ⟨r', c', e', hr', hc'⟩ := gz_T (aC := aC) e rfl hv hc
      have hne : ¬ nI (gg_fi r n (8 - ncc) ncc) = -1 := by
        intro z
        have y : ¬ nI (gg_fi r n (8 - ncc) ncc) < 0 := nI_pos (by omega)
        rw [z] at y
        exact y (by decide)
      refine br_f hne (wx_sw hv (by omega) (wx_cl (by omega) (by omega) (gz_sw hr hv (by omega)) (fun aR' hR' => ⟨vp_in_nI (by omega) (by omega), nm_r (show _ = upd aC ncc (nI n) by rw [nI_clamp (by omega)]) (nm_r (nI_1 ncc) (nm_r (nI_1 n) (ih (n + 1) aR' _ aI r' c' f (ncc + 1) nic (by omega) e' (gz_rc hR' hr') hc' hf (by omega) (by omega))))⟩)))
    · obtain ⟨f', e', hf'⟩ := gz_N (aI := aI) e rfl hv hf
      exact br_t rfl ⟨vp_in_nI (by omega) (by omega), nm_r (show _ = upd aI nic (nI n) by rw [nI_clamp (by omega)]) (nm_r (nI_1 nic) (nm_r (nI_1 n) (ih (n + 1) aR aC _ r c f' ncc (nic + 1) (by omega) e' hr hc hf' h8 (by omega))))⟩
theorem wx_rr {post : SX → Prop} {col : Nat → Nat} {r9 c9 f9 : Nat → Nat} (e9 : gg_a col 12 = (r9, c9, f9, 8, 4)) (hR : ∀ i, i < 8 → aR i = nI (gg_r col i))
    (H : ∀ aR' aC' aI', gz_r aR' r9 → (∀ i, i < 8 → aC' i = nI (c9 i)) → (∀ i, i < 4 → aI' i = nI (f9 i)) → post (lt, ct, fs, nI 8, nI 4, ms, em, rc, de, fo, aP, aR', aC', aI')) : wpX_reduceRows post (lt, ct, fs, cc, ic, ms, em, rc, de, fo, aP, aR, aC, aI) := by
  obtain ⟨r, hr, e⟩ := gg_0e col
  refine ⟨_, wx_rrl e9 H 12 0 aR aC aI r _ _ 0 0 rfl e (fun i hi => ?_) (fun i hi => absurd hi (Nat.not_lt_zero i)) (fun i hi => absurd hi (Nat.not_lt_zero i)) (by omega) (by omega)⟩
  rw [hr i hi]
  exact ⟨hR i hi, gs_olt (by decide) 12 (fun _ h => h)⟩
end
/-- the state that the constructor leaves, in numbers -/
theorem wx_clamp (x : Int32) (g : Nat) (hg : g < 2 ^ 31) : ∃ c, c ≤ g ∧ (x < 0 → c = 0) ∧ (∀ j, j < 2 ^ 31 → x = nI j → c = min j g) ∧ ∀ (post : Int32 → Prop), post (nI c) → wpX_clamp post x (nI g) := by
  rcases gi_of x with h | ⟨j, hj, e⟩
  · refine ⟨0, Nat.zero_le g, fun _ => rfl, fun j hj e => ?_, fun post hp => br_f (Int32.not_le.mpr h) hp⟩
    rw [e] at h
    exact absurd h (nI_pos hj)
  · subst e
    by_cases z : j ≤ g
    · refine ⟨j, z, fun h => absurd h (nI_pos hj), fun k hk e => ?_, fun post hp => br_t (nI_pos' hj) (br_t (nI_le z hg) hp)⟩
      have := (nI_eq hj hk).mp e
      subst this
      omega
    · refine ⟨g, Nat.le_refl g, fun h => absurd h (nI_pos hj), fun k hk e => ?_, fun post hp => br_t (nI_pos' hj) (br_f (nI_ge (by omega) hj) hp)⟩
      have := (nI_eq hj hk).mp e
      subst this
      omega
