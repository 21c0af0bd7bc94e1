/-! the class: syndrome, weight, codeword, message, errors -/
theorem wx_wtl {post : Int32 → Prop} {w : Nat} (hw : w < 2 ^ 31) (h : post (nI (gs_w 12 w))) : ∀ d j, j + d = 12 → wX_weightOf_4 post (nI w) (d + 1) (nI (gs_w j w)) (nI j) := by
  intro d
  induction d with
  | zero =>
    intro j hj
    have : j = 12 := by omega
    subst this
    exact pk_le 12 12 (fun _ => h) (fun z => absurd z (by omega))
  | succ d ih =>
    intro j hj
    have e : nI (gs_w j w) + ((nI w >>> (nI j &&& 31)) &&& 1) = nI (gs_w (j + 1) w) := by
      rw [gc_bitb hw (by omega)]
      exact gp_w w j
    exact pk_le 12 j (fun z => absurd z (by omega)) (fun _ => nm_r e (nm_r (nI_1 j) (ih (j + 1) (by omega))))
theorem wx_wt {post : Int32 → Prop} {x : Int32} (w : Nat) (hx : x = nI w) (hw : w < 2 ^ 31) (h : post (nI (gs_w 12 w))) : wpX_weightOf post x := by
  subst hx
  exact ⟨_, wx_wtl hw h 12 0 rfl⟩
section
variable {lt ct fs cc ic ms em rc de fo : Int32} {aP aR aC aI : Nat → Int32}
theorem wx_synl {post : Int32 → Prop} {col : Nat → Nat} {w : Nat} (hw : w < 2 ^ 12) (hc : ∀ j, j < 12 → aP j = nI (col j)) (h : post (nI (gs_s col 12 w))) : ∀ d j, j + d = 12 → wX_syndromeOf_4 post (nI w) lt ct fs cc ic ms em rc de fo aP aR aC aI (d + 1) (nI (gs_s col j w)) (nI j) := by
  intro d
  induction d with
  | zero =>
    intro j hj
    have : j = 12 := by omega
    subst this
    exact pk_le 12 12 (fun _ => h) (fun z => absurd z (by omega))
  | succ d ih =>
    intro j hj
    have e := ih (j + 1) (by omega)
    refine pk_le 12 j (fun z => absurd z (by omega)) (fun _ => gc_tb (gp_s12 hw) (by omega) (fun hb => nm_r (nI_1 j) ?_) (fun hb => ⟨vp_in_nI (by omega) (by omega), nm_r (show _ = nI (gs_s col (j + 1) w) by rw [nI_clamp (by omega), hc j (by omega), nx_xor, gs_sT hb]) (nm_r (nI_1 j) e)⟩))
    rw [gs_sF hb] at e
    exact e
theorem wx_syn {post : Int32 → Prop} {col : Nat → Nat} {x : Int32} (w : Nat) (hx : x = nI w) (hw : w < 2 ^ 12) (hc : ∀ j, j < 12 → aP j = nI (col j)) (h : post (nI (gs_s col 12 w))) : wpX_syndromeOf post (lt, ct, fs, cc, ic, ms, em, rc, de, fo, aP, aR, aC, aI) x := by
  subst hx
  exact ⟨_, wx_synl hw hc h 12 0 rfl⟩
theorem wx_cw38 {post : Int32 → Prop} {r c f : Nat → Nat} {m : Nat} (hr : ∀ i, i < 8 → aR i = nI (r i) ∧ aC i = nI (c i) ∧ c i < 12) (hw : gk_iw f m < 2 ^ 12) (h : post (nI (gk_cw r c f m))) : ∀ d i, i + d = 8 → wX_codewordOf_38 post (nI (gk_iw f m)) lt ct fs (nI 8) ic ms em rc de fo aP aR aC aI (d + 1) (nI (gs_o (gk_iw f m) (fun i => gs_q 12 (r i &&& gk_iw f m)) c i)) (nI i) := by
  intro d
  induction d with
  | zero =>
    intro i hi
    have : i = 8 := by omega
    subst this
    exact pk_le 8 8 (fun _ => h) (fun z => absurd z (by omega))
  | succ d ih =>
    intro i hi
    have e1 : aR (nI i).toNatClampNeg &&& nI (gk_iw f m) = nI (r i &&& gk_iw f m) := by
      rw [nI_clamp (by omega), (hr i (by omega)).1, nx_and]
    have e2 : nI (gs_o (gk_iw f m) (fun i => gs_q 12 (r i &&& gk_iw f m)) c i) ||| (nI (gs_q 12 (r i &&& gk_iw f m)).toNat <<< (aC (nI i).toNatClampNeg &&& 31)) = nI (gs_o (gk_iw f m) (fun i => gs_q 12 (r i &&& gk_iw f m)) c (i + 1)) := by
      have h3 := (hr i (by omega)).2.2
      rw [nI_clamp (by omega), (hr i (by omega)).2.1]
      exact gp_orb (by omega)
    exact pk_le 8 i (fun z => absurd z (by omega)) (fun _ => ⟨vp_in_nI (by omega) (by omega), wx_wt (r i &&& gk_iw f m) e1 (gp_s12 (Nat.and_lt_two_pow _ hw)) (nm_r (gp_par _) ⟨vp_in_nI (by omega) (by omega), nm_r e2 (nm_r (nI_1 i) (ih (i + 1) (by omega)))⟩)⟩)
theorem wx_cwl {post : Int32 → Prop} {r c f : Nat → Nat} {m : Nat} (hm : m < 16) (hr : ∀ i, i < 8 → aR i = nI (r i) ∧ aC i = nI (c i) ∧ c i < 12) (hf : ∀ i, i < 4 → aI i = nI (f i) ∧ f i < 12) (hw : gk_iw f m < 2 ^ 12) (h : post (nI (gk_cw r c f m))) : ∀ d i, i + d = 4 → wX_codewordOf_4 post (nI m) lt ct fs (nI 8) (nI 4) ms em rc de fo aP aR aC aI (d + 1) (nI (gs_o 0 (fun i => m.testBit i) f i)) (nI i) := by
  intro d
  induction d with
  | zero =>
    intro i hi
    have : i = 4 := by omega
    subst this
    exact pk_le 4 4 (fun _ => ⟨_, wx_cw38 hr hw h 8 0 rfl⟩) (fun z => absurd z (by omega))
  | succ d ih =>
    intro i hi
    have e2 : nI (gs_o 0 (fun i => m.testBit i) f i) ||| (((nI m >>> (nI i &&& 31)) &&& 1) <<< (aI (nI i).toNatClampNeg &&& 31)) = nI (gs_o 0 (fun i => m.testBit i) f (i + 1)) := by
      have h3 := (hf i (by omega)).2
      rw [nI_clamp (by omega), (hf i (by omega)).1]
      exact gp_or (by omega) (by omega) (by omega)
    exact pk_le 4 i (fun z => absurd z (by omega)) (fun _ => ⟨vp_in_nI (by omega) (by omega), nm_r e2 (nm_r (nI_1 i) (ih (i + 1) (by omega)))⟩)
theorem wx_cw {post : Int32 → Prop} {r c f : Nat → Nat} {m : Nat} (hm : m < 16) (hr : ∀ i, i < 8 → aR i = nI (r i) ∧ aC i = nI (c i) ∧ c i < 12) (hf : ∀ i, i < 4 → aI i = nI (f i) ∧ f i < 12) (hw : gk_iw f m < 2 ^ 12) (h : post (nI (gk_cw r c f m))) : wpX_codewordOf post (lt, ct, fs, nI 8, nI 4, ms, em, rc, de, fo, aP, aR, aC, aI) (nI m) :=
  ⟨_, wx_cwl hm hr hf hw h 4 0 rfl⟩
theorem wx_mil {post : Int32 → Prop} {f : Nat → Nat} {w : Nat} (hw : w < 2 ^ 12) (hf : ∀ i, i < 4 → aI i = nI (f i) ∧ f i < 12) (h : post (nI (gk_ex f 4 w))) : ∀ d i, i + d = 4 → wX_messageIn_4 post (nI w) lt ct fs cc (nI 4) ms em rc de fo aP aR aC aI (d + 1) (nI (gk_ex f i w)) (nI i) := by
  intro d
  induction d with
  | zero =>
    intro i hi
    have : i = 4 := by omega
    subst this
    exact pk_le 4 4 (fun _ => h) (fun z => absurd z (by omega))
  | succ d ih =>
    intro i hi
    have e2 : nI (gk_ex f i w) ||| (((nI w >>> (aI (nI i).toNatClampNeg &&& 31)) &&& 1) <<< (nI i &&& 31)) = nI (gk_ex f (i + 1) w) := by
      have h3 := (hf i (by omega)).2
      rw [nI_clamp (by omega), (hf i (by omega)).1]
      exact gp_or (gp_s12 hw) (by omega) (by omega)
    exact pk_le 4 i (fun z => absurd z (by omega)) (fun _ => ⟨vp_in_nI (by omega) (by omega), nm_r e2 (nm_r (nI_1 i) (ih (i + 1) (by omega)))⟩)
theorem wx_mi {post : Int32 → Prop} {f : Nat → Nat} {x : Int32} (w : Nat) (hx : x = nI w) (hw : w < 2 ^ 12) (hf : ∀ i, i < 4 → aI i = nI (f i) ∧ f i < 12) (h : post (nI (gk_ex f 4 w))) : wpX_messageIn post (lt, ct, fs, cc, nI 4, ms, em, rc, de, fo, aP, aR, aC, aI) x := by
  subst hx
  exact ⟨_, wx_mil hw hf h 4 0 rfl⟩
theorem wx_er16 {post : Int32 → Prop} {J : Int32 → Prop} {col : Nat → Nat} {T i : Nat} (hT : T < 2 ^ 8) (hi : i < 12) (hc : ∀ j, j < 12 → aP j = nI (col j) ∧ col j < 2 ^ 8)
    (h1 : ∀ j, i ≤ j → j < 12 → gs_s col 12 (2 ^ i ||| 2 ^ j) = T → post (nI (2 ^ i ||| 2 ^ j)))
    (hJ : (∀ j, i ≤ j → j < 12 → gs_s col 12 (2 ^ i ||| 2 ^ j) ≠ T) → J (nI (i + 1))) :
    ∀ d j, j + d = 12 → i ≤ j → (∀ k, i ≤ k → k < j → gs_s col 12 (2 ^ i ||| 2 ^ k) ≠ T) → wX_errorsWithSyndrome_16 post J (nI T) (nI i) lt ct fs cc ic ms em rc de fo aP aR aC aI (d + 1) (nI j) := by
  intro d
  induction d with
  | zero =>
    intro j hj _ hn
    have : j = 12 := by omega
    subst this
    exact pk_le 12 12 (fun _ => nm_r (nI_1 i) (hJ hn)) (fun z => absurd z (by omega))
  | succ d ih =>
    intro j hj hij hn
    have hj12 : j < 12 := by omega
    have e : ((1 : Int32) <<< (nI i &&& 31)) ||| ((1 : Int32) <<< (nI j &&& 31)) = nI (2 ^ i ||| 2 ^ j) := by
      rw [gp_one (by omega), gp_one (by omega), gc_or]
    have hs : gs_s col 12 (2 ^ i ||| 2 ^ j) < 2 ^ 8 := gs_lt 12 (fun k hk => (hc k hk).2)
    refine pk_le 12 j (fun z => absurd z (by omega)) (fun _ => nm_r e (wx_syn (2 ^ i ||| 2 ^ j) rfl (gy_t3 i hi j hj12).2 (fun k hk => (hc k hk).1) (pk_eq (gs_s col 12 (2 ^ i ||| 2 ^ j)) T (fun y => h1 j hij hj12 y) (fun y => nm_r (nI_1 j) (ih (j + 1) (by omega) (by omega) (fun k hk hkj => ?_))) rfl rfl (gp_s8 hs) (gp_s8 hT))))
    by_cases q : k = j
    · subst q; exact y
    · exact hn k hk (by omega)
theorem wx_er8 {post : Int32 → Prop} {col : Nat → Nat} {T : Nat} (hT : T < 2 ^ 8) (hc : ∀ j, j < 12 → aP j = nI (col j) ∧ col j < 2 ^ 8)
    (h1 : ∀ i j, i ≤ j → j < 12 → gs_s col 12 (2 ^ i ||| 2 ^ j) = T → post (nI (2 ^ i ||| 2 ^ j)))
    (h2 : (∀ i j, i ≤ j → j < 12 → gs_s col 12 (2 ^ i ||| 2 ^ j) ≠ T) → post (-1)) :
    ∀ d i, i + d = 12 → (∀ k j, k < i → k ≤ j → j < 12 → gs_s col 12 (2 ^ k ||| 2 ^ j) ≠ T) → wX_errorsWithSyndrome_8 post (nI T) lt ct fs cc ic ms em rc de fo aP aR aC aI (d + 1) (nI i) := by
  intro d
  induction d with
  | zero =>
    intro i hi hn
    have : i = 12 := by omega
    subst this
    exact pk_le 12 12 (fun _ => h2 (fun i j hij hj => hn i j (by omega) hij hj)) (fun z => absurd z (by omega))
  | succ d ih =>
    intro i hi hn
    refine pk_le 12 i (fun z => absurd z (by omega)) (fun _ => ⟨_, wx_er16 hT (by omega) hc (fun j => h1 i j) (fun hno => ih (i + 1) (by omega) (fun k j hk hkj hj => ?_)) (12 - i) i (by omega) (Nat.le_refl i) (fun k hk hk' => by omega)⟩)
    by_cases q : k = i
    · subst q; exact hno j hkj hj
    · exact hn k j (by omega) hkj hj
theorem wx_er {post : Int32 → Prop} {col : Nat → Nat} {T : Nat} (hT : T < 2 ^ 8) (hc : ∀ j, j < 12 → aP j = nI (col j) ∧ col j < 2 ^ 8)
    (h1 : ∀ e, e < 4096 → gs_w 12 e ≤ 2 → gs_s col 12 e = T → post (nI e))
    (h2 : (∀ e, e < 4096 → gs_w 12 e ≤ 2 → gs_s col 12 e ≠ T) → post (-1)) : wpX_errorsWithSyndrome post (lt, ct, fs, cc, ic, ms, em, rc, de, fo, aP, aR, aC, aI) (nI T) := by
  refine pk_eq T 0 (fun z => ?_) (fun z => ⟨_, wx_er8 hT hc (fun i j hij hj y => h1 _ (gy_t3 i (by omega) j hj).2 (gy_t3 i (by omega) j hj).1 y) (fun hno => h2 (fun e he hw y => ?_)) 12 0 rfl (fun k j hk => absurd hk (Nat.not_lt_zero k))⟩) rfl rfl (gp_s8 hT)
  · exact h1 0 (by decide) (by decide) (by rw [gs_zero, z])
  · by_cases q : e = 0
    · subst q
      rw [gs_zero] at y
      exact z y.symm
    · obtain ⟨i, j, hij, hj, ee⟩ := gy_w2 he hw q
      subst ee
      exact hno i j hij hj y
end
