/-! the class: field and ring products, inverse, square root, the polynomial -/
theorem wx_fp26 {post : Int32 → Prop} {J : Int32 → Int32 → Int32 → Prop} {a i : Nat} {x1 x2 : Int32} (ha : a < 16) (hJ : J x2 (nI (gh_m a (i + 1))) (nI (i + 1))) : wX_fieldProduct_26 post J x1 x2 (nI (gh_m a i)) (nI i) := by
  have hm := gh_mlt ha i
  have e : nI (gh_m a i) <<< ((1 : Int32) &&& 31) = nI (gh_m a i * 2) := pk_shlN _ 1 (by decide) (by omega)
  refine nm_r e (pk_lt (gh_m a i * 2) 16 (fun z => nm_r (nI_1 i) ?_) (fun z => nm_r (nx_xor (gh_m a i * 2) 19) (nm_r (nI_1 i) ?_)))
  · rw [← gh_mF (by omega)]; exact hJ
  · rw [← gh_mT (by omega)]; exact hJ
theorem wx_fpl {post : Int32 → Prop} {a b : Nat} (ha : a < 16) (hb : b < 16) (h : post (nI (gh_p a b 4))) : ∀ d i, i + d = 4 → wX_fieldProduct_7 post (nI b) (d + 1) (nI (gh_p a b i)) (nI (gh_m a i)) (nI i) := by
  intro d
  induction d with
  | zero =>
    intro i hi
    have : i = 4 := by omega
    subst this
    exact pk_le 4 4 (fun _ => h) (fun z => absurd z (by omega))
  | succ d ih =>
    intro i hi
    refine pk_le 4 i (fun z => absurd z (by omega)) (fun _ => gc_tb (by omega) (by omega) (fun hb => wx_fp26 ha ?_) (fun hb => nm_r (nx_xor _ _) (wx_fp26 ha ?_)))
    · rw [← gh_pF hb]; exact ih (i + 1) (by omega)
    · rw [← gh_pT hb]; exact ih (i + 1) (by omega)
theorem wx_fp {post : Int32 → Prop} {x y : Int32} (a b : Nat) (hx : x = nI a) (hy : y = nI b) (ha : a < 16) (hb : b < 16) (h : post (nI (gf_p a b))) : wpX_fieldProduct post x y := by
  subst hx hy
  rw [← gh_pe a ha b hb] at h
  exact ⟨_, wx_fpl ha hb h 4 0 rfl⟩
theorem wx_rtl {post : Int32 → Prop} {c : Nat} (hc : c < 256) (h : post (nI (gr_rt (c / 16) (c % 16)).toNat)) : ∀ d z, z + d = 16 → (∀ y, y < z → Nat.beq (gf_p y y ^^^ gf_p (c / 16) y ^^^ (c % 16)) 0 = false) → wX_hasRoot_2 post (nI c) (d + 1) (nI z) := by
  intro d
  induction d with
  | zero =>
    intro z hz hn
    have : z = 16 := by omega
    subst this
    rw [show gr_rt (c / 16) (c % 16) = false from gc_ex_f hn] at h
    exact pk_le 16 16 (fun _ => h) (fun z => absurd z (by omega))
  | succ d ih =>
    intro z hz hn
    refine pk_le 16 z (fun z => absurd z (by omega)) (fun _ => wx_fp z z rfl rfl (by omega) (by omega) ⟨by decide, wx_fp (c / 16) z (gp_d16 (by omega)) rfl (by omega) (by omega) ⟨by decide, ?_⟩⟩)
    have hl : gf_p z z ^^^ gf_p (c / 16) z ^^^ (c % 16) < 16 := gx_lt (gx_lt (gf_lt _ _) (gf_lt _ _)) (by omega)
    have e : (nI (gf_p z z) ^^^ nI (gf_p (c / 16) z)) ^^^ (nI c - nI c / 16 * 16) = nI (gf_p z z ^^^ gf_p (c / 16) z ^^^ (c % 16)) := by
      rw [gp_r16 (by omega), nx_xor, nx_xor]
    refine pk_eq (gf_p z z ^^^ gf_p (c / 16) z ^^^ (c % 16)) 0 (fun y => ?_) (fun y => nm_r (nI_1 z) (ih (z + 1) (by omega) (fun w hw => ?_))) e rfl
    · rw [show gr_rt (c / 16) (c % 16) = true from gc_ex_t (p := fun z => Nat.beq (gf_p z z ^^^ gf_p (c / 16) z ^^^ (c % 16)) 0) (show z < 16 by omega) (gb_t y)] at h
      exact h
    · by_cases q : w = z
      · subst q; exact gb_f y
      · exact hn w (by omega)
theorem wx_rt {post : Int32 → Prop} {c : Nat} (hc : c < 256) (h : post (nI (gr_rt (c / 16) (c % 16)).toNat)) : wpX_hasRoot post (nI c) :=
  ⟨_, wx_rtl hc h 16 0 rfl (fun y hy => absurd hy (Nat.not_lt_zero y))⟩
theorem wx_fwl {post : Int32 → Prop} {c t0 : Nat} (hc : c < 256) (ht : t0 < 256) (h0 : gr_rt ((c + t0) % 256 / 16) ((c + t0) % 256 % 16) = false) (hl : ∀ i, i < t0 → gr_rt ((c + i) % 256 / 16) ((c + i) % 256 % 16) = true) (h : post (nI ((c + t0) % 256))) : ∀ d t, t + d = t0 → wX_firstWithoutRoot_2 post (nI c) (d + 1) (nI t) := by
  intro d
  induction d with
  | zero =>
    intro t ht'
    have : t = t0 := by omega
    subst this
    have e : (nI c + nI t) - (nI c + nI t) / 256 * 256 = nI ((c + t) % 256) := by rw [nI_add]; exact gp_r256 (by omega)
    exact pk_le 256 t (fun z => absurd z (by omega)) (fun _ => ⟨by decide, nm_r e (wx_rt (Nat.mod_lt _ (by decide)) (gc_tb' rfl (fun _ => h) (fun q => by rw [h0] at q; cases q)))⟩)
  | succ d ih =>
    intro t ht'
    have e : (nI c + nI t) - (nI c + nI t) / 256 * 256 = nI ((c + t) % 256) := by rw [nI_add]; exact gp_r256 (by omega)
    have hb := hl t (by omega)
    exact pk_le 256 t (fun z => absurd z (by omega)) (fun _ => ⟨by decide, nm_r e (wx_rt (Nat.mod_lt _ (by decide)) (gc_tb' rfl (fun q => by rw [hb] at q; cases q) (fun _ => nm_r (nI_1 t) (ih (t + 1) (by omega)))))⟩)
theorem wx_fw {post : Int32 → Prop} {c t0 : Nat} (hc : c < 256) (ht : t0 < 256) (h0 : gr_rt ((c + t0) % 256 / 16) ((c + t0) % 256 % 16) = false) (hl : ∀ i, i < t0 → gr_rt ((c + i) % 256 / 16) ((c + i) % 256 % 16) = true) (h : post (nI ((c + t0) % 256))) : wpX_firstWithoutRoot post (nI c) :=
  ⟨_, wx_fwl hc ht h0 hl h t0 0 (Nat.zero_add t0)⟩
section
variable {lt ct fs cc ic ms em rc de fo : Int32} {aP aR aC aI : Nat → Int32}
theorem wx_rp {post : Int32 → Prop} {A B p q : Nat} (hA : A < 16) (hB : B < 16) (hp : p < 256) (hq : q < 256) (h : post (nI (gr_p A B p q))) : wpX_ringProduct post (nI A, nI B, fs, cc, ic, ms, em, rc, de, fo, aP, aR, aC, aI) (nI p) (nI q) := by
  refine ⟨by decide, nm_r (gp_d16 (w := p) (by omega)) ⟨by decide, nm_r (gp_r16 (w := p) (by omega)) ⟨by decide, nm_r (gp_d16 (w := q) (by omega)) ⟨by decide, nm_r (gp_r16 (w := q) (by omega)) ?_⟩⟩⟩⟩
  refine wx_fp (p / 16) (q / 16) rfl rfl (by omega) (by omega) ?_
  refine wx_fp (p / 16) (q % 16) rfl rfl (by omega) (by omega) ?_
  refine wx_fp (p % 16) (q / 16) rfl rfl (by omega) (by omega) ?_
  refine wx_fp (gf_p (p / 16) (q / 16)) A rfl rfl (gf_lt _ _) hA ?_
  refine nm_r (show _ = nI (gr_1 A (p / 16) (p % 16) (q / 16) (q % 16)) by rw [nx_xor, nx_xor] <;> rfl) ?_
  refine wx_fp (p % 16) (q % 16) rfl rfl (by omega) (by omega) ?_
  refine wx_fp (gf_p (p / 16) (q / 16)) B rfl rfl (gf_lt _ _) hB ?_
  refine nm_r (show _ = nI (gr_0 B (p / 16) (p % 16) (q / 16) (q % 16)) by rw [nx_xor] <;> rfl) ?_
  have e : nI (gr_1 A (p / 16) (p % 16) (q / 16) (q % 16)) * 16 + nI (gr_0 B (p / 16) (p % 16) (q / 16) (q % 16)) = nI (gr_p A B p q) := by
    rw [show (16 : Int32) = nI 16 from rfl, pk_mul, nI_add] <;> rfl
  rw [e]
  exact h
theorem wx_invl {post : Int32 → Prop} {A B p : Nat} (hA : A < 16) (hB : B < 16) (hp : p < 256) (h : post (nI (gr_v A B p 7))) : ∀ d k, k + d = 7 → wX_inverseOf_7 post (nI A) (nI B) fs cc ic ms em rc de fo aP aR aC aI (d + 1) (nI (gr_i A B k p)) (nI (gr_v A B p k)) (nI (k + 1)) := by
  intro d
  induction d with
  | zero =>
    intro k hk
    have : k = 7 := by omega
    subst this
    exact pk_le 8 8 (fun _ => h) (fun z => absurd z (by omega))
  | succ d ih =>
    intro k hk
    have e := ih (k + 1) (by omega)
    rw [gr_vS, gr_iS] at e
    exact pk_le 8 (k + 1) (fun z => absurd z (by omega)) (fun _ => wx_rp hA hB (gr_ilt A B hp k) (gr_ilt A B hp k) (wx_rp hA hB (gr_vlt A B p k) (gr_lt _ _ _ _) (nm_r (nI_1 (k + 1)) e)))
theorem wx_inv {post : Int32 → Prop} {A B : Nat} {x : Int32} (p : Nat) (hx : x = nI p) (hA : A < 16) (hB : B < 16) (hp : p < 256) (h : post (nI (gr_v A B p 7))) : wpX_inverseOf post (nI A, nI B, fs, cc, ic, ms, em, rc, de, fo, aP, aR, aC, aI) x := by
  subst hx
  exact ⟨_, wx_invl hA hB hp h 7 0 rfl⟩
theorem wx_sql {post : Int32 → Prop} {A B p : Nat} (hA : A < 16) (hB : B < 16) (hp : p < 256) (h : post (nI (gr_i A B 7 p))) : ∀ d k, k + d = 7 → wX_squareRootOf_4 post (nI A) (nI B) fs cc ic ms em rc de fo aP aR aC aI (d + 1) (nI (gr_i A B k p)) (nI (k + 1)) := by
  intro d
  induction d with
  | zero =>
    intro k hk
    have : k = 7 := by omega
    subst this
    exact pk_le 8 8 (fun _ => h) (fun z => absurd z (by omega))
  | succ d ih =>
    intro k hk
    have e := ih (k + 1) (by omega)
    rw [gr_iS] at e
    exact pk_le 8 (k + 1) (fun z => absurd z (by omega)) (fun _ => wx_rp hA hB (gr_ilt A B hp k) (gr_ilt A B hp k) (nm_r (nI_1 (k + 1)) e))
theorem wx_sq {post : Int32 → Prop} {A B p : Nat} (hA : A < 16) (hB : B < 16) (hp : p < 256) (h : post (nI (gr_i A B 7 p))) : wpX_squareRootOf post (nI A, nI B, fs, cc, ic, ms, em, rc, de, fo, aP, aR, aC, aI) (nI p) :=
  ⟨_, wx_sql hA hB hp h 7 0 rfl⟩
theorem wx_sup {post : Int32 → Prop} {s j : Nat} (hs : s < 16) (hj : j < 12) (h : post (nI ((s + j) % 16))) : wpX_supportAt post (lt, ct, nI s, cc, ic, ms, em, rc, de, fo, aP, aR, aC, aI) (nI j) := by
  have e : (nI s + nI j) - (nI s + nI j) / 16 * 16 = nI ((s + j) % 16) := by rw [nI_add]; exact gp_r16 (by omega)
  refine ⟨by decide, ?_⟩
  rw [e]
  exact h
end
