/-! the reference: field and ring products, inverse, square root, syndrome, parity, weight -/
section
variable {ya yb ys yk yr yc ym ye yw yd yf : Int32} {aK aW aN aL aD : Nat → Int32}
theorem wy_37s {post : Int32 → Prop} {a d n : Nat} (ha : a < 2 ^ 8) (h4 : 4 ≤ d) (h6 : d ≤ 6) (h : wY_gfMul_37 post ya yb ys yk yr yc ym ye yw yd yf aK aW aN aL aD n (nI (gh_r a d)) (nI (d - 1))) : wY_gfMul_37 post ya yb ys yk yr yc ym ye yw yd yf aK aW aN aL aD (n + 1) (nI a) (nI d) := by
  have em : nI d + (-1) = nI (d - 1) := by
    obtain ⟨k, rfl⟩ : ∃ k, d = k + 1 := ⟨d - 1, by omega⟩
    exact pk_m1 k
  have es : nI d - 4 = nI (d - 4) := pk_sub (b := 4) h4
  have hp : 2 ^ (d - 4) ≤ 2 ^ 2 := Nat.pow_le_pow_right (by decide) (by omega)
  have e : nI a ^^^ ((19 : Int32) <<< ((nI d - 4) &&& 31)) = nI (a ^^^ 19 * 2 ^ (d - 4)) := by
    rw [es, show (19 : Int32) = nI 19 from rfl, gc_shl (by omega) (by omega), nx_xor]
  refine pk_lt d 4 (fun z => absurd z (by omega)) (fun _ => gc_tb (gp_s8 ha) (by omega) (fun hb => nm_r em ?_) (fun hb => nm_r e (nm_r em ?_)))
  · rw [gh_rF hb] at h; exact h
  · rw [gh_rT hb] at h; exact h
theorem wy_37 {post : Int32 → Prop} {a : Nat} (ha : a < 2 ^ 8) (h : post (nI (gh_r (gh_r (gh_r a 6) 5) 4 % 16))) : wY_gfMul_37 post ya yb ys yk yr yc ym ye yw yd yf aK aW aN aL aD 4 (nI a) 6 := by
  have h6 := gh_rlt ha (show 6 ≤ 6 by omega)
  have h5 := gh_rlt h6 (show 5 ≤ 6 by omega)
  have h4 := gh_rlt h5 (show 4 ≤ 6 by omega)
  refine wy_37s (d := 6) ha (by omega) (by omega) (wy_37s (d := 5) h6 (by omega) (by omega) (wy_37s (d := 4) h5 (by omega) (by omega) ?_))
  refine pk_lt 3 4 (fun _ => ?_) (fun z => absurd z (by omega))
  rw [gp_m16 (gp_s8 h4)]
  exact h
theorem wy_5l {post : Int32 → Prop} {x y : Nat} (hx : x < 16) (hy : y < 16) (h : post (nI (gf_p x y))) : ∀ d i, i + d = 4 → wY_gfMul_5 post (nI x) (nI y) ya yb ys yk yr yc ym ye yw yd yf aK aW aN aL aD (d + 1) (nI (gs_s (gh_y x) i y)) (nI i) := by
  intro d
  induction d with
  | zero =>
    intro i hi
    have : i = 4 := by omega
    subst this
    rw [← gh_ye x hx y hy] at h
    exact pk_le 4 4 (fun _ => ⟨4, wy_37 (gh_ylt hx y 4 (by omega)) h⟩) (fun z => absurd z (by omega))
  | succ d ih =>
    intro i hi
    have e := ih (i + 1) (by omega)
    have hp : 2 ^ i ≤ 2 ^ 3 := Nat.pow_le_pow_right (by decide) (by omega)
    have hm : x * 2 ^ i ≤ 15 * 2 ^ 3 := Nat.mul_le_mul (by omega) hp
    refine pk_le 4 i (fun z => absurd z (by omega)) (fun _ => gc_tb (by omega) (by omega) (fun hb => nm_r (nI_1 i) ?_) (fun hb => nm_r (show _ = nI (gs_s (gh_y x) (i + 1) y) by rw [gc_shl (by omega) (by omega), nx_xor, gs_sT hb] <;> rfl) (nm_r (nI_1 i) e)))
    rw [gs_sF hb] at e
    exact e
theorem wy_gf {post : Int32 → Prop} {u v : Int32} (x y : Nat) (hu : u = nI x) (hv : v = nI y) (hx : x < 16) (hy : y < 16) (h : post (nI (gf_p x y))) : wpY_gfMul post (ya, yb, ys, yk, yr, yc, ym, ye, yw, yd, yf, aK, aW, aN, aL, aD) u v := by
  subst hu hv
  exact ⟨_, wy_5l hx hy h 4 0 rfl⟩
theorem wy_rm {post : Int32 → Prop} {A B p q : Nat} (hA : A < 16) (hB : B < 16) (hp : p < 256) (hq : q < 256) (h : post (nI (gr_p A B p q))) : wpY_ringMul post (nI A, nI B, ys, yk, yr, yc, ym, ye, yw, yd, yf, aK, aW, aN, aL, aD) (nI p) (nI q) := by
  have d1 : ∀ w, w < 256 → (nI w >>> ((4 : Int32) &&& 31)) &&& 15 = nI (w / 16) := by
    intro w hw
    rw [gp_sh4 (by omega), gp_m16 (by omega), Nat.mod_eq_of_lt (by omega)]
  refine nm_r (d1 p hp) (nm_r (gp_m16 (w := p) (by omega)) (nm_r (d1 q hq) (nm_r (gp_m16 (w := q) (by omega)) ?_)))
  refine wy_gf (p / 16) (q / 16) rfl rfl (by omega) (by omega) ?_
  refine wy_gf (p / 16) (q % 16) rfl rfl (by omega) (by omega) ?_
  refine wy_gf (p % 16) (q / 16) rfl rfl (by omega) (by omega) ?_
  refine nm_r (nx_xor _ _) ?_
  refine wy_gf (p % 16) (q % 16) rfl rfl (by omega) (by omega) ?_
  refine wy_gf (gf_p (p / 16) (q / 16)) A rfl rfl (gf_lt _ _) hA ?_
  refine nm_r (show _ = nI (gr_1 A (p / 16) (p % 16) (q / 16) (q % 16)) by rw [nx_xor] <;> rfl) ?_
  refine wy_gf (gf_p (p / 16) (q / 16)) B rfl rfl (gf_lt _ _) hB ?_
  refine nm_r (show _ = nI (gr_0 B (p / 16) (p % 16) (q / 16) (q % 16)) by rw [nx_xor] <;> rfl) ?_
  have e : nI (gr_1 A (p / 16) (p % 16) (q / 16) (q % 16)) * 16 + nI (gr_0 B (p / 16) (p % 16) (q / 16) (q % 16)) = nI (gr_p A B p q) := by
    rw [show (16 : Int32) = nI 16 from rfl, pk_mul, nI_add] <;> rfl
  rw [e]
  exact h
theorem wy_invl {post : Int32 → Prop} {A B p : Nat} (hA : A < 16) (hB : B < 16) (hr : gr_rt A B = false) (h0 : 0 < p) (hp : p < 256) (h : post (nI (gr_v A B p 7))) : ∀ d q, q + d = gr_v A B p 7 → 0 < q → wY_ringInverse_19 post (nI p) (nI A) (nI B) ys yk yr yc ym ye yw yd yf aK aW aN aL aD (d + 1) (nI q) := by
  obtain ⟨i1, i2, i3⟩ := gr_inv hA hB hr h0 hp
  have hl := gr_vlt A B p 7
  intro d
  induction d with
  | zero =>
    intro q hq hq0
    have : q = gr_v A B p 7 := by omega
    subst this
    exact pk_le 256 (gr_v A B p 7) (fun z => absurd z (by omega)) (fun _ => wy_rm hA hB hp hl (pk_eq (gr_p A B p (gr_v A B p 7)) 1 (fun _ => h) (fun y => absurd i1 y) rfl rfl (by have := gr_lt A B p (gr_v A B p 7); omega)))
  | succ d ih =>
    intro q hq hq0
    have hl2 := gr_lt A B p q
    exact pk_le 256 q (fun z => absurd z (by omega)) (fun _ => wy_rm hA hB hp (by omega) (pk_eq (gr_p A B p q) 1 (fun y => absurd (i2 q (by omega) y) (by omega)) (fun _ => nm_r (nI_1 q) (ih (q + 1) (by omega) (by omega))) rfl rfl (by omega)))
theorem wy_inv {post : Int32 → Prop} {A B : Nat} {x : Int32} (p : Nat) (hx : x = nI p) (hA : A < 16) (hB : B < 16) (hr : gr_rt A B = false) (h0 : 0 < p) (hp : p < 256) (h : post (nI (gr_v A B p 7))) : wpY_ringInverse post (nI A, nI B, ys, yk, yr, yc, ym, ye, yw, yd, yf, aK, aW, aN, aL, aD) x := by
  subst hx
  have i3 := (gr_inv hA hB hr h0 hp).2.2
  exact pk_lt p 0 (fun z => absurd z (by omega)) (fun _ => pk_lt 255 p (fun z => absurd z (by omega)) (fun _ => pk_eq p 0 (fun z => absurd z (by omega)) (fun _ => ⟨_, wy_invl hA hB hr h0 hp h (gr_v A B p 7 - 1) 1 (by omega) (by omega)⟩)))
theorem wy_sql {post : Int32 → Prop} {A B p : Nat} (hA : A < 16) (hB : B < 16) (hr : gr_rt A B = false) (hp : p < 256) (h : post (nI (gr_i A B 7 p))) : ∀ d q, q + d = gr_i A B 7 p → wY_ringSqrt_15 post (nI p) (nI A) (nI B) ys yk yr yc ym ye yw yd yf aK aW aN aL aD (d + 1) (nI q) := by
  obtain ⟨i1, i2⟩ := gr_sqr hA hB hr hp
  have hl := gr_ilt A B hp 7
  intro d
  induction d with
  | zero =>
    intro q hq
    have : q = gr_i A B 7 p := by omega
    subst this
    exact pk_le 256 (gr_i A B 7 p) (fun z => absurd z (by omega)) (fun _ => wy_rm hA hB hl hl (pk_eq (gr_p A B (gr_i A B 7 p) (gr_i A B 7 p)) p (fun _ => h) (fun y => absurd i1 y) rfl rfl (by have := gr_lt A B (gr_i A B 7 p) (gr_i A B 7 p); omega)))
  | succ d ih =>
    intro q hq
    have hl2 := gr_lt A B q q
    exact pk_le 256 q (fun z => absurd z (by omega)) (fun _ => wy_rm hA hB (by omega) (by omega) (pk_eq (gr_p A B q q) p (fun y => absurd (i2 q (by omega) y) (by omega)) (fun _ => nm_r (nI_1 q) (ih (q + 1) (by omega))) rfl rfl (by omega)))
theorem wy_synl {post : Int32 → Prop} {col : Nat → Nat} {w : Nat} (hw : w < 2 ^ 12) (hc : ∀ j, j < 12 → aK j = nI (col j)) (h : post (nI (gs_s col 12 w))) : ∀ d j, j + d = 12 → wY_syndrome_17 post (nI w) ya yb ys yk yr yc ym ye yw yd yf aK aW aN aL aD (d + 1) (nI (gs_s col j w)) (nI j) := by
  intro d
  induction d with
  | zero =>
    intro j hj
    have : j = 12 := by omega
    subst this
    exact pk_le 12 12 (fun _ => h) (fun z => absurd z (by omega))
  | succ d ih =>
    intro j hj
    have e := ih (j + 1) (by omega)
    refine pk_le 12 j (fun z => absurd z (by omega)) (fun _ => gc_tb (gp_s12 hw) (by omega) (fun hb => nm_r (nI_1 j) ?_) (fun hb => ⟨vp_in_nI (by omega) (by omega), nm_r (show _ = nI (gs_s col (j + 1) w) by rw [nI_clamp (by omega), hc j (by omega), nx_xor, gs_sT hb]) (nm_r (nI_1 j) e)⟩))
    rw [gs_sF hb] at e
    exact e
theorem wy_syn {post : Int32 → Prop} {col : Nat → Nat} {w : Nat} (hw : w < 2 ^ 12) (hc : ∀ j, j < 12 → aK j = nI (col j)) (h : post (nI (gs_s col 12 w))) : wpY_syndrome post (ya, yb, ys, yk, yr, yc, ym, ye, yw, yd, yf, aK, aW, aN, aL, aD) (nI w) := by
  have hw : w < 4096 := hw
  exact pk_lt w 0 (fun z => absurd z (by omega)) (fun _ => pk_le w 4095 (fun _ => ⟨_, wy_synl hw hc h 12 0 rfl⟩) (fun z => absurd z (by omega)))
theorem wy_parl {post : Int32 → Prop} {w : Nat} (hw : w < 2 ^ 31) (h : post (nI (gs_q 12 w).toNat)) : ∀ d j, j + d = 12 → wY_parity_4 post (nI w) ya yb ys yk yr yc ym ye yw yd yf aK aW aN aL aD (d + 1) (nI (gs_q j w).toNat) (nI j) := by
  intro d
  induction d with
  | zero =>
    intro j hj
    have : j = 12 := by omega
    subst this
    exact pk_le 12 12 (fun _ => h) (fun z => absurd z (by omega))
  | succ d ih =>
    intro j hj
    have e : nI (gs_q j w).toNat ^^^ ((nI w >>> (nI j &&& 31)) &&& 1) = nI (gs_q (j + 1) w).toNat := by
      rw [gc_bitb hw (by omega)]
      exact gp_q w j
    exact pk_le 12 j (fun z => absurd z (by omega)) (fun _ => nm_r e (nm_r (nI_1 j) (ih (j + 1) (by omega))))
theorem wy_par {post : Int32 → Prop} {x : Int32} (w : Nat) (hx : x = nI w) (hw : w < 2 ^ 31) (h : post (nI (gs_q 12 w).toNat)) : wpY_parity post (ya, yb, ys, yk, yr, yc, ym, ye, yw, yd, yf, aK, aW, aN, aL, aD) x := by
  subst hx
  exact ⟨_, wy_parl hw h 12 0 rfl⟩
theorem wy_wtl {post : Int32 → Prop} {w : Nat} (hw : w < 2 ^ 31) (h : post (nI (gs_w 12 w))) : ∀ d j, j + d = 12 → wY_weight_4 post (nI w) ya yb ys yk yr yc ym ye yw yd yf aK aW aN aL aD (d + 1) (nI (gs_w j w)) (nI j) := by
  intro d
  induction d with
  | zero =>
    intro j hj
    have : j = 12 := by omega
    subst this
    exact pk_le 12 12 (fun _ => h) (fun z => absurd z (by omega))
  | succ d ih =>
    intro j hj
    have e : nI (gs_w j w) + ((nI w >>> (nI j &&& 31)) &&& 1) = nI (gs_w (j + 1) w) := by
      rw [gc_bitb hw (by omega)]
      exact gp_w w j
    exact pk_le 12 j (fun z => absurd z (by omega)) (fun _ => nm_r e (nm_r (nI_1 j) (ih (j + 1) (by omega))))
theorem wy_wt {post : Int32 → Prop} {w : Nat} (hw : w < 2 ^ 31) (h : post (nI (gs_w 12 w))) : wpY_weight post (ya, yb, ys, yk, yr, yc, ym, ye, yw, yd, yf, aK, aW, aN, aL, aD) (nI w) :=
  ⟨_, wy_wtl hw h 12 0 rfl⟩
theorem wy_lowl {post : Int32 → Prop} {v q : Nat} (hv : v < 2 ^ 12) (hq : q < 12) (hl : gy_lo v q) (h : post (nI q)) : ∀ d j, j + d = q → wY_lowest_2 post (nI v) ya yb ys yk yr yc ym ye yw yd yf aK aW aN aL aD (d + 1) (nI j) := by
  intro d
  induction d with
  | zero =>
    intro j hj
    have : j = q := by omega
    subst this
    exact pk_le 12 j (fun z => absurd z (by omega)) (fun _ => gc_tb (gp_s12 hv) (by omega) (fun hb => by rw [hl.1] at hb; cases hb) (fun _ => h))
  | succ d ih =>
    intro j hj
    have hb' := hl.2 j (by omega)
    exact pk_le 12 j (fun z => absurd z (by omega)) (fun _ => gc_tb (gp_s12 hv) (by omega) (fun _ => nm_r (nI_1 j) (ih (j + 1) (by omega))) (fun hb => by rw [hb'] at hb; cases hb))
theorem wy_low {post : Int32 → Prop} {v q : Nat} (hv : v < 2 ^ 12) (hq : q < 12) (hl : gy_lo v q) (h : post (nI q)) : wpY_lowest post (ya, yb, ys, yk, yr, yc, ym, ye, yw, yd, yf, aK, aW, aN, aL, aD) (nI v) :=
  ⟨_, wy_lowl hv hq hl h q 0 (Nat.zero_add q)⟩
theorem wy_exl {post : Int32 → Prop} {f : Nat → Nat} {w : Nat} (hw : w < 2 ^ 12) (hf : ∀ i, i < 4 → aN i = nI (f i) ∧ f i < 12) (h : post (nI (gk_ex f 4 w))) : ∀ d i, i + d = 4 → wY_extract_4 post (nI w) ya yb ys (nI 4) yr yc ym ye yw yd yf aK aW aN aL aD (d + 1) (nI (gk_ex f i w)) (nI i) := by
  intro d
  induction d with
  | zero =>
    intro i hi
    have : i = 4 := by omega
    subst this
    exact pk_le 4 4 (fun _ => h) (fun z => absurd z (by omega))
  | succ d ih =>
    intro i hi
    have e2 : nI (gk_ex f i w) ||| (((nI w >>> (aN (nI i).toNatClampNeg &&& 31)) &&& 1) <<< (nI i &&& 31)) = nI (gk_ex f (i + 1) w) := by
      have h3 := (hf i (by omega)).2
      rw [nI_clamp (by omega), (hf i (by omega)).1]
      exact gp_or (gp_s12 hw) (by omega) (by omega)
    exact pk_le 4 i (fun z => absurd z (by omega)) (fun _ => ⟨vp_in_nI (by omega) (by omega), nm_r e2 (nm_r (nI_1 i) (ih (i + 1) (by omega)))⟩)
theorem wy_ex {post : Int32 → Prop} {f : Nat → Nat} {x : Int32} (w : Nat) (hx : x = nI w) (hw : w < 2 ^ 12) (hf : ∀ i, i < 4 → aN i = nI (f i) ∧ f i < 12) (h : post (nI (gk_ex f 4 w))) : wpY_extract post (ya, yb, ys, nI 4, yr, yc, ym, ye, yw, yd, yf, aK, aW, aN, aL, aD) x := by
  subst hx
  exact ⟨_, wy_exl hw hf h 4 0 rfl⟩
end
