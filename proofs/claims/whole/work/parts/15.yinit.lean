/-! the reference's constructor -/
theorem wy_nb1 : vp_nar .boolean 1 = 1 := by
  show (1 : Int32) &&& 1 = 1
  decide
theorem wy_nb0 : vp_nar .boolean 0 = 0 := by
  show (0 : Int32) &&& 1 = 0
  decide
section
variable {ya yb ys yk yr yc ym ye yw yd yf : Int32} {aK aW aN aL aD : Nat → Int32}
theorem wy_181 {post : SY → Prop} {J : Int32 → Int32 → Int32 → Int32 → Prop} {x3 x4 x5 : Int32} {ca cb t : Nat} (hca : ca < 16) (hcb : cb < 16)
    (h0 : gr_rt ca cb = false → J 1 (nI (t + 1)) (nI ca) (nI cb)) (h1 : gr_rt ca cb = true → J x5 (nI (t + 1)) ya yb) :
    ∀ d z, z + d = 16 → wY_init_181 post J x3 x4 x5 (nI t) (nI ca) (nI cb) ya yb ys yk yr yc ym ye yw yd yf aK aW aN aL aD (d + 1) (nI (gc_ex z fun z => Nat.beq (gf_p z z ^^^ gf_p ca z ^^^ cb) 0).toNat) (nI z) := by
  intro d
  induction d with
  | zero =>
    intro z hz
    have : z = 16 := by omega
    subst this
    exact pk_le 16 16 (fun _ => gc_tb' (b := gr_rt ca cb) rfl (fun hb => nm_r (nI_1 t) (h0 hb)) (fun hb => nm_r (nI_1 t) (h1 hb))) (fun z => absurd z (by omega))
  | succ d ih =>
    intro z hz
    have e := ih (z + 1) (by omega)
    have hl : gf_p z z ^^^ gf_p ca z ^^^ cb < 16 := gx_lt (gx_lt (gf_lt _ _) (gf_lt _ _)) hcb
    refine pk_le 16 z (fun z => absurd z (by omega)) (fun _ => wy_gf z z rfl rfl (by omega) (by omega) (wy_gf ca z rfl rfl hca (by omega) (nm_r (show _ = nI (gf_p z z ^^^ gf_p ca z ^^^ cb) by rw [nx_xor, nx_xor]) (pk_eq (gf_p z z ^^^ gf_p ca z ^^^ cb) 0 (fun y => nm_r (nI_1 z) ?_) (fun y => nm_r (nI_1 z) ?_)))))
    · rw [show (gc_ex (z + 1) fun z => Nat.beq (gf_p z z ^^^ gf_p ca z ^^^ cb) 0) = true from gc_ex_t (p := fun z => Nat.beq (gf_p z z ^^^ gf_p ca z ^^^ cb) 0) (Nat.lt_succ_self z) (gb_t y)] at e
      exact e
    · have e2 : (gc_ex (z + 1) fun z => Nat.beq (gf_p z z ^^^ gf_p ca z ^^^ cb) 0) = gc_ex z fun z => Nat.beq (gf_p z z ^^^ gf_p ca z ^^^ cb) 0 := by
        show ((gc_ex z fun z => Nat.beq (gf_p z z ^^^ gf_p ca z ^^^ cb) 0) || Nat.beq (gf_p z z ^^^ gf_p ca z ^^^ cb) 0) = _
        rw [gb_f y, Bool.or_false]
      rw [e2] at e
      exact e
theorem wy_139 {post : SY → Prop} {x4 : Int32} {c t0 : Nat} (hc : c < 256) (ht : t0 < 256) (h0 : gr_rt ((c + t0) % 256 / 16) ((c + t0) % 256 % 16) = false) (hl : ∀ i, i < t0 → gr_rt ((c + i) % 256 / 16) ((c + i) % 256 % 16) = true)
    (h : ∃ n, wY_init_253 post x4 (nI ((c + t0) % 256 / 16)) (nI ((c + t0) % 256 % 16)) ys yk yr yc ym ye yw yd yf n 0 aK aW aN aL aD) :
    ∀ d t ya yb, t + d = t0 → wY_init_139 post (nI c) x4 ys yk yr yc ym ye yw yd yf aK aW aN aL aD (d + 2) 0 (nI t) ya yb := by
  have e7 : ∀ t, t < 256 → (nI c + nI t) &&& 255 = nI ((c + t) % 256) := by
    intro t ht
    rw [nI_add]
    exact gp_m256 (by omega)
  have e8 : ∀ t, nI ((c + t) % 256) >>> ((4 : Int32) &&& 31) = nI ((c + t) % 256 / 16) := fun t => gp_sh4 (by omega)
  have e9 : ∀ t, nI ((c + t) % 256) &&& 15 = nI ((c + t) % 256 % 16) := fun t => gp_m16 (by omega)
  intro d
  induction d with
  | zero =>
    intro t ya yb ht'
    have : t = t0 := by omega
    subst this
    refine pk_le 256 t (fun z => absurd z (by omega)) (fun _ => br_t rfl (nm_r (e7 t ht) (nm_r (e8 t) (nm_r (e9 t) ⟨_, wy_181 (by omega) (by omega) (fun _ => ?_) (fun hb => ?_) 16 0 rfl⟩))))
    · exact pk_le 256 (t + 1) (fun _ => h) (fun _ => br_f (by decide) h)
    · rw [h0] at hb; cases hb
  | succ d ih =>
    intro t ya yb ht'
    refine pk_le 256 t (fun z => absurd z (by omega)) (fun _ => br_t rfl (nm_r (e7 t (by omega)) (nm_r (e8 t) (nm_r (e9 t) ⟨_, wy_181 (by omega) (by omega) (fun hb => ?_) (fun hb => ?_) 16 0 rfl⟩))))
    · rw [hl t (by omega)] at hb; cases hb
    · exact ih (t + 1) ya yb (by omega)
theorem wy_253 {post : SY → Prop} {A B s : Nat} (hA : A < 16) (hB : B < 16) (hr : gr_rt A B = false) (hs : s < 16)
    (h : ∀ aK', (∀ i, i < 12 → aK' i = nI (gg_col A B s i)) → ∃ n, wY_init_296 post (nI A) (nI B) ys yk yr ym ye yw yd yf n 0 0 aK' aW aN aL aD) :
    ∀ d j aK, j + d = 12 → (∀ i, i < j → aK i = nI (gg_col A B s i)) → wY_init_253 post (nI s) (nI A) (nI B) ys yk yr yc ym ye yw yd yf (d + 1) (nI j) aK aW aN aL aD := by
  intro d
  induction d with
  | zero =>
    intro j aK hj hi
    have : j = 12 := by omega
    subst this
    exact pk_le 12 12 (fun _ => h aK hi) (fun z => absurd z (by omega))
  | succ d ih =>
    intro j aK hj hi
    have e : (16 : Int32) + ((nI s + nI j) &&& 15) = nI (16 + (s + j) % 16) := by
      rw [nI_add, gp_m16 (by omega)]
      exact nI_add 16 _
    refine pk_le 12 j (fun z => absurd z (by omega)) (fun _ => wy_inv (16 + (s + j) % 16) e hA hB hr (by omega) (by omega) ⟨vp_in_nI (by omega) (by omega), nm_r (show _ = upd aK j (nI (gr_v A B (16 + (s + j) % 16) 7)) by rw [nI_clamp (by omega)]) (nm_r (nI_1 j) (ih (j + 1) _ (by omega) (fun i hi' => ?_)))⟩)
    by_cases q : i = j
    · subst q; rw [pk_us] <;> rfl
    · rw [pk_un q]; exact hi i (by omega)
theorem wy_296 {post : SY → Prop} {col : Nat → Nat} (hc : ∀ j, j < 12 → aK j = nI (col j) ∧ col j < 2 ^ 8)
    (h : ∀ cnt aL', gy_cl col 4096 cnt aL' → ∃ n, wY_init_343 post ya yb ys yk yr (nI cnt) ym ye yw yd yf n 0 aK aW aN aL' aD) :
    ∀ d w cnt aL, w + d = 4096 → gy_cl col w cnt aL → wY_init_296 post ya yb ys yk yr ym ye yw yd yf (d + 1) (nI w) (nI cnt) aK aW aN aL aD := by
  intro d
  induction d with
  | zero =>
    intro w cnt aL hw hi
    have : w = 4096 := by omega
    subst this
    exact pk_le 4096 4096 (fun _ => h cnt aL hi) (fun z => absurd z (by omega))
  | succ d ih =>
    intro w cnt aL hw hi
    have h1 := hi.1
    have hs : gs_s col 12 w < 2 ^ 8 := gs_lt 12 (fun k hk => (hc k hk).2)
    exact pk_le 4096 w (fun z => absurd z (by omega)) (fun _ => wy_syn (show w < 2 ^ 12 by omega) (fun j hj => (hc j hj).1) (pk_eq (gs_s col 12 w) 0
      (fun y => ⟨vp_in_nI (by omega) (by omega), nm_r (show _ = upd aL cnt (nI w) by rw [nI_clamp (by omega)]) (nm_r (nI_1 cnt) (nm_r (nI_1 w) (ih (w + 1) (cnt + 1) _ (by omega) (gy_clT hi y))))⟩)
      (fun y => nm_r (nI_1 w) (ih (w + 1) cnt aL (by omega) (gy_clF hi y))) rfl rfl (gp_s8 hs)))
theorem wy_357 {post : SY → Prop} {J : Int32 → (Nat → Int32) → (Nat → Int32) → (Nat → Int32) → (Nat → Int32) → (Nat → Int32) → Prop} {col : Nat → Nat} {v cnt : Nat} (hv : v < 4096) (hl : gy_cl col 4096 cnt aL)
    (h : ∀ s : Int32, ((s = 1 ∧ gk_dual col v) ∨ (s = 0 ∧ ¬ gk_dual col v)) → J (nI (v + 1)) aK aW aN aL (upd aD v s)) :
    ∀ d i s, i + d = cnt → gy_ok aL v i s → wY_init_357 post J (nI v) ya yb ys yk yr (nI cnt) ym ye yw yd yf aK aW aN aL aD (d + 1) s (nI i) := by
  have hcnt := hl.1
  intro d
  induction d with
  | zero =>
    intro i s hi ho
    have : i = cnt := by omega
    subst this
    have hE := gy_okE hl ho
    have hn : vp_nar .boolean s = s := by
      rcases hE with z | z
      · rw [z.1, wy_nb1]
      · rw [z.1, wy_nb0]
    exact pk_le i i (fun _ => ⟨vp_in_nI hv (by omega), nm_r (show _ = upd aD v s by rw [nI_clamp (by omega), hn]) (nm_r (nI_1 v) (h s hE))⟩) (fun z => absurd z (by omega))
  | succ d ih =>
    intro i s hi ho
    obtain ⟨x, hx, _, ex⟩ := hl.2.2 i (by omega)
    have e : nI v &&& aL (nI i).toNatClampNeg = nI (v &&& x) := by
      rw [nI_clamp (by omega), ex, nx_and]
    refine pk_le cnt i (fun z => absurd z (by omega)) (fun _ => ⟨vp_in_nI (by omega) (by omega), wy_par (v &&& x) e (gp_s12 (Nat.and_lt_two_pow _ hx)) ?_⟩)
    cases hq : gs_q 12 (v &&& x)
    · exact br_f (by decide) (nm_r (nI_1 i) (ih (i + 1) s (by omega) (gy_okF ho hx ex hq)))
    · exact br_t (by decide) (nm_r (nI_1 i) (ih (i + 1) 0 (by omega) (gy_okT hx ex hq)))
theorem wy_343 {post : SY → Prop} {col : Nat → Nat} {cnt : Nat} (hl : gy_cl col 4096 cnt aL)
    (h : ∀ aD', gy_du col aD' 4096 → ∃ n, wY_init_414 post ya yb ys yk yr (nI cnt) ym ye yw yd yf aK aW aN aL aD' n 0 0) :
    ∀ d v aD, v + d = 4096 → gy_du col aD v → wY_init_343 post ya yb ys yk yr (nI cnt) ym ye yw yd yf (d + 1) (nI v) aK aW aN aL aD := by
  intro d
  induction d with
  | zero =>
    intro v aD hv hd
    have : v = 4096 := by omega
    subst this
    exact pk_le 4096 4096 (fun _ => h aD hd) (fun z => absurd z (by omega))
  | succ d ih =>
    intro v aD hv hd
    exact pk_le 4096 v (fun z => absurd z (by omega)) (fun _ => ⟨_, wy_357 (by omega) hl (fun s hs => ih (v + 1) _ (by omega) (gy_duS hd hs)) cnt 0 1 (Nat.zero_add cnt) (gy_ok0 aL v)⟩)
theorem wy_424 {post : SY → Prop} {J : Int32 → Int32 → Prop} {col r c f E : Nat → Nat} {q : Nat} (H : gk_ok col r c f E) (hq : q < 12) (hd : gy_du col aD 4096)
    (h : J (nI (gk_pm c % 2 ^ (q + 1))) (nI (q + 1))) :
    ∀ d v s, v + d = 4096 → 0 < v → gy_pv col c q v s → wY_init_424 post J (nI q) ya yb ys yk yr yc ym ye yw yd yf aK aW aN aL aD (d + 1) s (nI v) := by
  intro d
  induction d with
  | zero =>
    intro v s hv _ hp
    have : v = 4096 := by omega
    subst this
    have e := gy_pvE H hp
    subst e
    exact pk_le 4096 4096 (fun _ => nm_r (nI_1 q) h) (fun z => absurd z (by omega))
  | succ d ih =>
    intro v s hv h0 hp
    have e : aD (nI v).toNatClampNeg = aD v := by rw [nI_clamp (by omega)]
    obtain ⟨p, hp12, hlo⟩ := gy_loE (show v < 2 ^ 12 by omega) h0
    refine pk_le 4096 v (fun z => absurd z (by omega)) (fun _ => ⟨vp_in_nI (by omega) (by omega), ?_⟩)
    rcases hd v (by omega) with ⟨h1, hdu⟩ | ⟨h1, hdu⟩
    · refine br_f (by rw [e, h1]; decide) (wy_low (show v < 2 ^ 12 by omega) hp12 hlo (pk_eq p q (fun y => nm_r (show _ = s ||| nI (2 ^ q) by rw [gp_one (by omega)]) (nm_r (nI_1 v) (ih (v + 1) _ (by omega) (by omega) (gy_pvT H hq (show v < 2 ^ 12 by omega) hp hdu (y ▸ hlo))))) (fun y => nm_r (nI_1 v) (ih (v + 1) s (by omega) (by omega) (gy_pvF hp (fun z => y (gy_loU hlo z.2)))))))
    · exact br_t (by rw [e, h1]) (nm_r (nI_1 v) (ih (v + 1) s (by omega) (by omega) (gy_pvF hp (fun z => hdu z.1))))
theorem wy_414 {post : SY → Prop} {col r c f E : Nat → Nat} (H : gk_ok col r c f E) (hd : gy_du col aD 4096)
    (h : ∃ n, wY_init_482 post (nI (gk_pm c)) ya yb ys yk yc ym ye yw yd yf n 0 0 aK aW aN aL aD) :
    ∀ d q, q + d = 12 → wY_init_414 post ya yb ys yk yr yc ym ye yw yd yf aK aW aN aL aD (d + 1) (nI (gk_pm c % 2 ^ q)) (nI q) := by
  intro d
  induction d with
  | zero =>
    intro q hq
    have : q = 12 := by omega
    subst this
    rw [gy_pm12 H]
    exact pk_le 12 12 (fun _ => h) (fun z => absurd z (by omega))
  | succ d ih =>
    intro q hq
    exact pk_le 12 q (fun z => absurd z (by omega)) (fun _ => ⟨_, wy_424 H (by omega) hd (ih (q + 1) (by omega)) 4095 1 _ rfl (by omega) (gy_pv1 col c q)⟩)
theorem wy_502 {post : SY → Prop} {J : Int32 → Int32 → (Nat → Int32) → (Nat → Int32) → (Nat → Int32) → (Nat → Int32) → (Nat → Int32) → Prop} {col r c f E : Nat → Nat} {n : Nat} (H : gk_ok col r c f E) (hn : n < 8) (hd : gy_du col aD 4096)
    (h : ∀ aW', gy_rv r n 4096 aW' → J (nI (c n + 1)) (nI (n + 1)) aK aW' aN aL aD) :
    ∀ d v aW, v + d = 4096 → 0 < v → gy_rv r n v aW → wY_init_502 post J (nI (gk_pm c)) (nI (c n)) ya yb ys yk (nI n) yc ym ye yw yd yf (d + 1) (nI v) aK aW aN aL aD := by
  have hc := (gk_2 H n hn).2.1
  intro d
  induction d with
  | zero =>
    intro v aW hv _ hp
    have : v = 4096 := by omega
    subst this
    exact pk_le 4096 4096 (fun _ => nm_r (nI_1 n) (nm_r (nI_1 (c n)) (h aW hp))) (fun z => absurd z (by omega))
  | succ d ih =>
    intro v aW hv h0 hp
    have hv12 : v < 2 ^ 12 := by omega
    have e : aD (nI v).toNatClampNeg = aD v := by rw [nI_clamp (by omega)]
    have ea : nI v &&& nI (gk_pm c) = nI (v &&& gk_pm c) := nx_and _ _
    have eo : (1 : Int32) <<< (nI (c n) &&& 31) = nI (2 ^ c n) := gp_one (by omega)
    have hpw : 2 ^ c n < 2 ^ 12 := Nat.pow_lt_pow_right (by decide) hc
    have hi := gy_rvi H hn hv12
    obtain ⟨p, hp12, hlo⟩ := gy_loE hv12 h0
    refine pk_le 4096 v (fun z => absurd z (by omega)) (fun _ => ⟨vp_in_nI (by omega) (by omega), ?_⟩)
    rcases hd v (by omega) with ⟨h1, hdu⟩ | ⟨h1, hdu⟩
    · refine br_f (by rw [e, h1]; decide) (wy_low hv12 hp12 hlo (pk_eq p (c n) (fun y => pk_eq (v &&& gk_pm c) (2 ^ c n) (fun z => ⟨vp_in_nI (by omega) (by omega), ?_⟩) (fun z => nm_r (nI_1 v) (ih (v + 1) aW (by omega) (by omega) (gy_rvF hp (fun w => z (hi.mpr w).2.2)))) ea eo (gp_s12 (Nat.and_lt_two_pow _ (gk_pml H))) (gp_s12 hpw)) (fun y => nm_r (nI_1 v) (ih (v + 1) aW (by omega) (by omega) (gy_rvF hp (fun w => y (gy_loU hlo (hi.mpr w).2.1)))))))
      have hvr := hi.mp ⟨hdu, y ▸ hlo, z⟩
      refine nm_r (show _ = upd aW n (nI v) by rw [nI_clamp (by omega)]) (nm_r (nI_1 v) (ih (v + 1) _ (by omega) (by omega) ?_))
      rw [hvr] at hp ⊢
      exact gy_rvT hp
    · exact br_t (by rw [e, h1]) (nm_r (nI_1 v) (ih (v + 1) aW (by omega) (by omega) (gy_rvF hp (fun w => hdu (hi.mpr w).1))))
theorem wy_482 {post : SY → Prop} {col r c f E : Nat → Nat} (H : gk_ok col r c f E) (hd : gy_du col aD 4096)
    (h : ∀ aW', (∀ i, i < 8 → aW' i = nI (r i)) → ∃ n, wY_init_584 post (nI (gk_pm c)) ya yb ys (nI 8) yc ym ye yw yd yf n 0 0 aK aW' aN aL aD) :
    ∀ d q n aW, q + d = 12 → gy_rw c r q n aW → wY_init_482 post (nI (gk_pm c)) ya yb ys yk yc ym ye yw yd yf (d + 1) (nI q) (nI n) aK aW aN aL aD := by
  intro d
  induction d with
  | zero =>
    intro q n aW hq hw
    have : q = 12 := by omega
    subst this
    obtain ⟨e, hr⟩ := gy_rwE H hw
    subst e
    exact pk_le 12 12 (fun _ => h aW hr) (fun z => absurd z (by omega))
  | succ d ih =>
    intro q n aW hq hw
    refine pk_le 12 q (fun z => absurd z (by omega)) (fun _ => gc_tb (gp_s12 (gk_pml H)) (by omega) (fun hb => nm_r (nI_1 q) (ih (q + 1) n aW (by omega) (gy_rwN hw (fun i hi z => ?_)))) (fun hb => ?_))
    · rw [← z, gk_pmc c hi] at hb
      cases hb
    · obtain ⟨i, hi, e⟩ := gk_pmi hb
      have ein := gy_rwi H hw hi e
      subst ein
      subst e
      exact ⟨_, wy_502 H hi hd (fun aW' hv => ih (c i + 1) (i + 1) aW' (by omega) (gy_rwS H ⟨hw.1, hw.2.1, hv.1⟩ hi rfl (hv.2 (gk_2 H i hi).1))) 4095 1 aW rfl (by omega) ⟨hw.2.2, fun z => absurd z (by have := gk_rpos H hi; omega)⟩⟩
theorem wy_584 {post : SY → Prop} {col r c f E : Nat → Nat} (H : gk_ok col r c f E)
    (h : ∀ aN', (∀ i, i < 4 → aN' i = nI (f i)) → post (ya, yb, ys, nI 4, yr, yc, ym, ye, yw, yd, yf, aK, aW, aN', aL, aD)) :
    ∀ d q n aN, q + d = 12 → gy_if f q n aN → wY_init_584 post (nI (gk_pm c)) ya yb ys yr yc ym ye yw yd yf (d + 1) (nI q) (nI n) aK aW aN aL aD := by
  intro d
  induction d with
  | zero =>
    intro q n aN hq hw
    have : q = 12 := by omega
    subst this
    obtain ⟨e, hr⟩ := gy_ifE H hw
    subst e
    exact pk_le 12 12 (fun _ => h aN hr) (fun z => absurd z (by omega))
  | succ d ih =>
    intro q n aN hq hw
    refine pk_le 12 q (fun z => absurd z (by omega)) (fun _ => gc_tb (gp_s12 (gk_pml H)) (by omega) (fun hb => ?_) (fun hb => nm_r (nI_1 q) (ih (q + 1) n aN (by omega) (gy_ifN hw (fun j hj z => ?_)))))
    · rcases gk_5 H q (by omega) with ⟨i, hi, e⟩ | ⟨j, hj, e⟩
      · rw [← e, gk_pmc c hi] at hb
        cases hb
      · obtain ⟨hn, hw'⟩ := gy_ifS H hw hj e
        exact ⟨vp_in_nI (by omega) (by omega), nm_r (show _ = upd aN n (nI q) by rw [nI_clamp (by omega)]) (nm_r (nI_1 n) (nm_r (nI_1 q) (ih (q + 1) (n + 1) _ (by omega) hw')))⟩
    · rw [gk_pmn (fun i hi y => gk_6 H i hi j hj (y.trans z.symm))] at hb
      cases hb
end
