/-! the reference: whole constructor, encrypt, decrypt -/
section
variable {ya yb ys yk yr yc ym ye yw yd yf : Int32} {aK aW aN aL aD : Nat → Int32}
theorem wy_414z {post : SY → Prop} {col r c f E : Nat → Nat} (H : gk_ok col r c f E) (hd : gy_du col aD 4096)
    (h : ∃ n, wY_init_482 post (nI (gk_pm c)) ya yb ys yk yc ym ye yw yd yf n 0 0 aK aW aN aL aD) : ∃ n, wY_init_414 post ya yb ys yk yr yc ym ye yw yd yf aK aW aN aL aD n 0 0 := by
  have e := wy_414 (post := post) (yr := yr) H hd h 12 0 rfl
  rw [Nat.pow_zero, Nat.mod_one] at e
  exact ⟨_, e⟩
theorem wy_all {post : SY → Prop} {A B s : Nat} {r c f E : Nat → Nat} (hA : A < 16) (hB : B < 16) (hr : gr_rt A B = false) (hs : s < 16) (H : gk_ok (gg_col A B s) r c f E)
    (h : ∀ yc' aK' aW' aN' aL' aD', (∀ i, i < 12 → aK' i = nI (gg_col A B s i)) → (∀ i, i < 8 → aW' i = nI (r i)) → (∀ i, i < 4 → aN' i = nI (f i)) → post (nI A, nI B, ys, nI 4, nI 8, yc', ym, ye, yw, yd, yf, aK', aW', aN', aL', aD')) :
    ∃ n, wY_init_253 post (nI s) (nI A) (nI B) ys yk yr yc ym ye yw yd yf n 0 aK aW aN aL aD := by
  refine ⟨_, wy_253 hA hB hr hs (fun aK' hK => ?_) 12 0 aK rfl (fun i hi => absurd hi (Nat.not_lt_zero i))⟩
  refine ⟨_, wy_296 (col := gg_col A B s) (fun j hj => ⟨hK j hj, gk_11 H j hj⟩) (fun cnt aL' hL => ?_) 4096 0 0 aL rfl (gy_cl0 _ _)⟩
  refine ⟨_, wy_343 hL (fun aD' hD => ?_) 4096 0 aD rfl (fun x hx => absurd hx (Nat.not_lt_zero x))⟩
  refine wy_414z H hD ?_
  refine ⟨_, wy_482 H hD (fun aW' hW => ?_) 12 0 0 aW rfl (gy_rw0 c r _)⟩
  refine ⟨_, wy_584 H (fun aN' hN => ?_) 12 0 0 aN rfl (gy_if0 f _)⟩
  exact h _ _ _ _ _ _ hK hW hN
theorem wy_112 {post : SY → Prop} {c0 t0 s : Nat} {r c f E : Nat → Nat} (hc : c0 < 256) (ht : t0 < 256) (h0 : gr_rt ((c0 + t0) % 256 / 16) ((c0 + t0) % 256 % 16) = false) (hl : ∀ i, i < t0 → gr_rt ((c0 + i) % 256 / 16) ((c0 + i) % 256 % 16) = true) (hs : s < 16)
    (H : gk_ok (gg_col ((c0 + t0) % 256 / 16) ((c0 + t0) % 256 % 16) s) r c f E)
    (h : ∀ yc' aK' aW' aN' aL' aD', (∀ i, i < 12 → aK' i = nI (gg_col ((c0 + t0) % 256 / 16) ((c0 + t0) % 256 % 16) s i)) → (∀ i, i < 8 → aW' i = nI (r i)) → (∀ i, i < 4 → aN' i = nI (f i)) → post (nI ((c0 + t0) % 256 / 16), nI ((c0 + t0) % 256 % 16), nI s, nI 4, nI 8, yc', ym, ye, yw, yd, yf, aK', aW', aN', aL', aD')) :
    wY_init_112 post (nI c0) (nI s) ya yb ys yk yr yc ym ye yw yd yf aK aW aN aL aD :=
  nm_e (nm_e ⟨_, wy_139 hc ht h0 hl (wy_all (by omega) (by omega) h0 hs H h) t0 0 _ _ (Nat.zero_add t0)⟩)
theorem wy_101 {post : SY → Prop} {y : Int32} {c0 s : Nat} (h1 : y < 0 → s = 0) (h2 : ∀ j, j < 2 ^ 31 → y = nI j → s = min j 15) (h : wY_init_112 post (nI c0) (nI s) ya yb ys yk yr yc ym ye yw yd yf aK aW aN aL aD) : wY_init_90 post y (nI c0) ya yb ys yk yr yc ym ye yw yd yf aK aW aN aL aD := by
  rcases gi_of y with q | ⟨j, hj, e⟩
  · have := h1 q
    subst this
    exact br_f (Int32.not_le.mpr q) (pk_le 0 15 (fun _ => h) (fun z => absurd z (by omega)))
  · have hm := h2 j hj e
    subst e
    refine br_t (nI_pos' hj) (pk_le j 15 (fun z => ?_) (fun z => ?_))
    · have : s = j := by omega
      subst this
      exact h
    · have : s = 15 := by omega
      subst this
      exact h
theorem wy_79 {post : SY → Prop} {x y : Int32} {c0 s : Nat} (g1 : x < 0 → c0 = 0) (g2 : ∀ j, j < 2 ^ 31 → x = nI j → c0 = min j 255) (h1 : y < 0 → s = 0) (h2 : ∀ j, j < 2 ^ 31 → y = nI j → s = min j 15)
    (h : wY_init_112 post (nI c0) (nI s) 0 0 0 0 0 0 0 0 0 (-1) (-1) (fun _ => 0) (fun _ => 0) (fun _ => 0) (fun _ => 0) (fun _ => 0)) : wpY_init post x y := by
  have h9 := wy_101 h1 h2 h
  rcases gi_of x with q | ⟨j, hj, e⟩
  · have := g1 q
    subst this
    exact br_f (Int32.not_le.mpr q) (pk_le 0 255 (fun _ => h9) (fun z => absurd z (by omega)))
  · have hm := g2 j hj e
    subst e
    refine br_t (nI_pos' hj) (pk_le j 255 (fun z => ?_) (fun z => ?_))
    · have : c0 = j := by omega
      subst this
      exact h9
    · have : c0 = 255 := by omega
      subst this
      exact h9
theorem wy_encl {post : Int32 → SY → Prop} {col r c f E : Nat → Nat} {m e : Nat} (H : gk_ok col r c f E) (hm : m < 2 ^ 4) (hK : ∀ j, j < 12 → aK j = nI (col j)) (hN : ∀ i, i < 4 → aN i = nI (f i) ∧ f i < 12)
    (h : post (nI (gs_s E 4 m ^^^ e)) (ya, yb, ys, nI 4, yr, yc, nI m, nI e, nI (gs_s E 4 m ^^^ e), yd, yf, aK, aW, aN, aL, aD)) :
    ∀ d x g, x + d = 4096 → ((g = 0 ∧ x ≤ gs_s E 4 m) ∨ (g = gs_s E 4 m ∧ gs_s E 4 m < x)) → wY_encrypt_4 post ya yb ys (nI 4) yr yc (nI m) (nI e) yw yd yf aK aW aN aL aD (d + 1) (nI g) (nI x) := by
  have hG : gs_s E 4 m < 4096 := gk_Gl H m
  intro d
  induction d with
  | zero =>
    intro x g hx hg
    have : x = 4096 := by omega
    subst this
    have : g = gs_s E 4 m := by omega
    subst this
    exact pk_le 4096 4096 (fun _ => nm_r (nx_xor _ _) h) (fun z => absurd z (by omega))
  | succ d ih =>
    intro x g hx hg
    have hx12 : x < 2 ^ 12 := by omega
    have hi := gy_enc H hx12 hm
    have hs : gs_s col 12 x < 2 ^ 8 := gs_lt 12 (gk_11 H)
    have hxl : gk_ex f 4 x < 2 ^ 4 := gk_exl f 4 x
    refine pk_le 4096 x (fun z => absurd z (by omega)) (fun _ => wy_syn hx12 hK (pk_eq (gs_s col 12 x) 0 (fun y => wy_ex x rfl hx12 hN (pk_eq (gk_ex f 4 x) m (fun z => nm_r (nI_1 x) (ih (x + 1) x (by omega) ?_)) (fun z => nm_r (nI_1 x) (ih (x + 1) g (by omega) ?_)) rfl rfl (by omega) (by omega))) (fun y => nm_r (nI_1 x) (ih (x + 1) g (by omega) ?_)) rfl rfl (gp_s8 hs)))
    · have := hi.mp ⟨y, z⟩
      exact Or.inr ⟨this, by omega⟩
    · have hne : x ≠ gs_s E 4 m := fun w => z (hi.mpr w).2
      omega
    · have hne : x ≠ gs_s E 4 m := fun w => y (hi.mpr w).1
      omega
theorem wy_enc {post : Int32 → SY → Prop} {col r c f E : Nat → Nat} {m e : Nat} (H : gk_ok col r c f E) (hm : m < 2 ^ 4) (hK : ∀ j, j < 12 → aK j = nI (col j)) (hN : ∀ i, i < 4 → aN i = nI (f i) ∧ f i < 12)
    (h : post (nI (gs_s E 4 m ^^^ e)) (ya, yb, ys, nI 4, yr, yc, nI m, nI e, nI (gs_s E 4 m ^^^ e), yd, yf, aK, aW, aN, aL, aD)) : wpY_encrypt post (ya, yb, ys, nI 4, yr, yc, nI m, nI e, yw, yd, yf, aK, aW, aN, aL, aD) :=
  ⟨_, wy_encl H hm hK hN h 4096 0 0 rfl (Or.inl ⟨rfl, Nat.zero_le _⟩)⟩
theorem wy_decl {post : Int32 → SY → Prop} {col f : Nat → Nat} {w T : Nat} (hw : w < 2 ^ 12) (hT : T < 2 ^ 8) (hK : ∀ j, j < 12 → aK j = nI (col j) ∧ col j < 2 ^ 8) (hN : ∀ i, i < 4 → aN i = nI (f i) ∧ f i < 12)
    (h1 : ∀ e, e < 4096 → gs_w 12 e ≤ 2 → gs_s col 12 e = T → post (nI (gs_w 12 e)) (ya, yb, ys, nI 4, yr, yc, ym, ye, nI w, nI (gk_ex f 4 (w ^^^ e)), nI e, aK, aW, aN, aL, aD))
    (h2 : (∀ e, e < 4096 → gs_w 12 e ≤ 2 → gs_s col 12 e ≠ T) → post (-1) (ya, yb, ys, nI 4, yr, yc, ym, ye, nI w, -1, -1, aK, aW, aN, aL, aD)) :
    ∀ d x, x + d = 4096 → (∀ e, e < x → gs_w 12 e ≤ 2 → gs_s col 12 e ≠ T) → wY_decrypt_11 post (nI T) ya yb ys (nI 4) yr yc ym ye (nI w) yd yf aK aW aN aL aD (d + 1) (nI x) := by
  intro d
  induction d with
  | zero =>
    intro x hx hn
    have : x = 4096 := by omega
    subst this
    exact pk_le 4096 4096 (fun _ => h2 hn) (fun z => absurd z (by omega))
  | succ d ih =>
    intro x hx hn
    have hx12 : x < 2 ^ 12 := by omega
    have hs : gs_s col 12 x < 2 ^ 8 := gs_lt 12 (fun j hj => (hK j hj).2)
    have hwl := gs_wle x 12
    refine pk_le 4096 x (fun z => absurd z (by omega)) (fun _ => wy_wt (gp_s12 hx12) (pk_lt 2 (gs_w 12 x) (fun y => nm_r (nI_1 x) (ih (x + 1) (by omega) (fun e he hw2 => ?_))) (fun y => wy_syn hx12 (fun j hj => (hK j hj).1) (pk_eq (gs_s col 12 x) T (fun z => wy_ex (w ^^^ x) (nx_xor _ _) (Nat.xor_lt_two_pow hw hx12) hN (wy_wt (gp_s12 hx12) (h1 x (by omega) y z))) (fun z => nm_r (nI_1 x) (ih (x + 1) (by omega) (fun e he hw2 => ?_))) rfl rfl (gp_s8 hs) (gp_s8 hT)))))
    · by_cases q : e = x
      · subst q; omega
      · exact hn e (by omega) hw2
    · by_cases q : e = x
      · subst q; exact z
      · exact hn e (by omega) hw2
theorem wy_dec {post : Int32 → SY → Prop} {col f : Nat → Nat} {w T : Nat} (hw : w < 2 ^ 12) (hT : gs_s col 12 w = T) (hK : ∀ j, j < 12 → aK j = nI (col j) ∧ col j < 2 ^ 8) (hN : ∀ i, i < 4 → aN i = nI (f i) ∧ f i < 12)
    (h1 : ∀ e, e < 4096 → gs_w 12 e ≤ 2 → gs_s col 12 e = T → post (nI (gs_w 12 e)) (ya, yb, ys, nI 4, yr, yc, ym, ye, nI w, nI (gk_ex f 4 (w ^^^ e)), nI e, aK, aW, aN, aL, aD))
    (h2 : (∀ e, e < 4096 → gs_w 12 e ≤ 2 → gs_s col 12 e ≠ T) → post (-1) (ya, yb, ys, nI 4, yr, yc, ym, ye, nI w, -1, -1, aK, aW, aN, aL, aD)) : wpY_decrypt post (ya, yb, ys, nI 4, yr, yc, ym, ye, nI w, yd, yf, aK, aW, aN, aL, aD) := by
  have hs : gs_s col 12 w < 2 ^ 8 := gs_lt 12 (fun j hj => (hK j hj).2)
  unfold wpY_decrypt
  dsimp only
  refine wy_syn hw (fun j hj => (hK j hj).1) ?_
  rw [hT] at hs ⊢
  exact ⟨_, wy_decl hw hs hK hN h1 h2 4096 0 rfl (fun e he => absurd he (Nat.not_lt_zero e))⟩
end
