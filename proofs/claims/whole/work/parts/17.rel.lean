/-! the relation: one polynomial, one shift, one code, the same five numbers -/
def gq_R (A B s : Nat) (r c f E : Nat → Nat) (m e w : Nat) (aP aR aC aI aK aW aN : Nat → Int32) : Prop :=
  (A < 16 ∧ B < 16 ∧ gr_rt A B = false ∧ s < 16 ∧ gk_ok (gg_col A B s) r c f E) ∧
  (m < 2 ^ 4 ∧ e < 2 ^ 12 ∧ w < 2 ^ 12) ∧
  (∀ j, j < 12 → aP j = nI (gg_col A B s j) ∧ aK j = nI (gg_col A B s j)) ∧
  (∀ i, i < 8 → aR i = nI (r i) ∧ aC i = nI (c i) ∧ aW i = nI (r i)) ∧
  (∀ i, i < 4 → aI i = nI (f i) ∧ aN i = nI (f i))
def i_Rel (k : Nat) (u : SX) (v : SY) : Prop :=
  ∃ (A B s : Nat) (r c f E : Nat → Nat) (m e w : Nat) (de fo : Int32) (aP aR aC aI : Nat → Int32) (yr yc : Int32) (aK aW aN aL aD : Nat → Int32),
    u = (nI A, nI B, nI s, nI 8, nI 4, nI m, nI e, nI w, de, fo, aP, aR, aC, aI) ∧ v = (nI A, nI B, nI s, nI 4, yr, yc, nI m, nI e, nI w, de, fo, aK, aW, aN, aL, aD) ∧ gq_R A B s r c f E m e w aP aR aC aI aK aW aN
theorem i_mk {k : Nat} {A B s : Nat} {r c f E : Nat → Nat} {m e w : Nat} {de fo : Int32} {aP aR aC aI : Nat → Int32} {yr yc : Int32} {aK aW aN aL aD : Nat → Int32} (h : gq_R A B s r c f E m e w aP aR aC aI aK aW aN) :
    i_Rel k (nI A, nI B, nI s, nI 8, nI 4, nI m, nI e, nI w, de, fo, aP, aR, aC, aI) (nI A, nI B, nI s, nI 4, yr, yc, nI m, nI e, nI w, de, fo, aK, aW, aN, aL, aD) := ⟨A, B, s, r, c, f, E, m, e, w, de, fo, aP, aR, aC, aI, yr, yc, aK, aW, aN, aL, aD, rfl, rfl, h⟩
theorem i_up {k : Nat} {u : SX} {v : SY} (h : i_Rel k u v) : i_Rel (k + 3) u v := h
theorem i_vc0 (k0 : Int32) (k1 : Int32) : wpX_init (fun u => wpY_init (fun v => i_Rel 2 u v) k0 k1) k0 k1 := by
  obtain ⟨c0, hc0, g1, g2, hX1⟩ := wx_clamp k0 255 (by decide)
  obtain ⟨s, hs, h1, h2, hX2⟩ := wx_clamp k1 15 (by decide)
  obtain ⟨t0, ht, hr0, hl⟩ := gr_first (show c0 < 256 by omega)
  obtain ⟨r, c, f, E, e9, H⟩ := gg_ok (A := (c0 + t0) % 256 / 16) (B := (c0 + t0) % 256 % 16) (s := s) (by omega) (by omega) hr0 (by omega)
  unfold wpX_init
  refine hX1 _ (wx_fw (by omega) ht hr0 hl ⟨by decide, nm_r (gp_d16 (w := (c0 + t0) % 256) (by omega)) ⟨by decide, nm_r (gp_r16 (w := (c0 + t0) % 256) (by omega)) (hX2 _ (wx_fps (by omega) (by omega) (by omega) (fun aP' hP => wx_fr (col := gg_col ((c0 + t0) % 256 / 16) ((c0 + t0) % 256 % 16) s) (fun j hj => ⟨hP j hj, gk_11 H j hj⟩) (fun aR' hR => wx_rr e9 hR (fun aR2 aC2 aI2 hr2 hc2 hi2 => ?_)))))⟩⟩)
  refine wy_79 g1 g2 h1 h2 (wy_112 (by omega) ht hr0 hl (by omega) H (fun yc' aK' aW' aN' aL' aD' hK hW hN => ?_))
  exact i_mk (m := 0) (e := 0) (w := 0) ⟨⟨by omega, by omega, hr0, by omega, H⟩, ⟨by decide, by decide, by decide⟩, fun j hj => ⟨hP j hj, hK j hj⟩, fun i hi => ⟨(hr2 i hi).1, hc2 i hi, hW i hi⟩, fun i hi => ⟨hi2 i hi, hN i hi⟩⟩
theorem i_vc_support {k : Nat} {u : SX} {v : SY} (I : i_Rel k u v) (hk : k + 3 ≤ 1538) (v1 : Int32) : wpX_support (fun r => wpY_support (fun r' => r' = r ∧ i_Rel (k + 3) u v) v v1) u v1 := by
  have J := i_up I
  obtain ⟨A, B, s, r, c, f, E, m, e, w, de, fo, aP, aR, aC, aI, yr, yc, aK, aW, aN, aL, aD, rfl, rfl, hh⟩ := I
  obtain ⟨⟨hA, hB, hr, hs, H⟩, ⟨hm, he, hw⟩, hP, hR, hF⟩ := hh
  rcases gi_of v1 with q | ⟨p, hp, rfl⟩
  · exact br_t q (br_t q ⟨rfl, J⟩)
  · refine pk_lt p 0 (fun z => absurd z (by omega)) (fun _ => pk_lt p 12 (fun z => wx_sup hs z (pk_lt p 0 (fun z => absurd z (by omega)) (fun _ => pk_le p 11 (fun _ => ⟨by decide, ?_, J⟩) (fun z => absurd z (by omega))))) (fun z => pk_lt p 0 (fun z => absurd z (by omega)) (fun _ => pk_le p 11 (fun z => absurd z (by omega)) (fun _ => ⟨rfl, J⟩))))
    rw [nI_add]
    exact gp_r16 (by omega)
theorem i_vc_fieldMul {k : Nat} {u : SX} {v : SY} (I : i_Rel k u v) (hk : k + 3 ≤ 1538) (v1 : Int32) (v2 : Int32) : wpX_fieldMul (fun r => wpY_fieldMul (fun r' => r' = r ∧ i_Rel (k + 3) u v) v v1 v2) u v1 v2 := by
  have J := i_up I
  obtain ⟨A, B, s, r, c, f, E, m, e, w, de, fo, aP, aR, aC, aI, yr, yc, aK, aW, aN, aL, aD, rfl, rfl, hh⟩ := I
  obtain ⟨⟨hA, hB, hr, hs, H⟩, ⟨hm, he, hw⟩, hP, hR, hF⟩ := hh
  rcases gi_of v1 with q | ⟨a, ha, rfl⟩
  · exact br_t q (br_t q ⟨rfl, J⟩)
  · refine pk_lt a 0 (fun z => absurd z (by omega)) (fun _ => pk_le 16 a (fun z => pk_lt a 0 (fun z => absurd z (by omega)) (fun _ => pk_lt 15 a (fun _ => ⟨rfl, J⟩) (fun z => absurd z (by omega)))) (fun y => ?_))
    rcases gi_of v2 with q | ⟨b, hb, rfl⟩
    · exact br_t q (pk_lt a 0 (fun z => absurd z (by omega)) (fun _ => pk_lt 15 a (fun z => absurd z (by omega)) (fun _ => br_t q ⟨rfl, J⟩)))
    · exact pk_lt b 0 (fun z => absurd z (by omega)) (fun _ => pk_lt b 16 (fun x => wx_fp a b rfl rfl y x (pk_lt a 0 (fun z => absurd z (by omega)) (fun _ => pk_lt 15 a (fun z => absurd z (by omega)) (fun _ => pk_lt b 0 (fun z => absurd z (by omega)) (fun _ => pk_le b 15 (fun _ => wy_gf a b rfl rfl y x ⟨rfl, J⟩) (fun z => absurd z (by omega))))))) (fun x => pk_lt a 0 (fun z => absurd z (by omega)) (fun _ => pk_lt 15 a (fun z => absurd z (by omega)) (fun _ => pk_lt b 0 (fun z => absurd z (by omega)) (fun _ => pk_le b 15 (fun z => absurd z (by omega)) (fun _ => ⟨rfl, J⟩))))))
theorem i_vc_ringInverse {k : Nat} {u : SX} {v : SY} (I : i_Rel k u v) (hk : k + 3 ≤ 1538) (v1 : Int32) : wpX_ringInverse (fun r => wpY_ringInverse (fun r' => r' = r ∧ i_Rel (k + 3) u v) v v1) u v1 := by
  have J := i_up I
  obtain ⟨A, B, s, r, c, f, E, m, e, w, de, fo, aP, aR, aC, aI, yr, yc, aK, aW, aN, aL, aD, rfl, rfl, hh⟩ := I
  obtain ⟨⟨hA, hB, hr, hs, H⟩, ⟨hm, he, hw⟩, hP, hR, hF⟩ := hh
  rcases gi_of v1 with q | ⟨p, hp, rfl⟩
  · exact br_t (gi_le (k := 0) q (by decide)) (br_t q ⟨rfl, J⟩)
  · exact pk_le p 0 (fun y => pk_lt p 0 (fun z => absurd z (by omega)) (fun _ => pk_lt 255 p (fun z => absurd z (by omega)) (fun _ => pk_eq p 0 (fun _ => ⟨rfl, J⟩) (fun z => absurd z (by omega))))) (fun x => pk_lt p 256 (fun y => wx_inv p rfl hA hB y (wy_inv p rfl hA hB hr x y ⟨rfl, J⟩)) (fun y => pk_lt p 0 (fun z => absurd z (by omega)) (fun _ => pk_lt 255 p (fun _ => ⟨rfl, J⟩) (fun z => absurd z (by omega)))))
theorem i_vc_ringSqrt {k : Nat} {u : SX} {v : SY} (I : i_Rel k u v) (hk : k + 3 ≤ 1538) (v1 : Int32) : wpX_ringSqrt (fun r => wpY_ringSqrt (fun r' => r' = r ∧ i_Rel (k + 3) u v) v v1) u v1 := by
  have J := i_up I
  obtain ⟨A, B, s, r, c, f, E, m, e, w, de, fo, aP, aR, aC, aI, yr, yc, aK, aW, aN, aL, aD, rfl, rfl, hh⟩ := I
  obtain ⟨⟨hA, hB, hr, hs, H⟩, ⟨hm, he, hw⟩, hP, hR, hF⟩ := hh
  rcases gi_of v1 with q | ⟨p, hp, rfl⟩
  · exact br_t q (br_t q ⟨rfl, J⟩)
  · exact pk_lt p 0 (fun z => absurd z (by omega)) (fun _ => pk_lt p 256 (fun y => wx_sq hA hB y (pk_lt p 0 (fun z => absurd z (by omega)) (fun _ => pk_le p 255 (fun _ => ⟨_, wy_sql hA hB hr y ⟨rfl, J⟩ (gr_i A B 7 p) 0 (Nat.zero_add _)⟩) (fun z => absurd z (by omega))))) (fun y => pk_lt p 0 (fun z => absurd z (by omega)) (fun _ => pk_le p 255 (fun z => absurd z (by omega)) (fun _ => ⟨rfl, J⟩))))
theorem i_vc_syndrome {k : Nat} {u : SX} {v : SY} (I : i_Rel k u v) (hk : k + 3 ≤ 1538) (v1 : Int32) : wpX_syndrome (fun r => wpY_syndrome (fun r' => r' = r ∧ i_Rel (k + 3) u v) v v1) u v1 := by
  have J := i_up I
  obtain ⟨A, B, s, r, c, f, E, m, e, w, de, fo, aP, aR, aC, aI, yr, yc, aK, aW, aN, aL, aD, rfl, rfl, hh⟩ := I
  obtain ⟨⟨hA, hB, hr, hs, H⟩, ⟨hm, he, hw⟩, hP, hR, hF⟩ := hh
  rcases gi_of v1 with q | ⟨p, hp, rfl⟩
  · exact br_t q (br_t q ⟨rfl, J⟩)
  · exact pk_lt p 0 (fun z => absurd z (by omega)) (fun _ => pk_le p 4095 (fun y => wx_syn p rfl (show p < 2 ^ 12 by omega) (fun j hj => (hP j hj).1) (wy_syn (show p < 2 ^ 12 by omega) (fun j hj => (hP j hj).2) ⟨rfl, J⟩)) (fun y => pk_lt p 0 (fun z => absurd z (by omega)) (fun _ => pk_le p 4095 (fun z => absurd z (by omega)) (fun _ => ⟨rfl, J⟩))))
theorem i_vc_checkRow {k : Nat} {u : SX} {v : SY} (I : i_Rel k u v) (hk : k + 3 ≤ 1538) (v1 : Int32) : wpX_checkRow (fun r => wpY_checkRow (fun r' => r' = r ∧ i_Rel (k + 3) u v) v v1) u v1 := by
  have J := i_up I
  obtain ⟨A, B, s, r, c, f, E, m, e, w, de, fo, aP, aR, aC, aI, yr, yc, aK, aW, aN, aL, aD, rfl, rfl, hh⟩ := I
  obtain ⟨⟨hA, hB, hr, hs, H⟩, ⟨hm, he, hw⟩, hP, hR, hF⟩ := hh
  rcases gi_of v1 with q | ⟨p, hp, rfl⟩
  · exact br_t q (br_t q ⟨rfl, J⟩)
  · have e8 : (12 : Int32) - nI 4 = nI 8 := by decide
    refine pk_lt p 0 (fun z => absurd z (by omega)) (fun _ => pk_lt p 8 (fun y => ⟨vp_in_nI y (by omega), pk_lt p 0 (fun z => absurd z (by omega)) (fun _ => pk_lt p 8 (fun _ => ⟨vp_in_nI (by omega) (by omega), ?_, J⟩) (fun z => absurd z (by omega)) rfl e8)⟩) (fun y => pk_lt p 0 (fun z => absurd z (by omega)) (fun _ => pk_lt p 8 (fun z => absurd z (by omega)) (fun _ => ⟨rfl, J⟩) rfl e8)))
    rw [nI_clamp (by omega), (hR p y).2.2, (hR p y).1]
theorem i_vc_infoPosition {k : Nat} {u : SX} {v : SY} (I : i_Rel k u v) (hk : k + 3 ≤ 1538) (v1 : Int32) : wpX_infoPosition (fun r => wpY_infoPosition (fun r' => r' = r ∧ i_Rel (k + 3) u v) v v1) u v1 := by
  have J := i_up I
  obtain ⟨A, B, s, r, c, f, E, m, e, w, de, fo, aP, aR, aC, aI, yr, yc, aK, aW, aN, aL, aD, rfl, rfl, hh⟩ := I
  obtain ⟨⟨hA, hB, hr, hs, H⟩, ⟨hm, he, hw⟩, hP, hR, hF⟩ := hh
  rcases gi_of v1 with q | ⟨p, hp, rfl⟩
  · exact br_t q (br_t q ⟨rfl, J⟩)
  · refine pk_lt p 0 (fun z => absurd z (by omega)) (fun _ => pk_lt p 4 (fun y => ⟨vp_in_nI (by omega) (by omega), pk_lt p 0 (fun z => absurd z (by omega)) (fun _ => pk_lt p 4 (fun _ => ⟨vp_in_nI (by omega) (by omega), ?_, J⟩) (fun z => absurd z (by omega)))⟩) (fun y => pk_lt p 0 (fun z => absurd z (by omega)) (fun _ => pk_lt p 4 (fun z => absurd z (by omega)) (fun _ => ⟨rfl, J⟩))))
    rw [nI_clamp (by omega), (hF p y).2, (hF p y).1]
theorem i_vc_setMessage {k : Nat} {u : SX} {v : SY} (I : i_Rel k u v) (hk : k + 3 ≤ 1538) (v1 : Int32) : wpX_setMessage (fun r u' => wpY_setMessage (fun r' v' => r' = r ∧ i_Rel (k + 3) u' v') v v1) u v1 := by
  have J := i_up I
  obtain ⟨A, B, s, r, c, f, E, m, e, w, de, fo, aP, aR, aC, aI, yr, yc, aK, aW, aN, aL, aD, rfl, rfl, hh⟩ := I
  have h0 := hh
  obtain ⟨⟨hA, hB, hr, hs, H⟩, ⟨hm, he, hw⟩, hP, hR, hF⟩ := hh
  rcases gi_of v1 with q | ⟨p, hp, rfl⟩
  · exact br_t q (br_t q ⟨rfl, J⟩)
  · have e16 : (1 : Int32) <<< (nI 4 &&& 31) = nI 16 := by decide
    exact pk_lt p 0 (fun z => absurd z (by omega)) (fun _ => pk_lt p 16 (fun y => pk_lt p 0 (fun z => absurd z (by omega)) (fun _ => pk_lt p 16 (fun _ => ⟨rfl, i_mk ⟨h0.1, ⟨y, h0.2.1.2⟩, h0.2.2⟩⟩) (fun z => absurd z (by omega)) rfl e16)) (fun y => pk_lt p 0 (fun z => absurd z (by omega)) (fun _ => pk_lt p 16 (fun z => absurd z (by omega)) (fun _ => ⟨rfl, J⟩) rfl e16)) rfl e16)
theorem i_vc_setErrors {k : Nat} {u : SX} {v : SY} (I : i_Rel k u v) (hk : k + 3 ≤ 1538) (v1 : Int32) : wpX_setErrors (fun r u' => wpY_setErrors (fun r' v' => r' = r ∧ i_Rel (k + 3) u' v') v v1) u v1 := by
  have J := i_up I
  obtain ⟨A, B, s, r, c, f, E, m, e, w, de, fo, aP, aR, aC, aI, yr, yc, aK, aW, aN, aL, aD, rfl, rfl, hh⟩ := I
  have h0 := hh
  obtain ⟨⟨hA, hB, hr, hs, H⟩, ⟨hm, he, hw⟩, hP, hR, hF⟩ := hh
  rcases gi_of v1 with q | ⟨p, hp, rfl⟩
  · exact br_t q (br_t q ⟨rfl, J⟩)
  · have hw12 := gs_wle p 12
    exact pk_lt p 0 (fun z => absurd z (by omega)) (fun _ => pk_lt 4095 p (fun y => pk_lt p 0 (fun z => absurd z (by omega)) (fun _ => pk_le p 4095 (fun z => absurd z (by omega)) (fun _ => ⟨rfl, J⟩))) (fun y => wx_wt p rfl hp (pk_le (gs_w 12 p) 2 (fun x => pk_lt p 0 (fun z => absurd z (by omega)) (fun _ => pk_le p 4095 (fun _ => wy_wt hp (pk_le (gs_w 12 p) 2 (fun _ => ⟨rfl, i_mk ⟨h0.1, ⟨h0.2.1.1, show p < 2 ^ 12 by omega, h0.2.1.2.2⟩, h0.2.2⟩⟩) (fun z => absurd z (by omega)))) (fun z => absurd z (by omega)))) (fun x => pk_lt p 0 (fun z => absurd z (by omega)) (fun _ => pk_le p 4095 (fun _ => wy_wt hp (pk_le (gs_w 12 p) 2 (fun z => absurd z (by omega)) (fun _ => ⟨rfl, J⟩))) (fun z => absurd z (by omega)))))))
theorem i_vc_encrypt {k : Nat} {u : SX} {v : SY} (I : i_Rel k u v) (hk : k + 3 ≤ 1538) : wpX_encrypt (fun r u' => wpY_encrypt (fun r' v' => r' = r ∧ i_Rel (k + 3) u' v') v) u := by
  have J := i_up I
  obtain ⟨A, B, s, r, c, f, E, m, e, w, de, fo, aP, aR, aC, aI, yr, yc, aK, aW, aN, aL, aD, rfl, rfl, hh⟩ := I
  have h0 := hh
  obtain ⟨⟨hA, hB, hr, hs, H⟩, ⟨hm, he, hw⟩, hP, hR, hF⟩ := hh
  have hG : gs_s E 4 m ^^^ e < 2 ^ 12 := Nat.xor_lt_two_pow (gk_Gl H m) he
  unfold wpX_encrypt
  dsimp only
  refine wx_cw (r := r) (c := c) (f := f) hm (fun i hi => ⟨(hR i hi).1, (hR i hi).2.1, (gk_2 H i hi).2.1⟩) (fun i hi => ⟨(hF i hi).1, (gk_3 H i hi).1⟩) (gk_iwl H m) (nm_r (show _ = nI (gs_s E 4 m ^^^ e) by rw [nx_xor, gk_cwe H]) ?_)
  exact wy_enc H hm (fun j hj => (hP j hj).2) (fun i hi => ⟨(hF i hi).2, (gk_3 H i hi).1⟩) ⟨rfl, i_mk ⟨h0.1, ⟨hm, he, hG⟩, h0.2.2⟩⟩
theorem i_vc_setReceived {k : Nat} {u : SX} {v : SY} (I : i_Rel k u v) (hk : k + 3 ≤ 1538) (v1 : Int32) : wpX_setReceived (fun r u' => wpY_setReceived (fun r' v' => r' = r ∧ i_Rel (k + 3) u' v') v v1) u v1 := by
  have J := i_up I
  obtain ⟨A, B, s, r, c, f, E, m, e, w, de, fo, aP, aR, aC, aI, yr, yc, aK, aW, aN, aL, aD, rfl, rfl, hh⟩ := I
  have h0 := hh
  obtain ⟨⟨hA, hB, hr, hs, H⟩, ⟨hm, he, hw⟩, hP, hR, hF⟩ := hh
  rcases gi_of v1 with q | ⟨p, hp, rfl⟩
  · exact br_t q (br_t q ⟨rfl, J⟩)
  · exact pk_lt p 0 (fun z => absurd z (by omega)) (fun _ => pk_le p 4095 (fun y => pk_lt p 0 (fun z => absurd z (by omega)) (fun _ => pk_le p 4095 (fun _ => ⟨rfl, i_mk ⟨h0.1, ⟨h0.2.1.1, h0.2.1.2.1, show p < 2 ^ 12 by omega⟩, h0.2.2⟩⟩) (fun z => absurd z (by omega)))) (fun y => pk_lt p 0 (fun z => absurd z (by omega)) (fun _ => pk_le p 4095 (fun z => absurd z (by omega)) (fun _ => ⟨rfl, J⟩))))
theorem i_vc_decrypt {k : Nat} {u : SX} {v : SY} (I : i_Rel k u v) (hk : k + 3 ≤ 1538) : wpX_decrypt (fun r u' => wpY_decrypt (fun r' v' => r' = r ∧ i_Rel (k + 3) u' v') v) u := by
  have J := i_up I
  obtain ⟨A, B, s, r, c, f, E, m, e, w, de, fo, aP, aR, aC, aI, yr, yc, aK, aW, aN, aL, aD, rfl, rfl, hh⟩ := I
  have h0 := hh
  obtain ⟨⟨hA, hB, hr, hs, H⟩, ⟨hm, he, hw⟩, hP, hR, hF⟩ := hh
  have hT : gs_s (gg_col A B s) 12 w < 2 ^ 8 := gs_lt 12 (gk_11 H)
  have hX : ∀ j, j < 12 → aP j = nI (gg_col A B s j) ∧ gg_col A B s j < 2 ^ 8 := fun j hj => ⟨(hP j hj).1, gk_11 H j hj⟩
  have hY : ∀ j, j < 12 → aK j = nI (gg_col A B s j) ∧ gg_col A B s j < 2 ^ 8 := fun j hj => ⟨(hP j hj).2, gk_11 H j hj⟩
  have fX : ∀ i, i < 4 → aI i = nI (f i) ∧ f i < 12 := fun i hi => ⟨(hF i hi).1, (gk_3 H i hi).1⟩
  have fY : ∀ i, i < 4 → aN i = nI (f i) ∧ f i < 12 := fun i hi => ⟨(hF i hi).2, (gk_3 H i hi).1⟩
  unfold wpX_decrypt
  dsimp only
  refine wx_syn w rfl hw (fun j hj => (hP j hj).1) (wx_er hT hX (fun x hx hx2 hxs => ?_) (fun hno => ?_))
  · have hne : ¬ nI x = -1 := by
      intro z
      have y : ¬ nI x < 0 := nI_pos (by omega)
      rw [z] at y
      exact y (by decide)
    refine br_f hne (wx_mi (f := f) (w ^^^ x) (nx_xor _ _) (Nat.xor_lt_two_pow hw hx) fX (wx_wt x rfl (by omega) ?_))
    refine wy_dec hw rfl hY fY (fun y hy hy2 hys => ?_) (fun hno => absurd hxs (hno x hx hx2))
    have : y = x := gk_dist H hy hx hy2 hx2 (hys.trans hxs.symm)
    subst this
    exact ⟨rfl, i_mk h0⟩
  · refine br_t rfl ?_
    exact wy_dec hw rfl hY fY (fun y hy hy2 hys => absurd hys (hno y hy hy2)) (fun _ => ⟨rfl, i_mk h0⟩)
