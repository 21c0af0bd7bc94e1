/-! the methods that only answer a field -/
theorem i_vc_goppaPoly {k : Nat} {u : SX} {v : SY} (I : i_Rel k u v) (hk : k + 3 ≤ 1538) : wpX_goppaPoly (fun r => wpY_goppaPoly (fun r' => r' = r ∧ i_Rel (k + 3) u v) v) u := by
  have J := i_up I
  obtain ⟨A, B, s, r, c, f, E, m, e, w, de, fo, aP, aR, aC, aI, yr, yc, aK, aW, aN, aL, aD, rfl, rfl, hh⟩ := I
  obtain ⟨⟨hA, hB, hr, hs, H⟩, ⟨hm, he, hw⟩, hP, hR, hF⟩ := hh
  exact ⟨rfl, J⟩
theorem i_vc_dimension {k : Nat} {u : SX} {v : SY} (I : i_Rel k u v) (hk : k + 3 ≤ 1538) : wpX_dimension (fun r => wpY_dimension (fun r' => r' = r ∧ i_Rel (k + 3) u v) v) u := by
  have J := i_up I
  obtain ⟨A, B, s, r, c, f, E, m, e, w, de, fo, aP, aR, aC, aI, yr, yc, aK, aW, aN, aL, aD, rfl, rfl, hh⟩ := I
  obtain ⟨⟨hA, hB, hr, hs, H⟩, ⟨hm, he, hw⟩, hP, hR, hF⟩ := hh
  exact ⟨rfl, J⟩
theorem i_vc_decodedMessage {k : Nat} {u : SX} {v : SY} (I : i_Rel k u v) (hk : k + 3 ≤ 1538) : wpX_decodedMessage (fun r => wpY_decodedMessage (fun r' => r' = r ∧ i_Rel (k + 3) u v) v) u := by
  have J := i_up I
  obtain ⟨A, B, s, r, c, f, E, m, e, w, de, fo, aP, aR, aC, aI, yr, yc, aK, aW, aN, aL, aD, rfl, rfl, hh⟩ := I
  obtain ⟨⟨hA, hB, hr, hs, H⟩, ⟨hm, he, hw⟩, hP, hR, hF⟩ := hh
  exact ⟨rfl, J⟩
theorem i_vc_foundErrors {k : Nat} {u : SX} {v : SY} (I : i_Rel k u v) (hk : k + 3 ≤ 1538) : wpX_foundErrors (fun r => wpY_foundErrors (fun r' => r' = r ∧ i_Rel (k + 3) u v) v) u := by
  have J := i_up I
  obtain ⟨A, B, s, r, c, f, E, m, e, w, de, fo, aP, aR, aC, aI, yr, yc, aK, aW, aN, aL, aD, rfl, rfl, hh⟩ := I
  obtain ⟨⟨hA, hB, hr, hs, H⟩, ⟨hm, he, hw⟩, hP, hR, hF⟩ := hh
  exact ⟨rfl, J⟩
