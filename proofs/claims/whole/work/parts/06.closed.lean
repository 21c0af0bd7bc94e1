/-! the closed check, a theorem for each linear term -/
theorem gg_t0 : gg_cA 0 = true := by decide +kernel
theorem gg_t1 : gg_cA 1 = true := by decide +kernel
theorem gg_t2 : gg_cA 2 = true := by decide +kernel
theorem gg_t3 : gg_cA 3 = true := by decide +kernel
theorem gg_t4 : gg_cA 4 = true := by decide +kernel
theorem gg_t5 : gg_cA 5 = true := by decide +kernel
theorem gg_t6 : gg_cA 6 = true := by decide +kernel
theorem gg_t7 : gg_cA 7 = true := by decide +kernel
theorem gg_t8 : gg_cA 8 = true := by decide +kernel
theorem gg_t9 : gg_cA 9 = true := by decide +kernel
theorem gg_t10 : gg_cA 10 = true := by decide +kernel
theorem gg_t11 : gg_cA 11 = true := by decide +kernel
theorem gg_t12 : gg_cA 12 = true := by decide +kernel
theorem gg_t13 : gg_cA 13 = true := by decide +kernel
theorem gg_t14 : gg_cA 14 = true := by decide +kernel
theorem gg_t15 : gg_cA 15 = true := by decide +kernel
theorem gg_tA : ∀ A, A < 16 → gg_cA A = true
  | 0, _ => gg_t0
  | 1, _ => gg_t1
  | 2, _ => gg_t2
  | 3, _ => gg_t3
  | 4, _ => gg_t4
  | 5, _ => gg_t5
  | 6, _ => gg_t6
  | 7, _ => gg_t7
  | 8, _ => gg_t8
  | 9, _ => gg_t9
  | 10, _ => gg_t10
  | 11, _ => gg_t11
  | 12, _ => gg_t12
  | 13, _ => gg_t13
  | 14, _ => gg_t14
  | 15, _ => gg_t15
  | n + 16, h => absurd h (by omega)
theorem gg_ok {A B s : Nat} (hA : A < 16) (hB : B < 16) (hr : gr_rt A B = false) (hs : s < 16) : ∃ r c f E, gg_a (gg_col A B s) 12 = (r, c, f, 8, 4) ∧ gk_ok (gg_col A B s) r c f E := by
  have h := gc_al_i (gg_tA A hA) B hB
  rw [hr, Bool.false_or, gg_cse] at h
  have h2 := gc_al_i h s hs
  have e : (fun j => gg_s16 (gr_v A B 16 7) (gr_v A B 17 7) (gr_v A B 18 7) (gr_v A B 19 7) (gr_v A B 20 7) (gr_v A B 21 7) (gr_v A B 22 7) (gr_v A B 23 7) (gr_v A B 24 7) (gr_v A B 25 7) (gr_v A B 26 7) (gr_v A B 27 7) (gr_v A B 28 7) (gr_v A B 29 7) (gr_v A B 30 7) (gr_v A B 31 7) ((s + j) % 16)) = gg_col A B s := by
    funext j
    exact gg_s16e A B _ (Nat.mod_lt _ (by decide))
  rw [e] at h2
  exact gg_cke h2 (fun j _ => gr_vlt _ _ _ _)
