/-! carrying all -/
theorem c_ps15 {i j : Nat} (hi : i < 2) (hj : j < 7) : c_ps 15 i j = 5 + 2 * j + i := by
  unfold c_ps; rw [if_neg (by omega), if_pos ⟨rfl, hi, hj⟩]
theorem c_ps16 {i j : Nat} (hi : i < 6) (hj : j < 6) : c_ps 16 i j = 19 + 6 * j + i := by
  unfold c_ps; rw [if_neg (by omega), if_neg (by omega), if_pos ⟨rfl, hi, hj⟩]
theorem h_l123T {t : Nat} (ht : t < 2) {M : gk_M} : ∀ (d fuel m : Nat), m + d = 6 → d < fuel → X12_carryAll_l123 fuel (nI m) (c_T t (19 + 6 * m) M) = some ((), c_T t 55 M) := by
  intro d
  induction d with
  | zero =>
    intro fuel m hm hf
    obtain ⟨n, rfl⟩ : ∃ n, fuel = n + 1 := ⟨fuel - 1, by omega⟩
    obtain rfl : m = 6 := by omega
    simp only [X12_carryAll_l123, if_pos (show (6 : Int32) ≤ nI 6 by decide)]
  | succ d ih =>
    intro fuel m hm hf
    obtain ⟨n, rfl⟩ : ∃ n, fuel = n + 1 := ⟨fuel - 1, by omega⟩
    have h6 : m < 6 := by omega
    simp only [X12_carryAll_l123, if_neg (show ¬ (6 : Int32) ≤ nI m from nI_ge (b := 6) h6 (by omega)), q_gd (q_in h6 (by decide)), q_cl (show m < 2 ^ 31 by omega), nI_1]
    rw [h_carT ht (p := 19 + 6 * m) (by omega) (c_ps16 (i := 0) (by omega) h6)]
    rw [h_carT ht (p := 19 + 6 * m + 1) (by omega) (c_ps16 (i := 1) (by omega) h6)]
    rw [h_carT ht (p := 19 + 6 * m + 1 + 1) (by omega) (c_ps16 (i := 2) (by omega) h6)]
    rw [h_carT ht (p := 19 + 6 * m + 1 + 1 + 1) (by omega) (c_ps16 (i := 3) (by omega) h6)]
    rw [h_carT ht (p := 19 + 6 * m + 1 + 1 + 1 + 1) (by omega) (c_ps16 (i := 4) (by omega) h6)]
    rw [h_carT ht (p := 19 + 6 * m + 1 + 1 + 1 + 1 + 1) (by omega) (c_ps16 (i := 5) (by omega) h6)]
    rw [show 19 + 6 * m + 1 + 1 + 1 + 1 + 1 + 1 = 19 + 6 * (m + 1) by omega]
    exact ih n (m + 1) (by omega) (by omega)
theorem h_l77T {t : Nat} (ht : t < 2) {M : gk_M} : ∀ (d fuel m : Nat), m + d = 7 → d < fuel → X12_carryAll_l77 fuel (nI m) (c_T t (5 + 2 * m) M) = some ((), c_T t 55 M) := by
  intro d
  induction d with
  | zero =>
    intro fuel m hm hf
    obtain ⟨n, rfl⟩ : ∃ n, fuel = n + 1 := ⟨fuel - 1, by omega⟩
    obtain rfl : m = 7 := by omega
    simp only [X12_carryAll_l77, if_pos (show (7 : Int32) ≤ nI 7 by decide)]
    exact h_l123T ht 6 200 0 (by omega) (by omega)
  | succ d ih =>
    intro fuel m hm hf
    obtain ⟨n, rfl⟩ : ∃ n, fuel = n + 1 := ⟨fuel - 1, by omega⟩
    have h6 : m < 7 := by omega
    simp only [X12_carryAll_l77, if_neg (show ¬ (7 : Int32) ≤ nI m from nI_ge (b := 7) h6 (by omega)), q_gd (q_in h6 (by decide)), q_cl (show m < 2 ^ 31 by omega), nI_1]
    rw [h_carT ht (p := 5 + 2 * m) (by omega) (c_ps15 (i := 0) (by omega) h6)]
    rw [h_carT ht (p := 5 + 2 * m + 1) (by omega) (c_ps15 (i := 1) (by omega) h6)]
    rw [show 5 + 2 * m + 1 + 1 = 5 + 2 * (m + 1) by omega]
    exact ih n (m + 1) (by omega) (by omega)
theorem h_l123F {t : Nat} (ht : t < 2) {M : gk_M} : ∀ (d fuel m : Nat), m + d = 6 → d < fuel → X12_carryAll_l123 fuel (nI m) (c_F t (19 + 6 * m) M) = some ((), c_F t 55 M) := by
  intro d
  induction d with
  | zero =>
    intro fuel m hm hf
    obtain ⟨n, rfl⟩ : ∃ n, fuel = n + 1 := ⟨fuel - 1, by omega⟩
    obtain rfl : m = 6 := by omega
    simp only [X12_carryAll_l123, if_pos (show (6 : Int32) ≤ nI 6 by decide)]
  | succ d ih =>
    intro fuel m hm hf
    obtain ⟨n, rfl⟩ : ∃ n, fuel = n + 1 := ⟨fuel - 1, by omega⟩
    have h6 : m < 6 := by omega
    simp only [X12_carryAll_l123, if_neg (show ¬ (6 : Int32) ≤ nI m from nI_ge (b := 6) h6 (by omega)), q_gd (q_in h6 (by decide)), q_cl (show m < 2 ^ 31 by omega), nI_1]
    rw [h_carF ht (p := 19 + 6 * m) (by omega) (c_ps16 (i := 0) (by omega) h6)]
    rw [h_carF ht (p := 19 + 6 * m + 1) (by omega) (c_ps16 (i := 1) (by omega) h6)]
    rw [h_carF ht (p := 19 + 6 * m + 1 + 1) (by omega) (c_ps16 (i := 2) (by omega) h6)]
    rw [h_carF ht (p := 19 + 6 * m + 1 + 1 + 1) (by omega) (c_ps16 (i := 3) (by omega) h6)]
    rw [h_carF ht (p := 19 + 6 * m + 1 + 1 + 1 + 1) (by omega) (c_ps16 (i := 4) (by omega) h6)]
    rw [h_carF ht (p := 19 + 6 * m + 1 + 1 + 1 + 1 + 1) (by omega) (c_ps16 (i := 5) (by omega) h6)]
    rw [show 19 + 6 * m + 1 + 1 + 1 + 1 + 1 + 1 = 19 + 6 * (m + 1) by omega]
    exact ih n (m + 1) (by omega) (by omega)
theorem h_l77F {t : Nat} (ht : t < 2) {M : gk_M} : ∀ (d fuel m : Nat), m + d = 7 → d < fuel → X12_carryAll_l77 fuel (nI m) (c_F t (5 + 2 * m) M) = some ((), c_F t 55 M) := by
  intro d
  induction d with
  | zero =>
    intro fuel m hm hf
    obtain ⟨n, rfl⟩ : ∃ n, fuel = n + 1 := ⟨fuel - 1, by omega⟩
    obtain rfl : m = 7 := by omega
    simp only [X12_carryAll_l77, if_pos (show (7 : Int32) ≤ nI 7 by decide)]
    exact h_l123F ht 6 200 0 (by omega) (by omega)
  | succ d ih =>
    intro fuel m hm hf
    obtain ⟨n, rfl⟩ : ∃ n, fuel = n + 1 := ⟨fuel - 1, by omega⟩
    have h6 : m < 7 := by omega
    simp only [X12_carryAll_l77, if_neg (show ¬ (7 : Int32) ≤ nI m from nI_ge (b := 7) h6 (by omega)), q_gd (q_in h6 (by decide)), q_cl (show m < 2 ^ 31 by omega), nI_1]
    rw [h_carF ht (p := 5 + 2 * m) (by omega) (c_ps15 (i := 0) (by omega) h6)]
    rw [h_carF ht (p := 5 + 2 * m + 1) (by omega) (c_ps15 (i := 1) (by omega) h6)]
    rw [show 5 + 2 * m + 1 + 1 = 5 + 2 * (m + 1) by omega]
    exact ih n (m + 1) (by omega) (by omega)
theorem c_T0 {t : Nat} {M : gk_M} : gk_up (gk_up (gk_up M 14 0 22 (nI (t + 1))) 14 0 21 1) 14 0 20 0 = c_T t 0 M := by
  funext c i j
  unfold c_T
  rw [if_neg (by omega)]
  by_cases h1 : c = 14 ∧ i = 0 ∧ j = 20
  · rw [if_pos h1]; obtain ⟨rfl, rfl, rfl⟩ := h1; rw [u_s]; rfl
  · rw [if_neg h1, u_n h1]
    by_cases h2 : c = 14 ∧ i = 0 ∧ j = 21
    · rw [if_pos h2]; obtain ⟨rfl, rfl, rfl⟩ := h2; rw [u_s]
    · rw [if_neg h2, u_n h2]
      by_cases h3 : c = 14 ∧ i = 0 ∧ j = 22
      · rw [if_pos h3]; obtain ⟨rfl, rfl, rfl⟩ := h3; rw [u_s]
      · rw [if_neg h3, u_n h3]
theorem c_F0 {t : Nat} {M : gk_M} : gk_up (gk_up (gk_up M 14 0 22 (nI (t + 1))) 14 0 21 0) 14 0 20 0 = c_F t 0 M := by
  funext c i j
  unfold c_F
  rw [if_neg (by omega)]
  by_cases h1 : c = 14 ∧ i = 0 ∧ j = 20
  · rw [if_pos h1]; obtain ⟨rfl, rfl, rfl⟩ := h1; rw [u_s]; rfl
  · rw [if_neg h1, u_n h1]
    by_cases h2 : c = 14 ∧ i = 0 ∧ j = 21
    · rw [if_pos h2]; obtain ⟨rfl, rfl, rfl⟩ := h2; rw [u_s]
    · rw [if_neg h2, u_n h2]
      by_cases h3 : c = 14 ∧ i = 0 ∧ j = 22
      · rw [if_pos h3]; obtain ⟨rfl, rfl, rfl⟩ := h3; rw [u_s]
      · rw [if_neg h3, u_n h3]
theorem h_carryT {t : Nat} (ht : t < 2) (M : gk_M) : f_X12_carryAll t 1 M = some ((), c_T t 55 M) := by
  have c5 : ∀ p, p < 5 → c_ps 14 0 p = p := fun p hp => by unfold c_ps; rw [if_pos ⟨rfl, rfl, hp⟩]
  rw [f_X12_carryAll, q_gd (q_lt ht), q_wr, q_gd q_b1, q_wr, q_wr, c_T0]
  rw [h_carT ht (p := 0) (by decide) (c5 0 (by decide)), h_carT ht (p := 0 + 1) (by decide) (c5 1 (by decide)), h_carT ht (p := 0 + 1 + 1) (by decide) (c5 2 (by decide)), h_carT ht (p := 0 + 1 + 1 + 1) (by decide) (c5 3 (by decide)), h_carT ht (p := 0 + 1 + 1 + 1 + 1) (by decide) (c5 4 (by decide))]
  exact h_l77T ht 7 200 0 (by omega) (by omega)
theorem h_carryF {t : Nat} (ht : t < 2) (M : gk_M) : f_X12_carryAll t 0 M = some ((), c_F t 55 M) := by
  have c5 : ∀ p, p < 5 → c_ps 14 0 p = p := fun p hp => by unfold c_ps; rw [if_pos ⟨rfl, rfl, hp⟩]
  rw [f_X12_carryAll, q_gd (q_lt ht), q_wr, q_gd q_b0, q_wr, q_wr, c_F0]
  rw [h_carF ht (p := 0) (by decide) (c5 0 (by decide)), h_carF ht (p := 0 + 1) (by decide) (c5 1 (by decide)), h_carF ht (p := 0 + 1 + 1) (by decide) (c5 2 (by decide)), h_carF ht (p := 0 + 1 + 1 + 1) (by decide) (c5 3 (by decide)), h_carF ht (p := 0 + 1 + 1 + 1 + 1) (by decide) (c5 4 (by decide))]
  exact h_l77F ht 7 200 0 (by omega) (by omega)
theorem h_open (M : gk_M) : f_X12_open0 M = some ((), c_T 0 55 M) := by rw [f_X12_open0, h_carryT (by decide), q_bnd]
theorem h_close (M : gk_M) : f_X12_close M = some ((), c_F 0 55 M) := by rw [f_X12_close, h_carryF (by decide), q_bnd]
theorem c_TK (M : gk_M) : r_RK M (c_T 0 55 M) := by
  intro c i j h
  unfold c_T
  unfold r_sc at h
  rw [if_neg (by omega), if_neg (by omega), if_neg (by omega), if_neg (by omega)]
theorem c_FK {M M2 : gk_M} (h : r_RC (c_T 0 55 M) M2) : r_RK M (c_F 0 55 M2) := by
  intro c i j hs
  unfold c_F
  by_cases h1 : c_ps c i j < 55
  · rw [if_pos h1, h 18 0 _ (by unfold r_st; omega)]
    unfold c_T
    rw [if_pos ⟨rfl, rfl, h1⟩]
    exact c_clps h1
  · rw [if_neg h1]
    have hn : ¬ r_st c i j := by
      unfold r_st
      unfold r_sc at hs
      unfold c_ps at h1
      intro z
      rcases z with z | z | z
      · rw [if_pos (by omega)] at h1; omega
      · rw [if_neg (by omega), if_pos z] at h1; omega
      · rw [if_neg (by omega), if_neg (by omega), if_pos z] at h1; omega
    unfold r_sc at hs
    rw [if_neg (by omega), if_neg (by omega), if_neg (by omega), h c i j hn]
    exact c_TK M c i j (by unfold r_sc; exact hs)
theorem r_RK.st {M M' : gk_M} {N : Nat} (h : r_RK M M') (hc : M 14 0 0 = nI N) (hN : N ≤ 6) : a_r M' = a_r M :=
  a_r_ext hc hN (fun j hj => h 14 0 j (by unfold r_sc; omega)) (fun i j hj => h 15 i j (by unfold r_sc; omega)) (fun j s hj hs => h 16 j s (by unfold r_sc; omega))
theorem r_RK.RC {M M' : gk_M} (h : r_RK M M') (h18 : ∀ j, M' 18 0 j = M 18 0 j) : r_RC M M' := by
  intro c i j hn
  by_cases hs : r_sc c i j
  · unfold r_sc at hs
    unfold r_st at hn
    rcases hs with hs | ⟨rfl, rfl⟩
    · exact absurd (Or.inl (by omega)) hn
    · exact h18 j
  · exact h c i j hs
