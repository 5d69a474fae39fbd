/-! THE LAW'S LOOP -/
theorem lg_self (x : Int64) : lg_cmp x x = 0 := by
  unfold lg_cmp
  have h : ¬ x > x := by
    show ¬ x < x
    rw [Int64.lt_iff_toInt_lt]; omega
  rw [if_neg h, if_pos rfl]
theorem l_loop {Ls : Nat} {xs : Nat → Int32} (hL : Ls ≤ 4000) : ∀ (d i : Nat) (M : gk_M), i_ok M → Ls ≤ i + 6 * d → i ≤ Ls + 6 → ∃ M', L_law_l18 Ls xs (d + 1) (nI i) M = some (1, M') := by
  intro d
  have e6 : (6 : Int32).toInt = 6 := rfl
  have eL : (Int32.ofNat Ls - 6).toInt = (Ls : Int) - 6 := by
    show (nI Ls - 6).toInt = _
    rw [z_sub (by rw [z_n (by omega), e6]; omega) (by rw [z_n (by omega), e6]; omega), z_n (by omega), e6]
  have stop : ∀ (f i : Nat) (M : gk_M), i ≤ Ls + 6 → Ls < i + 6 → ∃ M', L_law_l18 Ls xs (f + 1) (nI i) M = some (1, M') := fun f i M hi hs => by
    have c : Int32.ofNat Ls - 6 < nI i := by rw [z_lt, eL, z_n (by omega)]; omega
    refine ⟨M, ?_⟩
    rw [L_law_l18]
    dsimp only
    rw [if_pos c, q_gd q_b1]
  induction d with
  | zero =>
    intro i M h hi hb
    exact stop 0 i M hb (by omega)
  | succ d ih =>
    intro i M h hi hb
    by_cases s : Ls < i + 6
    · exact stop (d + 1) i M hb s
    · have c : ¬ Int32.ofNat Ls - 6 < nI i := by rw [z_lt, eL, z_n (by omega)]; omega
      have g : ∀ j, j < 6 → gk_in (nI (i + j)) Ls = true := fun j hj => q_in (by omega) (by omega)
      have cl : ∀ j, j < 6 → (nI (i + j)).toNatClampNeg = i + j := fun j hj => q_cl (by omega)
      have g0 : gk_in (nI i) Ls = true := g 0 (by decide)
      have cl0 : (nI i).toNatClampNeg = i := cl 0 (by decide)
      have a1 : nI i + 1 = nI (i + 1) := nI_1 i
      have a2 : nI i + 2 = nI (i + 2) := nI_add i 2
      have a3 : nI i + 3 = nI (i + 3) := nI_add i 3
      have a4 : nI i + 4 = nI (i + 4) := nI_add i 4
      have a5 : nI i + 5 = nI (i + 5) := nI_add i 5
      have a6 : nI i + 6 = nI (i + 6) := nI_add i 6
      have go : ∀ M2, i_ok M2 → ∃ M', L_law_j1069 Ls xs (L_law_l18 Ls xs (d + 1)) (nI i) M2 = some (1, M') := fun M2 h2 => by
        rw [L_law_j1069, a6]
        exact ih (i + 6) M2 h2 (by omega) (by omega)
      rw [L_law_l18]
      dsimp only
      rw [if_neg c, q_gd g0, cl0]
      by_cases q0 : xs i &&& 31 = 0
      · obtain ⟨r, M1, M2, e1, e2, e3⟩ := w_feed (xs (i + 1)) h
        rw [if_pos q0, a1, q_gd (g 1 (by decide)), cl 1 (by decide), e1, q_bnd, q_gd (g 1 (by decide)), e2, q_bnd, if_pos rfl]
        exact go M2 e3
      rw [if_neg q0]
      by_cases q1 : xs i &&& 31 = 1
      · obtain ⟨r, M1, M2, e1, e2, e3⟩ := w_pack  h
        rw [if_pos q1, e1, q_bnd, e2, q_bnd, if_pos rfl]
        exact go M2 e3
      rw [if_neg q1]
      by_cases q2 : xs i &&& 31 = 2
      · obtain ⟨r, M1, M2, e1, e2, e3⟩ := w_ship (xs (i + 1)) (xs (i + 2)) h
        rw [if_pos q2, a1, a2, q_gd (g 1 (by decide)), q_gd (g 2 (by decide)), cl 1 (by decide), cl 2 (by decide), e1, q_bnd, q_gd (g 1 (by decide)), q_gd (g 2 (by decide)), e2, q_bnd, if_pos rfl]
        exact go M2 e3
      rw [if_neg q2]
      by_cases q3 : xs i &&& 31 = 3
      · obtain ⟨r, M1, M2, e1, e2, e3⟩ := w_wind (xs (i + 1)) h
        rw [if_pos q3, a1, q_gd (g 1 (by decide)), cl 1 (by decide), e1, q_bnd, q_gd (g 1 (by decide)), e2, q_bnd, if_pos rfl]
        exact go M2 e3
      rw [if_neg q3]
      by_cases q4 : xs i &&& 31 = 4
      · obtain ⟨r, M1, M2, e1, e2, e3⟩ := w_blow (xs (i + 1)) (xs (i + 2)) (xs (i + 3)) h
        rw [if_pos q4, a1, a2, a3, q_gd (g 1 (by decide)), q_gd (g 2 (by decide)), q_gd (g 3 (by decide)), cl 1 (by decide), cl 2 (by decide), cl 3 (by decide), e1, q_bnd, q_gd (g 1 (by decide)), q_gd (g 2 (by decide)), q_gd (g 3 (by decide)), e2, q_bnd, if_pos rfl]
        exact go M2 e3
      rw [if_neg q4]
      by_cases q5 : xs i &&& 31 = 5
      · obtain ⟨r, M1, M2, e1, e2, e3⟩ := w_set (xs (i + 1)) (xs (i + 2)) h
        rw [if_pos q5, a1, a2, q_gd (g 1 (by decide)), q_gd (g 2 (by decide)), cl 1 (by decide), cl 2 (by decide), e1, q_bnd, q_gd (g 1 (by decide)), q_gd (g 2 (by decide)), e2, q_bnd, if_pos rfl]
        exact go M2 e3
      rw [if_neg q5]
      by_cases q6 : xs i &&& 31 = 6
      · obtain ⟨r, M1, M2, e1, e2, e3⟩ := w_go (xs (i + 1)) h
        rw [if_pos q6, a1, q_gd (g 1 (by decide)), cl 1 (by decide), e1, q_bnd, q_gd (g 1 (by decide)), e2, q_bnd, if_pos rfl]
        exact go M2 e3
      rw [if_neg q6]
      by_cases q7 : xs i &&& 31 = 7
      · obtain ⟨r, M1, M2, e1, e2, e3⟩ := w_far (xs (i + 1)) (xs (i + 2)) h
        rw [if_pos q7, a1, a2, q_gd (g 1 (by decide)), q_gd (g 2 (by decide)), cl 1 (by decide), cl 2 (by decide), e1, q_bnd, q_gd (g 1 (by decide)), q_gd (g 2 (by decide)), e2, q_bnd, if_pos rfl]
        exact go M2 e3
      rw [if_neg q7]
      by_cases q8 : xs i &&& 31 = 8
      · obtain ⟨r, M1, M2, e1, e2, e3⟩ := w_open (xs (i + 1)) (xs (i + 2)) (xs (i + 3)) h
        rw [if_pos q8, a1, a2, a3, q_gd (g 1 (by decide)), q_gd (g 2 (by decide)), q_gd (g 3 (by decide)), cl 1 (by decide), cl 2 (by decide), cl 3 (by decide), e1, q_bnd, q_gd (g 1 (by decide)), q_gd (g 2 (by decide)), q_gd (g 3 (by decide)), e2, q_bnd, if_pos rfl]
        exact go M2 e3
      rw [if_neg q8]
      by_cases q9 : xs i &&& 31 = 9
      · obtain ⟨r, M1, M2, e1, e2, e3⟩ := w_behind (xs (i + 1)) (xs (i + 2)) h
        rw [if_pos q9, a1, a2, q_gd (g 1 (by decide)), q_gd (g 2 (by decide)), cl 1 (by decide), cl 2 (by decide), e1, q_bnd, q_gd (g 1 (by decide)), q_gd (g 2 (by decide)), e2, q_bnd, if_pos (lg_self _)]
        exact go M2 e3
      rw [if_neg q9]
      by_cases q10 : xs i &&& 31 = 10
      · obtain ⟨r, M1, M2, e1, e2, e3⟩ := w_meet (xs (i + 1)) (xs (i + 2)) h
        rw [if_pos q10, a1, a2, q_gd (g 1 (by decide)), q_gd (g 2 (by decide)), cl 1 (by decide), cl 2 (by decide), e1, q_bnd, q_gd (g 1 (by decide)), q_gd (g 2 (by decide)), e2, q_bnd, if_pos rfl]
        exact go M2 e3
      rw [if_neg q10]
      by_cases q11 : xs i &&& 31 = 11
      · obtain ⟨r, M1, M2, e1, e2, e3⟩ := w_nearest (xs (i + 1)) (xs (i + 2)) (xs (i + 3)) (xs (i + 4)) h
        rw [if_pos q11, a1, a2, a3, a4, q_gd (g 1 (by decide)), q_gd (g 2 (by decide)), q_gd (g 3 (by decide)), q_gd (g 4 (by decide)), cl 1 (by decide), cl 2 (by decide), cl 3 (by decide), cl 4 (by decide), e1, q_bnd, q_gd (g 1 (by decide)), q_gd (g 2 (by decide)), q_gd (g 3 (by decide)), q_gd (g 4 (by decide)), e2, q_bnd, if_pos rfl]
        exact go M2 e3
      rw [if_neg q11]
      by_cases q12 : xs i &&& 31 = 12
      · obtain ⟨r, M1, M2, e1, e2, e3⟩ := w_there (xs (i + 1)) (xs (i + 2)) h
        rw [if_pos q12, a1, a2, q_gd (g 1 (by decide)), q_gd (g 2 (by decide)), cl 1 (by decide), cl 2 (by decide), e1, q_bnd, q_gd (g 1 (by decide)), q_gd (g 2 (by decide)), e2, q_bnd, if_pos rfl]
        exact go M2 e3
      rw [if_neg q12]
      by_cases q13 : xs i &&& 31 = 13
      · obtain ⟨r, M1, M2, e1, e2, e3⟩ := w_back (xs (i + 1)) (xs (i + 2)) h
        rw [if_pos q13, a1, a2, q_gd (g 1 (by decide)), q_gd (g 2 (by decide)), cl 1 (by decide), cl 2 (by decide), e1, q_bnd, q_gd (g 1 (by decide)), q_gd (g 2 (by decide)), e2, q_bnd, if_pos rfl]
        exact go M2 e3
      rw [if_neg q13]
      by_cases q14 : xs i &&& 31 = 14
      · obtain ⟨r, M1, M2, e1, e2, e3⟩ := w_news (xs (i + 1)) h
        rw [if_pos q14, a1, q_gd (g 1 (by decide)), cl 1 (by decide), e1, q_bnd, q_gd (g 1 (by decide)), e2, q_bnd, if_pos rfl]
        exact go M2 e3
      rw [if_neg q14]
      by_cases q15 : xs i &&& 31 = 15
      · obtain ⟨r, M1, M2, e1, e2, e3⟩ := w_know (xs (i + 1)) (xs (i + 2)) h
        rw [if_pos q15, a1, a2, q_gd (g 1 (by decide)), q_gd (g 2 (by decide)), cl 1 (by decide), cl 2 (by decide), e1, q_bnd, q_gd (g 1 (by decide)), q_gd (g 2 (by decide)), e2, q_bnd, if_pos rfl]
        exact go M2 e3
      rw [if_neg q15]
      by_cases q16 : xs i &&& 31 = 16
      · obtain ⟨r, M1, M2, e1, e2, e3⟩ := w_lost  h
        rw [if_pos q16, e1, q_bnd, e2, q_bnd, if_pos rfl]
        exact go M2 e3
      rw [if_neg q16]
      by_cases q17 : xs i &&& 31 = 17
      · obtain ⟨r, M1, M2, e1, e2, e3⟩ := w_groups  h
        rw [if_pos q17, e1, q_bnd, e2, q_bnd, if_pos rfl]
        exact go M2 e3
      rw [if_neg q17]
      by_cases q18 : xs i &&& 31 = 18
      · obtain ⟨r, M1, M2, e1, e2, e3⟩ := w_hungry (xs (i + 1)) h
        rw [if_pos q18, a1, q_gd (g 1 (by decide)), cl 1 (by decide), e1, q_bnd, q_gd (g 1 (by decide)), e2, q_bnd, if_pos rfl]
        exact go M2 e3
      rw [if_neg q18]
      by_cases q19 : xs i &&& 31 = 19
      · obtain ⟨r, M1, M2, e1, e2, e3⟩ := w_lasts (xs (i + 1)) h
        rw [if_pos q19, a1, q_gd (g 1 (by decide)), cl 1 (by decide), e1, q_bnd, q_gd (g 1 (by decide)), e2, q_bnd, if_pos rfl]
        exact go M2 e3
      rw [if_neg q19]
      by_cases q20 : xs i &&& 31 = 20
      · obtain ⟨r, M1, M2, e1, e2, e3⟩ := w_share (xs (i + 1)) (xs (i + 2)) h
        rw [if_pos q20, a1, a2, q_gd (g 1 (by decide)), q_gd (g 2 (by decide)), cl 1 (by decide), cl 2 (by decide), e1, q_bnd, q_gd (g 1 (by decide)), q_gd (g 2 (by decide)), e2, q_bnd, if_pos rfl]
        exact go M2 e3
      rw [if_neg q20]
      by_cases q21 : xs i &&& 31 = 21
      · obtain ⟨r, M1, M2, e1, e2, e3⟩ := w_givenUp (xs (i + 1)) (xs (i + 2)) h
        rw [if_pos q21, a1, a2, q_gd (g 1 (by decide)), q_gd (g 2 (by decide)), cl 1 (by decide), cl 2 (by decide), e1, q_bnd, q_gd (g 1 (by decide)), q_gd (g 2 (by decide)), e2, q_bnd, if_pos rfl]
        exact go M2 e3
      rw [if_neg q21]
      by_cases q22 : xs i &&& 31 = 22
      · obtain ⟨r, M1, M2, e1, e2, e3⟩ := w_home (xs (i + 1)) (xs (i + 2)) (xs (i + 3)) (xs (i + 4)) h
        rw [if_pos q22, a1, a2, a3, a4, q_gd (g 1 (by decide)), q_gd (g 2 (by decide)), q_gd (g 3 (by decide)), q_gd (g 4 (by decide)), cl 1 (by decide), cl 2 (by decide), cl 3 (by decide), cl 4 (by decide), e1, q_bnd, q_gd (g 1 (by decide)), q_gd (g 2 (by decide)), q_gd (g 3 (by decide)), q_gd (g 4 (by decide)), e2, q_bnd, if_pos rfl]
        exact go M2 e3
      rw [if_neg q22]
      by_cases q23 : xs i &&& 31 = 23
      · obtain ⟨r, M1, M2, e1, e2, e3⟩ := w_kinds (xs (i + 1)) (xs (i + 2)) (xs (i + 3)) (xs (i + 4)) (xs (i + 5)) h
        rw [if_pos q23, a1, a2, a3, a4, a5, q_gd (g 1 (by decide)), q_gd (g 2 (by decide)), q_gd (g 3 (by decide)), q_gd (g 4 (by decide)), q_gd (g 5 (by decide)), cl 1 (by decide), cl 2 (by decide), cl 3 (by decide), cl 4 (by decide), cl 5 (by decide), e1, q_bnd, q_gd (g 1 (by decide)), q_gd (g 2 (by decide)), q_gd (g 3 (by decide)), q_gd (g 4 (by decide)), q_gd (g 5 (by decide)), e2, q_bnd, if_pos rfl]
        exact go M2 e3
      rw [if_neg q23]
      by_cases q24 : xs i &&& 31 = 24
      · obtain ⟨r, M1, M2, e1, e2, e3⟩ := w_row (xs (i + 1)) h
        rw [if_pos q24, a1, q_gd (g 1 (by decide)), cl 1 (by decide), e1, q_bnd, q_gd (g 1 (by decide)), e2, q_bnd, if_pos rfl]
        exact go M2 e3
      rw [if_neg q24]
      by_cases q25 : xs i &&& 31 = 25
      · obtain ⟨r, M1, M2, e1, e2, e3⟩ := w_judge (xs (i + 1)) h
        rw [if_pos q25, a1, q_gd (g 1 (by decide)), cl 1 (by decide), e1, q_bnd, q_gd (g 1 (by decide)), e2, q_bnd, if_pos rfl]
        exact go M2 e3
      rw [if_neg q25]
      by_cases q26 : xs i &&& 31 = 26
      · obtain ⟨r, M1, M2, e1, e2, e3⟩ := w_lots (xs (i + 1)) (xs (i + 2)) (xs (i + 3)) h
        rw [if_pos q26, a1, a2, a3, q_gd (g 1 (by decide)), q_gd (g 2 (by decide)), q_gd (g 3 (by decide)), cl 1 (by decide), cl 2 (by decide), cl 3 (by decide), e1, q_bnd, q_gd (g 1 (by decide)), q_gd (g 2 (by decide)), q_gd (g 3 (by decide)), e2, q_bnd, if_pos rfl]
        exact go M2 e3
      rw [if_neg q26]
      by_cases q27 : xs i &&& 31 = 27
      · obtain ⟨r, M1, M2, e1, e2, e3⟩ := w_image  h
        rw [if_pos q27, e1, q_bnd, e2, q_bnd, if_pos rfl]
        exact go M2 e3
      rw [if_neg q27]
      by_cases q28 : xs i &&& 31 = 28
      · obtain ⟨r, M1, M2, e1, e2, e3⟩ := w_restore  h
        rw [if_pos q28, e1, q_bnd, e2, q_bnd, if_pos rfl]
        exact go M2 e3
      rw [if_neg q28]
      by_cases q29 : xs i &&& 31 = 29
      · obtain ⟨r, M1, M2, e1, e2, e3⟩ := w_count (xs (i + 1)) h
        rw [if_pos q29, a1, q_gd (g 1 (by decide)), cl 1 (by decide), e1, q_bnd, q_gd (g 1 (by decide)), e2, q_bnd, if_pos rfl]
        exact go M2 e3
      rw [if_neg q29]
      exact go M h
