theorem i_img.c3 {M M' : gk_M} (h : i_img M) (e1 : M' 6 0 6 = M 6 0 6) (e2 : M' 14 0 19 = M 14 0 19) (e3 : ∀ j, M' 18 1 j = M 18 1 j) (e4 : ∀ c i j, ((c = 2 ∨ c = 7 ∨ c = 8) ∧ i = 2) ∨ (c = 5 ∧ i / 6 = 2) → M' c i j = M c i j) : i_img M' := by
  have e3 : M' 18 1 = M 18 1 := funext e3
  unfold i_img
  rw [e1, e2, e3]
  rcases h with h | ⟨h1, h2, N, dd, hd, hw, hc⟩
  · exact Or.inl h
  · refine Or.inr ⟨h1, h2, N, dd, hd, hw, ?_⟩
    rw [← hc]
    rw [← hc] at hw
    exact a_c_congr hw.cnt hw.1 e4
theorem i_let.c3 {M M' : gk_M} (h : i_let M) (e1 : M' 3 0 1 = M 3 0 1) (e2 : M' 14 0 24 = M 14 0 24) (e3 : ∀ j, M' 11 0 j = M 11 0 j) (e4 : ∀ j, M' 19 0 j = M 19 0 j) : i_let M' := by
  obtain ⟨z, hz, h1, h2, h3⟩ := h
  exact ⟨z, hz, e1.trans h1, e2.trans h2, fun j hj => by rw [e3, e4]; exact h3 j hj⟩
theorem i_row.c3 {M M' : gk_M} (h : i_row M) (e1 : M' 6 0 9 = M 6 0 9) (e2 : M' 14 0 32 = M 14 0 32) (e3 : ∀ j, M' 12 0 j = M 12 0 j) (e4 : ∀ j, M' 22 0 j = M 22 0 j) : i_row M' := by
  obtain ⟨z, hz, h1, h2, h3⟩ := h
  exact ⟨z, hz, e1.trans h1, e2.trans h2, fun j hj => by rw [e3, e4]; exact h3 j hj⟩
theorem w_row (v : Int32) {M : gk_M} (h : i_ok M) : i_same Int32 (f_X11_row v) (f_X12_row v) M := by
  obtain ⟨N, dd, hd, hw, hc, hN, c0, r0, hwc⟩ := h.get
  obtain ⟨z, hz, e1, e2, e3⟩ := h.1.2.2.2
  by_cases p1 : (-999 : Int32) ≤ v
  · have h6 : (999 < v ∨ z = 12) → i_same Int32 (f_X11_row v) (f_X12_row v) M := fun q => by
      refine i_refuse h (q := 6) (x := -6) rfl (by decide) (by decide) ?_ ?_
      · rw [f_X11_row, if_pos p1, X11_row_j30]
        by_cases q1 : 999 < v
        · rw [if_pos q1]; exact q_ret
        · rw [if_neg q1]
          have q2 : z = 12 := by rcases q with q | q; exact absurd q q1; exact q
          rw [e1, q2, if_neg (by decide)]; exact q_ret
      · intro M1 hE
        rw [f_X12_row, q_wr, if_pos p1, X12_row_j35]
        by_cases q1 : 999 < v
        · rw [if_pos q1]; exact q_ret
        · rw [if_neg q1]
          have q2 : z = 12 := by rcases q with q | q; exact absurd q q1; exact q
          rw [u_n (by omega), hE 14 0 32 (by unfold i_kp; omega), e2, q2, if_neg (by decide)]; exact q_ret
    by_cases q1 : 999 < v
    · exact h6 (Or.inl q1)
    · by_cases q2 : z = 12
      · exact h6 (Or.inr q2)
      · have hz12 : z < 12 := by omega
        refine ⟨nI (z + 1), gk_up (gk_up M 12 0 z v) 6 0 9 (nI (z + 1)), gk_up (gk_up (gk_up (gk_up (gk_up M 12 0 z v) 6 0 9 (nI (z + 1))) 14 0 13 0) 22 0 z v) 14 0 32 (nI (z + 1)), ?_, ?_, ?_⟩
        · rw [f_X11_row, if_pos p1, if_neg q1, e1, if_pos (show nI z < 12 from nI_lt (b := 12) hz12 (by omega)), q_gd (q_in hz12 (by decide)), q_cl (by omega), q_wr, q_wr, u_s, u_n (by omega), e1, nI_1]
        · have e2' : gk_up (gk_up (gk_up M 12 0 z v) 6 0 9 (nI (z + 1))) 14 0 13 0 14 0 32 = nI z := by rw [u_n (by omega), u_n (by omega), u_n (by omega), e2]
          rw [f_X12_row, q_wr, if_pos p1, if_neg q1, e2', if_pos (show ¬ nI z = 12 from fun q => q2 ((nI_eq (a := z) (b := 12) (by omega) (by omega)).mp q)), q_gd (q_in hz12 (by decide)), q_cl (by omega), q_wr, q_wr, u_s, u_n (by omega), e2', nI_1]
        · refine ⟨⟨⟨N, dd, hd, ?_, ?_⟩, ?_, ?_, ?_⟩, ?_⟩
          · rw [keepR hN r0 (fun c i j q => by rw [u_n (by omega), u_n (by omega), u_n (by omega), u_n (by omega), u_n (by omega)])]; exact hw
          · rw [keepR hN r0 (fun c i j q => by rw [u_n (by omega), u_n (by omega), u_n (by omega), u_n (by omega), u_n (by omega)]), ← hc]
            exact a_c_congr c0 hN (fun c i j q => by rw [u_n (by omega), u_n (by omega), u_n (by omega), u_n (by omega), u_n (by omega)])
          · exact h.1.2.1.c3 (by rw [u_n (by omega), u_n (by omega), u_n (by omega), u_n (by omega), u_n (by omega)]) (by rw [u_n (by omega), u_n (by omega), u_n (by omega), u_n (by omega), u_n (by omega)]) (fun j => by rw [u_n (by omega), u_n (by omega), u_n (by omega), u_n (by omega), u_n (by omega)]) (fun c i j q => by rw [u_n (by omega), u_n (by omega), u_n (by omega), u_n (by omega), u_n (by omega)])
          · exact h.1.2.2.1.c3 (by rw [u_n (by omega), u_n (by omega), u_n (by omega), u_n (by omega), u_n (by omega)]) (by rw [u_n (by omega), u_n (by omega), u_n (by omega), u_n (by omega), u_n (by omega)]) (fun j => by rw [u_n (by omega), u_n (by omega), u_n (by omega), u_n (by omega), u_n (by omega)]) (fun j => by rw [u_n (by omega), u_n (by omega), u_n (by omega), u_n (by omega), u_n (by omega)])
          · refine ⟨z + 1, by omega, by rw [u_n (by omega), u_n (by omega), u_n (by omega), u_s], u_s, fun j hj => ?_⟩
            by_cases q : j = z
            · subst q
              rw [u_n (by omega), u_n (by omega), u_n (by omega), u_n (by omega), u_s, u_n (by omega), u_s]
            · rw [u_n (by omega), u_n (by omega), u_n (by omega), u_n (by omega), u_n (by omega), u_n (by omega), u_n (by omega), u_n (by omega), u_n (by omega), u_n (by omega)]
              exact e3 j (by omega)
          · intro j hj
            rw [u_n (by omega), u_n (by omega), u_n (by omega), u_n (by omega), u_n (by omega), u_n (by omega), u_n (by omega), u_n (by omega), u_n (by omega), u_n (by omega)]
            exact h.2 j hj
  · refine i_refuse h (q := 4) (x := -4) rfl (by decide) (by decide) ?_ ?_
    · rw [f_X11_row, if_neg p1]; exact q_ret
    · intro M1 hE
      rw [f_X12_row, q_wr, if_neg p1]; exact q_ret
theorem w_feed (v : Int32) {M : gk_M} (h : i_ok M) : i_same Int32 (f_X11_feed v) (f_X12_feed v) M := by
  obtain ⟨N, dd, hd, hw, hc, hN, c0, r0, hwc⟩ := h.get
  obtain ⟨z, hz, e1, e2, e3⟩ := h.1.2.2.1
  by_cases p1 : (0 : Int32) ≤ v
  · have h6 : (255 < v ∨ z = 80) → i_same Int32 (f_X11_feed v) (f_X12_feed v) M := fun q => by
      refine i_refuse h (q := 6) (x := -6) rfl (by decide) (by decide) ?_ ?_
      · rw [f_X11_feed, if_pos p1, X11_feed_j30]
        by_cases q1 : 255 < v
        · rw [if_pos q1]; exact q_ret
        · rw [if_neg q1]
          have q2 : z = 80 := by rcases q with q | q; exact absurd q q1; exact q
          rw [e1, q2, if_neg (by decide)]; exact q_ret
      · intro M1 hE
        rw [f_X12_feed, q_wr, if_pos p1, X12_feed_j32]
        by_cases q1 : 255 < v
        · rw [if_pos q1]; exact q_ret
        · rw [if_neg q1]
          have q2 : z = 80 := by rcases q with q | q; exact absurd q q1; exact q
          rw [u_n (by omega), hE 14 0 24 (by unfold i_kp; omega), e2, q2, if_neg (by decide)]; exact q_ret
    by_cases q1 : 255 < v
    · exact h6 (Or.inl q1)
    · by_cases q2 : z = 80
      · exact h6 (Or.inr q2)
      · have hz12 : z < 80 := by omega
        have hlt : nI z < 80 := nI_lt (b := 80) hz12 (by omega)
        refine ⟨nI (z + 1), gk_up (gk_up M 11 0 z v) 3 0 1 (nI (z + 1)), gk_up (gk_up (gk_up (gk_up (gk_up M 11 0 z v) 3 0 1 (nI (z + 1))) 14 0 13 0) 19 0 z v) 14 0 24 (nI (z + 1)), ?_, ?_, ?_⟩
        · rw [f_X11_feed, if_pos p1, if_neg q1, e1, if_pos hlt, f_X6_add, e1, if_neg (show ¬ (80 : Int32) ≤ nI z from nI_ge (b := 80) hz12 (by omega)), q_gd (q_in hz12 (by decide)), q_cl (by omega), q_wr, q_wr, u_n (by omega), e1, nI_1, q_bnd, u_s]
        · have e2' : gk_up (gk_up (gk_up M 11 0 z v) 3 0 1 (nI (z + 1))) 14 0 13 0 14 0 24 = nI z := by rw [u_n (by omega), u_n (by omega), u_n (by omega), e2]
          rw [f_X12_feed, q_wr, if_pos p1, if_neg q1, e2', if_pos (show ¬ nI z = 80 from fun q => q2 ((nI_eq (a := z) (b := 80) (by omega) (by omega)).mp q)), q_gd (q_in hz12 (by decide)), q_cl (by omega), q_wr, q_wr, u_s, u_n (by omega), e2', nI_1]
        · refine ⟨⟨⟨N, dd, hd, ?_, ?_⟩, ?_, ?_, ?_⟩, ?_⟩
          · rw [keepR hN r0 (fun c i j q => by rw [u_n (by omega), u_n (by omega), u_n (by omega), u_n (by omega), u_n (by omega)])]; exact hw
          · rw [keepR hN r0 (fun c i j q => by rw [u_n (by omega), u_n (by omega), u_n (by omega), u_n (by omega), u_n (by omega)]), ← hc]
            exact a_c_congr c0 hN (fun c i j q => by rw [u_n (by omega), u_n (by omega), u_n (by omega), u_n (by omega), u_n (by omega)])
          · exact h.1.2.1.c3 (by rw [u_n (by omega), u_n (by omega), u_n (by omega), u_n (by omega), u_n (by omega)]) (by rw [u_n (by omega), u_n (by omega), u_n (by omega), u_n (by omega), u_n (by omega)]) (fun j => by rw [u_n (by omega), u_n (by omega), u_n (by omega), u_n (by omega), u_n (by omega)]) (fun c i j q => by rw [u_n (by omega), u_n (by omega), u_n (by omega), u_n (by omega), u_n (by omega)])
          · refine ⟨z + 1, by omega, by rw [u_n (by omega), u_n (by omega), u_n (by omega), u_s], u_s, fun j hj => ?_⟩
            by_cases q : j = z
            · subst q
              rw [u_n (by omega), u_n (by omega), u_n (by omega), u_n (by omega), u_s, u_n (by omega), u_s]
              refine ⟨rfl, ?_⟩
              have b1 : 0 ≤ v.toInt := z_le.mp p1
              have b2 : v.toInt ≤ (255 : Nat) := by
                have : ¬ (255 : Int32).toInt < v.toInt := fun q => q1 (z_lt.mpr q)
                have e : (255 : Int32).toInt = 255 := rfl
                omega
              obtain ⟨b, hb, e⟩ := z_of b1 b2
              exact ⟨b, by omega, e⟩
            · rw [u_n (by omega), u_n (by omega), u_n (by omega), u_n (by omega), u_n (by omega), u_n (by omega), u_n (by omega), u_n (by omega), u_n (by omega), u_n (by omega)]
              exact e3 j (by omega)
          · exact h.1.2.2.2.c3 (by rw [u_n (by omega), u_n (by omega), u_n (by omega), u_n (by omega), u_n (by omega)]) (by rw [u_n (by omega), u_n (by omega), u_n (by omega), u_n (by omega), u_n (by omega)]) (fun j => by rw [u_n (by omega), u_n (by omega), u_n (by omega), u_n (by omega), u_n (by omega)]) (fun j => by rw [u_n (by omega), u_n (by omega), u_n (by omega), u_n (by omega), u_n (by omega)])
          · intro j hj
            rw [u_n (by omega), u_n (by omega), u_n (by omega), u_n (by omega), u_n (by omega), u_n (by omega), u_n (by omega), u_n (by omega), u_n (by omega), u_n (by omega)]
            exact h.2 j hj
  · refine i_refuse h (q := 4) (x := -4) rfl (by decide) (by decide) ?_ ?_
    · rw [f_X11_feed, if_neg p1]; exact q_ret
    · intro M1 hE
      rw [f_X12_feed, q_wr, if_neg p1]; exact q_ret
/-! image and restore -/
theorem c_kT {M : gk_M} {N : Nat} (hc : M 14 0 0 = nI N) (hN : N ≤ 6) : a_kk (c_T 1 55 M 18 1) = a_r M := by
  have e : ∀ q, q < 55 → c_T 1 55 M 18 1 q = c_cl M q := fun q hq => by unfold c_T; rw [if_pos ⟨rfl, rfl, hq⟩]
  have c5 : ∀ q, q < 5 → c_cl M q = M 14 0 q := fun q hq => by unfold c_cl; rw [if_pos hq]
  refine a_ext ((e 0 (by decide)).trans (c5 0 (by decide))) (fun j hj => ?_) (fun j hj => ?_) (fun j hj => ?_) (fun s j hs hj => ?_)
  · rcases (show j = 0 ∨ j = 1 ∨ j = 2 ∨ j = 3 ∨ j = 4 by omega) with rfl | rfl | rfl | rfl | rfl
    · exact (e 0 (by decide)).trans (c5 0 (by decide))
    · exact (e 3 (by decide)).trans (c5 3 (by decide))
    · exact (e 1 (by decide)).trans (c5 1 (by decide))
    · exact (e 2 (by decide)).trans (c5 2 (by decide))
    · exact (e 4 (by decide)).trans (c5 4 (by decide))
  · show c_T 1 55 M 18 1 (5 + 2 * j) = M 15 0 j
    rw [e _ (by omega)]
    have := c_clps (M := M) (c := 15) (i := 0) (j := j) (by rw [c_ps15 (by omega) hj]; omega)
    rwa [c_ps15 (by omega) hj] at this
  · show c_T 1 55 M 18 1 (5 + 2 * j + 1) = M 15 1 j
    rw [e _ (by omega)]
    have := c_clps (M := M) (c := 15) (i := 1) (j := j) (by rw [c_ps15 (by omega) hj]; omega)
    rwa [c_ps15 (by omega) hj] at this
  · rw [e 0 (by decide), c5 0 (by decide), hc, q_cl (by omega)] at hs
    show c_T 1 55 M 18 1 (19 + 6 * s + j) = M 16 j s
    rw [e _ (by omega)]
    have := c_clps (M := M) (c := 16) (i := j) (j := s) (by rw [c_ps16 hj (by omega)]; omega)
    rwa [c_ps16 hj (by omega)] at this
theorem c_rF {M : gk_M} {N : Nat} (hc : M 18 1 0 = nI N) (hN : N ≤ 6) : a_r (c_F 1 55 M) = a_kk (M 18 1) := by
  have e5 : ∀ q, q < 5 → c_F 1 55 M 14 0 q = M 18 1 q := fun q hq => by
    have : c_ps 14 0 q = q := by unfold c_ps; rw [if_pos ⟨rfl, rfl, hq⟩]
    unfold c_F; rw [this, if_pos (by omega)]
  have e15 : ∀ i j, i < 2 → j < 7 → c_F 1 55 M 15 i j = M 18 1 (5 + 2 * j + i) := fun i j hi hj => by
    unfold c_F; rw [c_ps15 hi hj, if_pos (by omega)]
  refine a_ext (e5 0 (by decide)) (fun j hj => ?_) (fun j hj => e15 0 j (by decide) hj) (fun j hj => e15 1 j (by decide) hj) (fun s j hs hj => ?_)
  · rcases (show j = 0 ∨ j = 1 ∨ j = 2 ∨ j = 3 ∨ j = 4 by omega) with rfl | rfl | rfl | rfl | rfl
    · exact e5 0 (by decide)
    · exact e5 3 (by decide)
    · exact e5 1 (by decide)
    · exact e5 2 (by decide)
    · exact e5 4 (by decide)
  · rw [e5 0 (by decide), hc, q_cl (by omega)] at hs
    show c_F 1 55 M 16 j s = M 18 1 (19 + 6 * s + j)
    unfold c_F; rw [c_ps16 hj (by omega), if_pos (by omega)]
theorem c_Tn {t : Nat} {M : gk_M} {c i j : Nat} (h1 : ¬ (c = 18 ∧ i = t)) (h2 : ¬ (c = 14 ∧ i = 0 ∧ (j = 20 ∨ j = 21 ∨ j = 22))) : c_T t 55 M c i j = M c i j := by
  unfold c_T
  rw [if_neg (by omega), if_neg (by omega), if_neg (by omega), if_neg (by omega)]
theorem c_Fn {t : Nat} {M : gk_M} {c i j : Nat} (h1 : ¬ (c = 14 ∧ i = 0 ∧ j < 5)) (h3 : ¬ c = 15) (h4 : ¬ c = 16) (h2 : ¬ (c = 14 ∧ i = 0 ∧ (j = 20 ∨ j = 21 ∨ j = 22))) : c_F t 55 M c i j = M c i j := by
  have : c_ps c i j = 100 := by unfold c_ps; rw [if_neg (by omega), if_neg (by omega), if_neg (by omega)]
  unfold c_F
  rw [this, if_neg (by omega), if_neg (by omega), if_neg (by omega), if_neg (by omega)]
theorem w_image {M : gk_M} (h : i_ok M) : i_same Int32 f_X11_image f_X12_image M := by
  obtain ⟨N, dd, hd, hw, hc, hN, c0, r0, hwc⟩ := h.get
  obtain ⟨ed, -⟩ := i_cr hc
  obtain ⟨M1, e1, e2, e3⟩ := h_copyW (k := 2) (o := 0) (by decide) (by decide) (by decide) hwc
  have k3 : ∀ c i j, c ≠ 0 → c ≠ 4 → ¬ ((c = 2 ∨ c = 7 ∨ c = 8) ∧ i = 2) → ¬ (c = 5 ∧ i / 6 = 2) → M1 c i j = M c i j := e3
  obtain ⟨M2, hM2⟩ : ∃ M2, M2 = gk_up (gk_up (gk_up M1 6 0 6 1) 14 0 13 0) 14 0 19 1 := ⟨_, rfl⟩
  have m2 : ∀ c i j, ¬ (c = 6 ∧ i = 0 ∧ j = 6) → ¬ (c = 14 ∧ i = 0 ∧ (j = 13 ∨ j = 19)) → M2 c i j = M1 c i j := fun c i j a b => by rw [hM2, u_n (by omega), u_n (by omega), u_n (by omega)]
  have r2 : a_r M2 = a_r M := keepR hN r0 (fun c i j q => by rw [m2 c i j (by omega) (by omega), k3 c i j (by omega) (by omega) (by omega) (by omega)])
  have r20 : M2 14 0 0 = nI N := by rw [m2 _ _ _ (by omega) (by omega), k3 _ _ _ (by omega) (by omega) (by omega) (by omega)]; exact r0
  have cc : ∀ o, a_c o M1 = a_r M → M1 2 o 3 = nI N → a_c o (c_T 1 55 M2) = a_r M := fun o q q2 => by
    rw [← q]
    exact a_c_congr q2 hN (fun c i j z => by rw [c_Tn (by omega) (by omega), m2 c i j (by omega) (by omega)])
  have cc0 : a_c 0 M1 = a_r M := by rw [e3.ice (by decide) c0 hN]; exact hc
  have w2 : a_wf (a_c 2 M1) N dd := by rw [e2]; exact hwc
  refine ⟨M 14 0 3, gk_up M1 6 0 6 1, c_T 1 55 M2, ?_, ?_, ?_⟩
  · rw [f_X11_image, e1, q_bnd, q_gd q_b1, q_wr, u_n (by omega), k3 _ _ _ (by omega) (by omega) (by omega) (by omega), ed]
  · rw [f_X12_image, q_wr, q_gd q_b1, q_wr, h_carryT (by decide), q_bnd, ← hM2, c_Tn (by omega) (by omega), m2 _ _ _ (by omega) (by omega), k3 _ _ _ (by omega) (by omega) (by omega) (by omega)]
  · refine ⟨⟨⟨N, dd, hd, ?_, ?_⟩, Or.inr ⟨?_, ?_, N, dd, hd, ?_, ?_⟩, ?_, ?_⟩, ?_⟩
    · rw [keepR hN r20 (fun c i j q => c_Tn (by omega) (by omega)), r2]; exact hw
    · rw [keepR hN r20 (fun c i j q => c_Tn (by omega) (by omega)), r2]
      exact cc 0 cc0 (by rw [k3 _ _ _ (by omega) (by omega) (by omega) (by omega)]; exact c0)
    · rw [c_Tn (by omega) (by omega), hM2, u_n (by omega), u_n (by omega), u_s]
    · rw [c_Tn (by omega) (by omega), hM2, u_s]
    · rw [c_kT r20 hN, r2]; exact hw
    · rw [c_kT r20 hN, r2]
      exact cc 2 (by rw [e2]; exact hc) w2.cnt
    · exact h.1.2.2.1.c3 (by rw [c_Tn (by omega) (by omega), m2 _ _ _ (by omega) (by omega), k3 _ _ _ (by omega) (by omega) (by omega) (by omega)]) (by rw [c_Tn (by omega) (by omega), m2 _ _ _ (by omega) (by omega), k3 _ _ _ (by omega) (by omega) (by omega) (by omega)]) (fun j => by rw [c_Tn (by omega) (by omega), m2 _ _ _ (by omega) (by omega), k3 _ _ _ (by omega) (by omega) (by omega) (by omega)]) (fun j => by rw [c_Tn (by omega) (by omega), m2 _ _ _ (by omega) (by omega), k3 _ _ _ (by omega) (by omega) (by omega) (by omega)])
    · exact h.1.2.2.2.c3 (by rw [c_Tn (by omega) (by omega), m2 _ _ _ (by omega) (by omega), k3 _ _ _ (by omega) (by omega) (by omega) (by omega)]) (by rw [c_Tn (by omega) (by omega), m2 _ _ _ (by omega) (by omega), k3 _ _ _ (by omega) (by omega) (by omega) (by omega)]) (fun j => by rw [c_Tn (by omega) (by omega), m2 _ _ _ (by omega) (by omega), k3 _ _ _ (by omega) (by omega) (by omega) (by omega)]) (fun j => by rw [c_Tn (by omega) (by omega), m2 _ _ _ (by omega) (by omega), k3 _ _ _ (by omega) (by omega) (by omega) (by omega)])
    · intro j hj
      rw [c_Tn (by omega) (by omega), m2 _ _ _ (by omega) (by omega), k3 _ _ _ (by omega) (by omega) (by omega) (by omega), c_Tn (by omega) (by omega), m2 _ _ _ (by omega) (by omega), k3 _ _ _ (by omega) (by omega) (by omega) (by omega)]
      exact h.2 j hj
theorem w_restore {M : gk_M} (h : i_ok M) : i_same Int32 f_X11_restore f_X12_restore M := by
  obtain ⟨N, dd, hd, hw, hc, hN, c0, r0, hwc⟩ := h.get
  rcases h.1.2.1 with ⟨a1, a2⟩ | ⟨a1, a2, N2, d2, hd2, hw2, hc2⟩
  · refine i_refuse h (q := 3) (x := -3) rfl (by decide) (by decide) ?_ ?_
    · rw [f_X11_restore, a1, if_neg (by decide)]; exact q_ret
    · intro M1 hE
      rw [f_X12_restore, q_wr, u_n (by omega), hE 14 0 19 (by unfold i_kp; omega), a2, if_neg (by decide)]; exact q_ret
  · have hwc2 : a_wf (a_c 2 M) N2 d2 := by rw [hc2]; exact hw2
    obtain ⟨M1, e1, e2, e3⟩ := h_copyW (k := 0) (o := 2) (by decide) (by decide) (by decide) hwc2
    have k3 : ∀ c i j, c ≠ 0 → c ≠ 4 → ¬ ((c = 2 ∨ c = 7 ∨ c = 8) ∧ i = 0) → ¬ (c = 5 ∧ i / 6 = 0) → M1 c i j = M c i j := e3
    obtain ⟨M2, hM2⟩ : ∃ M2, M2 = gk_up M1 14 0 13 0 := ⟨_, rfl⟩
    have m2 : ∀ c i j, ¬ (c = 14 ∧ i = 0 ∧ j = 13) → M2 c i j = M1 c i j := fun c i j a => by rw [hM2, u_n a]
    have k18 : ∀ j, M2 18 1 j = M 18 1 j := fun j => by rw [m2 _ _ _ (by omega), k3 _ _ _ (by omega) (by omega) (by omega) (by omega)]
    have k18f : M2 18 1 = M 18 1 := funext k18
    have n18 : M2 18 1 0 = nI N2 := by
      rw [k18 0]
      have := hw2.2.1
      unfold a_kk at this
      rwa [a_nm0 (by decide)] at this
    have rr : a_r (c_F 1 55 M2) = a_kk (M 18 1) := by rw [c_rF n18 hw2.1, k18f]
    have cc : a_c 0 (c_F 1 55 M2) = a_kk (M 18 1) := by
      rw [← hc2, ← e2]
      have wc1 : a_wf (a_c 0 M1) N2 d2 := by rw [e2]; exact hwc2
      exact a_c_congr wc1.cnt hw2.1 (fun c i j z => by rw [c_Fn (by omega) (by omega) (by omega) (by omega), m2 c i j (by omega)])
    refine ⟨nI d2, M1, c_F 1 55 M2, ?_, ?_, ?_⟩
    · have : M1 2 0 4 = nI d2 := by
        have q := congrFun (congrFun e2 0) 1
        rw [a_c0 (by decide), hc2] at q
        exact q.trans hw2.2.2.1
      rw [f_X11_restore, a1, if_pos (by decide), e1, q_bnd, this]
    · have : c_F 1 55 M2 14 0 3 = nI d2 := by
        have q := congrFun (congrFun rr 0) 1
        rw [a_r01] at q
        exact q.trans hw2.2.2.1
      rw [f_X12_restore, q_wr, u_n (by omega), k3 _ _ _ (by omega) (by omega) (by omega) (by omega), a2, if_pos (by decide), h_carryF (by decide), q_bnd, ← hM2, this]
    · refine h.becomes (A := a_kk (M 18 1)) ?_ ?_ cc rr hw2 hd2
      · intro c i j hk
        have q : ¬ (c = 14 ∧ i = 0 ∧ j < 5) ∧ ¬ c = 15 ∧ ¬ c = 16 ∧ ¬ (c = 14 ∧ i = 0 ∧ (j = 13 ∨ j = 20 ∨ j = 21 ∨ j = 22)) ∧ c ≠ 0 ∧ c ≠ 4 ∧ ¬ ((c = 2 ∨ c = 7 ∨ c = 8) ∧ i = 0) ∧ ¬ (c = 5 ∧ i / 6 = 0) := by unfold i_k2 at hk; omega
        obtain ⟨q1, q2, q3, q4, q5, q6, q7, q8⟩ := q
        rw [c_Fn q1 q2 q3 (by omega), m2 c i j (by omega), k3 c i j q5 q6 q7 q8]
      · intro j hj
        exact ⟨by rw [c_Fn (by omega) (by omega) (by omega) (by omega), m2 _ _ _ (by omega), k3 _ _ _ (by omega) (by omega) (by omega) (by omega)], by rw [c_Fn (by omega) (by omega) (by omega) (by omega), m2 _ _ _ (by omega), k3 _ _ _ (by omega) (by omega) (by omega) (by omega)]⟩
