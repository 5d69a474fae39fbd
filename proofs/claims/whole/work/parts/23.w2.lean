/-! all but what there is now -/
def i_k2 (c i j : Nat) : Prop := ((c = 2 ∨ c = 7 ∨ c = 8) ∧ i = 2) ∨ (c = 5 ∧ i / 6 = 2) ∨ (c = 3 ∧ i = 0 ∧ j = 1) ∨ c = 6 ∨ c = 11 ∨ c = 12 ∨ (c = 14 ∧ i = 0 ∧ (j = 19 ∨ j = 24 ∨ j = 32)) ∨ (c = 18 ∧ i = 1) ∨ c = 19 ∨ c = 22
def i_F (M M' : gk_M) : Prop := ∀ c i j, i_k2 c i j → M' c i j = M c i j
theorem i_F.tr {M M1 M2 : gk_M} (h1 : i_F M M1) (h2 : i_F M1 M2) : i_F M M2 := fun c i j h => (h2 c i j h).trans (h1 c i j h)
theorem i_F.rf {M : gk_M} : i_F M M := fun _ _ _ _ => rfl
theorem i_F.up {M : gk_M} {c i j : Nat} {v : Int32} (h : ¬ i_k2 c i j) : i_F M (gk_up M c i j v) := fun c' i' j' h' => u_n (fun z => h (by obtain ⟨rfl, rfl, rfl⟩ := z; exact h'))
theorem k2_img {i j : Nat} : i_k2 6 i j := by unfold i_k2; omega
theorem k2_14 {j : Nat} (h : j = 19 ∨ j = 24 ∨ j = 32) : i_k2 14 0 j := by unfold i_k2; omega
theorem k2_18 {j : Nat} : i_k2 18 1 j := by unfold i_k2; omega
theorem k2_let : i_k2 3 0 1 := by unfold i_k2; omega
theorem k2_11 {i j : Nat} : i_k2 11 i j := by unfold i_k2; omega
theorem k2_12 {i j : Nat} : i_k2 12 i j := by unfold i_k2; omega
theorem k2_19 {i j : Nat} : i_k2 19 i j := by unfold i_k2; omega
theorem k2_22 {i j : Nat} : i_k2 22 i j := by unfold i_k2; omega
theorem k2_ice {c i j : Nat} (h : ((c = 2 ∨ c = 7 ∨ c = 8) ∧ i = 2) ∨ (c = 5 ∧ i / 6 = 2)) : i_k2 c i j := by
  rcases h with h | h
  · exact Or.inl h
  · exact Or.inr (Or.inl h)
theorem n2_ice {c j : Nat} (h : c = 2 ∨ c = 7 ∨ c = 8) : ¬ i_k2 c 0 j := by unfold i_k2; omega
theorem n2_5 {i j : Nat} (h : i < 12) : ¬ i_k2 5 i j := by unfold i_k2; omega
theorem n2_14 {j : Nat} (h : j ≠ 19 ∧ j ≠ 24 ∧ j ≠ 32) : ¬ i_k2 14 0 j := by unfold i_k2; omega
theorem n2_r {c i j : Nat} (h : c = 15 ∨ c = 16 ∨ c = 13 ∨ c = 17 ∨ c = 0 ∨ c = 4) : ¬ i_k2 c i j := by unfold i_k2; omega
theorem i_F.img {M M' : gk_M} (hE : i_F M M') (h : i_img M) : i_img M' := by
  have e1 : M' 6 0 6 = M 6 0 6 := hE 6 0 6 k2_img
  have e2 : M' 14 0 19 = M 14 0 19 := hE 14 0 19 (k2_14 (Or.inl rfl))
  have e3 : M' 18 1 = M 18 1 := by funext j; exact hE 18 1 j k2_18
  unfold i_img
  rw [e1, e2, e3]
  rcases h with h | ⟨h1, h2, N, dd, hd, hw, hc⟩
  · exact Or.inl h
  · refine Or.inr ⟨h1, h2, N, dd, hd, hw, ?_⟩
    rw [← hc]
    rw [← hc] at hw
    exact a_c_congr hw.cnt hw.1 (fun c i j q => hE c i j (k2_ice q))
theorem i_F.let {M M' : gk_M} (hE : i_F M M') (h : i_let M) : i_let M' := by
  obtain ⟨z, hz, h1, h2, h3⟩ := h
  refine ⟨z, hz, by rw [hE 3 0 1 k2_let]; exact h1, by rw [hE 14 0 24 (k2_14 (Or.inr (Or.inl rfl)))]; exact h2, fun j hj => ?_⟩
  rw [hE 11 0 j k2_11, hE 19 0 j k2_19]
  exact h3 j hj
theorem i_F.row {M M' : gk_M} (hE : i_F M M') (h : i_row M) : i_row M' := by
  obtain ⟨z, hz, h1, h2, h3⟩ := h
  refine ⟨z, hz, by rw [hE 6 0 9 k2_img]; exact h1, by rw [hE 14 0 32 (k2_14 (Or.inr (Or.inr rfl)))]; exact h2, fun j hj => ?_⟩
  rw [hE 12 0 j k2_12, hE 22 0 j k2_22]
  exact h3 j hj
/-- what there is becomes A on both sides -/
theorem i_ok.becomes {M M' : gk_M} (h : i_ok M) (hF : i_F M M') (hR : ∀ j, j < 7 → M' 13 0 j = M 13 0 j ∧ M' 17 0 j = M 17 0 j) {A : a_S} {N dd : Nat} (hc : a_c 0 M' = A) (hr : a_r M' = A) (hw : a_wf A N dd) (hd : dd ≤ 9999) : i_ok M' := by
  obtain ⟨⟨-, h2, h3, h4⟩, h5⟩ := h
  refine ⟨⟨⟨N, dd, hd, by rw [hr]; exact hw, by rw [hr]; exact hc⟩, hF.img h2, hF.let h3, hF.row h4⟩, fun j hj => ?_⟩
  rw [(hR j hj).1, (hR j hj).2]
  exact h5 j hj
theorem i_cr {M : gk_M} (hc : a_c 0 M = a_r M) : M 2 0 4 = M 14 0 3 ∧ M 2 0 5 = M 14 0 1 ∧ M 2 0 6 = M 14 0 2 ∧ M 2 0 7 = M 14 0 4 ∧ (∀ j, j < 7 → M 7 0 j = M 15 0 j ∧ M 8 0 j = M 15 1 j) := by
  have e : ∀ r j, a_c 0 M r j = a_r M r j := fun r j => by rw [hc]
  refine ⟨?_, ?_, ?_, ?_, fun j hj => ⟨?_, ?_⟩⟩
  · have := e 0 1; rwa [a_c0 (by decide), a_r01] at this
  · have := e 0 2; rwa [a_c0 (by decide), a_r02] at this
  · have := e 0 3; rwa [a_c0 (by decide), a_r03] at this
  · have := e 0 4; rwa [a_c0 (by decide), a_r04] at this
  · have := e 1 j; rwa [a_c1 hj, a_r1 hj] at this
  · have := e 2 j; rwa [a_c2 hj, a_r2 hj] at this
theorem i_crs {M : gk_M} (hc : a_c 0 M = a_r M) {N s j : Nat} (c0 : M 2 0 3 = nI N) (r0 : M 14 0 0 = nI N) (hN : N ≤ 6) (hs : s < N) (hj : j < 6) : M 5 s j = M 16 j s := by
  have := congrFun (congrFun hc (s + 3)) j
  rwa [a_cs c0 hN hs hj, a_rs r0 hN hs hj, show 6 * 0 + s = s by omega] at this
/-! wind, blow, set -/
theorem h_weekT {d : Nat} (h : d < 7) {M : gk_M} : f_X11_isOfWeek (nI d) M = some (1, M) := by
  rw [f_X11_isOfWeek, if_neg (nI_pos (by omega)), if_neg (show ¬ (7 : Int32) ≤ nI d from nI_ge (b := 7) h (by omega)), q_gd q_b1]
theorem h_weekF {x : Int32} (h : x < 0 ∨ nI 7 ≤ x) {M : gk_M} : f_X11_isOfWeek x M = some (0, M) := by
  have h7 : (7 : Int32) = nI 7 := rfl
  simp only [f_X11_isOfWeek, X11_isOfWeek_j14, q_gd q_b0, q_gd q_b1, h7]
  rcases h with h | h
  · rw [if_pos h]
  · by_cases q : x < 0
    · rw [if_pos q]
    · rw [if_neg q, if_pos h]
theorem h_in6T {d : Nat} (h : d < 7) {M : gk_M} : f_X12_in (nI d).toInt64 0 6 M = some (1, M) := h_inT ⟨by rw [z_n (by omega)]; exact Int.natCast_nonneg d, by rw [z_n (by omega)]; show (d : Int) ≤ 6; omega⟩
theorem h_in6F {x : Int32} (h : x < 0 ∨ nI 7 ≤ x) {M : gk_M} : f_X12_in x.toInt64 0 6 M = some (0, M) := by
  refine h_inF (fun z => ?_)
  have e1 : (0 : Int64).toInt = 0 := rfl
  have e2 : (6 : Int64).toInt = 6 := rfl
  have e0 : (0 : Int32).toInt = 0 := rfl
  rw [e1, e2] at z
  rw [z_lt, z_le, z_n (by omega), e0] at h
  omega
theorem w_wind (x : Int32) {M : gk_M} (h : i_ok M) : i_same Int32 (f_X11_wind x) (f_X12_wind x) M := by
  obtain ⟨N, dd, hd, hw, hc, hN, c0, r0, hwc⟩ := h.get
  rcases pk_ix x (show 7 < 2 ^ 31 by omega) with q | q | ⟨d, hd7, rfl⟩
  · refine i_refuse h (q := 1) (x := -1) rfl (by decide) (by decide) ?_ ?_
    · rw [f_X11_wind, h_weekF (Or.inl q), q_bnd, if_pos rfl]; exact q_ret
    · intro M1 hE; rw [f_X12_wind, q_wr, h_in6F (Or.inl q), q_bnd, if_pos rfl]; exact q_ret
  · refine i_refuse h (q := 1) (x := -1) rfl (by decide) (by decide) ?_ ?_
    · rw [f_X11_wind, h_weekF (Or.inr q), q_bnd, if_pos rfl]; exact q_ret
    · intro M1 hE; rw [f_X12_wind, q_wr, h_in6F (Or.inr q), q_bnd, if_pos rfl]; exact q_ret
  · obtain ⟨-, -, -, -, e⟩ := i_cr hc
    refine i_read h (r := 10 * (4 + M 15 0 d) + 4 + M 15 1 d) ?_ ?_
    · rw [f_X11_wind, h_weekT hd7, q_bnd, if_neg (by decide), f_X11_toldWind, q_gd (q_in hd7 (by decide)), q_gd (q_in hd7 (by decide)), q_cl (by omega), q_bnd, (e d hd7).1, (e d hd7).2]
    · rw [f_X12_wind, q_wr, h_in6T hd7, q_bnd, if_neg (by decide), f_X12_windTold, q_gd (q_in hd7 (by decide)), q_gd (q_in hd7 (by decide)), q_cl (by omega), q_bnd, u_n (by omega), u_n (by omega)]
      congr 2
      grind
theorem h_rng {x l u : Int32} {M : gk_M} : f_X11_range x l u M = some (if l ≤ x then if x ≤ u then 0 else -6 else -4, M) := by
  rw [f_X11_range]
  split
  · split <;> rfl
  · rfl
theorem h_r2 {a b l u : Int32} {M : gk_M} : f_X11_rangeOfTwo a b l u M = some (if l ≤ a ∧ l ≤ b then (if a ≤ u ∧ b ≤ u then 0 else -6) else -4, M) := by
  rw [f_X11_rangeOfTwo, h_rng, q_bnd, h_rng, q_bnd, f_X11_belowFirst]
  by_cases p1 : l ≤ a <;> by_cases p2 : l ≤ b <;> by_cases p3 : a ≤ u <;> by_cases p4 : b ≤ u <;> simp only [p1, p2, p3, p4, if_true, if_false, and_self, and_true, true_and, and_false, false_and, h_fst, q_bnd] <;> rfl
theorem a_wf.wind {A : a_S} {N dd d : Nat} (h : a_wf A N dd) (hd : d < 7) {e n : Int32} (he : -4 ≤ e.toInt ∧ e.toInt ≤ 4) (hn : -4 ≤ n.toInt ∧ n.toInt ≤ 4) : a_wf (z_set (z_set A 1 d e) 2 d n) N dd := by
  obtain ⟨hN, hc, hdd, h4, hr, hs, hw, hsh⟩ := h
  have z0 : ∀ j, z_set (z_set A 1 d e) 2 d n 0 j = A 0 j := fun j => by rw [zs_n (by omega), zs_n (by omega)]
  have z3 : ∀ s j, z_set (z_set A 1 d e) 2 d n (s + 3) j = A (s + 3) j := fun s j => by rw [zs_n (by omega), zs_n (by omega)]
  refine ⟨hN, by rw [z0]; exact hc, by rw [z0]; exact hdd, h4, by rw [z0]; exact hr, by rw [z0]; exact hs, fun j hj => ?_, fun s hs => ?_⟩
  · unfold a_wd
    by_cases q : j = d
    · subst q
      rw [zs_n (by omega), zs_s, zs_s]
      exact ⟨he, hn⟩
    · rw [zs_n (by omega), zs_n (by omega), zs_n (by omega), zs_n (by omega)]
      exact hw j hj
  · unfold a_sh
    rw [z3, z3, z3, z3, z3, z3]
    exact hsh s hs
theorem w_blow (x e n : Int32) {M : gk_M} (h : i_ok M) : i_same Int32 (f_X11_blow x e n) (f_X12_blow x e n) M := by
  obtain ⟨N, dd, hd, hw, hc, hN, c0, r0, hwc⟩ := h.get
  have hbad : (x < 0 ∨ nI 7 ≤ x) → i_same Int32 (f_X11_blow x e n) (f_X12_blow x e n) M := fun q => by
    refine i_refuse h (q := 1) (x := -1) rfl (by decide) (by decide) ?_ ?_
    · rw [f_X11_blow, h_weekF q, q_bnd, if_neg (by decide)]; exact q_ret
    · intro M1 hE; rw [f_X12_blow, q_wr, h_in6F q, q_bnd, if_neg (by decide), X12_blow_j54, if_neg (by decide)]; exact q_ret
  rcases pk_ix x (show 7 < 2 ^ 31 by omega) with q | q | ⟨d, hd7, rfl⟩
  · exact hbad (Or.inl q)
  · exact hbad (Or.inr q)
  have t0 : ∀ v : Int32, (e < v ↔ ¬ v ≤ e) ∧ (n < v ↔ ¬ v ≤ n) ∧ (v < e ↔ ¬ e ≤ v) ∧ (v < n ↔ ¬ n ≤ v) := fun v => by
    simp only [z_lt, z_le]; omega
  by_cases p : (-4 : Int32) ≤ e ∧ (-4 : Int32) ≤ n
  · by_cases p2 : e ≤ 4 ∧ n ≤ 4
    · obtain ⟨-, -, -, -, ew⟩ := i_cr hc
      have be : -4 ≤ e.toInt ∧ e.toInt ≤ 4 := ⟨z_le.mp p.1, z_le.mp p2.1⟩
      have bn : -4 ≤ n.toInt ∧ n.toInt ≤ 4 := ⟨z_le.mp p.2, z_le.mp p2.2⟩
      refine ⟨10 * (4 + M 15 0 d) + 4 + M 15 1 d, gk_up (gk_up M 7 0 d e) 8 0 d n, gk_up (gk_up (gk_up (gk_up (gk_up M 7 0 d e) 8 0 d n) 14 0 13 0) 15 0 d e) 15 1 d n, ?_, ?_, ?_⟩
      · rw [f_X11_blow, h_weekT hd7, q_bnd, if_pos (by decide), h_r2, if_pos p, if_pos p2, q_bnd, if_pos rfl, f_X11_toldWind, q_gd (q_in hd7 (by decide)), q_gd (q_in hd7 (by decide)), q_cl (by omega), q_bnd, (ew d hd7).1, (ew d hd7).2, q_gd (q_in hd7 (by decide)), q_wr, q_gd (q_in hd7 (by decide)), q_wr]
      · rw [f_X12_blow, q_wr, h_in6T hd7, q_bnd, if_pos (by decide), if_neg (by rw [(t0 _).1]; simp [p.1]), if_pos p.2, if_neg (by rw [(t0 _).2.2.1]; simp [p2.1]), if_pos p2.2, X12_blow_j54, if_pos (by decide), f_X12_windTold, q_gd (q_in hd7 (by decide)), q_gd (q_in hd7 (by decide)), q_cl (by omega), q_bnd, q_gd (q_in hd7 (by decide)), q_wr, q_gd (q_in hd7 (by decide)), q_wr, u_n (by omega), u_n (by omega), u_n (by omega), u_n (by omega), u_n (by omega), u_n (by omega)]
        congr 2
        grind
      · have ac : a_c 0 (gk_up (gk_up M 7 0 d e) 8 0 d n) = z_set (z_set (a_r M) 1 d e) 2 d n := by
          rw [← hc, ← a_c_up c0 hN (r0 := 1) (j0 := d) (v := e) (Or.inr (Or.inl ⟨Or.inl rfl, hd7⟩)) (by omega)]
          exact a_c_up (M := gk_up M 7 0 d e) (by rw [u_n (by omega)]; exact c0) hN (r0 := 2) (j0 := d) (v := n) (Or.inr (Or.inl ⟨Or.inr rfl, hd7⟩)) (by omega)
        have hw2 := hw.wind hd7 be bn
        have keepc : ∀ (M1 M2 : gk_M), M1 2 0 3 = nI N → (∀ c i j, c < 14 → M2 c i j = M1 c i j) → a_c 0 M2 = a_c 0 M1 := fun M1 M2 q1 q => a_c_congr q1 hN (fun c i j z => q c i j (by omega))
        refine h.becomes (A := z_set (z_set (a_r M) 1 d e) 2 d n) ?_ ?_ ?_ ?_ hw2 hd
        · exact ((((i_F.up (n2_ice (by omega))).tr (i_F.up (n2_ice (by omega)))).tr (i_F.up (n2_14 (by omega)))).tr (i_F.up (n2_r (by omega)))).tr (i_F.up (n2_r (by omega)))
        · intro j hj
          exact ⟨by rw [u_n (by omega), u_n (by omega), u_n (by omega), u_n (by omega), u_n (by omega)], by rw [u_n (by omega), u_n (by omega), u_n (by omega), u_n (by omega), u_n (by omega)]⟩
        · rw [← ac]
          exact keepc _ _ (by rw [u_n (by omega), u_n (by omega)]; exact c0) (fun c i j q => by rw [u_n (by omega), u_n (by omega), u_n (by omega)])
        · have e3 : a_r (gk_up (gk_up (gk_up M 7 0 d e) 8 0 d n) 14 0 13 0) = a_r M := a_r_ext r0 hN (fun j hj => by rw [u_n (by omega), u_n (by omega), u_n (by omega)]) (fun i j hj => by rw [u_n (by omega), u_n (by omega), u_n (by omega)]) (fun j s hj hs => by rw [u_n (by omega), u_n (by omega), u_n (by omega)])
          rw [← e3, ← a_r_up (by rw [u_n (by omega), u_n (by omega), u_n (by omega)]; exact r0) hN (r0 := 1) (j0 := d) (v := e) (Or.inr (Or.inl ⟨Or.inl rfl, hd7⟩)) (by omega)]
          exact a_r_up (M := gk_up (gk_up (gk_up (gk_up M 7 0 d e) 8 0 d n) 14 0 13 0) 15 0 d e) (by rw [u_n (by omega), u_n (by omega), u_n (by omega), u_n (by omega)]; exact r0) hN (r0 := 2) (j0 := d) (v := n) (Or.inr (Or.inl ⟨Or.inr rfl, hd7⟩)) (by omega)
    · refine i_refuse h (q := 6) (x := -6) rfl (by decide) (by decide) ?_ ?_
      · rw [f_X11_blow, h_weekT hd7, q_bnd, if_pos (by decide), h_r2, if_pos p, if_neg p2, q_bnd, if_neg (by decide)]; exact q_ret
      · intro M1 hE
        rw [f_X12_blow, q_wr, h_in6T hd7, q_bnd, if_pos (by decide), if_neg (by rw [(t0 _).1]; simp [p.1]), if_pos p.2]
        by_cases q4 : e ≤ 4
        · rw [if_neg (by rw [(t0 _).2.2.1]; simp [q4]), if_neg (fun z => p2 ⟨q4, z⟩), X12_blow_j48, X12_blow_j54, if_neg (by decide)]; exact q_ret
        · rw [if_pos (by rw [(t0 _).2.2.1]; exact q4), X12_blow_j48, X12_blow_j54, if_neg (by decide)]; exact q_ret
  · refine i_refuse h (q := 4) (x := -4) rfl (by decide) (by decide) ?_ ?_
    · rw [f_X11_blow, h_weekT hd7, q_bnd, if_pos (by decide), h_r2, if_neg p, q_bnd, if_neg (by decide)]; exact q_ret
    · intro M1 hE
      rw [f_X12_blow, q_wr, h_in6T hd7, q_bnd, if_pos (by decide)]
      by_cases q4 : (-4 : Int32) ≤ e
      · rw [if_neg (by rw [(t0 _).1]; simp [q4]), if_neg (fun z => p ⟨q4, z⟩), X12_blow_j33, X12_blow_j54, if_neg (by decide)]; exact q_ret
      · rw [if_pos (by rw [(t0 _).1]; exact q4), X12_blow_j33, X12_blow_j54, if_neg (by decide)]; exact q_ret
