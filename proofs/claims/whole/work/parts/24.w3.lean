theorem u_self {M : gk_M} {c i j : Nat} : gk_up M c i j (M c i j) = M := by
  funext c' i' j'
  by_cases h : c' = c ∧ i' = i ∧ j' = j
  · obtain ⟨rfl, rfl, rfl⟩ := h; exact u_s
  · exact u_n h
theorem keepC {N : Nat} {M1 M2 : gk_M} (hN : N ≤ 6) (h : M1 2 0 3 = nI N) (q : ∀ c i j, c < 13 → M2 c i j = M1 c i j) : a_c 0 M2 = a_c 0 M1 := a_c_congr h hN (fun c i j z => q c i j (by omega))
theorem keepR {N : Nat} {M1 M2 : gk_M} (hN : N ≤ 6) (h : M1 14 0 0 = nI N) (q : ∀ c i j, (c = 14 ∧ j < 5) ∨ c = 15 ∨ c = 16 → M2 c i j = M1 c i j) : a_r M2 = a_r M1 := a_r_ext h hN (fun j hj => q 14 0 j (Or.inl ⟨rfl, hj⟩)) (fun i j _ => q 15 i j (by omega)) (fun j s _ _ => q 16 j s (by omega))
theorem a_wf.scal {A : a_S} {N dd : Nat} (h : a_wf A N dd) {j : Nat} {v : Int32} (hj : j = 2 ∨ j = 3 ∨ j = 4) (h2 : j = 2 → 1 ≤ v.toInt ∧ v.toInt ≤ 40) (h3 : j = 3 → 1 ≤ v.toInt ∧ v.toInt ≤ 99) : a_wf (z_set A 0 j v) N dd := by
  obtain ⟨hN, hc, hdd, h4, hr, hs, hw, hsh⟩ := h
  have z3 : ∀ s k, z_set A 0 j v (s + 3) k = A (s + 3) k := fun s k => zs_n (by omega)
  refine ⟨hN, by rw [zs_n (by omega)]; exact hc, by rw [zs_n (by omega)]; exact hdd, h4, ?_, ?_, fun d hd => ?_, fun s hs => ?_⟩
  · by_cases q : j = 2
    · subst q; rw [zs_s]; exact h2 rfl
    · rw [zs_n (by omega)]; exact hr
  · by_cases q : j = 3
    · subst q; rw [zs_s]; exact h3 rfl
    · rw [zs_n (by omega)]; exact hs
  · unfold a_wd
    rw [zs_n (by omega), zs_n (by omega)]
    exact hw d hd
  · unfold a_sh
    rw [z3, z3, z3, z3, z3, z3]
    exact hsh s hs
theorem w_set (x v : Int32) {M : gk_M} (h : i_ok M) : i_same Int32 (f_X11_set x v) (f_X12_set x v) M := by
  obtain ⟨N, dd, hd, hw, hc, hN, c0, r0, hwc⟩ := h.get
  obtain ⟨-, er, es, -, -⟩ := i_cr hc
  have cj : ∀ s0, f_X11_set x v M = X11_set_j11 x v s0 M ∨ True := fun _ => Or.inr trivial
  rcases z_what x 1 1 rfl with ⟨w1, w2, w3⟩ | ⟨w1, w2⟩
  · have hx : x = 0 ∨ x = 1 := by
      have e1 : (0 : Int64).toInt = 0 := rfl
      have e2 : (1 : Int64).toInt = 1 := rfl
      rw [e1, e2] at w3
      rcases (show x.toInt = 0 ∨ x.toInt = 1 by omega) with q | q
      · exact Or.inl (z_eq.mpr q)
      · exact Or.inr (z_eq.mpr q)
    rcases hx with rfl | rfl
    · by_cases p1 : (1 : Int32) ≤ v
      · by_cases p2 : v ≤ 40
        · refine ⟨M 14 0 1, gk_up M 2 0 5 v, gk_up (gk_up (gk_up M 2 0 5 v) 14 0 13 0) 14 0 1 v, ?_, ?_, ?_⟩
          · rw [f_X11_set, if_neg (by decide), X11_set_j11, h_othT w1 w2, q_bnd, h_rng, if_pos p1, if_pos p2, q_bnd, h_fst0, q_bnd, if_pos rfl, if_neg (by decide), X11_set_j61, if_neg (by decide), q_wr, X11_set_j86, er]
          · rw [f_X12_set, q_wr, h_inT w3, q_bnd, if_pos (by decide), if_pos p1, if_neg (by decide), X12_set_j42, if_pos p2, X12_set_j51, if_pos (by decide), if_neg (by decide), X12_set_j77, if_neg (by decide), X12_set_j92, q_wr, if_pos (by decide), X12_set_j109, q_wr, u_self, u_n (by omega), u_n (by omega)]
          · have b : 1 ≤ v.toInt ∧ v.toInt ≤ 40 := ⟨z_le.mp p1, z_le.mp p2⟩
            refine h.becomes (A := z_set (a_r M) 0 2 v) (((i_F.up (n2_ice (by omega))).tr (i_F.up (n2_14 (by omega)))).tr (i_F.up (n2_14 (by omega)))) (fun j hj => ⟨by rw [u_n (by omega), u_n (by omega), u_n (by omega)], by rw [u_n (by omega), u_n (by omega), u_n (by omega)]⟩) ?_ ?_ (hw.scal (Or.inl rfl) (fun _ => b) (fun q => by omega)) hd
            · rw [← hc, ← a_c_up c0 hN (r0 := 0) (j0 := 2) (v := v) (Or.inl ⟨rfl, by decide⟩) (by omega)]
              exact keepC hN (by rw [show (l_c 0 2).1 = 2 from rfl, show (l_c 0 2).2.1 = 0 from rfl, show (l_c 0 2).2.2 = 5 from rfl, u_n (by omega)]; exact c0) (fun c i j q => by rw [u_n (by omega), u_n (by omega)]; rfl)
            · have e3 : a_r (gk_up (gk_up M 2 0 5 v) 14 0 13 0) = a_r M := keepR hN r0 (fun c i j q => by rw [u_n (by omega), u_n (by omega)])
              rw [← e3]
              exact a_r_up (M := gk_up (gk_up M 2 0 5 v) 14 0 13 0) (by rw [u_n (by omega), u_n (by omega)]; exact r0) hN (r0 := 0) (j0 := 2) (v := v) (Or.inl ⟨rfl, by decide⟩) (by omega)
        · refine i_refuse h (q := 6) (x := -6) rfl (by decide) (by decide) ?_ ?_
          · rw [f_X11_set, if_neg (by decide), X11_set_j11, h_othT w1 w2, q_bnd, h_rng, if_pos p1, if_neg p2, q_bnd, h_fst0, q_bnd, if_neg (by decide)]; exact q_ret
          · intro M1 hE
            rw [f_X12_set, q_wr, h_inT w3, q_bnd, if_pos (by decide), if_pos p1, if_neg (by decide), X12_set_j42, if_neg p2, X12_set_j51, if_neg (by decide)]; exact q_ret
      · refine i_refuse h (q := 4) (x := -4) rfl (by decide) (by decide) ?_ ?_
        · rw [f_X11_set, if_neg (by decide), X11_set_j11, h_othT w1 w2, q_bnd, h_rng, if_neg p1, q_bnd, h_fst0, q_bnd, if_neg (by decide)]; exact q_ret
        · intro M1 hE
          rw [f_X12_set, q_wr, h_inT w3, q_bnd, if_pos (by decide), if_neg p1, X12_set_j51, if_neg (by decide)]; exact q_ret
    · by_cases p1 : (1 : Int32) ≤ v
      · by_cases p2 : v ≤ 99
        · refine ⟨M 14 0 2, gk_up M 2 0 6 v, gk_up (gk_up (gk_up M 2 0 6 v) 14 0 13 0) 14 0 2 v, ?_, ?_, ?_⟩
          · rw [f_X11_set, if_pos (by decide), X11_set_j11, h_othT w1 w2, q_bnd, h_rng, if_pos p1, if_pos p2, q_bnd, h_fst0, q_bnd, if_pos rfl, if_pos (by decide), X11_set_j61, if_pos (by decide), q_wr, X11_set_j86, es]
          · rw [f_X12_set, q_wr, h_inT w3, q_bnd, if_pos (by decide), if_pos p1, if_pos (by decide), X12_set_j42, if_pos p2, X12_set_j51, if_pos (by decide), if_pos (by decide), X12_set_j77, if_pos (by decide), X12_set_j92, q_wr, if_neg (by decide), X12_set_j109, q_wr, u_self, u_n (by omega), u_n (by omega)]
          · have b : 1 ≤ v.toInt ∧ v.toInt ≤ 99 := ⟨z_le.mp p1, z_le.mp p2⟩
            refine h.becomes (A := z_set (a_r M) 0 3 v) (((i_F.up (n2_ice (by omega))).tr (i_F.up (n2_14 (by omega)))).tr (i_F.up (n2_14 (by omega)))) (fun j hj => ⟨by rw [u_n (by omega), u_n (by omega), u_n (by omega)], by rw [u_n (by omega), u_n (by omega), u_n (by omega)]⟩) ?_ ?_ (hw.scal (Or.inr (Or.inl rfl)) (fun q => by omega) (fun _ => b)) hd
            · rw [← hc, ← a_c_up c0 hN (r0 := 0) (j0 := 3) (v := v) (Or.inl ⟨rfl, by decide⟩) (by omega)]
              exact keepC hN (by rw [show (l_c 0 3).1 = 2 from rfl, show (l_c 0 3).2.1 = 0 from rfl, show (l_c 0 3).2.2 = 6 from rfl, u_n (by omega)]; exact c0) (fun c i j q => by rw [u_n (by omega), u_n (by omega)]; rfl)
            · have e3 : a_r (gk_up (gk_up M 2 0 6 v) 14 0 13 0) = a_r M := keepR hN r0 (fun c i j q => by rw [u_n (by omega), u_n (by omega)])
              rw [← e3]
              exact a_r_up (M := gk_up (gk_up M 2 0 6 v) 14 0 13 0) (by rw [u_n (by omega), u_n (by omega)]; exact r0) hN (r0 := 0) (j0 := 3) (v := v) (Or.inl ⟨rfl, by decide⟩) (by omega)
        · refine i_refuse h (q := 6) (x := -6) rfl (by decide) (by decide) ?_ ?_
          · rw [f_X11_set, if_pos (by decide), X11_set_j11, h_othT w1 w2, q_bnd, h_rng, if_pos p1, if_neg p2, q_bnd, h_fst0, q_bnd, if_neg (by decide)]; exact q_ret
          · intro M1 hE
            rw [f_X12_set, q_wr, h_inT w3, q_bnd, if_pos (by decide), if_pos p1, if_pos (by decide), X12_set_j42, if_neg p2, X12_set_j51, if_neg (by decide)]; exact q_ret
      · refine i_refuse h (q := 4) (x := -4) rfl (by decide) (by decide) ?_ ?_
        · rw [f_X11_set, if_pos (by decide), X11_set_j11, h_othT w1 w2, q_bnd, h_rng, if_neg p1, q_bnd, h_fst0, q_bnd, if_neg (by decide)]; exact q_ret
        · intro M1 hE
          rw [f_X12_set, q_wr, h_inT w3, q_bnd, if_pos (by decide), if_neg p1, X12_set_j51, if_neg (by decide)]; exact q_ret
  · refine i_refuse h (q := 2) (x := -2) rfl (by decide) (by decide) ?_ ?_
    · have key : ∀ s0, X11_set_j11 x v s0 M = f_X11_refuse (-2) M := fun s0 => by
        obtain ⟨z, hz⟩ := h_rngE v 1 s0 M
        rw [X11_set_j11, h_othF w1, q_bnd, hz, q_bnd, h_fstN (by decide), q_bnd, if_neg (by decide)]; exact q_ret
      rw [f_X11_set, key, key]
      split <;> rfl
    · intro M1 hE
      rw [f_X12_set, q_wr, h_inF w2, q_bnd, if_neg (by decide), X12_set_j51, if_neg (by decide)]; exact q_ret
theorem w_lasts (x : Int32) {M : gk_M} (h : i_ok M) : i_same Int32 (f_X11_lasts x) (f_X12_lasts x) M := by
  obtain ⟨N, dd, hd, hw, hc, hN, c0, r0, hwc⟩ := h.get
  rcases z_ship N hN x with ⟨a, ha, rfl⟩ | hx
  · obtain ⟨-, -, ⟨cw, hcw, ec⟩, ⟨b, hb, eb⟩, -, -⟩ := hw.2.2.2.2.2.2.2 a ha
    rw [a_rs r0 hN ha (by decide)] at ec eb
    have e2 := i_crs hc c0 r0 hN ha (show 2 < 6 by decide)
    have e3 := i_crs hc c0 r0 hN ha (show 3 < 6 by decide)
    have ha6 : a < 6 := by omega
    by_cases q : cw = 0
    · subst q
      refine i_read h (r := 99) ?_ ?_
      · rw [f_X11_lasts, h_nobT hN c0 ha, q_bnd, if_pos rfl, q_gd (q_in ha6 (by decide)), q_cl (by omega), show 6 * 0 + a = a by omega, e2, ec, if_neg (by decide)]
      · rw [f_X12_lasts, q_wr, h_shT hN (i_E.rf.th.cnt r0) ha, q_bnd, if_pos (by decide), q_gd (q_in ha6 (by decide)), q_cl (by omega), u_n (by omega), ec, if_neg (by decide), X12_lasts_j46, if_pos (by decide)]
    · have hnz : gk_nz (nI cw) = true := by
        have : ¬ nI cw = 0 := nI_ne0 (by omega) (by omega)
        simp [gk_nz, this]
      refine i_read h (r := nI (if b / cw ≤ 99 then b / cw else 99)) ?_ ?_
      · rw [f_X11_lasts, h_nobT hN c0 ha, q_bnd, if_pos rfl, q_gd (q_in ha6 (by decide)), q_cl (by omega), show 6 * 0 + a = a by omega, e2, ec, if_pos (by rw [z_lt, z_n (by omega)]; show (0 : Int) < cw; omega), q_gd hnz, e3, eb, pk_div (by omega) (by omega) (by omega), h_min, q_bnd]
        congr 2
        unfold z_mn
        rw [show (99 : Int32) = nI 99 from rfl]
        have hl : b / cw < 2 ^ 31 := Nat.lt_of_le_of_lt (Nat.div_le_self b cw) (by omega)
        by_cases p : b / cw < 99
        · rw [if_pos ((nI_ltI hl (by omega)).mpr p), if_pos (by omega)]
        · rw [if_neg (fun z => p ((nI_ltI hl (by omega)).mp z))]
          by_cases p2 : b / cw ≤ 99
          · rw [if_pos p2, show b / cw = 99 by omega]
          · rw [if_neg p2]
      · rw [f_X12_lasts, q_wr, h_shT hN (i_E.rf.th.cnt r0) ha, q_bnd, if_pos (by decide), q_gd (q_in ha6 (by decide)), q_cl (by omega), u_n (by omega), ec, if_pos (nI_ne0 (by omega) (by omega)), q_gd (q_in ha6 (by decide)), q_gd (q_in ha6 (by decide)), q_gd hnz, u_n (by omega), eb, pk_div (by omega) (by omega) (by omega), X12_lasts_j46, show (99 : Int32) = nI 99 from rfl]
        have hl : b / cw < 2 ^ 31 := Nat.lt_of_le_of_lt (Nat.div_le_self b cw) (by omega)
        by_cases p : b / cw ≤ 99
        · rw [if_pos ((nI_leI hl (by omega)).mpr p), if_pos p]
        · rw [if_neg (fun z => p ((nI_leI hl (by omega)).mp z)), if_neg p]
  · refine i_refuse h (q := 1) (x := -1) rfl (by decide) (by decide) ?_ ?_
    · rw [f_X11_lasts, h_nobF c0 hx, q_bnd, if_neg (by decide)]; exact q_ret
    · intro M1 hE
      rw [f_X12_lasts, q_wr, h_shF hN (hE.th.cnt r0) hx, q_bnd, if_neg (by decide)]; exact q_ret
