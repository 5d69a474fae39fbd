/-! ship -/
theorem z_n7 {x : Int32} {m : Nat} {mL : Int64} (hm : mL.toInt = (m : Int)) (h : Int64.toInt 0 ≤ x.toInt ∧ x.toInt ≤ mL.toInt) : ∃ n, n ≤ m ∧ x = nI n := by
  have e1 : (0 : Int64).toInt = 0 := rfl
  rw [e1, hm] at h
  exact z_of h.1 h.2
theorem w_ship (x y : Int32) {M : gk_M} (h : i_ok M) : i_same Int32 (f_X11_ship x y) (f_X12_ship x y) M := by
  obtain ⟨N, dd, hd, hw, hc, hN, c0, r0, hwc⟩ := h.get
  rcases z_ship N hN x with ⟨a, ha, rfl⟩ | hx
  · rcases z_what y 7 7 rfl with ⟨w1, w2, w3⟩ | ⟨w1, w2⟩
    · have ha6 : a < 6 := by omega
      obtain ⟨⟨k, hk, ek⟩, ⟨g, hg, eg⟩, -⟩ := hw.2.2.2.2.2.2.2 a ha
      rw [a_rs r0 hN ha (by decide)] at ek eg
      have ed : M 14 0 3 = nI dd := by rw [← a_r01 (M := M)]; exact hw.2.2.1
      obtain ⟨f1, -, -, -, fw⟩ := i_cr hc
      obtain ⟨E, hE0⟩ : ∃ E, E = z_dE k (nI g) (nI dd) (M 15 0 (dd % 7)) (M 15 1 (dd % 7)) (M 15 0 ((dd + 6) % 7)) := ⟨_, rfl⟩
      obtain ⟨F, hF0⟩ : ∃ F, F = z_dN k (nI g) (nI dd) (M 15 0 (dd % 7)) (M 15 1 (dd % 7)) (M 15 1 ((dd + 6) % 7)) := ⟨_, rfl⟩
      have dt : ∀ M1, i_E M M1 → f_X12_driftToday ((gk_up M1 14 0 13 0) 16 0 a) ((gk_up M1 14 0 13 0) 16 1 a) (gk_up M1 14 0 13 0) = some ((), gk_up (gk_up (gk_up M1 14 0 13 0) 14 0 15 E) 14 0 16 F) := fun M1 hE => by
        have q := hE.th
        rw [q 16 0 a (by unfold i_kp; omega), q 16 1 a (by unfold i_kp; omega), ek, eg, h_drTo (dd := dd) hk hg (by omega) _ (by rw [q 14 0 3 (by unfold i_kp; omega)]; exact ed), q 15 0 _ (by unfold i_kp; omega), q 15 1 _ (by unfold i_kp; omega), q 15 0 _ (by unfold i_kp; omega), q 15 1 _ (by unfold i_kp; omega), ← hE0, ← hF0]
      have m16 : ∀ M1, i_E M M1 → ∀ i, (gk_up (gk_up (gk_up M1 14 0 13 0) 14 0 15 E) 14 0 16 F) 16 i a = M 16 i a := fun M1 hE i => by rw [u_n (by omega), u_n (by omega), u_n (by omega)]; exact hE 16 i a (by unfold i_kp; omega)
      have m15 : ∀ M1, (gk_up (gk_up (gk_up M1 14 0 13 0) 14 0 15 E) 14 0 16 F) 14 0 15 = E := fun M1 => by rw [u_n (by omega), u_s]
      have m14 : ∀ M1, (gk_up (gk_up (gk_up M1 14 0 13 0) 14 0 15 E) 14 0 16 F) 14 0 16 = F := fun M1 => u_s
      have rk : ∀ M1, r_RK M1 (gk_up (gk_up (gk_up M1 14 0 13 0) 14 0 15 E) 14 0 16 F) := fun M1 => (i_th.tr (r_RK.up (by unfold r_sc; omega))).tr (r_RK.up (by unfold r_sc; omega))
      have cs : ∀ j, j < 6 → M 5 (6 * 0 + a) j = M 16 j a := fun j hj => by rw [show 6 * 0 + a = a by omega]; exact i_crs hc c0 r0 hN ha hj
      have air : ∃ M1, f_X4_airOf 0 (M 2 0 4) M = some ((), M1) ∧ a_Ch 1 M M1 ∧ (∀ c i j, c ≠ 0 → M1 c i j = M c i j) ∧ M1 0 0 0 = nI dd ∧ M1 0 0 1 = M 15 0 (dd % 7) ∧ M1 0 0 2 = M 15 1 (dd % 7) ∧ M1 0 0 3 = M 15 0 ((dd + 6) % 7) ∧ M1 0 0 4 = M 15 1 ((dd + 6) % 7) := by
        refine ⟨_, by rw [f1, ed]; exact h_air (by decide) (by omega) M, fun c i j h1 _ _ _ => by rw [u_n (by omega), u_n (by omega), u_n (by omega), u_n (by omega), u_n (by omega)], fun c i j h1 => by rw [u_n (by omega), u_n (by omega), u_n (by omega), u_n (by omega), u_n (by omega)], by rw [u_n (by omega), u_n (by omega), u_n (by omega), u_n (by omega), u_s], by rw [u_n (by omega), u_n (by omega), u_n (by omega), u_s]; exact (fw _ (by omega)).1, by rw [u_n (by omega), u_n (by omega), u_s]; exact (fw _ (by omega)).2, by rw [u_n (by omega), u_s]; exact (fw _ (by omega)).1, by rw [u_s]; exact (fw _ (by omega)).2⟩
      obtain ⟨M1, a1, a2, a3, b0, b1, b2, b3, b4⟩ := air
      have a5 : ∀ j, j < 6 → M1 5 (6 * 0 + a) j = M 16 j a := fun j hj => by rw [a3 _ _ _ (by decide)]; exact cs j hj
      obtain ⟨n, hn, rfl⟩ := z_n7 (m := 7) (mL := 7) rfl w3
      rcases (show n = 0 ∨ n = 1 ∨ n = 2 ∨ n = 3 ∨ n = 4 ∨ n = 5 ∨ n = 6 ∨ n = 7 by omega) with rfl | rfl | rfl | rfl | rfl | rfl | rfl | rfl
      · refine ⟨M 16 0 a, M, gk_up (gk_up (gk_up M 14 0 13 0) 14 0 15 E) 14 0 16 F, ?_, ?_, h.mind a_Ch.rf (rk M)⟩
        · rw [f_X11_ship, h_nobT hN c0 ha, q_bnd, h_othT w1 w2, q_bnd, h_fst0, q_bnd, if_pos rfl, q_gd (q_in ha6 (by decide)), if_pos (by decide), q_cl (show a < 2 ^ 31 by omega), cs 0 (by decide)]
        · rw [f_X12_ship, q_wr, h_shT hN (i_E.rf.th.cnt r0) ha, q_bnd, if_neg (by decide), h_inT w3, q_bnd, if_pos (by decide), q_gd (q_in ha6 (by decide)), q_gd (q_in ha6 (by decide)), q_cl (show a < 2 ^ 31 by omega), dt M i_E.rf, q_bnd, if_pos (by decide), q_gd (q_in ha6 (by decide)), m16 M i_E.rf]
      · refine ⟨M 16 1 a, M, gk_up (gk_up (gk_up M 14 0 13 0) 14 0 15 E) 14 0 16 F, ?_, ?_, h.mind a_Ch.rf (rk M)⟩
        · rw [f_X11_ship, h_nobT hN c0 ha, q_bnd, h_othT w1 w2, q_bnd, h_fst0, q_bnd, if_pos rfl, q_gd (q_in ha6 (by decide)), if_neg (by decide), if_pos (by decide), q_cl (show a < 2 ^ 31 by omega), cs 1 (by decide)]
        · rw [f_X12_ship, q_wr, h_shT hN (i_E.rf.th.cnt r0) ha, q_bnd, if_neg (by decide), h_inT w3, q_bnd, if_pos (by decide), q_gd (q_in ha6 (by decide)), q_gd (q_in ha6 (by decide)), q_cl (show a < 2 ^ 31 by omega), dt M i_E.rf, q_bnd, if_neg (by decide), if_pos (by decide), q_gd (q_in ha6 (by decide)), m16 M i_E.rf]
      · refine ⟨M 16 2 a, M, gk_up (gk_up (gk_up M 14 0 13 0) 14 0 15 E) 14 0 16 F, ?_, ?_, h.mind a_Ch.rf (rk M)⟩
        · rw [f_X11_ship, h_nobT hN c0 ha, q_bnd, h_othT w1 w2, q_bnd, h_fst0, q_bnd, if_pos rfl, q_gd (q_in ha6 (by decide)), if_neg (by decide), if_neg (by decide), if_pos (by decide), q_cl (show a < 2 ^ 31 by omega), cs 2 (by decide)]
        · rw [f_X12_ship, q_wr, h_shT hN (i_E.rf.th.cnt r0) ha, q_bnd, if_neg (by decide), h_inT w3, q_bnd, if_pos (by decide), q_gd (q_in ha6 (by decide)), q_gd (q_in ha6 (by decide)), q_cl (show a < 2 ^ 31 by omega), dt M i_E.rf, q_bnd, if_neg (by decide), if_neg (by decide), if_pos (by decide), q_gd (q_in ha6 (by decide)), m16 M i_E.rf]
      · refine ⟨M 16 3 a, M, gk_up (gk_up (gk_up M 14 0 13 0) 14 0 15 E) 14 0 16 F, ?_, ?_, h.mind a_Ch.rf (rk M)⟩
        · rw [f_X11_ship, h_nobT hN c0 ha, q_bnd, h_othT w1 w2, q_bnd, h_fst0, q_bnd, if_pos rfl, q_gd (q_in ha6 (by decide)), if_neg (by decide), if_neg (by decide), if_neg (by decide), if_pos (by decide), q_cl (show a < 2 ^ 31 by omega), cs 3 (by decide)]
        · rw [f_X12_ship, q_wr, h_shT hN (i_E.rf.th.cnt r0) ha, q_bnd, if_neg (by decide), h_inT w3, q_bnd, if_pos (by decide), q_gd (q_in ha6 (by decide)), q_gd (q_in ha6 (by decide)), q_cl (show a < 2 ^ 31 by omega), dt M i_E.rf, q_bnd, if_neg (by decide), if_neg (by decide), if_neg (by decide), if_pos (by decide), q_gd (q_in ha6 (by decide)), m16 M i_E.rf]
      · refine ⟨1000000 + M 16 4 a, M, gk_up (gk_up (gk_up M 14 0 13 0) 14 0 15 E) 14 0 16 F, ?_, ?_, h.mind a_Ch.rf (rk M)⟩
        · rw [f_X11_ship, h_nobT hN c0 ha, q_bnd, h_othT w1 w2, q_bnd, h_fst0, q_bnd, if_pos rfl, q_gd (q_in ha6 (by decide)), if_neg (by decide), if_neg (by decide), if_neg (by decide), if_neg (by decide), if_pos (by decide), q_cl (show a < 2 ^ 31 by omega), cs 4 (by decide)]
        · rw [f_X12_ship, q_wr, h_shT hN (i_E.rf.th.cnt r0) ha, q_bnd, if_neg (by decide), h_inT w3, q_bnd, if_pos (by decide), q_gd (q_in ha6 (by decide)), q_gd (q_in ha6 (by decide)), q_cl (show a < 2 ^ 31 by omega), dt M i_E.rf, q_bnd, if_neg (by decide), if_neg (by decide), if_neg (by decide), if_neg (by decide), if_pos (by decide), q_gd (q_in ha6 (by decide)), m16 M i_E.rf]
      · refine ⟨1000000 + M 16 5 a, M, gk_up (gk_up (gk_up M 14 0 13 0) 14 0 15 E) 14 0 16 F, ?_, ?_, h.mind a_Ch.rf (rk M)⟩
        · rw [f_X11_ship, h_nobT hN c0 ha, q_bnd, h_othT w1 w2, q_bnd, h_fst0, q_bnd, if_pos rfl, q_gd (q_in ha6 (by decide)), if_neg (by decide), if_neg (by decide), if_neg (by decide), if_neg (by decide), if_neg (by decide), if_pos (by decide), q_cl (show a < 2 ^ 31 by omega), cs 5 (by decide)]
        · rw [f_X12_ship, q_wr, h_shT hN (i_E.rf.th.cnt r0) ha, q_bnd, if_neg (by decide), h_inT w3, q_bnd, if_pos (by decide), q_gd (q_in ha6 (by decide)), q_gd (q_in ha6 (by decide)), q_cl (show a < 2 ^ 31 by omega), dt M i_E.rf, q_bnd, if_neg (by decide), if_neg (by decide), if_neg (by decide), if_neg (by decide), if_neg (by decide), if_pos (by decide), q_gd (q_in ha6 (by decide)), m16 M i_E.rf]
      · refine ⟨1000000 + E, M1, gk_up (gk_up (gk_up M1 14 0 13 0) 14 0 15 E) 14 0 16 F, ?_, ?_, h.mind a2 (rk M1)⟩
        · rw [f_X11_ship, h_nobT hN c0 ha, q_bnd, h_othT w1 w2, q_bnd, h_fst0, q_bnd, if_pos rfl, q_gd (q_in ha6 (by decide)), if_neg (by decide), if_neg (by decide), if_neg (by decide), if_neg (by decide), if_neg (by decide), if_neg (by decide), if_neg (by decide), q_cl (show a < 2 ^ 31 by omega), X11_ship_j134, q_gd (q_lt (show 6 * 0 + a < 18 by omega)), f_X11_driftToday, q_gd (q_lt (show 6 * 0 + a < 18 by omega)), a1, q_bnd, q_gd (by rw [a5 0 (by decide), ek]; exact q_in hk (by decide)), if_neg (by decide), a5 0 (by decide), ek, a5 1 (by decide), eg, q_cl (show k < 2 ^ 31 by omega), h_drE hk, q_bnd, q_bnd, b0, b1, b2, b3, ← hE0]
        · rw [f_X12_ship, q_wr, h_shT hN ((i_E.ch a2).th.cnt r0) ha, q_bnd, if_neg (by decide), h_inT w3, q_bnd, if_pos (by decide), q_gd (q_in ha6 (by decide)), q_gd (q_in ha6 (by decide)), q_cl (show a < 2 ^ 31 by omega), dt M1 (i_E.ch a2), q_bnd, if_neg (by decide), if_neg (by decide), if_neg (by decide), if_neg (by decide), if_neg (by decide), if_neg (by decide), if_pos (by decide), m15]
      · refine ⟨1000000 + F, M1, gk_up (gk_up (gk_up M1 14 0 13 0) 14 0 15 E) 14 0 16 F, ?_, ?_, h.mind a2 (rk M1)⟩
        · rw [f_X11_ship, h_nobT hN c0 ha, q_bnd, h_othT w1 w2, q_bnd, h_fst0, q_bnd, if_pos rfl, q_gd (q_in ha6 (by decide)), if_neg (by decide), if_neg (by decide), if_neg (by decide), if_neg (by decide), if_neg (by decide), if_neg (by decide), if_pos (by decide), q_cl (show a < 2 ^ 31 by omega), X11_ship_j134, q_gd (q_lt (show 6 * 0 + a < 18 by omega)), f_X11_driftToday, q_gd (q_lt (show 6 * 0 + a < 18 by omega)), a1, q_bnd, q_gd (by rw [a5 0 (by decide), ek]; exact q_in hk (by decide)), if_pos rfl, a5 0 (by decide), ek, a5 1 (by decide), eg, q_cl (show k < 2 ^ 31 by omega), h_drN hk, q_bnd, q_bnd, b0, b1, b2, b4, ← hF0]
        · rw [f_X12_ship, q_wr, h_shT hN ((i_E.ch a2).th.cnt r0) ha, q_bnd, if_neg (by decide), h_inT w3, q_bnd, if_pos (by decide), q_gd (q_in ha6 (by decide)), q_gd (q_in ha6 (by decide)), q_cl (show a < 2 ^ 31 by omega), dt M1 (i_E.ch a2), q_bnd, if_neg (by decide), if_neg (by decide), if_neg (by decide), if_neg (by decide), if_neg (by decide), if_neg (by decide), if_neg (by decide), m14]
    · refine i_refuse h (q := 2) (x := -2) rfl (by decide) (by decide) ?_ ?_
      · rw [f_X11_ship, h_nobT hN c0 ha, q_bnd, h_othF w1, q_bnd, h_fst0, q_bnd, if_neg (by decide)]; exact q_ret
      · intro M1 hE
        rw [f_X12_ship, q_wr, h_shT hN (hE.th.cnt r0) ha, q_bnd, if_neg (by decide), h_inF w2, q_bnd, if_neg (by decide), X12_ship_j25, h_shT hN (hE.th.cnt r0) ha, q_bnd, if_neg (by decide), X12_ship_j40]; exact q_ret
  · refine i_refuse h (q := 1) (x := -1) rfl (by decide) (by decide) ?_ ?_
    · obtain ⟨z, hz⟩ := h_othE y 7 M
      rw [f_X11_ship, h_nobF c0 hx, q_bnd, hz, q_bnd, h_fstN (by decide), q_bnd, if_neg (by decide)]; exact q_ret
    · intro M1 hE
      rw [f_X12_ship, q_wr, h_shF hN (hE.th.cnt r0) hx, q_bnd, if_pos rfl, X12_ship_j25, h_shF hN (hE.th.cnt r0) hx, q_bnd, if_pos rfl, X12_ship_j40]; exact q_ret
/-! judge -/
def z_jd (row : Nat → Int32) (s : Nat) : Nat → a_S → Nat → Nat → Int32
  | 0, _, _, _ => -9
  | d + 1, B, dd, m => if m % 2 = 0 then (if row m = B (s + 3) 4 then z_jd row s d B dd (m + 1) else nI m) else (if row m = B (s + 3) 5 then z_jd row s d (z_day B dd) (dd + 1) (m + 1) else nI m)
theorem z_r2 {m : Nat} (hm : m < 100) : nI m - nI m / 2 * 2 = nI (m % 2) := pk_rem (a := m) (d := 2) (by omega) (by decide) (by decide)
theorem h_jdC {N s n : Nat} (hs : s < N) (hn : n ≤ 12) {row : Nat → Int32} : ∀ (d fuel m dd : Nat) (M : gk_M), m + d = n → d < fuel → dd + d ≤ 10100 → a_wf (a_c 1 M) N dd → M 6 0 9 = nI n → (∀ j, j < n → M 12 0 j = row j) →
    ∃ M', X11_firstUntrue_l23 fuel (6 * 1 + s) (nI m) M = some (z_jd row s d (a_c 1 M) dd m, M') ∧ a_Ch 1 M M' := by
  intro d
  induction d with
  | zero =>
    intro fuel m dd M hm hf hd hw h9 hr
    obtain ⟨k, rfl⟩ : ∃ k, fuel = k + 1 := ⟨fuel - 1, by omega⟩
    have hN := hw.1
    refine ⟨M, ?_, a_Ch.rf⟩
    rw [X11_firstUntrue_l23]
    dsimp only
    rw [q_gd (q_lt (by omega)), h9, if_pos (nI_le (by omega) (by omega)), z_jd]
  | succ d ih =>
    intro fuel m dd M hm hf hd hw h9 hr
    obtain ⟨k, rfl⟩ : ∃ k, fuel = k + 1 := ⟨fuel - 1, by omega⟩
    have hN := hw.1
    have h18 : 6 * 1 + s < 18 := by omega
    have hm12 : m < 12 := by omega
    have p4 := a_cs (j := 4) hw.cnt hN hs (by decide)
    have p5 := a_cs (j := 5) hw.cnt hN hs (by decide)
    by_cases e : m % 2 = 0
    · have e' : nI (m % 2) = 0 := by rw [e]; rfl
      by_cases t : row m = a_c 1 M (s + 3) 4
      · obtain ⟨M', f1, f2⟩ := ih k (m + 1) dd M (by omega) (by omega) (by omega) hw h9 hr
        refine ⟨M', ?_, f2⟩
        rw [X11_firstUntrue_l23]
        dsimp only
        rw [q_gd (q_lt h18), h9, if_neg (nI_ge (by omega) (by omega)), z_r2 (by omega), if_neg (fun q => q e'), X11_firstUntrue_j42, q_gd (q_lt h18), q_gd (q_in hm12 (by decide)), if_neg (by decide), X11_firstUntrue_j66, q_gd (q_lt h18), q_cl (by omega), hr m (by omega), ← p4, if_pos t, if_pos (by decide), X11_firstUntrue_j85, q_gd (q_lt h18), nI_1, f1, z_jd, if_pos e, if_pos t]
      · refine ⟨M, ?_, a_Ch.rf⟩
        rw [X11_firstUntrue_l23]
        dsimp only
        rw [q_gd (q_lt h18), h9, if_neg (nI_ge (by omega) (by omega)), z_r2 (by omega), if_neg (fun q => q e'), X11_firstUntrue_j42, q_gd (q_lt h18), q_gd (q_in hm12 (by decide)), if_neg (by decide), X11_firstUntrue_j66, q_gd (q_lt h18), q_cl (by omega), hr m (by omega), ← p4, if_neg t, z_jd, if_pos e, if_neg t]
    · have e' : ¬ nI (m % 2) = 0 := nI_ne0 (by omega) (by omega)
      by_cases t : row m = a_c 1 M (s + 3) 5
      · obtain ⟨M1, g1, g2, g3⟩ := h_dayW (k := 1) (by decide) hw
        have hw1 : a_wf (a_c 1 M1) N (dd + 1) := by rw [g2]; exact hw.day (by omega)
        obtain ⟨M', f1, f2⟩ := ih k (m + 1) (dd + 1) M1 (by omega) (by omega) (by omega) hw1 (by rw [g3 6 0 9 (by omega) (by omega) (by omega) (by omega)]; exact h9) (fun j hj => by rw [g3 12 0 j (by omega) (by omega) (by omega) (by omega)]; exact hr j hj)
        refine ⟨M', ?_, g3.tr f2⟩
        rw [X11_firstUntrue_l23]
        dsimp only
        rw [q_gd (q_lt h18), h9, if_neg (nI_ge (by omega) (by omega)), z_r2 (by omega), if_pos e', X11_firstUntrue_j42, q_gd (q_lt h18), q_gd (q_in hm12 (by decide)), if_pos rfl, X11_firstUntrue_j66, q_gd (q_lt h18), q_cl (by omega), hr m (by omega), ← p5, if_pos t, if_neg (by decide), g1, q_bnd, X11_firstUntrue_j85, q_gd (q_lt h18), nI_1, f1, g2, z_jd, if_neg e, if_pos t]
      · refine ⟨M, ?_, a_Ch.rf⟩
        rw [X11_firstUntrue_l23]
        dsimp only
        rw [q_gd (q_lt h18), h9, if_neg (nI_ge (by omega) (by omega)), z_r2 (by omega), if_pos e', X11_firstUntrue_j42, q_gd (q_lt h18), q_gd (q_in hm12 (by decide)), if_pos rfl, X11_firstUntrue_j66, q_gd (q_lt h18), q_cl (by omega), hr m (by omega), ← p5, if_neg t, z_jd, if_neg e, if_neg t]
theorem h_jdR {N s n : Nat} (hs : s < N) (hn : n ≤ 12) {row : Nat → Int32} : ∀ (d fuel m dd : Nat) (M : gk_M), m + d = n → d + 1 < fuel → dd + d ≤ 10100 → a_wf (a_r M) N dd → (∀ j, j < n → M 22 0 j = row j) →
    ∃ M', X12_judge_l39 fuel (nI s) (nI n) (-9) (nI m) M = some (z_jd row s d (a_r M) dd m, c_F 0 55 M') ∧ r_RC M M' := by
  intro d
  induction d with
  | zero =>
    intro fuel m dd M hm hf hd hw hr
    obtain ⟨k, rfl⟩ : ∃ k, fuel = k + 1 := ⟨fuel - 1, by omega⟩
    refine ⟨M, ?_, r_RC.rf⟩
    rw [X12_judge_l39]
    dsimp only
    rw [if_pos (nI_le (by omega) (by omega)), X12_judge_j104, h_close, q_bnd, z_jd]
  | succ d ih =>
    intro fuel m dd M hm hf hd hw hr
    obtain ⟨k, rfl⟩ : ∃ k, fuel = k + 1 := ⟨fuel - 1, by omega⟩
    have hN := hw.1
    have hm12 : m < 12 := by omega
    have hs6 : s < 6 := by omega
    have p4 := a_rs (j := 4) hw.cntR hN hs (by decide)
    have p5 := a_rs (j := 5) hw.cntR hN hs (by decide)
    obtain ⟨M1, g1, g2, g3⟩ := h_daysOn (n := m % 2) (N := N) (dd := dd) (by omega) (M := M) (by omega) hw
    have st : X12_judge_l39 (k + 1) (nI s) (nI n) (-9) (nI m) M = if ¬ row m = (if m % 2 = 0 then a_r M (s + 3) 4 else a_r M (s + 3) 5) then X12_judge_l39 k (nI s) (nI n) (nI m) (nI (m + 1)) M1 else X12_judge_l39 k (nI s) (nI n) (-9) (nI (m + 1)) M1 := by
      rw [X12_judge_l39]
      dsimp only
      rw [if_neg (nI_ge (by omega) (by omega)), if_neg (show ¬ (0 : Int32) ≤ -9 by decide), q_gd (q_in hm12 (by decide)), z_r2 (by omega), q_cl (show m < 2 ^ 31 by omega), q_cl (show s < 2 ^ 31 by omega), hr m (by omega)]
      by_cases e : m % 2 = 0
      · have e' : nI (m % 2) = 0 := by rw [e]; rfl
        rw [if_neg (fun q => q e'), q_gd (q_in hs6 (by decide)), if_pos e, X12_judge_j78, ← p4, X12_judge_j88, X12_judge_j88, z_r2 (by omega), g1, q_bnd, nI_1]
        rfl
      · have e' : ¬ nI (m % 2) = 0 := nI_ne0 (by omega) (by omega)
        rw [if_pos e', q_gd (q_in hs6 (by decide)), if_neg e, X12_judge_j78, ← p5, X12_judge_j88, X12_judge_j88, z_r2 (by omega), g1, q_bnd, nI_1]
        rfl
    by_cases t : row m = (if m % 2 = 0 then a_r M (s + 3) 4 else a_r M (s + 3) 5)
    · rw [st, if_neg (fun q => q t)]
      have hr1 : ∀ j, j < n → M1 22 0 j = row j := fun j hj => by rw [g3 22 0 j (by unfold r_st; omega)]; exact hr j hj
      by_cases e : m % 2 = 0
      · rw [if_pos e] at t
        rw [e] at g2
        obtain ⟨M', f1, f2⟩ := ih k (m + 1) dd M1 (by omega) (by omega) (by omega) (by rw [g2]; exact hw) hr1
        refine ⟨M', ?_, g3.tr f2⟩
        rw [f1, g2, z_jd, if_pos e, if_pos t]
        rfl
      · rw [if_neg e] at t
        rw [show m % 2 = 1 by omega] at g2
        have g2 : a_r M1 = z_day (a_r M) dd := g2
        obtain ⟨M', f1, f2⟩ := ih k (m + 1) (dd + 1) M1 (by omega) (by omega) (by omega) (by rw [g2]; exact hw.day (by omega)) hr1
        refine ⟨M', ?_, g3.tr f2⟩
        rw [f1, g2, z_jd, if_neg e, if_pos t]
    · refine ⟨M1, ?_, g3⟩
      obtain ⟨k2, rfl⟩ : ∃ k2, k = k2 + 1 := ⟨k - 1, by omega⟩
      have hz : X12_judge_l39 (k2 + 1) (nI s) (nI n) (nI m) (nI (m + 1)) M1 = some (nI m, c_F 0 55 M1) := by
        simp only [X12_judge_l39, X12_judge_j104, h_close, q_bnd, if_pos (show (0 : Int32) ≤ nI m from nI_pos' (by omega))]
        split <;> rfl
      rw [st, if_pos t, hz, z_jd]
      by_cases e : m % 2 = 0
      · rw [if_pos e] at t
        rw [if_pos e, if_neg t]
      · rw [if_neg e] at t
        rw [if_neg e, if_neg t]
theorem w_judge (x : Int32) {M : gk_M} (h : i_ok M) : i_same Int32 (f_X11_judge x) (f_X12_judge x) M := by
  obtain ⟨N, dd, hd, hw, hc, hN, c0, r0, hwc⟩ := h.get
  rcases z_ship N hN x with ⟨a, ha, rfl⟩ | hx
  · obtain ⟨z, hz, o1, o2, o3⟩ := h.1.2.2.2
    obtain ⟨M1, e1, e2, e3⟩ := h_copyW (k := 1) (o := 0) (by decide) (by decide) (by decide) hwc
    have hw1 : a_wf (a_c 1 M1) N dd := by rw [e2]; exact hwc
    obtain ⟨M2, f1, f2⟩ := h_jdC (N := N) ha hz (row := fun j => M 22 0 j) z 200 0 dd M1 (by omega) (by omega) (by omega) hw1 (by rw [e3 6 0 9 (by omega) (by omega) (by omega) (by omega)]; exact o1) (fun j hj => by rw [e3 12 0 j (by omega) (by omega) (by omega) (by omega)]; exact o3 j hj)
    have ch := e3.tr f2
    have hok : i_ok (gk_up (gk_up M 6 0 9 0) 14 0 32 0) := by
      refine ⟨⟨⟨N, dd, hd, ?_, ?_⟩, ?_, ?_, ?_⟩, ?_⟩
      · rw [keepR hN r0 (fun c i j q => by rw [u_n (by omega), u_n (by omega)])]; exact hw
      · rw [keepR hN r0 (fun c i j q => by rw [u_n (by omega), u_n (by omega)]), ← hc]
        exact a_c_congr c0 hN (fun c i j q => by rw [u_n (by omega), u_n (by omega)])
      · exact h.1.2.1.c3 (by rw [u_n (by omega), u_n (by omega)]) (by rw [u_n (by omega), u_n (by omega)]) (fun j => by rw [u_n (by omega), u_n (by omega)]) (fun c i j q => by rw [u_n (by omega), u_n (by omega)])
      · exact h.1.2.2.1.c3 (by rw [u_n (by omega), u_n (by omega)]) (by rw [u_n (by omega), u_n (by omega)]) (fun j => by rw [u_n (by omega), u_n (by omega)]) (fun j => by rw [u_n (by omega), u_n (by omega)])
      · exact ⟨0, by omega, by rw [u_n (by omega), u_s]; rfl, by rw [u_s]; rfl, fun j hj => absurd hj (by omega)⟩
      · intro j hj
        rw [u_n (by omega), u_n (by omega), u_n (by omega), u_n (by omega)]
        exact h.2 j hj
    have ch2 : a_Ch 1 (gk_up (gk_up M 6 0 9 0) 14 0 32 0) (gk_up (gk_up M2 6 0 9 0) 14 0 32 0) := fun c i j q1 q2 q3 q4 => by
      by_cases t1 : c = 14 ∧ i = 0 ∧ j = 32
      · obtain ⟨rfl, rfl, rfl⟩ := t1; rw [u_s, u_s]
      · rw [u_n t1, u_n t1]
        by_cases t2 : c = 6 ∧ i = 0 ∧ j = 9
        · obtain ⟨rfl, rfl, rfl⟩ := t2; rw [u_s, u_s]
        · rw [u_n t2, u_n t2]; exact ch c i j q1 q2 q3 q4
    have sw : gk_up (gk_up (gk_up M2 6 0 9 0) 14 0 13 0) 14 0 32 0 = gk_up (gk_up (gk_up M2 6 0 9 0) 14 0 32 0) 14 0 13 0 := by
      funext c i j
      by_cases t1 : c = 14 ∧ i = 0 ∧ j = 32
      · obtain ⟨rfl, rfl, rfl⟩ := t1; rw [u_s, u_n (by omega), u_s]
      · rw [u_n t1]
        by_cases t2 : c = 14 ∧ i = 0 ∧ j = 13
        · obtain ⟨rfl, rfl, rfl⟩ := t2; rw [u_s, u_s]
        · rw [u_n t2, u_n t2, u_n t1]
    obtain ⟨N', dd', hd', hwk, -, -, -, -, -⟩ := hok.get
    have ark : a_r (gk_up (gk_up M 6 0 9 0) 14 0 32 0) = a_r M := keepR hN r0 (fun c i j q => by rw [u_n (by omega), u_n (by omega)])
    obtain ⟨g1, g2, g3⟩ := i_open (N := N) (dd := dd) (by rw [ark]; exact hw) ch2
    rw [ark] at g1
    have hwo : a_wf (a_r (c_T 0 55 (gk_up (gk_up (gk_up M2 6 0 9 0) 14 0 32 0) 14 0 13 0))) N dd := by rw [g1]; exact hw
    obtain ⟨M3, k1, k2⟩ := h_jdR (N := N) ha hz (row := fun j => M 22 0 j) z 200 0 dd _ (by omega) (by omega) (by omega) hwo (fun j hj => by rw [c_Tn (by omega) (by omega), u_n (by omega), u_n (by omega), u_n (by omega)]; exact ch 22 0 j (by omega) (by omega) (by omega) (by omega))
    rw [g1] at k1
    refine ⟨z_jd (fun j => M 22 0 j) a z (a_r M) dd 0, gk_up M2 6 0 9 0, c_F 0 55 M3, ?_, ?_, hok.mind ch2 (i_th.tr (c_FK k2))⟩
    · rw [e2, hc] at f1
      rw [f_X11_judge, h_nobT hN c0 ha, q_bnd, if_pos rfl, f_X11_firstUntrue, e1, q_bnd, q_gd (q_in (show a < 6 by omega) (by decide)), q_cl (show a < 2 ^ 31 by omega), show (0 : Int32) = nI 0 from rfl, f1, q_bnd, q_wr]
    · have r1 : (gk_up (gk_up M2 6 0 9 0) 14 0 13 0) 14 0 0 = nI N := by rw [u_n (by omega), u_n (by omega), ch 14 0 0 (by omega) (by omega) (by omega) (by omega)]; exact r0
      have r32 : (gk_up (gk_up M2 6 0 9 0) 14 0 13 0) 14 0 32 = nI z := by rw [u_n (by omega), u_n (by omega), ch 14 0 32 (by omega) (by omega) (by omega) (by omega)]; exact o2
      rw [f_X12_judge, q_wr, h_shT hN r1 ha, q_bnd, if_pos (by decide), q_wr, r32, h_open, q_bnd, sw]
      exact k1
  · refine i_refuse h (q := 1) (x := -1) rfl (by decide) (by decide) ?_ ?_
    · rw [f_X11_judge, h_nobF c0 hx, q_bnd, if_neg (by decide)]; exact q_ret
    · intro M1 hE
      rw [f_X12_judge, q_wr, h_shF hN (hE.th.cnt r0) hx, q_bnd, if_neg (by decide)]; exact q_ret
