/-- n of 0 .. m days, or refused -/
theorem z_n60 (x m : Int32) (k : Nat) (hm : m.toInt = (k : Int)) (hk : k < 1000) : (∃ n, n ≤ k ∧ x = nI n ∧ 0 ≤ x ∧ x ≤ m) ∨ (¬ 0 ≤ x) ∨ (0 ≤ x ∧ ¬ x ≤ m) := by
  have e0 : (0 : Int32).toInt = 0 := rfl
  by_cases h0 : 0 ≤ x
  · by_cases h1 : x ≤ m
    · obtain ⟨n, hn, e⟩ := z_of (x := x) (n := k) (by have := z_le.mp h0; omega) (by have := z_le.mp h1; omega)
      exact Or.inl ⟨n, hn, e, h0, h1⟩
    · exact Or.inr (Or.inr ⟨h0, h1⟩)
  · exact Or.inr (Or.inl h0)
theorem h_wd {x m : Int32} {M : gk_M} : f_X12_wrongDays x m M = some (if 0 ≤ x then if x ≤ m then 0 else -6 else -4, M) := by
  rw [f_X12_wrongDays]
  split
  · split <;> rfl
  · rfl
theorem h_behL {N n s : Nat} (hn : n ≤ 60) (hs : s < N) : ∀ (d fuel m dd : Nat) (M : gk_M), m + d = n → d < fuel → dd + d ≤ 10100 → a_wf (a_c 1 M) N dd →
    ∃ M', X11_behind_l45 fuel (nI s) (nI n) (nI m) M = some ((100000 : Int64) * (z_days (a_c 1 M) dd d (s + 3) 4 - M 5 s 4).toInt64 + (z_days (a_c 1 M) dd d (s + 3) 5 - M 5 s 5).toInt64, M') ∧ a_Ch 1 M M' := by
  intro d
  induction d with
  | zero =>
    intro fuel m dd M hm hf hd hw
    obtain ⟨k, rfl⟩ : ∃ k, fuel = k + 1 := ⟨fuel - 1, by omega⟩
    have hN := hw.1
    refine ⟨M, ?_, a_Ch.rf⟩
    simp only [X11_behind_l45, if_pos (show nI n ≤ nI m from nI_le (by omega) (by omega)), q_gd (q_in (show s < 6 by omega) (by decide)), q_cl (show s < 2 ^ 31 by omega), z_days]
    rw [a_cs hw.cnt hN hs (by decide), a_cs hw.cnt hN hs (by decide), show 6 * 0 + s = s by omega]
  | succ d ih =>
    intro fuel m dd M hm hf hd hw
    obtain ⟨k, rfl⟩ : ∃ k, fuel = k + 1 := ⟨fuel - 1, by omega⟩
    have hN := hw.1
    obtain ⟨M1, e1, e2, e3⟩ := h_dayW (k := 1) (by decide) hw
    have hw1 : a_wf (a_c 1 M1) N (dd + 1) := by rw [e2]; exact hw.day (by omega)
    obtain ⟨M', f1, f2⟩ := ih k (m + 1) (dd + 1) M1 (by omega) (by omega) (by omega) hw1
    refine ⟨M', ?_, e3.tr f2⟩
    have q : ∀ j, M1 5 s j = M 5 s j := fun j => e3 5 s j (by omega) (by omega) (by omega) (by omega)
    simp only [X11_behind_l45, if_neg (show ¬ nI n ≤ nI m from nI_ge (by omega) (by omega)), nI_1, e1, q_bnd, f1, e2, z_days_sh, q]
theorem w_behind (x y : Int32) {M : gk_M} (h : i_ok M) : i_same Int64 (f_X11_behind x y) (f_X12_behind x y) M := by
  obtain ⟨N, dd, hd, hw, hc, hN, c0, r0, hwc⟩ := h.get
  have refu : ∀ (v : Int32) (q : Nat), v = -nI q → 0 < q → q < 7 → ¬ 0 ≤ v → f_X11_behind x y M = gk_bnd (f_X11_refuse v M) (fun r20 M19 => some ((4000000000000000000 : Int64) - r20.toInt64, M19)) → (∀ M1, i_E M M1 → f_X12_behind x y M1 = X12_behind_j23 x y v (gk_up M1 14 0 13 0)) → i_same Int64 (f_X11_behind x y) (f_X12_behind x y) M := fun v q hv h0 h7 hneg hf hg => by
    refine ⟨(4000000000000000000 : Int64) - v.toInt64, gk_up M 13 0 q (M 13 0 q + 1), _, by rw [hf, h_ref hv h0 h7, q_bnd], ?_, h.refused h7⟩
    rw [hg _ (i_E.up (by unfold i_kp; omega)), X12_behind_j23, if_neg hneg, h_refR hv h7, q_bnd]
  rcases z_ship N hN x with ⟨a, ha, rfl⟩ | hx
  · rcases z_n60 y 60 60 rfl (by decide) with ⟨n, hn, rfl, y0, y1⟩ | y0 | ⟨y0, y1⟩
    · obtain ⟨M1, e1, e2, e3⟩ := h_copyW (k := 1) (o := 0) (by decide) (by decide) (by decide) hwc
      have hw1 : a_wf (a_c 1 M1) N dd := by rw [e2]; exact hwc
      obtain ⟨M2, f1, f2⟩ := h_behL (N := N) (n := n) (s := a) hn ha n 200 0 dd M1 (by omega) (by omega) (by omega) hw1
      have ch := e3.tr f2
      obtain ⟨g1, g2, g3⟩ := i_open hw ch
      obtain ⟨M3, k1, k2, k3⟩ := h_daysOn (N := N) (n := n) (dd := dd) hn (M := c_T 0 55 (gk_up M2 14 0 13 0)) (by omega) (by rw [g1]; exact hw)
      have wd := hw.days n (by omega)
      rw [g1] at k2
      have r30 : M3 14 0 0 = nI N := by have := wd.2.1; rw [← k2, a_r00] at this; exact this
      have v1 : ∀ j, j < 6 → M3 16 j a = z_days (a_r M) dd n (a + 3) j := fun j hj => by rw [← k2, a_rs r30 hN ha hj]
      have v0 : ∀ j, j < 6 → c_T 0 55 (gk_up M2 14 0 13 0) 16 j a = M 5 a j := fun j hj => by
        rw [c_Tn (by omega) (by omega), g3 16 j a (by unfold i_kp; omega), i_crs hc c0 r0 hN ha hj]
      have u1 : ∀ j, M1 5 a j = M 5 a j := fun j => e3 5 a j (by omega) (by omega) (by omega) (by omega)
      refine i_mind h (M1 := M2) (M2 := M3) ?_ ch k3 ?_ (r := (100000 : Int64) * (z_days (a_r M) dd n (a + 3) 4 - M 5 a 4).toInt64 + (z_days (a_r M) dd n (a + 3) 5 - M 5 a 5).toInt64)
      · rw [f_X11_behind, h_nobT hN c0 ha, q_bnd, h_rng, if_pos y0, if_pos y1, q_bnd, h_fst0, q_bnd, if_pos rfl, e1, q_bnd]
        rw [← hc, ← e2, ← u1, ← u1]
        exact f1
      · have ha6 : a < 6 := by omega
        rw [f_X12_behind, q_wr, h_shT hN g2 ha, q_bnd, if_neg (by decide), h_wd, if_pos y0, if_pos y1, q_bnd, X12_behind_j23, if_pos (by decide), h_open, q_bnd, q_gd (q_in ha6 (by decide)), q_gd (q_in ha6 (by decide)), k1, q_bnd, q_gd (q_in ha6 (by decide)), q_gd (q_in ha6 (by decide)), h_close, q_bnd, q_cl (by omega), v1 4 (by decide), v1 5 (by decide), v0 4 (by decide), v0 5 (by decide)]
    · refine refu (-4) 4 rfl (by decide) (by decide) (by decide) ?_ ?_
      · rw [f_X11_behind, h_nobT hN c0 ha, q_bnd, h_rng, if_neg y0, q_bnd, h_fst0, q_bnd, if_neg (by decide)]
      · intro M1 hE
        rw [f_X12_behind, q_wr, h_shT hN (hE.th.cnt r0) ha, q_bnd, if_neg (by decide), h_wd, if_neg y0, q_bnd]
    · refine refu (-6) 6 rfl (by decide) (by decide) (by decide) ?_ ?_
      · rw [f_X11_behind, h_nobT hN c0 ha, q_bnd, h_rng, if_pos y0, if_neg y1, q_bnd, h_fst0, q_bnd, if_neg (by decide)]
      · intro M1 hE
        rw [f_X12_behind, q_wr, h_shT hN (hE.th.cnt r0) ha, q_bnd, if_neg (by decide), h_wd, if_pos y0, if_neg y1, q_bnd]
  · refine refu (-1) 1 rfl (by decide) (by decide) (by decide) ?_ ?_
    · obtain ⟨z, hz⟩ := h_rngE y 0 60 M
      rw [f_X11_behind, h_nobF c0 hx, q_bnd, hz, q_bnd, h_fstN (by decide), q_bnd, if_neg (by decide)]
    · intro M1 hE
      rw [f_X12_behind, q_wr, h_shF hN (hE.th.cnt r0) hx, q_bnd, if_pos rfl]
/-! meet -/
def z_meet (a b : Nat) : Nat → a_S → Nat → Nat → Int32
  | 0, _, _, _ => -9
  | d + 1, B, dd, m => if 1 < z_gp B a b then z_meet a b d (z_day B dd) (dd + 1) (m + 1) else nI m
theorem h_meetC {N a b : Nat} (ha : a < N) (hb : b < N) : ∀ (d fuel m dd : Nat) (M : gk_M), m + d = 61 → d < fuel → dd + d ≤ 10100 → a_wf (a_c 1 M) N dd →
    ∃ M', X11_meet_l31 fuel (nI a) (nI b) (nI m) M = some (z_meet a b d (a_c 1 M) dd m, M') ∧ a_Ch 1 M M' := by
  intro d
  induction d with
  | zero =>
    intro fuel m dd M hm hf hd hw
    obtain ⟨k, rfl⟩ : ∃ k, fuel = k + 1 := ⟨fuel - 1, by omega⟩
    refine ⟨M, ?_, a_Ch.rf⟩
    simp only [X11_meet_l31, if_pos (show (60 : Int32) < nI m from nI_lt (a := 60) (by omega) (by omega)), z_meet]
  | succ d ih =>
    intro fuel m dd M hm hf hd hw
    obtain ⟨k, rfl⟩ : ∃ k, fuel = k + 1 := ⟨fuel - 1, by omega⟩
    have hcond : ¬ (60 : Int32) < nI m := nI_nlt (b := m) (a := 60) (by omega) (by omega)
    by_cases g : 1 < z_gp (a_c 1 M) a b
    · obtain ⟨M1, e1, e2, e3⟩ := h_dayW (k := 1) (by decide) hw
      have hw1 : a_wf (a_c 1 M1) N (dd + 1) := by rw [e2]; exact hw.day (by omega)
      obtain ⟨M', f1, f2⟩ := ih k (m + 1) (dd + 1) M1 (by omega) (by omega) (by omega) hw1
      refine ⟨M', ?_, e3.tr f2⟩
      simp only [X11_meet_l31, if_neg hcond, h_gap (show 1 < 3 by decide) hw.1 hw.cnt ha hb, q_bnd, if_pos g, e1, nI_1, f1, e2, z_meet]
    · refine ⟨M, ?_, a_Ch.rf⟩
      simp only [X11_meet_l31, if_neg hcond, h_gap (show 1 < 3 by decide) hw.1 hw.cnt ha hb, q_bnd, if_neg g, z_meet]
theorem h_meetR {N a b : Nat} (ha : a < N) (hb : b < N) : ∀ (d fuel m dd : Nat) (M : gk_M), m + d = 61 → d + 1 < fuel → dd + d ≤ 10100 → a_wf (a_r M) N dd →
    ∃ M', X12_meet_l30 fuel (nI a) (nI b) (-9) (nI m) M = some (z_meet a b d (a_r M) dd m, c_F 0 55 M') ∧ r_RC M M' := by
  intro d
  induction d with
  | zero =>
    intro fuel m dd M hm hf hd hw
    obtain ⟨k, rfl⟩ : ∃ k, fuel = k + 1 := ⟨fuel - 1, by omega⟩
    refine ⟨M, ?_, r_RC.rf⟩
    simp only [X12_meet_l30, if_pos (show (60 : Int32) < nI m from nI_lt (a := 60) (by omega) (by omega)), z_meet, X12_meet_j71, h_close, q_bnd]
  | succ d ih =>
    intro fuel m dd M hm hf hd hw
    obtain ⟨k, rfl⟩ : ∃ k, fuel = k + 1 := ⟨fuel - 1, by omega⟩
    have hcond : ¬ (60 : Int32) < nI m := nI_nlt (b := m) (a := 60) (by omega) (by omega)
    obtain ⟨M1, rr, e1, e2, e3⟩ := h_dayR (by omega) hw
    by_cases g : 1 < z_gp (a_r M) a b
    · have hw1 : a_wf (a_r M1) N (dd + 1) := by rw [e2]; exact hw.day (by omega)
      obtain ⟨M', f1, f2⟩ := ih k (m + 1) (dd + 1) M1 (by omega) (by omega) (by omega) hw1
      refine ⟨M', ?_, e3.tr f2⟩
      simp only [X12_meet_l30, X12_meet_j58, if_neg hcond, if_neg (show ¬ (0 : Int32) ≤ -9 by decide), h_far hw ha hb, q_bnd, if_pos g, e1, nI_1, f1, e2, z_meet]
    · refine ⟨M1, ?_, e3⟩
      obtain ⟨k2, rfl⟩ : ∃ k2, k = k2 + 1 := ⟨k - 1, by omega⟩
      have hz : X12_meet_l30 (k2 + 1) (nI a) (nI b) (nI m) (nI (m + 1)) M1 = some (nI m, c_F 0 55 M1) := by
        simp only [X12_meet_l30, X12_meet_j71, h_close, q_bnd, if_pos (show (0 : Int32) ≤ nI m from nI_pos' (by omega))]
        split <;> rfl
      rw [X12_meet_l30]
      dsimp only
      rw [if_neg hcond, if_neg (show ¬ (0 : Int32) ≤ -9 by decide), h_far hw ha hb, q_bnd, if_neg g, X12_meet_j58, e1, q_bnd, nI_1, hz, z_meet, if_neg g]
theorem w_meet (x y : Int32) {M : gk_M} (h : i_ok M) : i_same Int32 (f_X11_meet x y) (f_X12_meet x y) M := by
  obtain ⟨N, dd, hd, hw, hc, hN, c0, r0, hwc⟩ := h.get
  by_cases q : ∃ a b, a < N ∧ b < N ∧ a ≠ b ∧ x = nI a ∧ y = nI b
  · obtain ⟨a, b, ha, hb, hab, rfl, rfl⟩ := q
    obtain ⟨M1, e1, e2, e3⟩ := h_copyW (k := 1) (o := 0) (by decide) (by decide) (by decide) hwc
    have hw1 : a_wf (a_c 1 M1) N dd := by rw [e2]; exact hwc
    obtain ⟨M2, f1, f2⟩ := h_meetC ha hb 61 200 0 dd M1 (by omega) (by omega) (by omega) hw1
    have ch := e3.tr f2
    obtain ⟨g1, g2, g3⟩ := i_open hw ch
    obtain ⟨M3, k1, k2⟩ := h_meetR ha hb 61 200 0 dd (c_T 0 55 (gk_up M2 14 0 13 0)) (by omega) (by omega) (by omega) (by rw [g1]; exact hw)
    rw [g1] at k1
    refine i_mind h (M1 := M2) (M2 := M3) ?_ ch k2 ?_ (r := z_meet a b 61 (a_r M) dd 0)
    · rw [f_X11_meet, h_twoT hN c0 ha hb hab, q_bnd, if_pos rfl, e1, q_bnd, ← hc, ← e2]
      exact f1
    · rw [f_X12_meet, q_wr, h_are2T hN g2 ha hb hab, q_bnd, if_pos (by decide), h_open, q_bnd]
      exact k1
  · refine i_refuse h (q := 1) (x := -1) rfl (by decide) (by decide) ?_ ?_
    · rw [f_X11_meet, h_twoF hN c0 q, q_bnd, if_neg (by decide)]; exact q_ret
    · intro M1 hE
      rw [f_X12_meet, q_wr, h_are2F hN (hE.th.cnt r0) q, q_bnd, if_neg (by decide)]; exact q_ret
/-! nearest: behind how many days, and how far, so far -/
def z_nr (a b : Nat) : Nat → a_S → Nat → Nat → Int32 → Int32 → Int32 × Int32
  | 0, _, _, _, w, l => (w, l)
  | d + 1, B, dd, m, w, l => if l ≤ z_gp (z_day B dd) a b then z_nr a b d (z_day B dd) (dd + 1) (m + 1) w l else z_nr a b d (z_day B dd) (dd + 1) (m + 1) (nI m) (z_gp (z_day B dd) a b)
theorem h_nrC {N a b n : Nat} (hn : n ≤ 60) (ha : a < N) (hb : b < N) {wh : Int32} : ∀ (d fuel m dd : Nat) (w l : Int32) (M : gk_M), m + d = n + 1 → d < fuel → dd + d ≤ 10100 → a_wf (a_c 1 M) N dd →
    ∃ M', X11_nearest_l67 fuel (nI a) (nI b) (nI n) wh w l (nI m) M = some (if ¬ wh = 0 then (z_nr a b d (a_c 1 M) dd m w l).2 else (z_nr a b d (a_c 1 M) dd m w l).1, M') ∧ a_Ch 1 M M' := by
  intro d
  induction d with
  | zero =>
    intro fuel m dd w l M hm hf hd hw
    obtain ⟨k, rfl⟩ : ∃ k, fuel = k + 1 := ⟨fuel - 1, by omega⟩
    refine ⟨M, ?_, a_Ch.rf⟩
    simp only [X11_nearest_l67, if_pos (show nI n < nI m from nI_lt (by omega) (by omega)), z_nr]
    split <;> rfl
  | succ d ih =>
    intro fuel m dd w l M hm hf hd hw
    obtain ⟨k, rfl⟩ : ∃ k, fuel = k + 1 := ⟨fuel - 1, by omega⟩
    have hcond : ¬ nI n < nI m := nI_nlt (by omega) (by omega)
    obtain ⟨M1, e1, e2, e3⟩ := h_dayW (k := 1) (by decide) hw
    have hw1 : a_wf (a_c 1 M1) N (dd + 1) := by rw [e2]; exact hw.day (by omega)
    by_cases g : l ≤ z_gp (z_day (a_c 1 M) dd) a b
    · obtain ⟨M', f1, f2⟩ := ih k (m + 1) (dd + 1) w l M1 (by omega) (by omega) (by omega) hw1
      refine ⟨M', ?_, e3.tr f2⟩
      simp only [X11_nearest_l67, X11_nearest_j108, if_neg hcond, e1, q_bnd, h_gap (show 1 < 3 by decide) hw1.1 hw1.cnt ha hb, e2, if_pos g, nI_1, z_nr]
      rw [f1, e2]
    · obtain ⟨M', f1, f2⟩ := ih k (m + 1) (dd + 1) (nI m) (z_gp (z_day (a_c 1 M) dd) a b) M1 (by omega) (by omega) (by omega) hw1
      refine ⟨M', ?_, e3.tr f2⟩
      simp only [X11_nearest_l67, X11_nearest_j108, if_neg hcond, e1, q_bnd, h_gap (show 1 < 3 by decide) hw1.1 hw1.cnt ha hb, e2, if_neg g, nI_1, z_nr]
      rw [f1, e2]
theorem h_nrR {N a b n : Nat} (hn : n ≤ 60) (ha : a < N) (hb : b < N) {wh : Int32} : ∀ (d fuel m dd : Nat) (w l : Int32) (M : gk_M), m + d = n + 1 → d < fuel → dd + d ≤ 10100 → a_wf (a_r M) N dd →
    ∃ M', X12_nearest_l81 fuel (nI a) (nI b) (nI n) wh w l (nI m) M = some (if ¬ wh = 0 then (z_nr a b d (a_r M) dd m w l).2 else (z_nr a b d (a_r M) dd m w l).1, c_F 0 55 M') ∧ r_RC M M' := by
  intro d
  induction d with
  | zero =>
    intro fuel m dd w l M hm hf hd hw
    obtain ⟨k, rfl⟩ : ∃ k, fuel = k + 1 := ⟨fuel - 1, by omega⟩
    refine ⟨M, ?_, r_RC.rf⟩
    simp only [X12_nearest_l81, if_pos (show nI n < nI m from nI_lt (by omega) (by omega)), z_nr, h_close, q_bnd]
    split <;> rfl
  | succ d ih =>
    intro fuel m dd w l M hm hf hd hw
    obtain ⟨k, rfl⟩ : ∃ k, fuel = k + 1 := ⟨fuel - 1, by omega⟩
    have hcond : ¬ nI n < nI m := nI_nlt (by omega) (by omega)
    obtain ⟨M1, rr, e1, e2, e3⟩ := h_dayR (by omega) hw
    have hw1 : a_wf (a_r M1) N (dd + 1) := by rw [e2]; exact hw.day (by omega)
    by_cases g : l ≤ z_gp (z_day (a_r M) dd) a b
    · obtain ⟨M', f1, f2⟩ := ih k (m + 1) (dd + 1) w l M1 (by omega) (by omega) (by omega) hw1
      refine ⟨M', ?_, e3.tr f2⟩
      simp only [X12_nearest_l81, X12_nearest_j115, X12_nearest_j131, if_neg hcond, e1, q_bnd, h_far hw1 ha hb, e2, if_pos g, nI_1, z_nr]
      rw [f1, e2]
    · obtain ⟨M', f1, f2⟩ := ih k (m + 1) (dd + 1) (nI m) (z_gp (z_day (a_r M) dd) a b) M1 (by omega) (by omega) (by omega) hw1
      refine ⟨M', ?_, e3.tr f2⟩
      simp only [X12_nearest_l81, X12_nearest_j115, X12_nearest_j131, if_neg hcond, e1, q_bnd, h_far hw1 ha hb, e2, if_neg g, nI_1, z_nr]
      rw [f1, e2]
