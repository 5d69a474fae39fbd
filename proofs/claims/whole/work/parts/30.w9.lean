/-! there, news, back: a search, day by day -/
def z_an : Option Nat → Int32
  | none => -9
  | some k => nI k
def z_u (P : Nat → Bool) (N : Nat) : Nat → a_S → Nat → Nat → Nat → Option Nat
  | 0, _, _, _, _ => none
  | d + 1, B, dd, w, m => if P w = true then some m else z_u P N d (z_day B dd) (dd + 1) (z_ld (z_e B) N w) (m + 1)
theorem h_uC {N g most : Nat} {P : Nat → Bool} (hm40 : most ≤ 40) (hP : ∀ w, w < 2 ^ N → (nI w &&& nI g = nI g ↔ P w = true)) : ∀ (d fuel m dd w : Nat) (M : gk_M), m + d = most + 1 → d < fuel → dd + d ≤ 10100 → w < 2 ^ N → a_wf (a_c 1 M) N dd →
    ∃ M', X11_daysUntil_l6 fuel (nI g) (nI most) (nI w) (nI m) M = some (z_an (z_u P N d (a_c 1 M) dd w m), M') ∧ a_Ch 1 M M' := by
  intro d
  induction d with
  | zero =>
    intro fuel m dd w M hm hf hd hw hwf
    obtain ⟨k, rfl⟩ : ∃ k, fuel = k + 1 := ⟨fuel - 1, by omega⟩
    refine ⟨M, ?_, a_Ch.rf⟩
    simp only [X11_daysUntil_l6, if_pos (show nI most < nI m from nI_lt (by omega) (by omega)), z_u, z_an]
  | succ d ih =>
    intro fuel m dd w M hm hf hd hw hwf
    obtain ⟨k, rfl⟩ : ∃ k, fuel = k + 1 := ⟨fuel - 1, by omega⟩
    have hcond : ¬ nI most < nI m := nI_nlt (by omega) (by omega)
    by_cases p : P w = true
    · refine ⟨M, ?_, a_Ch.rf⟩
      rw [X11_daysUntil_l6]
      dsimp only
      rw [if_neg hcond, if_neg (fun q => q ((hP w hw).mpr p)), z_u, if_pos p]
      rfl
    · obtain ⟨M1, e1, e2, e3⟩ := h_dayW (k := 1) (by decide) hwf
      have hw1 : a_wf (a_c 1 M1) N (dd + 1) := by rw [e2]; exact hwf.day (by omega)
      obtain ⟨M', f1, f2⟩ := ih k (m + 1) (dd + 1) (z_ld (z_e (a_c 1 M)) N w) M1 (by omega) (by omega) (by omega) (z_ld_lt hw) hw1
      refine ⟨M', ?_, e3.tr f2⟩
      rw [X11_daysUntil_l6]
      dsimp only
      rw [if_neg hcond, if_pos (fun q => p ((hP w hw).mp q)), h_ldC (show 1 < 3 by decide) hwf (z_p6 hwf.1 hw), q_bnd, e1, q_bnd, nI_1, f1, e2, z_u, if_neg p]
theorem h_thR {N b : Nat} (hb : b < N) : ∀ (d fuel m dd w : Nat) (M : gk_M), m + d = 41 → d + 1 < fuel → dd + d ≤ 10100 → w < 2 ^ N → a_wf (a_r M) N dd →
    ∃ M', X12_there_l51 fuel (nI b) (nI w) (-9) (nI m) M = some (z_an (z_u (fun w => w.testBit b) N d (z_day (a_r M) dd) (dd + 1) (z_ld (z_e (a_r M)) N w) m), c_F 0 55 M') ∧ r_RC M M' := by
  intro d
  induction d with
  | zero =>
    intro fuel m dd w M hm hf hd hw hwf
    obtain ⟨k, rfl⟩ : ∃ k, fuel = k + 1 := ⟨fuel - 1, by omega⟩
    refine ⟨M, ?_, r_RC.rf⟩
    simp only [X12_there_l51, if_pos (show (40 : Int32) < nI m from nI_lt (a := 40) (by omega) (by omega)), z_u, z_an, X12_there_j99, h_close, q_bnd]
  | succ d ih =>
    intro fuel m dd w M hm hf hd hw hwf
    obtain ⟨k, rfl⟩ : ∃ k, fuel = k + 1 := ⟨fuel - 1, by omega⟩
    have hcond : ¬ (40 : Int32) < nI m := nI_nlt (b := m) (a := 40) (by omega) (by omega)
    obtain ⟨M1, rr, e1, e2, e3⟩ := h_dayR (by omega) hwf
    have hw1 : a_wf (a_r M1) N (dd + 1) := by rw [e2]; exact hwf.day (by omega)
    have hw' : z_ld (z_e (a_r M)) N w < 2 ^ N := z_ld_lt hw
    have ht := (b_has (z_ld (z_e (a_r M)) N w) (z_p6 hwf.1 hw') b (by have := hwf.1; omega)).2
    by_cases p : (fun w => w.testBit b) (z_ld (z_e (a_r M)) N w) = true
    · refine ⟨M1, ?_, e3⟩
      obtain ⟨k2, rfl⟩ : ∃ k2, k = k2 + 1 := ⟨k - 1, by omega⟩
      have hz : X12_there_l51 (k2 + 1) (nI b) (nI (z_ld (z_e (a_r M)) N w)) (nI m) (nI (m + 1)) M1 = some (nI m, c_F 0 55 M1) := by
        simp only [X12_there_l51, X12_there_j99, h_close, q_bnd, if_pos (show (0 : Int32) ≤ nI m from nI_pos' (by omega))]
        split <;> rfl
      rw [X12_there_l51]
      dsimp only
      rw [if_neg hcond, if_neg (show ¬ (0 : Int32) ≤ -9 by decide), h_ldR hwf (z_p6 hwf.1 hw), q_bnd, if_neg (fun q => q (ht.mpr p)), X12_there_j85, e1, q_bnd, nI_1, hz, z_u, if_pos p]
      rfl
    · obtain ⟨M', f1, f2⟩ := ih k (m + 1) (dd + 1) (z_ld (z_e (a_r M)) N w) M1 (by omega) (by omega) (by omega) hw' hw1
      refine ⟨M', ?_, e3.tr f2⟩
      rw [X12_there_l51]
      dsimp only
      rw [if_neg hcond, if_neg (show ¬ (0 : Int32) ≤ -9 by decide), h_ldR hwf (z_p6 hwf.1 hw), q_bnd, if_pos (fun q => p (ht.mp q)), X12_there_j85, e1, q_bnd, nI_1, f1, e2, z_u, if_neg p]
theorem b_all : ∀ N, N ≤ 6 → ∀ w, w < 2 ^ N → (nI w = nI (2 ^ N - 1) ↔ (fun w => decide (w = 2 ^ N - 1)) w = true) := by
  intro N hN w hw
  have h64 : (2 : Nat) ^ N ≤ 2 ^ 6 := Nat.pow_le_pow_right (by decide) hN
  show _ ↔ decide (w = 2 ^ N - 1) = true
  rw [decide_eq_true_iff]
  exact nI_eq (by omega) (by omega)
theorem h_neR {N : Nat} : ∀ (d fuel m dd w : Nat) (M : gk_M), m + d = 41 → d + 1 < fuel → dd + d ≤ 10100 → w < 2 ^ N → a_wf (a_r M) N dd →
    ∃ M', X12_news_l52 fuel (nI (2 ^ N - 1)) (nI w) (-9) (nI m) M = some (z_an (z_u (fun w => decide (w = 2 ^ N - 1)) N d (z_day (a_r M) dd) (dd + 1) (z_ld (z_e (a_r M)) N w) m), c_F 0 55 M') ∧ r_RC M M' := by
  intro d
  induction d with
  | zero =>
    intro fuel m dd w M hm hf hd hw hwf
    obtain ⟨k, rfl⟩ : ∃ k, fuel = k + 1 := ⟨fuel - 1, by omega⟩
    refine ⟨M, ?_, r_RC.rf⟩
    simp only [X12_news_l52, if_pos (show (40 : Int32) < nI m from nI_lt (a := 40) (by omega) (by omega)), z_u, z_an, X12_news_j96, h_close, q_bnd]
  | succ d ih =>
    intro fuel m dd w M hm hf hd hw hwf
    obtain ⟨k, rfl⟩ : ∃ k, fuel = k + 1 := ⟨fuel - 1, by omega⟩
    have hcond : ¬ (40 : Int32) < nI m := nI_nlt (b := m) (a := 40) (by omega) (by omega)
    obtain ⟨M1, rr, e1, e2, e3⟩ := h_dayR (by omega) hwf
    have hw1 : a_wf (a_r M1) N (dd + 1) := by rw [e2]; exact hwf.day (by omega)
    have hw' : z_ld (z_e (a_r M)) N w < 2 ^ N := z_ld_lt hw
    have ht := b_all N hwf.1 (z_ld (z_e (a_r M)) N w) hw'
    by_cases p : (fun w => decide (w = 2 ^ N - 1)) (z_ld (z_e (a_r M)) N w) = true
    · refine ⟨M1, ?_, e3⟩
      obtain ⟨k2, rfl⟩ : ∃ k2, k = k2 + 1 := ⟨k - 1, by omega⟩
      have hz : X12_news_l52 (k2 + 1) (nI (2 ^ N - 1)) (nI (z_ld (z_e (a_r M)) N w)) (nI m) (nI (m + 1)) M1 = some (nI m, c_F 0 55 M1) := by
        simp only [X12_news_l52, X12_news_j96, h_close, q_bnd, if_pos (show (0 : Int32) ≤ nI m from nI_pos' (by omega))]
        split <;> rfl
      rw [X12_news_l52]
      dsimp only
      rw [if_neg hcond, if_neg (show ¬ (0 : Int32) ≤ -9 by decide), h_ldR hwf (z_p6 hwf.1 hw), q_bnd, if_neg (fun q => q (ht.mpr p)), X12_news_j82, e1, q_bnd, nI_1, hz, z_u, if_pos p]
      rfl
    · obtain ⟨M', f1, f2⟩ := ih k (m + 1) (dd + 1) (z_ld (z_e (a_r M)) N w) M1 (by omega) (by omega) (by omega) hw' hw1
      refine ⟨M', ?_, e3.tr f2⟩
      rw [X12_news_l52]
      dsimp only
      rw [if_neg hcond, if_neg (show ¬ (0 : Int32) ≤ -9 by decide), h_ldR hwf (z_p6 hwf.1 hw), q_bnd, if_pos (fun q => p (ht.mp q)), X12_news_j82, e1, q_bnd, nI_1, f1, e2, z_u, if_neg p]
theorem b_bitC : ∀ w, w < 64 → ∀ b, b < 6 → (nI w &&& nI (2 ^ b) = nI (2 ^ b) ↔ w.testBit b = true) := by decide +kernel
theorem b_allC : ∀ N, N < 7 → ∀ w, w < 2 ^ N → (nI w &&& nI (2 ^ N - 1) = nI (2 ^ N - 1) ↔ w = 2 ^ N - 1) := by decide +kernel
theorem b_all1 : ∀ N, N < 7 → (1 : Int32) <<< (nI N &&& 31) - 1 = nI (2 ^ N - 1) := by decide
theorem w_there (x y : Int32) {M : gk_M} (h : i_ok M) : i_same Int32 (f_X11_there x y) (f_X12_there x y) M := by
  obtain ⟨N, dd, hd, hw, hc, hN, c0, r0, hwc⟩ := h.get
  rcases z_ship N hN x with ⟨a, ha, rfl⟩ | hx
  · rcases z_ship N hN y with ⟨b, hb, rfl⟩ | hy
    · obtain ⟨M1, e1, e2, e3⟩ := h_copyW (k := 1) (o := 0) (by decide) (by decide) (by decide) hwc
      have hw1 : a_wf (a_c 1 M1) N dd := by rw [e2]; exact hwc
      obtain ⟨M2, f1, f2⟩ := h_uC (N := N) (g := 2 ^ b) (most := 40) (P := fun w => w.testBit b) (by decide) (fun w hw => b_bitC w (z_p6 hN hw) b (by omega)) 41 200 0 dd (2 ^ a) M1 (by omega) (by omega) (by omega) (z_2a ha) hw1
      have ch := e3.tr f2
      obtain ⟨g1, g2, g3⟩ := i_open hw ch
      rw [e2, hc] at f1
      have cl : f_X11_there (nI a) (nI b) M = some (z_an (z_u (fun w => w.testBit b) N 41 (a_r M) dd (2 ^ a) 0), M2) := by
        rw [f_X11_there, h_nobT hN c0 ha, q_bnd, h_nobT hN c0 hb, q_bnd, h_fst0, q_bnd, if_pos rfl, e1, q_bnd, b_one a (by omega), b_one b (by omega), f_X11_daysUntil]
        rw [show (40 : Int32) = nI 40 from rfl, show (0 : Int32) = nI 0 from rfl, f1, q_bnd]
      by_cases e : a = b
      · subst e
        have hz : X12_there_l51 200 (nI a) (nI (2 ^ a)) 0 1 (c_T 0 55 (gk_up M2 14 0 13 0)) = some (0, c_F 0 55 (c_T 0 55 (gk_up M2 14 0 13 0))) := by
          show X12_there_l51 (199 + 1) _ _ _ _ _ = _
          rw [X12_there_l51]
          dsimp only
          rw [if_neg (show ¬ (40 : Int32) < 1 by decide), if_pos (show (0 : Int32) ≤ 0 by decide), X12_there_j99, h_close, q_bnd]
        refine i_mind h (M1 := M2) (M2 := c_T 0 55 (gk_up M2 14 0 13 0)) cl ch r_RC.rf ?_
        rw [f_X12_there, q_wr, h_shT hN g2 ha, q_bnd, if_neg (by decide), h_shT hN g2 ha, q_bnd, if_pos (by decide), h_open, q_bnd, if_neg (fun q => q rfl), X12_there_j46, b_one a (by omega), hz, z_u, if_pos (by simp)]
        rfl
      · obtain ⟨M3, k1, k2⟩ := h_thR (N := N) hb 40 200 1 dd (2 ^ a) (c_T 0 55 (gk_up M2 14 0 13 0)) (by omega) (by omega) (by omega) (z_2a ha) (by rw [g1]; exact hw)
        rw [g1] at k1
        refine i_mind h (M1 := M2) (M2 := M3) cl ch k2 ?_
        have en : ¬ nI a = nI b := fun q => e ((nI_eq (by omega) (by omega)).mp q)
        rw [f_X12_there, q_wr, h_shT hN g2 ha, q_bnd, if_neg (by decide), h_shT hN g2 hb, q_bnd, if_pos (by decide), h_open, q_bnd, if_pos en, X12_there_j46, b_one a (by omega), z_u, if_neg (by simp only [Nat.testBit_two_pow_of_ne e]; decide)]
        exact k1
    · refine i_refuse h (q := 1) (x := -1) rfl (by decide) (by decide) ?_ ?_
      · rw [f_X11_there, h_nobT hN c0 ha, q_bnd, h_nobF c0 hy, q_bnd, h_fst0, q_bnd, if_neg (by decide)]; exact q_ret
      · intro M1 hE
        rw [f_X12_there, q_wr, h_shT hN (hE.th.cnt r0) ha, q_bnd, if_neg (by decide), h_shF hN (hE.th.cnt r0) hy, q_bnd, if_neg (by decide), X12_there_j21]; exact q_ret
  · refine i_refuse h (q := 1) (x := -1) rfl (by decide) (by decide) ?_ ?_
    · have : ∃ z, f_X11_nobody y M = some (z, M) := by
        rcases z_ship N hN y with ⟨b, hb, rfl⟩ | hy
        · exact ⟨_, h_nobT hN c0 hb⟩
        · exact ⟨_, h_nobF c0 hy⟩
      obtain ⟨z, hz⟩ := this
      rw [f_X11_there, h_nobF c0 hx, q_bnd, hz, q_bnd, h_fstN (by decide), q_bnd, if_neg (by decide)]; exact q_ret
    · intro M1 hE
      rw [f_X12_there, q_wr, h_shF hN (hE.th.cnt r0) hx, q_bnd, if_pos rfl, X12_there_j21]; exact q_ret
theorem w_news (x : Int32) {M : gk_M} (h : i_ok M) : i_same Int32 (f_X11_news x) (f_X12_news x) M := by
  obtain ⟨N, dd, hd, hw, hc, hN, c0, r0, hwc⟩ := h.get
  rcases z_ship N hN x with ⟨a, ha, rfl⟩ | hx
  · obtain ⟨M1, e1, e2, e3⟩ := h_copyW (k := 1) (o := 0) (by decide) (by decide) (by decide) hwc
    have hw1 : a_wf (a_c 1 M1) N dd := by rw [e2]; exact hwc
    have hP : ∀ w, w < 2 ^ N → (nI w &&& nI (2 ^ N - 1) = nI (2 ^ N - 1) ↔ (fun w => decide (w = 2 ^ N - 1)) w = true) := fun w hw => by
      show _ ↔ decide (w = 2 ^ N - 1) = true
      rw [decide_eq_true_iff]
      exact b_allC N (by omega) w hw
    obtain ⟨M2, f1, f2⟩ := h_uC (N := N) (g := 2 ^ N - 1) (most := 40) (P := fun w => decide (w = 2 ^ N - 1)) (by decide) hP 41 200 0 dd (2 ^ a) M1 (by omega) (by omega) (by omega) (z_2a ha) hw1
    have ch := e3.tr f2
    obtain ⟨g1, g2, g3⟩ := i_open hw ch
    rw [e2, hc] at f1
    have c01 : M1 2 0 3 = nI N := by rw [e3 2 0 3 (by omega) (by omega) (by omega) (by omega)]; exact c0
    have cl : f_X11_news (nI a) M = some (z_an (z_u (fun w => decide (w = 2 ^ N - 1)) N 41 (a_r M) dd (2 ^ a) 0), M2) := by
      rw [f_X11_news, h_nobT hN c0 ha, q_bnd, if_pos rfl, e1, q_bnd, f_X4_allShips, q_gd (q_lt (by decide)), q_bnd, c01, b_one a (by omega), b_all1 N (by omega), f_X11_daysUntil]
      rw [show (40 : Int32) = nI 40 from rfl, show (0 : Int32) = nI 0 from rfl, f1, q_bnd]
    have hwo : a_wf (a_r (c_T 0 55 (gk_up M2 14 0 13 0))) N dd := by rw [g1]; exact hw
    have r01 := hwo.cntR
    have h64 : (2 : Nat) ^ N ≤ 2 ^ 6 := Nat.pow_le_pow_right (by decide) hN
    have h2a := z_2a ha
    by_cases e : 2 ^ a = 2 ^ N - 1
    · have hz : X12_news_l52 200 (nI (2 ^ N - 1)) (nI (2 ^ a)) 0 1 (c_T 0 55 (gk_up M2 14 0 13 0)) = some (0, c_F 0 55 (c_T 0 55 (gk_up M2 14 0 13 0))) := by
        show X12_news_l52 (199 + 1) _ _ _ _ _ = _
        rw [X12_news_l52]
        dsimp only
        rw [if_neg (show ¬ (40 : Int32) < 1 by decide), if_pos (show (0 : Int32) ≤ 0 by decide), X12_news_j96, h_close, q_bnd]
      refine i_mind h (M1 := M2) (M2 := c_T 0 55 (gk_up M2 14 0 13 0)) cl ch r_RC.rf ?_
      have en : nI (2 ^ a) = nI (2 ^ N - 1) := by rw [e]
      rw [f_X12_news, q_wr, h_shT hN g2 ha, q_bnd, if_pos (by decide), h_open, q_bnd, r01, b_one a (by omega), b_all1 N (by omega), if_neg (fun q => q en), X12_news_j47, hz, z_u, if_pos (by simp [e])]
      rfl
    · obtain ⟨M3, k1, k2⟩ := h_neR (N := N) 40 200 1 dd (2 ^ a) (c_T 0 55 (gk_up M2 14 0 13 0)) (by omega) (by omega) (by omega) h2a hwo
      rw [g1] at k1
      refine i_mind h (M1 := M2) (M2 := M3) cl ch k2 ?_
      have en : ¬ nI (2 ^ a) = nI (2 ^ N - 1) := fun q => e ((nI_eq (by omega) (by omega)).mp q)
      rw [f_X12_news, q_wr, h_shT hN g2 ha, q_bnd, if_pos (by decide), h_open, q_bnd, r01, b_one a (by omega), b_all1 N (by omega), if_pos en, X12_news_j47, z_u, if_neg (by simp [e])]
      exact k1
  · refine i_refuse h (q := 1) (x := -1) rfl (by decide) (by decide) ?_ ?_
    · rw [f_X11_news, h_nobF c0 hx, q_bnd, if_neg (by decide)]; exact q_ret
    · intro M1 hE
      rw [f_X12_news, q_wr, h_shF hN (hE.th.cnt r0) hx, q_bnd, if_neg (by decide)]; exact q_ret

/-! back -/
theorem z_u_sh {P : Nat → Bool} {N c : Nat} : ∀ (d : Nat) (B : a_S) (dd w m : Nat), z_u P N d B dd w (m + c) = (z_u P N d B dd w m).map (· + c)
  | 0, _, _, _, _ => rfl
  | d + 1, B, dd, w, m => by
    rw [z_u, z_u]
    by_cases p : P w = true
    · rw [if_pos p, if_pos p]; rfl
    · rw [if_neg p, if_neg p, show m + c + 1 = m + 1 + c by omega, z_u_sh d]
theorem z_u_lt {P : Nat → Bool} {N : Nat} : ∀ (d : Nat) (B : a_S) (dd w m k : Nat), z_u P N d B dd w m = some k → k < m + d
  | 0, _, _, _, _, _, h => by cases h
  | d + 1, B, dd, w, m, k, h => by
    rw [z_u] at h
    by_cases p : P w = true
    · rw [if_pos p] at h
      injection h with h
      omega
    · rw [if_neg p] at h
      have := z_u_lt d _ _ _ _ _ h
      omega
def z_bk (N a b : Nat) : Nat → a_S → Nat → Nat → Nat → Int32
  | 0, _, _, _, _ => -9
  | d + 1, B, dd, w, m => if (z_ld (z_e B) N w).testBit b = true then z_an (z_u (fun w => w.testBit a) N d (z_day (z_day B dd) (dd + 1)) (dd + 2) (z_ld (z_e (z_day B dd)) N (2 ^ b)) (m + 1)) else z_bk N a b d (z_day B dd) (dd + 1) (z_ld (z_e B) N w) (m + 1)
theorem h_bkC {N a b : Nat} (hb : b < N) : ∀ (d fuel m dd w : Nat) (M : gk_M), m + d = 40 → d + 1 < fuel → dd + d + 1 ≤ 10100 → w < 2 ^ N → ¬ w.testBit b = true → a_wf (a_c 1 M) N dd →
    ∃ M', a_Ch 1 M M' ∧ ((X11_daysUntil_l6 fuel (nI (2 ^ b)) 40 (nI w) (nI m) M = some (-9, M') ∧ z_bk N a b d (a_c 1 M) dd w (m + 1) = -9) ∨ (∃ k e, m < k ∧ k ≤ 40 ∧ e ≤ dd + d ∧ X11_daysUntil_l6 fuel (nI (2 ^ b)) 40 (nI w) (nI m) M = some (nI k, M') ∧ a_wf (a_c 1 M') N e ∧ z_bk N a b d (a_c 1 M) dd w (m + 1) = z_an (z_u (fun w => w.testBit a) N (40 - k) (z_day (a_c 1 M') e) (e + 1) (z_ld (z_e (a_c 1 M')) N (2 ^ b)) (k + 1)))) := by
  intro d
  induction d with
  | zero =>
    intro fuel m dd w M hm hf hd hw hnb hwf
    obtain ⟨k, rfl⟩ : ∃ k, fuel = k + 1 + 1 := ⟨fuel - 2, by omega⟩
    obtain rfl : m = 40 := by omega
    obtain ⟨M1, e1, e2, e3⟩ := h_dayW (k := 1) (by decide) hwf
    refine ⟨M1, e3, Or.inl ⟨?_, rfl⟩⟩
    rw [X11_daysUntil_l6]
    dsimp only
    rw [if_neg (show ¬ (40 : Int32) < nI 40 by decide), if_pos (fun q => hnb ((b_bitC w (z_p6 hwf.1 hw) b (by have := hwf.1; omega)).mp q)), h_ldC (show 1 < 3 by decide) hwf (z_p6 hwf.1 hw), q_bnd, e1, q_bnd, X11_daysUntil_l6]
    dsimp only
    rw [if_pos (by decide)]
  | succ d ih =>
    intro fuel m dd w M hm hf hd hw hnb hwf
    obtain ⟨k, rfl⟩ : ∃ k, fuel = k + 1 := ⟨fuel - 1, by omega⟩
    have hcond : ¬ (40 : Int32) < nI m := nI_nlt (b := m) (a := 40) (by omega) (by omega)
    obtain ⟨M1, e1, e2, e3⟩ := h_dayW (k := 1) (by decide) hwf
    have hw1 : a_wf (a_c 1 M1) N (dd + 1) := by rw [e2]; exact hwf.day (by omega)
    have hw' : z_ld (z_e (a_c 1 M)) N w < 2 ^ N := z_ld_lt hw
    have step : X11_daysUntil_l6 (k + 1) (nI (2 ^ b)) 40 (nI w) (nI m) M = X11_daysUntil_l6 k (nI (2 ^ b)) 40 (nI (z_ld (z_e (a_c 1 M)) N w)) (nI (m + 1)) M1 := by
      rw [X11_daysUntil_l6]
      dsimp only
      rw [if_neg hcond, if_pos (fun q => hnb ((b_bitC w (z_p6 hwf.1 hw) b (by have := hwf.1; omega)).mp q)), h_ldC (show 1 < 3 by decide) hwf (z_p6 hwf.1 hw), q_bnd, e1, q_bnd, nI_1]
    by_cases p : (z_ld (z_e (a_c 1 M)) N w).testBit b = true
    · refine ⟨M1, e3, Or.inr ⟨m + 1, dd + 1, by omega, by omega, by omega, ?_, hw1, ?_⟩⟩
      · obtain ⟨k2, rfl⟩ : ∃ k2, k = k2 + 1 := ⟨k - 1, by omega⟩
        rw [step, X11_daysUntil_l6]
        dsimp only
        rw [if_neg (show ¬ (40 : Int32) < nI (m + 1) from nI_nlt (b := m + 1) (a := 40) (by omega) (by omega)), if_neg (fun q => q ((b_bitC _ (z_p6 hwf.1 hw') b (by have := hwf.1; omega)).mpr p))]
      · rw [z_bk, if_pos p, e2, show 40 - (m + 1) = d by omega]
    · obtain ⟨M', f2, f1⟩ := ih k (m + 1) (dd + 1) _ M1 (by omega) (by omega) (by omega) hw' p hw1
      refine ⟨M', e3.tr f2, ?_⟩
      rw [step, z_bk, if_neg p, ← e2]
      rcases f1 with f1 | ⟨k', e, q1, q2, q3, q4⟩
      · exact Or.inl f1
      · exact Or.inr ⟨k', e, by omega, q2, by omega, q4⟩
theorem b_bk : ∀ v, v < 64 → ∀ w, w < 64 → ∀ b, b < 6 → v.testBit b = true → nI v ||| (nI w &&& nI (2 ^ b)) = nI v := by
  intro v hv w hw b hb h
  rw [b_and', b_or']
  congr 1
  apply Nat.eq_of_testBit_eq
  intro i
  rw [Nat.testBit_or, Nat.testBit_and]
  by_cases e : b = i
  · subst e; rw [h]; rfl
  · rw [Nat.testBit_two_pow_of_ne e]; simp
theorem b_bk0 : ∀ w, w < 64 → ∀ b, b < 6 → (0 : Int32) ||| (nI w &&& nI (2 ^ b)) = if w.testBit b = true then nI (2 ^ b) else 0 := by decide +kernel
theorem z_ld0 {e : Nat → Nat → Bool} {N : Nat} : z_ld e N 0 = 0 := by
  apply Nat.eq_of_testBit_eq
  intro t
  rw [z_ld_bit, Nat.zero_testBit]
  have : z_any (fun i => Nat.testBit 0 i && e i t) N 0 = false := by
    rw [← Bool.not_eq_true, z_any_iff]
    rintro ⟨i, -, -, q⟩
    rw [Nat.zero_testBit] at q
    exact Bool.noConfusion q
  rw [this]; simp
theorem z_ld_sub {e : Nat → Nat → Bool} {N w b : Nat} (h : w.testBit b = true) : (z_ld e N w).testBit b = true := by
  rw [z_ld_bit, h]; rfl
theorem h_bkR2 {N a b : Nat} (ha : a < N) (hb : b < N) : ∀ (d fuel m dd w v : Nat) (M : gk_M), m + d = 41 → d + 1 < fuel → dd + d ≤ 10100 → w < 2 ^ N → v < 2 ^ N → v.testBit b = true → a_wf (a_r M) N dd →
    ∃ M', X12_back_l38 fuel (nI a) (nI b) (nI w) (nI v) (-9) (nI m) M = some (z_an (z_u (fun w => w.testBit a) N d (z_day (a_r M) dd) (dd + 1) (z_ld (z_e (a_r M)) N v) m), c_F 0 55 M') ∧ r_RC M M' := by
  intro d
  induction d with
  | zero =>
    intro fuel m dd w v M hm hf hd hw hv hvb hwf
    obtain ⟨k, rfl⟩ : ∃ k, fuel = k + 1 := ⟨fuel - 1, by omega⟩
    refine ⟨M, ?_, r_RC.rf⟩
    simp only [X12_back_l38, if_pos (show (40 : Int32) < nI m from nI_lt (a := 40) (by omega) (by omega)), z_u, z_an, X12_back_j101, h_close, q_bnd]
  | succ d ih =>
    intro fuel m dd w v M hm hf hd hw hv hvb hwf
    obtain ⟨k, rfl⟩ : ∃ k, fuel = k + 1 := ⟨fuel - 1, by omega⟩
    have hN := hwf.1
    have hcond : ¬ (40 : Int32) < nI m := nI_nlt (b := m) (a := 40) (by omega) (by omega)
    obtain ⟨M1, rr, e1, e2, e3⟩ := h_dayR (by omega) hwf
    have hw1 : a_wf (a_r M1) N (dd + 1) := by rw [e2]; exact hwf.day (by omega)
    have hw' : z_ld (z_e (a_r M)) N w < 2 ^ N := z_ld_lt hw
    have hv' : z_ld (z_e (a_r M)) N v < 2 ^ N := z_ld_lt hv
    have hvb' : (z_ld (z_e (a_r M)) N v).testBit b = true := z_ld_sub hvb
    have eor := b_bk _ (z_p6 hN hv') _ (z_p6 hN hw') b (by omega) hvb'
    have ht := (b_has (z_ld (z_e (a_r M)) N v) (z_p6 hN hv') a (by omega)).2
    by_cases p : (z_ld (z_e (a_r M)) N v).testBit a = true
    · refine ⟨M1, ?_, e3⟩
      obtain ⟨k2, rfl⟩ : ∃ k2, k = k2 + 1 := ⟨k - 1, by omega⟩
      have hz : ∀ w v, X12_back_l38 (k2 + 1) (nI a) (nI b) w v (nI m) (nI (m + 1)) M1 = some (nI m, c_F 0 55 M1) := by
        intro w v
        simp only [X12_back_l38, X12_back_j101, h_close, q_bnd, if_pos (show (0 : Int32) ≤ nI m from nI_pos' (by omega))]
        split <;> rfl
      rw [X12_back_l38]
      dsimp only
      rw [if_neg hcond, if_neg (show ¬ (0 : Int32) ≤ -9 by decide), h_ldR hwf (z_p6 hN hw), q_bnd, h_ldR hwf (z_p6 hN hv), q_bnd, b_one b (by omega), eor, if_neg (fun q => q (ht.mpr p)), X12_back_j87, e1, q_bnd, nI_1, hz, z_u, if_pos p]
      rfl
    · obtain ⟨M', f1, f2⟩ := ih k (m + 1) (dd + 1) (z_ld (z_e (a_r M)) N w) (z_ld (z_e (a_r M)) N v) M1 (by omega) (by omega) (by omega) hw' hv' hvb' hw1
      refine ⟨M', ?_, e3.tr f2⟩
      rw [X12_back_l38]
      dsimp only
      rw [if_neg hcond, if_neg (show ¬ (0 : Int32) ≤ -9 by decide), h_ldR hwf (z_p6 hN hw), q_bnd, h_ldR hwf (z_p6 hN hv), q_bnd, b_one b (by omega), eor, if_pos (fun q => p (ht.mp q)), X12_back_j87, e1, q_bnd, nI_1, f1, e2, z_u, if_neg p]
theorem h_bkR1 {N a b : Nat} (ha : a < N) (hb : b < N) (hab : a ≠ b) : ∀ (d fuel m dd w : Nat) (M : gk_M), m + d = 41 → d + 1 < fuel → dd + d ≤ 10100 → w < 2 ^ N → a_wf (a_r M) N dd →
    ∃ M', X12_back_l38 fuel (nI a) (nI b) (nI w) (nI 0) (-9) (nI m) M = some (z_bk N a b d (a_r M) dd w m, c_F 0 55 M') ∧ r_RC M M' := by
  intro d
  induction d with
  | zero =>
    intro fuel m dd w M hm hf hd hw hwf
    obtain ⟨k, rfl⟩ : ∃ k, fuel = k + 1 := ⟨fuel - 1, by omega⟩
    refine ⟨M, ?_, r_RC.rf⟩
    simp only [X12_back_l38, if_pos (show (40 : Int32) < nI m from nI_lt (a := 40) (by omega) (by omega)), z_bk, X12_back_j101, h_close, q_bnd]
  | succ d ih =>
    intro fuel m dd w M hm hf hd hw hwf
    obtain ⟨k, rfl⟩ : ∃ k, fuel = k + 1 := ⟨fuel - 1, by omega⟩
    have hN := hwf.1
    have hcond : ¬ (40 : Int32) < nI m := nI_nlt (b := m) (a := 40) (by omega) (by omega)
    obtain ⟨M1, rr, e1, e2, e3⟩ := h_dayR (by omega) hwf
    have hw1 : a_wf (a_r M1) N (dd + 1) := by rw [e2]; exact hwf.day (by omega)
    have hw' : z_ld (z_e (a_r M)) N w < 2 ^ N := z_ld_lt hw
    have eor := b_bk0 _ (z_p6 hN hw') b (by omega)
    have h2b := z_2a hb
    have n1 : ¬ (nI (2 ^ b) >>> (nI a &&& 31)) &&& 1 = 1 := fun q => by
      have := (b_has (2 ^ b) (z_p6 hN h2b) a (by omega)).2.mp q
      rw [Nat.testBit_two_pow_of_ne (Ne.symm hab)] at this
      exact Bool.noConfusion this
    have n0 : ¬ ((0 : Int32) >>> (nI a &&& 31)) &&& 1 = 1 := fun q => by
      have := (b_has 0 (by decide) a (by omega)).2.mp q
      rw [Nat.zero_testBit] at this
      exact Bool.noConfusion this
    have l0 : f_X12_reachOn (nI 0) M = some (nI 0, M) := by rw [h_ldR hwf (by decide), z_ld0]
    by_cases p : (z_ld (z_e (a_r M)) N w).testBit b = true
    · obtain ⟨M', f1, f2⟩ := h_bkR2 (N := N) ha hb d k (m + 1) (dd + 1) (z_ld (z_e (a_r M)) N w) (2 ^ b) M1 (by omega) (by omega) (by omega) hw' h2b (by simp) hw1
      refine ⟨M', ?_, e3.tr f2⟩
      rw [if_pos p] at eor
      rw [X12_back_l38]
      dsimp only
      rw [if_neg hcond, if_neg (show ¬ (0 : Int32) ≤ -9 by decide), h_ldR hwf (z_p6 hN hw), q_bnd, l0, q_bnd, b_one b (by omega), show nI 0 = (0 : Int32) from rfl, eor, if_pos n1, X12_back_j87, e1, q_bnd, nI_1, f1, e2, z_bk, if_pos p]
    · obtain ⟨M', f1, f2⟩ := ih k (m + 1) (dd + 1) (z_ld (z_e (a_r M)) N w) M1 (by omega) (by omega) (by omega) hw' hw1
      refine ⟨M', ?_, e3.tr f2⟩
      rw [if_neg p] at eor
      rw [X12_back_l38]
      dsimp only
      rw [if_neg hcond, if_neg (show ¬ (0 : Int32) ≤ -9 by decide), h_ldR hwf (z_p6 hN hw), q_bnd, l0, q_bnd, b_one b (by omega), show nI 0 = (0 : Int32) from rfl, eor, if_pos n0, X12_back_j87, e1, q_bnd, nI_1, show (0 : Int32) = nI 0 from rfl, f1, e2, z_bk, if_neg p]
theorem z_n9 {k : Nat} (h : k < 1000) : ¬ nI k = -9 := by
  rw [z_eq, z_n (by omega)]
  intro q
  have : ((k : Nat) : Int) = -9 := q
  omega
theorem w_back (x y : Int32) {M : gk_M} (h : i_ok M) : i_same Int32 (f_X11_back x y) (f_X12_back x y) M := by
  obtain ⟨N, dd, hd, hw, hc, hN, c0, r0, hwc⟩ := h.get
  by_cases q : ∃ a b, a < N ∧ b < N ∧ a ≠ b ∧ x = nI a ∧ y = nI b
  · obtain ⟨a, b, ha, hb, hab, rfl, rfl⟩ := q
    obtain ⟨M1, e1, e2, e3⟩ := h_copyW (k := 1) (o := 0) (by decide) (by decide) (by decide) hwc
    have hw1 : a_wf (a_c 1 M1) N dd := by rw [e2]; exact hwc
    have hab2 : ¬ (2 ^ a).testBit b = true := by rw [Nat.testBit_two_pow_of_ne hab]; decide
    have hba2 : ¬ (fun w : Nat => w.testBit a) (2 ^ b) = true := by show ¬ (2 ^ b).testBit a = true; rw [Nat.testBit_two_pow_of_ne (Ne.symm hab)]; decide
    obtain ⟨M2, f2, f1⟩ := h_bkC (N := N) (a := a) hb 40 200 0 dd (2 ^ a) M1 (by omega) (by omega) (by omega) (z_2a ha) hab2 hw1
    have cl : ∃ M4, f_X11_back (nI a) (nI b) M = some (z_bk N a b 40 (a_r M) dd (2 ^ a) 1, M4) ∧ a_Ch 1 M M4 := by
      have st : f_X11_back (nI a) (nI b) M = gk_bnd (X11_daysUntil_l6 200 (nI (2 ^ b)) 40 (nI (2 ^ a)) (nI 0) M1) (fun r6 M5 => if ¬ r6 = (-9 : Int32) then gk_bnd (f_X11_daysUntil (nI (2 ^ b)) (nI (2 ^ a)) ((40 : Int32) - r6) M5) (fun r8 M7 => if ¬ r8 = (-9 : Int32) then some ((r6 + r8), M7) else some ((-9 : Int32), M7)) else some ((-9 : Int32), M5)) := by
        rw [f_X11_back, h_twoT hN c0 ha hb hab, q_bnd, if_pos rfl, e1, q_bnd, b_one a (by omega), b_one b (by omega)]
        rfl
      rw [e2, hc] at f1
      rw [st]
      rcases f1 with ⟨q1, q2⟩ | ⟨k, e, q1, q2, q3, q4, q5, q6⟩
      · refine ⟨M2, ?_, e3.tr f2⟩
        rw [q1, q_bnd, if_neg (by decide)]
        exact congrArg (fun v => some (v, M2)) q2.symm
      · obtain ⟨M4, k1, k2⟩ := h_uC (N := N) (g := 2 ^ a) (most := 40 - k) (P := fun w => w.testBit a) (by omega) (fun w hw => b_bitC w (z_p6 hN hw) a (by omega)) (40 - k + 1) 200 0 e (2 ^ b) M2 (by omega) (by omega) (by omega) (z_2a hb) q5
        refine ⟨M4, ?_, (e3.tr f2).tr k2⟩
        rw [q4, q_bnd, if_pos (z_n9 (by omega)), f_X11_daysUntil, show (40 : Int32) - nI k = nI (40 - k) from pk_sub (a := 40) q2, show (0 : Int32) = nI 0 from rfl, k1, q_bnd, q6, z_u, if_neg hba2]
        have sh := z_u_sh (P := fun w => w.testBit a) (N := N) (c := k) (40 - k) (z_day (a_c 1 M2) e) (e + 1) (z_ld (z_e (a_c 1 M2)) N (2 ^ b)) 1
        rw [show k + 1 = 1 + k by omega, sh]
        have lt := z_u_lt (P := fun w => w.testBit a) (N := N) (40 - k) (z_day (a_c 1 M2) e) (e + 1) (z_ld (z_e (a_c 1 M2)) N (2 ^ b)) 1
        show (if ¬ z_an (z_u (fun w => w.testBit a) N (40 - k) (z_day (a_c 1 M2) e) (e + 1) (z_ld (z_e (a_c 1 M2)) N (2 ^ b)) 1) = -9 then _ else _) = _
        cases hz : z_u (fun w => w.testBit a) N (40 - k) (z_day (a_c 1 M2) e) (e + 1) (z_ld (z_e (a_c 1 M2)) N (2 ^ b)) 1 with
        | none => rfl
        | some j =>
          have := lt j hz
          show (if ¬ nI j = -9 then some (nI k + nI j, M4) else some (-9, M4)) = some (nI (j + k), M4)
          rw [if_pos (z_n9 (by omega)), nI_add, Nat.add_comm k j]
    obtain ⟨M4, cl, ch⟩ := cl
    obtain ⟨g1, g2, g3⟩ := i_open hw ch
    obtain ⟨M3, k1, k2⟩ := h_bkR1 (N := N) ha hb hab 40 200 1 dd (2 ^ a) (c_T 0 55 (gk_up M4 14 0 13 0)) (by omega) (by omega) (by omega) (z_2a ha) (by rw [g1]; exact hw)
    rw [g1] at k1
    refine i_mind h (M1 := M4) (M2 := M3) cl ch k2 ?_
    rw [f_X12_back, q_wr, h_are2T hN g2 ha hb hab, q_bnd, if_pos (by decide), h_open, q_bnd, b_one a (by omega)]
    exact k1
  · refine i_refuse h (q := 1) (x := -1) rfl (by decide) (by decide) ?_ ?_
    · rw [f_X11_back, h_twoF hN c0 q, q_bnd, if_neg (by decide)]; exact q_ret
    · intro M1 hE
      rw [f_X12_back, q_wr, h_are2F hN (hE.th.cnt r0) q, q_bnd, if_neg (by decide)]; exact q_ret
