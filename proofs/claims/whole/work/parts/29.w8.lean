/-! one lead on, in the class and in the reference -/
theorem z_or_bit (c : Nat → Bool) : ∀ (n m b : Nat), m + n ≤ 6 → b < 64 → fN (fun j b => if c j = true then b ||| 2 ^ j else b) n m b < 64
  | 0, _, _, _, h => h
  | n + 1, m, b, hm, h => by
    refine z_or_bit c n (m + 1) _ (by omega) ?_
    show (if c m = true then b ||| 2 ^ m else b) < 64
    split
    · have h1 : (2 : Nat) ^ m < 2 ^ 6 := Nat.pow_lt_pow_right (by decide) (by omega)
      exact Nat.or_lt_two_pow (n := 6) h h1
    · exact h
theorem h_ldC15 {k N w i : Nat} (hk : k < 3) {M : gk_M} (hN : N ≤ 6) (hc : M 2 k 3 = nI N) (hw : w < 64) (hi : i < N) {κ : Nat → Int32 → Int32 → Int32 → gk_M → Option (Int32 × gk_M)} : ∀ (d fuel j b : Nat), j + d = N → d < fuel →
    X4_oneLeadOn_l15 κ fuel k (nI w) (nI b) (nI i) (nI j) M = κ k (nI w) (nI (fN (fun j b => if (w.testBit i && z_e (a_c k M) i j) = true then b ||| 2 ^ j else b) d j b)) (nI (i + 1)) M := by
  intro d
  induction d with
  | zero =>
    intro fuel j b hj hf
    obtain ⟨n, rfl⟩ : ∃ n, fuel = n + 1 := ⟨fuel - 1, by omega⟩
    have hcond : M 2 k 3 ≤ nI j := by rw [hc]; exact nI_le (by omega) (by omega)
    simp only [X4_oneLeadOn_l15, q_gd (q_lt hk), if_pos hcond, nI_1, fN]
  | succ d ih =>
    intro fuel j b hj hf
    obtain ⟨n, rfl⟩ : ∃ n, fuel = n + 1 := ⟨fuel - 1, by omega⟩
    have hcond : ¬ M 2 k 3 ≤ nI j := by rw [hc]; exact nI_ge (by omega) (by omega)
    have ho := (b_has w hw i (by omega)).1
    have hr : M 2 k 5 = a_c k M 0 2 := (a_c0 (j := 2) (by decide)).symm
    by_cases h1 : w.testBit i = false
    · have e1 : nI w &&& (1 : Int32) <<< (nI i &&& 31) = 0 := ho.mpr h1
      simp only [X4_oneLeadOn_l15, X4_oneLeadOn_j53, q_gd (q_lt hk), if_neg hcond, if_pos e1, nI_1]
      rw [ih n (j + 1) b (by omega) (by omega)]
      show _ = κ k (nI w) (nI (fN _ d (j + 1) (if (w.testBit i && z_e (a_c k M) i j) = true then b ||| 2 ^ j else b))) (nI (i + 1)) M
      rw [if_neg (by rw [h1]; simp)]
    · have e1 : ¬ nI w &&& (1 : Int32) <<< (nI i &&& 31) = 0 := fun q => h1 (ho.mp q)
      have h1' : w.testBit i = true := by simpa using h1
      simp only [X4_oneLeadOn_l15, X4_oneLeadOn_j53, q_gd (q_lt hk), if_neg hcond, if_neg e1, h_gap hk hN hc hi (show j < N by omega), q_bnd, nI_1, hr]
      show (if a_c k M 0 2 < z_gp (a_c k M) i j then _ else _) = κ k (nI w) (nI (fN _ d (j + 1) (if (w.testBit i && z_e (a_c k M) i j) = true then b ||| 2 ^ j else b))) (nI (i + 1)) M
      by_cases g : a_c k M 0 2 < z_gp (a_c k M) i j
      · rw [if_pos g, if_neg (by rw [h1']; simp [z_e, g]), ih n (j + 1) b (by omega) (by omega)]
      · rw [if_neg g, if_pos (by rw [h1']; simp [z_e, g]), b_one j (by omega), b_or', ih n (j + 1) _ (by omega) (by omega)]
theorem h_ldC4 {k N w : Nat} (hk : k < 3) {M : gk_M} (hN : N ≤ 6) (hc : M 2 k 3 = nI N) (hw : w < 64) : ∀ (d fuel i b : Nat), i + d = N → d < fuel →
    X4_oneLeadOn_l4 fuel k (nI w) (nI b) (nI i) M = some (nI (fN (fun i b => fN (fun j b => if (w.testBit i && z_e (a_c k M) i j) = true then b ||| 2 ^ j else b) N 0 b) d i b), M) := by
  intro d
  induction d with
  | zero =>
    intro fuel i b hi hf
    obtain ⟨n, rfl⟩ : ∃ n, fuel = n + 1 := ⟨fuel - 1, by omega⟩
    have hcond : M 2 k 3 ≤ nI i := by rw [hc]; exact nI_le (by omega) (by omega)
    simp only [X4_oneLeadOn_l4, q_gd (q_lt hk), if_pos hcond, fN]
  | succ d ih =>
    intro fuel i b hi hf
    obtain ⟨n, rfl⟩ : ∃ n, fuel = n + 1 := ⟨fuel - 1, by omega⟩
    have hcond : ¬ M 2 k 3 ≤ nI i := by rw [hc]; exact nI_ge (by omega) (by omega)
    rw [X4_oneLeadOn_l4]
    dsimp only
    rw [q_gd (q_lt hk), if_neg hcond, show (0 : Int32) = nI 0 from rfl, h_ldC15 hk hN hc hw (by omega) N 200 0 b (by omega) (by omega), ih n (i + 1) _ (by omega) (by omega)]
    rfl
theorem h_ldC {k N w dd : Nat} (hk : k < 3) {M : gk_M} (h : a_wf (a_c k M) N dd) (hw : w < 64) : f_X4_oneLeadOn k (nI w) M = some (nI (z_ld (z_e (a_c k M)) N w), M) := by
  rw [f_X4_oneLeadOn, q_gd (q_lt hk), show (0 : Int32) = nI 0 from rfl, h_ldC4 hk h.1 h.cnt hw N 200 0 w (by omega) (by have := h.1; omega)]
  rfl
theorem h_isOp {N dd : Nat} {M : gk_M} (hw : a_wf (a_r M) N dd) {a b : Nat} (ha : a < N) (hb : b < N) : f_X12_isOpen (nI a) (nI b) M = some (if (decide (a ≠ b) && z_e (a_r M) a b) = true then 1 else 0, M) := by
  have hN := hw.1
  rw [f_X12_isOpen]
  by_cases q : a = b
  · subst q
    rw [if_pos rfl, if_neg (by simp)]; rfl
  · have e : ¬ nI a = nI b := fun z => q ((nI_eq (by omega) (by omega)).mp z)
    rw [if_neg e, h_far hw ha hb, q_bnd, ← a_r02 (M := M)]
    by_cases g : a_r M 0 2 < z_gp (a_r M) a b
    · rw [if_pos g, if_neg (by simp [z_e, g])]; rfl
    · rw [if_neg g, if_pos (by simp [z_e, g, q])]; rfl
theorem h_ldR15 {N w i dd : Nat} {M : gk_M} (hwf : a_wf (a_r M) N dd) (hw : w < 64) (hi : i < N) {κ : Int32 → Int32 → Int32 → gk_M → Option (Int32 × gk_M)} : ∀ (d fuel j b : Nat), j + d = N → d < fuel →
    X12_reachOn_l15 κ fuel (nI w) (nI b) (nI i) (nI j) M = κ (nI w) (nI (fN (fun j b => if (w.testBit i && (decide (i ≠ j) && z_e (a_r M) i j)) = true then b ||| 2 ^ j else b) d j b)) (nI (i + 1)) M := by
  have hN := hwf.1
  have hc := hwf.cntR
  intro d
  induction d with
  | zero =>
    intro fuel j b hj hf
    obtain ⟨n, rfl⟩ : ∃ n, fuel = n + 1 := ⟨fuel - 1, by omega⟩
    have hcond : M 14 0 0 ≤ nI j := by rw [hc]; exact nI_le (by omega) (by omega)
    simp only [X12_reachOn_l15, if_pos hcond, nI_1, fN]
  | succ d ih =>
    intro fuel j b hj hf
    obtain ⟨n, rfl⟩ : ∃ n, fuel = n + 1 := ⟨fuel - 1, by omega⟩
    have hcond : ¬ M 14 0 0 ≤ nI j := by rw [hc]; exact nI_ge (by omega) (by omega)
    have ho := (b_has w hw i (by omega)).2
    have or0 : nI b ||| 0 = nI b := by rw [show (0 : Int32) = nI 0 from rfl, b_or', Nat.or_zero]
    by_cases h1 : w.testBit i = true
    · have e1 : ¬ ¬ (nI w >>> (nI i &&& 31)) &&& 1 = 1 := fun q => q (ho.mpr h1)
      simp only [X12_reachOn_l15, X12_reachOn_j51, X12_reachOn_j52, if_neg hcond, if_neg e1, h_isOp hwf hi (show j < N by omega), q_bnd, nI_1, or0]
      show _ = κ (nI w) (nI (fN _ d (j + 1) (if (w.testBit i && (decide (i ≠ j) && z_e (a_r M) i j)) = true then b ||| 2 ^ j else b))) (nI (i + 1)) M
      by_cases g : (decide (i ≠ j) && z_e (a_r M) i j) = true
      · rw [if_pos g, if_neg (by decide), if_pos (by rw [h1, g]; rfl), b_one j (by omega), b_or', ih n (j + 1) _ (by omega) (by omega)]
      · rw [if_neg g, if_pos rfl, if_neg (by rw [h1]; simpa using g), ih n (j + 1) _ (by omega) (by omega)]
    · have e1 : ¬ (nI w >>> (nI i &&& 31)) &&& 1 = 1 := fun q => h1 (ho.mp q)
      simp only [X12_reachOn_l15, X12_reachOn_j51, X12_reachOn_j52, if_neg hcond, if_pos e1, nI_1, or0]
      rw [ih n (j + 1) b (by omega) (by omega)]
      show _ = κ (nI w) (nI (fN _ d (j + 1) (if (w.testBit i && (decide (i ≠ j) && z_e (a_r M) i j)) = true then b ||| 2 ^ j else b))) (nI (i + 1)) M
      rw [if_neg (by simp only [Bool.not_eq_true] at h1; rw [h1]; simp)]
theorem h_ldR4 {N w dd : Nat} {M : gk_M} (hwf : a_wf (a_r M) N dd) (hw : w < 64) : ∀ (d fuel i b : Nat), i + d = N → d < fuel →
    X12_reachOn_l4 fuel (nI w) (nI b) (nI i) M = some (nI (fN (fun i b => fN (fun j b => if (w.testBit i && (decide (i ≠ j) && z_e (a_r M) i j)) = true then b ||| 2 ^ j else b) N 0 b) d i b), M) := by
  have hN := hwf.1
  have hc := hwf.cntR
  intro d
  induction d with
  | zero =>
    intro fuel i b hi hf
    obtain ⟨n, rfl⟩ : ∃ n, fuel = n + 1 := ⟨fuel - 1, by omega⟩
    have hcond : M 14 0 0 ≤ nI i := by rw [hc]; exact nI_le (by omega) (by omega)
    simp only [X12_reachOn_l4, if_pos hcond, fN]
  | succ d ih =>
    intro fuel i b hi hf
    obtain ⟨n, rfl⟩ : ∃ n, fuel = n + 1 := ⟨fuel - 1, by omega⟩
    have hcond : ¬ M 14 0 0 ≤ nI i := by rw [hc]; exact nI_ge (by omega) (by omega)
    rw [X12_reachOn_l4]
    dsimp only
    rw [if_neg hcond, show (0 : Int32) = nI 0 from rfl, h_ldR15 hwf hw (by omega) N 200 0 b (by omega) (by omega), ih n (i + 1) _ (by omega) (by omega)]
    rfl
theorem h_ldR {N w dd : Nat} {M : gk_M} (h : a_wf (a_r M) N dd) (hw : w < 64) : f_X12_reachOn (nI w) M = some (nI (z_ld (z_e (a_r M)) N w), M) := by
  rw [f_X12_reachOn, show (0 : Int32) = nI 0 from rfl, h_ldR4 h hw N 200 0 w (by omega) (by have := h.1; omega)]
  exact congrArg (fun w => some (nI w, M)) (z_ld_eq (e := fun i j => decide (i ≠ j) && z_e (a_r M) i j) (fun i j _ _ q => by simp [q]))
/-! know -/
def z_kn (N : Nat) : Nat → a_S → Nat → Nat → Nat
  | 0, _, _, w => w
  | d + 1, B, dd, w => z_kn N d (z_day B dd) (dd + 1) (z_ld (z_e B) N w)
theorem z_p6 {N w : Nat} (hN : N ≤ 6) (hw : w < 2 ^ N) : w < 64 := Nat.lt_of_lt_of_le hw (Nat.pow_le_pow_right (n := 2) (by decide) hN)
theorem h_knC {N n : Nat} (hn : n ≤ 40) : ∀ (d fuel m dd w : Nat) (M : gk_M), m + d = n → d < fuel → dd + d ≤ 10100 → w < 2 ^ N → a_wf (a_c 1 M) N dd →
    ∃ M', X11_know_l45 fuel (nI n) (nI w) (nI m) M = some (nI (z_kn N d (a_c 1 M) dd w), M') ∧ a_Ch 1 M M' := by
  intro d
  induction d with
  | zero =>
    intro fuel m dd w M hm hf hd hw hwf
    obtain ⟨k, rfl⟩ : ∃ k, fuel = k + 1 := ⟨fuel - 1, by omega⟩
    refine ⟨M, ?_, a_Ch.rf⟩
    simp only [X11_know_l45, if_pos (show nI n ≤ nI m from nI_le (by omega) (by omega)), z_kn]
  | succ d ih =>
    intro fuel m dd w M hm hf hd hw hwf
    obtain ⟨k, rfl⟩ : ∃ k, fuel = k + 1 := ⟨fuel - 1, by omega⟩
    obtain ⟨M1, e1, e2, e3⟩ := h_dayW (k := 1) (by decide) hwf
    have hw1 : a_wf (a_c 1 M1) N (dd + 1) := by rw [e2]; exact hwf.day (by omega)
    obtain ⟨M', f1, f2⟩ := ih k (m + 1) (dd + 1) (z_ld (z_e (a_c 1 M)) N w) M1 (by omega) (by omega) (by omega) (z_ld_lt hw) hw1
    refine ⟨M', ?_, e3.tr f2⟩
    simp only [X11_know_l45, if_neg (show ¬ nI n ≤ nI m from nI_ge (by omega) (by omega)), h_ldC (show 1 < 3 by decide) hwf (z_p6 hwf.1 hw), q_bnd, e1, nI_1, f1, e2, z_kn]
theorem h_knR {N n : Nat} (hn : n ≤ 40) : ∀ (d fuel m dd w : Nat) (M : gk_M), m + d = n → d < fuel → dd + d ≤ 10100 → w < 2 ^ N → a_wf (a_r M) N dd →
    ∃ M', X12_know_l46 fuel (nI n) (nI w) (nI m) M = some (nI (z_kn N d (a_r M) dd w), c_F 0 55 M') ∧ r_RC M M' := by
  intro d
  induction d with
  | zero =>
    intro fuel m dd w M hm hf hd hw hwf
    obtain ⟨k, rfl⟩ : ∃ k, fuel = k + 1 := ⟨fuel - 1, by omega⟩
    refine ⟨M, ?_, r_RC.rf⟩
    simp only [X12_know_l46, if_pos (show nI n ≤ nI m from nI_le (by omega) (by omega)), z_kn, h_close, q_bnd]
  | succ d ih =>
    intro fuel m dd w M hm hf hd hw hwf
    obtain ⟨k, rfl⟩ : ∃ k, fuel = k + 1 := ⟨fuel - 1, by omega⟩
    obtain ⟨M1, rr, e1, e2, e3⟩ := h_dayR (by omega) hwf
    have hw1 : a_wf (a_r M1) N (dd + 1) := by rw [e2]; exact hwf.day (by omega)
    obtain ⟨M', f1, f2⟩ := ih k (m + 1) (dd + 1) (z_ld (z_e (a_r M)) N w) M1 (by omega) (by omega) (by omega) (z_ld_lt hw) hw1
    refine ⟨M', ?_, e3.tr f2⟩
    simp only [X12_know_l46, if_neg (show ¬ nI n ≤ nI m from nI_ge (by omega) (by omega)), h_ldR hwf (z_p6 hwf.1 hw), q_bnd, e1, nI_1, f1, e2, z_kn]
theorem z_2a {a N : Nat} (h : a < N) : 2 ^ a < 2 ^ N := Nat.pow_lt_pow_right (by decide) h
theorem w_know (x y : Int32) {M : gk_M} (h : i_ok M) : i_same Int32 (f_X11_know x y) (f_X12_know x y) M := by
  obtain ⟨N, dd, hd, hw, hc, hN, c0, r0, hwc⟩ := h.get
  rcases z_ship N hN x with ⟨a, ha, rfl⟩ | hx
  · rcases z_n60 y 40 40 rfl (by decide) with ⟨n, hn, rfl, y0, y1⟩ | y0 | ⟨y0, y1⟩
    · obtain ⟨M1, e1, e2, e3⟩ := h_copyW (k := 1) (o := 0) (by decide) (by decide) (by decide) hwc
      have hw1 : a_wf (a_c 1 M1) N dd := by rw [e2]; exact hwc
      obtain ⟨M2, f1, f2⟩ := h_knC (N := N) hn n 200 0 dd (2 ^ a) M1 (by omega) (by omega) (by omega) (z_2a ha) hw1
      have ch := e3.tr f2
      obtain ⟨g1, g2, g3⟩ := i_open hw ch
      obtain ⟨M3, k1, k2⟩ := h_knR (N := N) hn n 200 0 dd (2 ^ a) (c_T 0 55 (gk_up M2 14 0 13 0)) (by omega) (by omega) (by omega) (z_2a ha) (by rw [g1]; exact hw)
      rw [g1] at k1
      rw [e2, hc] at f1
      refine i_mind h (M1 := M2) (M2 := M3) ?_ ch k2 ?_ (r := nI (z_kn N n (a_r M) dd (2 ^ a)))
      · rw [f_X11_know, h_nobT hN c0 ha, q_bnd, h_rng, if_pos y0, if_pos y1, q_bnd, h_fst0, q_bnd, if_pos rfl, e1, q_bnd, b_one a (by omega)]
        exact f1
      · rw [f_X12_know, q_wr, h_shT hN g2 ha, q_bnd, if_neg (by decide), h_wd, if_pos y0, if_pos y1, q_bnd, X12_know_j23, if_pos (by decide), h_open, q_bnd, b_one a (by omega)]
        exact k1
    · refine i_refuse h (q := 4) (x := -4) rfl (by decide) (by decide) ?_ ?_
      · rw [f_X11_know, h_nobT hN c0 ha, q_bnd, h_rng, if_neg y0, q_bnd, h_fst0, q_bnd, if_neg (by decide)]; exact q_ret
      · intro M1 hE
        rw [f_X12_know, q_wr, h_shT hN (hE.th.cnt r0) ha, q_bnd, if_neg (by decide), h_wd, if_neg y0, q_bnd, X12_know_j23, if_neg (by decide)]; exact q_ret
    · refine i_refuse h (q := 6) (x := -6) rfl (by decide) (by decide) ?_ ?_
      · rw [f_X11_know, h_nobT hN c0 ha, q_bnd, h_rng, if_pos y0, if_neg y1, q_bnd, h_fst0, q_bnd, if_neg (by decide)]; exact q_ret
      · intro M1 hE
        rw [f_X12_know, q_wr, h_shT hN (hE.th.cnt r0) ha, q_bnd, if_neg (by decide), h_wd, if_pos y0, if_neg y1, q_bnd, X12_know_j23, if_neg (by decide)]; exact q_ret
  · refine i_refuse h (q := 1) (x := -1) rfl (by decide) (by decide) ?_ ?_
    · obtain ⟨z, hz⟩ := h_rngE y 0 40 M
      rw [f_X11_know, h_nobF c0 hx, q_bnd, hz, q_bnd, h_fstN (by decide), q_bnd, if_neg (by decide)]; exact q_ret
    · intro M1 hE
      rw [f_X12_know, q_wr, h_shF hN (hE.th.cnt r0) hx, q_bnd, if_pos rfl, X12_know_j23, if_neg (by decide)]; exact q_ret
