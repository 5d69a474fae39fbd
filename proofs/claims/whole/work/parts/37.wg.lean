/-! kinds -/
def z_wE (W : a_S) (k : Nat) (g : Int32) : Nat → Nat → Int32 → Int32
  | 0, _, x => x
  | d + 1, dd, x => z_wE W k g d (dd + 1) (x + z_dE k g (nI dd) (W 1 (dd % 7)) (W 2 (dd % 7)) (W 1 ((dd + 6) % 7)))
def z_wN (W : a_S) (k : Nat) (g : Int32) : Nat → Nat → Int32 → Int32
  | 0, _, x => x
  | d + 1, dd, x => z_wN W k g d (dd + 1) (x + z_dN k g (nI dd) (W 1 (dd % 7)) (W 2 (dd % 7)) (W 2 ((dd + 6) % 7)))
theorem z_days_w {W : a_S} {k N s : Nat} {g : Int32} (hk : k < 6) (hs : s < N) (hN : N ≤ 6) : ∀ (n dd : Nat) (B : a_S), B 0 0 = nI N → B (s + 3) 0 = nI k → B (s + 3) 1 = g → (∀ j, j < 7 → B 1 j = W 1 j ∧ B 2 j = W 2 j) → z_days B dd n (s + 3) 4 = z_wE W k g n dd (B (s + 3) 4) ∧ z_days B dd n (s + 3) 5 = z_wN W k g n dd (B (s + 3) 5)
  | 0, _, _, _, _, _, _ => ⟨rfl, rfl⟩
  | n + 1, dd, B, h0, h1, h2, h3 => by
    obtain ⟨p0, p1, p2, p3, p4⟩ := z_passR (A := B) (d := nI dd) (e := B 1 (dd % 7)) (n := B 2 (dd % 7)) (le := B 1 ((dd + 6) % 7)) (ln := B 2 ((dd + 6) % 7)) h0 hN
    have q4 : z_day B dd (s + 3) 4 = B (s + 3) 4 + z_dE k g (nI dd) (W 1 (dd % 7)) (W 2 (dd % 7)) (W 1 ((dd + 6) % 7)) := by
      rw [show z_day B dd = z_pass B (nI dd) (B 1 (dd % 7)) (B 2 (dd % 7)) (B 1 ((dd + 6) % 7)) (B 2 ((dd + 6) % 7)) from rfl, p4 s 4 hs (by decide)]
      show B (s + 3) 4 + z_dE (B (s + 3) 0).toNatClampNeg (B (s + 3) 1) (nI dd) (B 1 (dd % 7)) (B 2 (dd % 7)) (B 1 ((dd + 6) % 7)) = _
      rw [h1, h2, q_cl (by omega), (h3 _ (by omega)).1, (h3 _ (by omega)).2, (h3 _ (by omega)).1]
    have q5 : z_day B dd (s + 3) 5 = B (s + 3) 5 + z_dN k g (nI dd) (W 1 (dd % 7)) (W 2 (dd % 7)) (W 2 ((dd + 6) % 7)) := by
      rw [show z_day B dd = z_pass B (nI dd) (B 1 (dd % 7)) (B 2 (dd % 7)) (B 1 ((dd + 6) % 7)) (B 2 ((dd + 6) % 7)) from rfl, p4 s 5 hs (by decide)]
      show B (s + 3) 5 + z_dN (B (s + 3) 0).toNatClampNeg (B (s + 3) 1) (nI dd) (B 1 (dd % 7)) (B 2 (dd % 7)) (B 2 ((dd + 6) % 7)) = _
      rw [h1, h2, q_cl (by omega), (h3 (dd % 7) (by omega)).1, (h3 (dd % 7) (by omega)).2, (h3 ((dd + 6) % 7) (by omega)).2]
    have ih := z_days_w hk hs hN n (dd + 1) (z_day B dd) (p0.trans h0) ((p4 s 0 hs (by decide)).trans h1) ((p4 s 1 hs (by decide)).trans h2) (fun j hj => ⟨((p3 j hj).1).trans (h3 j hj).1, ((p3 j hj).2).trans (h3 j hj).2⟩)
    rw [← z_days_sh, ih.1, ih.2, q4, q5]
    exact ⟨rfl, rfl⟩
def z_hit (W : a_S) (s : Nat) (g : Int32) (n dd : Nat) (e no : Int32) (k : Nat) : Bool := decide (z_wE W k g n dd (W (s + 3) 4) = e) && decide (z_wN W k g n dd (W (s + 3) 5) = no)
theorem h_wbC {W : a_S} {k g n dd0 : Nat} (hk : k < 6) (hn : n ≤ 30) (hd : dd0 ≤ 9999) {e no : Int32} : ∀ (d fuel i : Nat) (x7 x8 : Int32) (M : gk_M), i + d = n → d < fuel → M 2 0 4 = nI dd0 → (∀ j, j < 7 → M 7 0 j = W 1 j ∧ M 8 0 j = W 2 j) →
    ∃ M', X11_wouldBeAt_l15 fuel k (nI g) (nI n) e no x7 x8 (nI i) M = some (if (decide (z_wE W k (nI g) d (dd0 + i) x7 = e) && decide (z_wN W k (nI g) d (dd0 + i) x8 = no)) = true then 1 else 0, M') ∧ (∀ c i j, c ≠ 0 → M' c i j = M c i j) := by
  intro d
  induction d with
  | zero =>
    intro fuel i x7 x8 M hi hf h4 hw
    obtain ⟨f, rfl⟩ : ∃ f, fuel = f + 1 := ⟨fuel - 1, by omega⟩
    refine ⟨M, ?_, fun _ _ _ _ => rfl⟩
    rw [X11_wouldBeAt_l15]
    dsimp only
    rw [q_gd (q_lt hk), if_pos (nI_le (by omega) (by omega)), z_wE, z_wN]
    by_cases p : x7 = e
    · rw [if_neg (fun q => q p)]
      by_cases p' : x8 = no
      · rw [if_neg (fun q => q p'), q_gd q_b1, if_pos (by simp [p, p'])]
      · rw [if_pos p', X11_wouldBeAt_j95, q_gd q_b0, if_neg (by simp [p'])]
    · rw [if_pos p, X11_wouldBeAt_j95, q_gd q_b0, if_neg (by simp [p])]
  | succ d ih =>
    intro fuel i x7 x8 M hi hf h4 hw
    obtain ⟨f, rfl⟩ : ∃ f, fuel = f + 1 := ⟨fuel - 1, by omega⟩
    obtain ⟨M1, hM1⟩ : ∃ M1, M1 = gk_up (gk_up (gk_up (gk_up (gk_up M 0 0 0 (nI (dd0 + i))) 0 0 1 (M 7 0 ((dd0 + i) % 7))) 0 0 2 (M 8 0 ((dd0 + i) % 7))) 0 0 3 (M 7 0 ((dd0 + i + 6) % 7))) 0 0 4 (M 8 0 ((dd0 + i + 6) % 7)) := ⟨_, rfl⟩
    have hs : ∀ c i j, c ≠ 0 → M1 c i j = M c i j := fun c i j h => by rw [hM1, u_n (by omega), u_n (by omega), u_n (by omega), u_n (by omega), u_n (by omega)]
    have a0 : M1 0 0 0 = nI (dd0 + i) := by rw [hM1, u_n (by omega), u_n (by omega), u_n (by omega), u_n (by omega), u_s]
    have a1 : M1 0 0 1 = W 1 ((dd0 + i) % 7) := by rw [hM1, u_n (by omega), u_n (by omega), u_n (by omega), u_s]; exact (hw _ (by omega)).1
    have a2 : M1 0 0 2 = W 2 ((dd0 + i) % 7) := by rw [hM1, u_n (by omega), u_n (by omega), u_s]; exact (hw _ (by omega)).2
    have a3 : M1 0 0 3 = W 1 ((dd0 + i + 6) % 7) := by rw [hM1, u_n (by omega), u_s]; exact (hw _ (by omega)).1
    have a4 : M1 0 0 4 = W 2 ((dd0 + i + 6) % 7) := by rw [hM1, u_s]; exact (hw _ (by omega)).2
    obtain ⟨M', f1, f2⟩ := ih f (i + 1) (x7 + z_dE k (nI g) (nI (dd0 + i)) (W 1 ((dd0 + i) % 7)) (W 2 ((dd0 + i) % 7)) (W 1 ((dd0 + i + 6) % 7))) (x8 + z_dN k (nI g) (nI (dd0 + i)) (W 1 ((dd0 + i) % 7)) (W 2 ((dd0 + i) % 7)) (W 2 ((dd0 + i + 6) % 7))) M1 (by omega) (by omega) (by rw [hs _ _ _ (by decide)]; exact h4) (fun j hj => by rw [hs _ _ _ (by decide), hs _ _ _ (by decide)]; exact hw j hj)
    refine ⟨M', ?_, fun c i j h => (f2 c i j h).trans (hs c i j h)⟩
    rw [X11_wouldBeAt_l15]
    dsimp only
    rw [q_gd (q_lt hk), if_neg (nI_ge (by omega) (by omega)), h4, nI_add, h_air (by decide) (by omega), q_bnd, ← hM1, h_drE hk, q_bnd, h_drN hk, q_bnd, a0, a1, a2, a3, a4, nI_1, f1, z_wE, z_wN]
    rfl
def z_hs6 (W : a_S) (s : Nat) (g : Int32) (n dd : Nat) (e no : Int32) (d k b : Nat) : Nat := fN (fun k b => if z_hit W s g n dd e no k = true then b ||| 2 ^ k else b) d k b
theorem h_kdC {W : a_S} {N s g n dd0 : Nat} (hs : s < 6) (hn : n ≤ 30) (hd : dd0 ≤ 9999) {e no : Int32} : ∀ (d fuel k b : Nat) (M : gk_M), k + d = 6 → d < fuel → M 2 0 4 = nI dd0 → (∀ j, j < 7 → M 7 0 j = W 1 j ∧ M 8 0 j = W 2 j) → M 5 s 4 = W (s + 3) 4 → M 5 s 5 = W (s + 3) 5 →
    ∃ M', X11_kinds_l45 fuel (nI s) (nI g) (nI n) e no (nI b) (nI k) M = some (nI (z_hs6 W s (nI g) n dd0 e no d k b), M') ∧ (∀ c i j, c ≠ 0 → M' c i j = M c i j) := by
  intro d
  induction d with
  | zero =>
    intro fuel k b M hk hf h4 hw h54 h55
    obtain ⟨f, rfl⟩ : ∃ f, fuel = f + 1 := ⟨fuel - 1, by omega⟩
    refine ⟨M, ?_, fun _ _ _ _ => rfl⟩
    rw [X11_kinds_l45]
    dsimp only
    rw [if_pos (show (6 : Int32) ≤ nI k from nI_le (a := 6) (by omega) (by omega))]
    rfl
  | succ d ih =>
    intro fuel k b M hk hf h4 hw h54 h55
    obtain ⟨f, rfl⟩ : ∃ f, fuel = f + 1 := ⟨fuel - 1, by omega⟩
    obtain ⟨M1, e1, e2⟩ := h_wbC (W := W) (k := k) (g := g) (n := n) (dd0 := dd0) (by omega) hn hd (e := e) (no := no) n 200 0 (W (s + 3) 4) (W (s + 3) 5) M (by omega) (by omega) h4 hw
    have wb : f_X11_wouldBeAt s k (nI g) (nI n) e no M = some (if z_hit W s (nI g) n dd0 e no k = true then 1 else 0, M1) := by
      rw [f_X11_wouldBeAt, q_gd (q_lt (by omega)), q_gd (q_lt (by omega)), h54, h55]
      exact e1
    have nx : ∀ b', ∃ M', X11_kinds_l45 f (nI s) (nI g) (nI n) e no (nI b') (nI (k + 1)) M1 = some (nI (z_hs6 W s (nI g) n dd0 e no d (k + 1) b'), M') ∧ (∀ c i j, c ≠ 0 → M' c i j = M1 c i j) := fun b' => ih f (k + 1) b' M1 (by omega) (by omega) (by rw [e2 _ _ _ (by decide)]; exact h4) (fun j hj => by rw [e2 _ _ _ (by decide), e2 _ _ _ (by decide)]; exact hw j hj) (by rw [e2 _ _ _ (by decide)]; exact h54) (by rw [e2 _ _ _ (by decide)]; exact h55)
    rw [X11_kinds_l45]
    dsimp only
    rw [if_neg (show ¬ (6 : Int32) ≤ nI k from nI_ge (b := 6) (by omega) (by omega)), q_gd (q_in hs (by decide)), q_gd (q_in (show k < 6 by omega) (by decide)), q_cl (show s < 2 ^ 31 by omega), q_cl (show k < 2 ^ 31 by omega), show 6 * 0 + s = s by omega, wb, q_bnd, show z_hs6 W s (nI g) n dd0 e no (d + 1) k b = z_hs6 W s (nI g) n dd0 e no d (k + 1) (if z_hit W s (nI g) n dd0 e no k = true then b ||| 2 ^ k else b) from rfl]
    by_cases p : z_hit W s (nI g) n dd0 e no k = true
    · obtain ⟨M', f1, f2⟩ := nx (b ||| 2 ^ k)
      refine ⟨M', ?_, fun c i j h => (f2 c i j h).trans (e2 c i j h)⟩
      rw [if_pos p, if_pos p, if_neg (by decide), X11_kinds_j90, nI_1, b_one k (by omega), b_or', f1]
    · obtain ⟨M', f1, f2⟩ := nx b
      refine ⟨M', ?_, fun c i j h => (f2 c i j h).trans (e2 c i j h)⟩
      rw [if_neg p, if_neg p, if_pos rfl, X11_kinds_j90, nI_1, f1]
theorem a_wf.kf {A : a_S} {N dd s k g : Nat} (h : a_wf A N dd) (hk : k < 6) (hg : g < 10) : a_wf (z_set (z_set A (s + 3) 0 (nI k)) (s + 3) 1 (nI g)) N dd := by
  obtain ⟨hN, hc, hdd, h4, hr, hs, hw, hsh⟩ := h
  have z : ∀ r j, ¬ (r = s + 3 ∧ (j = 0 ∨ j = 1)) → z_set (z_set A (s + 3) 0 (nI k)) (s + 3) 1 (nI g) r j = A r j := fun r j q => by rw [zs_n (by omega), zs_n (by omega)]
  refine ⟨hN, by rw [z _ _ (by omega)]; exact hc, by rw [z _ _ (by omega)]; exact hdd, h4, by rw [z _ _ (by omega)]; exact hr, by rw [z _ _ (by omega)]; exact hs, fun d hd => ?_, fun t ht => ?_⟩
  · unfold a_wd
    rw [z _ _ (by omega), z _ _ (by omega)]
    exact hw d hd
  · unfold a_sh
    rw [z _ 2 (by omega), z _ 3 (by omega), z _ 4 (by omega), z _ 5 (by omega)]
    obtain ⟨p1, p2, p3⟩ := hsh t ht
    by_cases q : t = s
    · subst q
      rw [zs_s, zs_n (by omega), zs_s]
      exact ⟨⟨k, hk, rfl⟩, ⟨g, hg, rfl⟩, p3⟩
    · rw [z _ _ (by omega), z _ _ (by omega)]
      exact ⟨p1, p2, p3⟩
theorem h_kdR {A : a_S} {N s g n dd0 : Nat} (hs : s < N) (hg : g < 10) (hn : n ≤ 30) (hd : dd0 ≤ 9999) (hw : a_wf A N dd0) {e no : Int32} : ∀ (d fuel k b : Nat) (M : gk_M), k + d = 6 → d < fuel → a_r M = A →
    ∃ M', X12_kinds_l68 fuel (nI s) (nI g) (nI n) e no (nI b) (nI k) M = some (nI (z_hs6 A s (nI g) n dd0 e no d k b), M') ∧ r_RK M M' := by
  have hN := hw.1
  intro d
  induction d with
  | zero =>
    intro fuel k b M hk hf hA
    obtain ⟨f, rfl⟩ : ∃ f, fuel = f + 1 := ⟨fuel - 1, by omega⟩
    refine ⟨M, ?_, r_RK.rf⟩
    rw [X12_kinds_l68]
    dsimp only
    rw [if_pos (show (6 : Int32) ≤ nI k from nI_le (a := 6) (by omega) (by omega))]
    rfl
  | succ d ih =>
    intro fuel k b M hk hf hA
    obtain ⟨f, rfl⟩ : ∃ f, fuel = f + 1 := ⟨fuel - 1, by omega⟩
    have hs6 : s < 6 := by omega
    have r0 : M 14 0 0 = nI N := a_wf.cntR (M := M) (by rw [hA]; exact hw)
    have aT : a_r (c_T 0 55 M) = A := by rw [(c_TK M).st r0 hN]; exact hA
    have rT : c_T 0 55 M 14 0 0 = nI N := a_wf.cntR (M := c_T 0 55 M) (by rw [aT]; exact hw)
    obtain ⟨B, hB⟩ : ∃ B, B = z_set (z_set A (s + 3) 0 (nI k)) (s + 3) 1 (nI g) := ⟨_, rfl⟩
    have aB : a_r (gk_up (gk_up (c_T 0 55 M) 16 0 s (nI k)) 16 1 s (nI g)) = B := by
      rw [hB, ← aT, ← a_r_up rT hN (r0 := s + 3) (j0 := 0) (v := nI k) (Or.inr (Or.inr ⟨by omega, by omega, by decide⟩)) (by omega)]
      exact a_r_up (M := gk_up (c_T 0 55 M) 16 0 s (nI k)) (by rw [u_n (by omega)]; exact rT) hN (r0 := s + 3) (j0 := 1) (v := nI g) (Or.inr (Or.inr ⟨by omega, by omega, by decide⟩)) (by omega)
    have wB : a_wf B N dd0 := by rw [hB]; exact hw.kf (by omega) hg
    obtain ⟨M8, e1, e2, e3⟩ := h_daysOn (N := N) (n := n) (dd := dd0) (by omega) (M := gk_up (gk_up (c_T 0 55 M) 16 0 s (nI k)) 16 1 s (nI g)) (by omega) (by rw [aB]; exact wB)
    rw [aB] at e2
    have w8 := wB.days n (by omega)
    have r8 : M8 14 0 0 = nI N := a_wf.cntR (M := M8) (by rw [e2]; exact w8)
    have zd := z_days_w (W := A) (k := k) (N := N) (s := s) (g := nI g) (by omega) hs hN n dd0 B wB.2.1 (by rw [hB, zs_n (by omega), zs_s]) (by rw [hB, zs_s]) (fun j hj => by rw [hB, zs_n (by omega), zs_n (by omega), zs_n (by omega), zs_n (by omega)]; exact ⟨rfl, rfl⟩)
    have b4 : B (s + 3) 4 = A (s + 3) 4 := by rw [hB, zs_n (by omega), zs_n (by omega)]
    have b5 : B (s + 3) 5 = A (s + 3) 5 := by rw [hB, zs_n (by omega), zs_n (by omega)]
    rw [b4, b5] at zd
    have v4 : M8 16 4 s = z_wE A k (nI g) n dd0 (A (s + 3) 4) := by rw [← zd.1, ← e2, a_rs r8 hN hs (by decide)]
    have v5 : M8 16 5 s = z_wN A k (nI g) n dd0 (A (s + 3) 5) := by rw [← zd.2, ← e2, a_rs r8 hN hs (by decide)]
    have rc : r_RC (c_T 0 55 M) M8 := ((r_RC.up (by unfold r_st; omega)).tr (r_RC.up (by unfold r_st; omega))).tr e3
    have rk := c_FK rc
    have aF : a_r (c_F 0 55 M8) = A := by rw [rk.st r0 hN]; exact hA
    have nx : ∀ b', ∃ M', X12_kinds_l68 f (nI s) (nI g) (nI n) e no (nI b') (nI (k + 1)) (c_F 0 55 M8) = some (nI (z_hs6 A s (nI g) n dd0 e no d (k + 1) b'), M') ∧ r_RK (c_F 0 55 M8) M' := fun b' => ih f (k + 1) b' _ (by omega) (by omega) aF
    rw [X12_kinds_l68]
    dsimp only
    rw [if_neg (show ¬ (6 : Int32) ≤ nI k from nI_ge (b := 6) (by omega) (by omega)), h_open, q_bnd, q_gd (q_in hs6 (by decide)), q_wr, q_gd (q_in hs6 (by decide)), q_wr, q_cl (show s < 2 ^ 31 by omega), e1, q_bnd, q_gd (q_in hs6 (by decide)), v4, q_gd (q_in hs6 (by decide)), v5, show z_hs6 A s (nI g) n dd0 e no (d + 1) k b = z_hs6 A s (nI g) n dd0 e no d (k + 1) (if z_hit A s (nI g) n dd0 e no k = true then b ||| 2 ^ k else b) from rfl]
    have no0 : nI b ||| 0 = nI b := by rw [show (0 : Int32) = nI 0 from rfl, b_or', Nat.or_zero]
    by_cases p1 : z_wE A k (nI g) n dd0 (A (s + 3) 4) = e
    · rw [if_neg (fun q => q p1)]
      by_cases p2 : z_wN A k (nI g) n dd0 (A (s + 3) 5) = no
      · obtain ⟨M', f1, f2⟩ := nx (b ||| 2 ^ k)
        refine ⟨M', ?_, rk.tr f2⟩
        rw [if_neg (fun q => q p2), X12_kinds_j132, h_close, q_bnd, nI_1, b_one k (by omega), b_or', f1, if_pos (by unfold z_hit; simp [p1, p2])]
      · obtain ⟨M', f1, f2⟩ := nx b
        refine ⟨M', ?_, rk.tr f2⟩
        rw [if_pos p2, X12_kinds_j131, X12_kinds_j132, h_close, q_bnd, nI_1, no0, f1, if_neg (by unfold z_hit; simp [p2])]
    · obtain ⟨M', f1, f2⟩ := nx b
      refine ⟨M', ?_, rk.tr f2⟩
      rw [if_pos p1, X12_kinds_j131, X12_kinds_j132, h_close, q_bnd, nI_1, no0, f1, if_neg (by unfold z_hit; simp [p1])]
theorem h_kdSt {x f : Int32} {M : gk_M} : f_X11_belowFirst (if 0 ≤ x then if x ≤ 30 then 0 else -6 else -4) (if 0 ≤ f then if f ≤ 9 then 0 else -6 else -4) M = some (if 0 ≤ x ∧ 0 ≤ f then (if x ≤ 30 ∧ f ≤ 9 then 0 else -6) else -4, M) := by
  rw [f_X11_belowFirst]
  by_cases p1 : 0 ≤ x <;> by_cases p2 : x ≤ 30 <;> by_cases p3 : 0 ≤ f <;> by_cases p4 : f ≤ 9 <;> simp only [p1, p2, p3, p4, if_true, if_false, and_self, and_true, true_and, and_false, false_and, h_fst, q_bnd] <;> rfl
theorem w_kinds (x f y e no : Int32) {M : gk_M} (h : i_ok M) : i_same Int32 (f_X11_kinds x f y e no) (f_X12_kinds x f y e no) M := by
  obtain ⟨N, dd, hd, hw, hc, hN, c0, r0, hwc⟩ := h.get
  rcases z_ship N hN x with ⟨a, ha, rfl⟩ | hx
  · have rf : ∀ M1, i_E M M1 → f_X12_kinds (nI a) f y e no M1 = X12_kinds_j48 (nI a) f y e no (if 0 ≤ y ∧ 0 ≤ f then (if y ≤ 30 ∧ f ≤ 9 then 0 else -6) else -4) (gk_up M1 14 0 13 0) := fun M1 hE => by
      have t1 : y < 0 ↔ ¬ 0 ≤ y := by rw [z_lt, z_le]; omega
      have t3 : 30 < y ↔ ¬ y ≤ 30 := by rw [z_lt, z_le]; omega
      rw [f_X12_kinds, q_wr, h_shT hN (hE.th.cnt r0) ha, q_bnd, if_pos (by decide)]
      by_cases p1 : 0 ≤ y
      · rw [if_neg (fun z => t1.mp z p1)]
        by_cases p3 : 0 ≤ f
        · rw [if_pos p3, if_pos (show 0 ≤ y ∧ 0 ≤ f from ⟨p1, p3⟩)]
          by_cases p2 : y ≤ 30
          · rw [if_neg (fun z => t3.mp z p2)]
            by_cases p4 : f ≤ 9
            · rw [if_pos p4, if_pos (show y ≤ 30 ∧ f ≤ 9 from ⟨p2, p4⟩)]
            · rw [if_neg p4, if_neg (show ¬ (y ≤ 30 ∧ f ≤ 9) from fun z => p4 z.2), X12_kinds_j42]
          · rw [if_pos (t3.mpr p2), if_neg (show ¬ (y ≤ 30 ∧ f ≤ 9) from fun z => p2 z.1), X12_kinds_j42]
        · rw [if_neg p3, if_neg (show ¬ (0 ≤ y ∧ 0 ≤ f) from fun z => p3 z.2), X12_kinds_j25]
      · rw [if_pos (t1.mpr p1), if_neg (show ¬ (0 ≤ y ∧ 0 ≤ f) from fun z => p1 z.1), X12_kinds_j25]
    have bad : ∀ (v : Int32) (q : Nat), v = -nI q → 0 < q → q < 7 → ¬ v = 0 → ¬ 0 ≤ v → (if 0 ≤ y ∧ 0 ≤ f then (if y ≤ 30 ∧ f ≤ 9 then (0 : Int32) else -6) else -4) = v → i_same Int32 (f_X11_kinds (nI a) f y e no) (f_X12_kinds (nI a) f y e no) M := fun v q hv h0 h7 hz hneg hr => by
      refine i_refuse h hv h0 h7 ?_ ?_
      · rw [f_X11_kinds, h_nobT hN c0 ha, q_bnd, h_rng, q_bnd, h_rng, q_bnd, h_kdSt, hr, q_bnd, h_fst0, q_bnd, if_neg hz]; exact q_ret
      · intro M1 hE
        rw [rf M1 hE, hr, X12_kinds_j48, if_neg hneg]; exact q_ret
    by_cases p : 0 ≤ y ∧ 0 ≤ f
    · by_cases p' : y ≤ 30 ∧ f ≤ 9
      · have hr : (if 0 ≤ y ∧ 0 ≤ f then (if y ≤ 30 ∧ f ≤ 9 then (0 : Int32) else -6) else -4) = 0 := by rw [if_pos p, if_pos p']
        have x0 : (0 : Int32).toInt = 0 := rfl
        have x30 : (30 : Int32).toInt = 30 := rfl
        have x9 : (9 : Int32).toInt = 9 := rfl
        obtain ⟨n, hn, rfl⟩ := z_of (x := y) (n := 30) (by have := z_le.mp p.1; omega) (by have := z_le.mp p'.1; omega)
        obtain ⟨g, hg, rfl⟩ := z_of (x := f) (n := 9) (by have := z_le.mp p.2; omega) (by have := z_le.mp p'.2; omega)
        obtain ⟨q4, -, -, -, qw⟩ := i_cr hc
        have ed : M 14 0 3 = nI dd := by rw [← a_r01 (M := M)]; exact hw.2.2.1
        obtain ⟨M1, f1, f2⟩ := h_kdC (N := N) (W := a_r M) (s := a) (g := g) (n := n) (dd0 := dd) (by omega) hn hd (e := e) (no := no) 6 200 0 0 M (by omega) (by omega) (by rw [q4]; exact ed) (fun j hj => by rw [a_r1 hj, a_r2 hj]; exact qw j hj) (by rw [a_rs r0 hN ha (by decide)]; exact i_crs hc c0 r0 hN ha (by decide)) (by rw [a_rs r0 hN ha (by decide)]; exact i_crs hc c0 r0 hN ha (by decide))
        have ch : a_Ch 1 M M1 := fun c i j h1 _ _ _ => f2 c i j h1
        have hE := i_E.ch ch
        obtain ⟨M2, k1, k2⟩ := h_kdR (A := a_r M) (N := N) (s := a) (g := g) (n := n) ha (by omega) hn hd hw (e := e) (no := no) 6 200 0 0 (gk_up M1 14 0 13 0) (by omega) (by omega) (hE.th.r hw)
        refine ⟨nI (z_hs6 (a_r M) a (nI g) n dd e no 6 0 0), M1, M2, ?_, ?_, h.mind ch (i_th.tr k2)⟩
        · rw [f_X11_kinds, h_nobT hN c0 ha, q_bnd, h_rng, q_bnd, h_rng, q_bnd, h_kdSt, hr, q_bnd, h_fst0, q_bnd, if_pos rfl]
          exact f1
        · rw [rf M1 hE, hr, X12_kinds_j48, if_pos (by decide)]
          exact k1
      · exact bad (-6) 6 rfl (by decide) (by decide) (by decide) (by decide) (by rw [if_pos p, if_neg p'])
    · exact bad (-4) 4 rfl (by decide) (by decide) (by decide) (by decide) (by rw [if_neg p])
  · refine i_refuse h (q := 1) (x := -1) rfl (by decide) (by decide) ?_ ?_
    · rw [f_X11_kinds, h_nobF c0 hx, q_bnd, h_rng, q_bnd, h_rng, q_bnd, h_kdSt, q_bnd, h_fstN (by decide), q_bnd, if_neg (by decide)]; exact q_ret
    · intro M1 hE
      rw [f_X12_kinds, q_wr, h_shF hN (hE.th.cnt r0) hx, q_bnd, if_neg (by decide), X12_kinds_j48, if_neg (by decide)]; exact q_ret
