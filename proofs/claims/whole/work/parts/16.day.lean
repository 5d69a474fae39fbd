/-! A DAY -/
/-- a ship behind a day with air d e n le ln -/
def z_st (S : Nat → Int32) (d e n le ln : Int32) (j : Nat) : Int32 := match j with
  | 3 => S 3 - z_mn (S 3) (S 2)
  | 4 => S 4 + z_dE (S 0).toNatClampNeg (S 1) d e n le
  | 5 => S 5 + z_dN (S 0).toNatClampNeg (S 1) d e n ln
  | j => S j
def z_lk (S : Nat → Int32) : Int32 := S 2 - z_mn (S 3) (S 2)
theorem z_st_ge {S : Nat → Int32} {d e n le ln : Int32} {j : Nat} (h : j ≠ 3 ∧ j ≠ 4 ∧ j ≠ 5) : z_st S d e n le ln j = S j := by
  unfold z_st
  split <;> first | rfl | omega
theorem h_ship1 {α : Type} {a q : Nat} (ha : a < 18) (hq : q < 6) (M : gk_M) (hM : M 5 a 0 = nI q) (F : Int32 → gk_M → Option α) : gk_bnd (f_Dr_eastward q (M 5 a 1) M) (fun r6 M5 => gk_wr M5 5 a 4 ((M 5 a 4) + r6) (fun M7 => gk_bnd (f_Dr_northward q (M7 5 a 1) M7) (fun r9 M8 => gk_wr M8 5 a 5 ((M7 5 a 5) + r9) (fun M10 => gk_bnd (f_X8_eat a M10) F)))) = F (z_lk (M 5 a)) (fun c i j => if c = 5 ∧ i = a then z_st (M 5 a) (M 0 0 0) (M 0 0 1) (M 0 0 2) (M 0 0 3) (M 0 0 4) j else M c i j) := by
  simp only [f_X8_eat, q_gd (q_lt ha), h_drE hq, h_drN hq, h_min, q_bnd, q_wr]
  have e0 : (M 5 a 0).toNatClampNeg = q := by rw [hM]; exact q_cl (by omega)
  congr 1
  · simp [gk_up, z_lk]
  · funext c i j
    by_cases h : c = 5 ∧ i = a
    · obtain ⟨rfl, rfl⟩ := h
      rw [if_pos ⟨rfl, rfl⟩]
      rcases (show j = 3 ∨ j = 4 ∨ j = 5 ∨ (j ≠ 3 ∧ j ≠ 4 ∧ j ≠ 5) by omega) with rfl | rfl | rfl | hj
      · simp [gk_up, z_st]
      · simp [gk_up, z_st, e0]
      · simp [gk_up, z_st, e0]
      · rw [z_st_ge hj, u_n (by omega), u_n (by omega), u_n (by omega)]
    · rw [if_neg h, u_n (fun z => h ⟨z.1, z.2.1⟩), u_n (fun z => h ⟨z.1, z.2.1⟩), u_n (fun z => h ⟨z.1, z.2.1⟩)]
theorem h_pass5 {k N : Nat} (hk : k < 3) (hN : N ≤ 6) : ∀ (d fuel m : Nat) (acc : Int32) (M : gk_M), m + d = N → M 2 k 3 = nI N → d < fuel → (∀ s, m ≤ s → s < N → ∃ q, q < 6 ∧ M 5 (6 * k + s) 0 = nI q) →
    ∃ M', X4_passDay_l5 fuel k acc (nI m) M = some (fN (fun s a => a + z_lk (M 5 (6 * k + s))) d m acc, M') ∧ (∀ s j, m ≤ s → s < N → M' 5 (6 * k + s) j = z_st (M 5 (6 * k + s)) (M 0 0 0) (M 0 0 1) (M 0 0 2) (M 0 0 3) (M 0 0 4) j) ∧ M' 2 k 4 = M 2 k 4 + 1 ∧
      (∀ c i j, ¬ (c = 5 ∧ 6 * k + m ≤ i ∧ i < 6 * k + N) → ¬ (c = 2 ∧ i = k ∧ j = 4) → M' c i j = M c i j) := by
  intro d
  induction d with
  | zero =>
    intro fuel m acc M hm hc hf hq
    obtain ⟨n, rfl⟩ : ∃ n, fuel = n + 1 := ⟨fuel - 1, by omega⟩
    have hcond : M 2 k 3 ≤ nI m := by rw [hc]; exact nI_le (by omega) (by omega)
    refine ⟨gk_up M 2 k 4 (M 2 k 4 + 1), ?_, ?_, u_s, ?_⟩
    · simp only [X4_passDay_l5, q_gd (q_lt hk), if_pos hcond, q_wr, fN]
    · intro s j h1 h2; omega
    · intro c i j h1 h2
      exact u_n h2
  | succ d ih =>
    intro fuel m acc M hm hc hf hq
    obtain ⟨n, rfl⟩ : ∃ n, fuel = n + 1 := ⟨fuel - 1, by omega⟩
    have hcond : ¬ M 2 k 3 ≤ nI m := by rw [hc]; exact nI_ge (by omega) (by omega)
    have hm6 : m < 6 := by omega
    obtain ⟨q, hq6, hq0⟩ := hq m (Nat.le_refl m) (by omega)
    have hin : gk_in (M 5 (6 * k + m) 0) 6 = true := by rw [hq0]; exact q_in hq6 (by decide)
    have hcl : (M 5 (6 * k + m) 0).toNatClampNeg = q := by rw [hq0]; exact q_cl (by omega)
    obtain ⟨M', e1, e2, e3, e4⟩ := ih n (m + 1) (acc + z_lk (M 5 (6 * k + m))) (fun c i j => if c = 5 ∧ i = 6 * k + m then z_st (M 5 (6 * k + m)) (M 0 0 0) (M 0 0 1) (M 0 0 2) (M 0 0 3) (M 0 0 4) j else M c i j) (by omega) (by rw [if_neg (by omega)]; exact hc) (by omega) (fun s h1 h2 => by
      rw [if_neg (by omega)]
      exact hq s (by omega) h2)
    have hne : ∀ s, m + 1 ≤ s → s < N → (fun j => if (5 : Nat) = 5 ∧ 6 * k + s = 6 * k + m then z_st (M 5 (6 * k + m)) (M 0 0 0) (M 0 0 1) (M 0 0 2) (M 0 0 3) (M 0 0 4) j else M 5 (6 * k + s) j) = M 5 (6 * k + s) := fun s h1 h2 => by
      funext j
      rw [if_neg (by omega)]
    refine ⟨M', ?_, ?_, ?_, ?_⟩
    · simp only [X4_passDay_l5, q_gd (q_lt hk), if_neg hcond, q_gd (q_in hm6 (by decide)), q_cl (show m < 2 ^ 31 by omega), q_gd hin, hcl, nI_1]
      rw [h_ship1 (by omega) hq6 M hq0]
      rw [e1]
      refine congrArg (fun x => some (x, M')) ?_
      show _ = fN (fun s a => a + z_lk (M 5 (6 * k + s))) d (m + 1) (acc + z_lk (M 5 (6 * k + m)))
      refine fN_congr d (m + 1) _ (fun s b h1 h2 => ?_)
      rw [hne s (by omega) (by omega)]
    · intro s j h1 h2
      rcases Nat.lt_or_ge m s with hs | hs
      · rw [e2 s j (by omega) h2, hne s (by omega) h2]
        rw [if_neg (by omega), if_neg (by omega), if_neg (by omega), if_neg (by omega), if_neg (by omega)]
      · have : s = m := by omega
        subst this
        rw [e4 5 (6 * k + s) j (fun z => by omega) (fun z => by omega), if_pos ⟨rfl, rfl⟩]
    · rw [e3, if_neg (by omega)]
    · intro c i j h1 h2
      rw [e4 c i j (fun z => h1 ⟨z.1, by omega, z.2.2⟩) h2, if_neg (fun z => h1 ⟨z.1, by omega, by omega⟩)]
/-- all that there is behind a day with air d e n le ln; its hunger -/
def z_pass (A : a_S) (d e n le ln : Int32) : a_S := a_nm (A 0 0) (fun r j => match r with
  | 0 => if j = 1 then A 0 1 + 1 else A 0 j
  | 1 => A 1 j
  | 2 => A 2 j
  | s + 3 => z_st (A (s + 3)) d e n le ln j)
def z_lack (A : a_S) (N : Nat) : Int32 := fN (fun s a => a + z_lk (A (s + 3))) N 0 0
theorem z_st_congr {S S' : Nat → Int32} {d e n le ln : Int32} (h : ∀ j, j < 6 → S j = S' j) {j : Nat} (hj : j < 6) : z_st S d e n le ln j = z_st S' d e n le ln j := by
  unfold z_st
  split <;> first | exact h _ hj | simp only [h 0 (by decide), h 1 (by decide), h 2 (by decide), h 3 (by decide), h 4 (by decide), h 5 (by decide)]
theorem z_lk_congr {S S' : Nat → Int32} (h : ∀ j, j < 6 → S j = S' j) : z_lk S = z_lk S' := by
  simp only [z_lk, h 2 (by decide), h 3 (by decide)]
theorem h_pass {k N : Nat} (hk : k < 3) (hN : N ≤ 6) {M : gk_M} (hc : M 2 k 3 = nI N) (hq : ∀ s, s < N → ∃ q, q < 6 ∧ M 5 (6 * k + s) 0 = nI q) :
    ∃ M', f_X4_passDay k M = some (z_lack (a_c k M) N, M') ∧ a_c k M' = z_pass (a_c k M) (M 0 0 0) (M 0 0 1) (M 0 0 2) (M 0 0 3) (M 0 0 4) ∧ a_Ch k M M' ∧ M' 0 = M 0 ∧ M' 4 = M 4 := by
  obtain ⟨M', e1, e2, e3, e4⟩ := h_pass5 hk hN N 200 0 0 M (by omega) hc (by omega) (fun s _ h => hq s h)
  have e0 : M' 2 k 3 = M 2 k 3 := e4 2 k 3 (fun z => by omega) (fun z => by omega)
  refine ⟨M', ?_, ?_, ?_, ?_, ?_⟩
  · simp only [f_X4_passDay, q_gd (q_lt hk)]
    rw [show (0 : Int32) = nI 0 from rfl] at e1 ⊢
    rw [e1]
    refine congrArg (fun x => some (x, M')) (fN_congr N 0 _ (fun s b h1 h2 => ?_))
    rw [z_lk_congr (S := M 5 (6 * k + s)) (S' := a_c k M (s + 3)) (fun j hj => (a_cs hc hN (by omega) hj).symm)]
  · refine a_ext (e0.trans (a_c0 (M := M) (k := k) (j := 0) (by decide)).symm) (fun j hj => ?_) (fun j hj => ?_) (fun j hj => ?_) (fun s j hs hj => ?_)
    · show M' 2 k (3 + j) = if j = 1 then a_c k M 0 1 + 1 else a_c k M 0 j
      rw [a_c0 hj, a_c0 (by decide)]
      by_cases h1 : j = 1
      · subst h1
        rw [if_pos rfl]
        exact e3
      · rw [if_neg h1]
        exact e4 2 k _ (fun z => by omega) (fun z => by omega)
    · show M' 7 k j = a_c k M 1 j
      rw [a_c1 hj]
      exact e4 7 k _ (fun z => by omega) (fun z => by omega)
    · show M' 8 k j = a_c k M 2 j
      rw [a_c2 hj]
      exact e4 8 k _ (fun z => by omega) (fun z => by omega)
    · rw [e0, hc, q_cl (by omega)] at hs
      show M' 5 (6 * k + s) j = z_st (a_c k M (s + 3)) _ _ _ _ _ j
      rw [e2 s j (by omega) hs]
      exact z_st_congr (fun j hj => (a_cs hc hN hs hj).symm) hj
  · intro c i j h1 h2 h3 h4
    exact e4 c i j (fun z => h4 ⟨z.1, by omega⟩) (fun z => h3 ⟨Or.inl z.1, z.2.1⟩)
  · funext i j
    exact e4 0 i j (fun z => by omega) (fun z => by omega)
  · funext i j
    exact e4 4 i j (fun z => by omega) (fun z => by omega)
/-! the week -/
theorem h_fmod {d : Nat} (h : d < 100000) {M : gk_M} : f_J9_floorMod_7cf53 (nI d) 7 M = some (nI (d % 7), M) := by
  have hx : (0 : Int32) ≤ nI d ^^^ 7 := by
    rw [show (7 : Int32) = nI 7 from rfl, fa_xor', z_le, z_n (Nat.lt_of_lt_of_le (Nat.xor_lt_two_pow (n := 17) (by omega) (by omega)) (by decide))]
    exact Int.natCast_nonneg _
  simp only [f_J9_floorMod_7cf53, q_gd (show gk_nz 7 = true from rfl), if_pos hx, J9_floorMod_7cf53_j18]
  rw [show (7 : Int32) = nI 7 from rfl, pk_rem (by omega) (by omega) (by omega)]
theorem h_fmod1 {d : Nat} (h : d < 100000) {M : gk_M} : f_J9_floorMod_7cf53 (nI d - 1) 7 M = some (nI ((d + 6) % 7), M) := by
  cases d with
  | zero =>
    simp only [f_J9_floorMod_7cf53, q_gd (show gk_nz 7 = true from rfl), J9_floorMod_7cf53_j18]
    rw [if_neg (by decide), if_neg (by decide)]
    rfl
  | succ d =>
    rw [show nI (d + 1) - 1 = nI d from nI_pred d, h_fmod (by omega)]
    congr 3
    omega
/-- the air of a day in a week's winds -/
theorem h_air {k : Nat} (hk : k < 3) {d : Nat} (hd : d < 100000) (M : gk_M) : f_X4_airOf k (nI d) M = some ((), gk_up (gk_up (gk_up (gk_up (gk_up M 0 0 0 (nI d)) 0 0 1 (M 7 k (d % 7))) 0 0 2 (M 8 k (d % 7))) 0 0 3 (M 7 k ((d + 6) % 7))) 0 0 4 (M 8 k ((d + 6) % 7))) := by
  simp only [f_X4_airOf, q_gd (q_lt hk), h_fmod hd, h_fmod1 hd, q_bnd, q_wr, q_gd (q_in (show d % 7 < 7 by omega) (by decide)), q_gd (q_in (show (d + 6) % 7 < 7 by omega) (by decide)), q_cl (show d % 7 < 2 ^ 31 by omega), q_cl (show (d + 6) % 7 < 2 ^ 31 by omega)]
  simp [gk_up]
def z_day (A : a_S) (dd : Nat) : a_S := z_pass A (nI dd) (A 1 (dd % 7)) (A 2 (dd % 7)) (A 1 ((dd + 6) % 7)) (A 2 ((dd + 6) % 7))
theorem h_day {k N dd : Nat} (hk : k < 3) (hN : N ≤ 6) (hd : dd < 100000) {M : gk_M} (hc : M 2 k 3 = nI N) (hdd : M 2 k 4 = nI dd) (hq : ∀ s, s < N → ∃ q, q < 6 ∧ M 5 (6 * k + s) 0 = nI q) :
    ∃ M', f_X11_dayOf k M = some (z_lack (a_c k M) N, M') ∧ a_c k M' = z_day (a_c k M) dd ∧ a_Ch k M M' := by
  obtain ⟨M1, hM1⟩ : ∃ M1, M1 = gk_up (gk_up (gk_up (gk_up (gk_up M 0 0 0 (nI dd)) 0 0 1 (M 7 k (dd % 7))) 0 0 2 (M 8 k (dd % 7))) 0 0 3 (M 7 k ((dd + 6) % 7))) 0 0 4 (M 8 k ((dd + 6) % 7)) := ⟨_, rfl⟩
  have hs : ∀ c i j, c ≠ 0 → M1 c i j = M c i j := fun c i j h => by
    rw [hM1, u_n (by omega), u_n (by omega), u_n (by omega), u_n (by omega), u_n (by omega)]
  have hA : a_c k M1 = a_c k M := by
    refine a_ext (hs 2 k 3 (by decide)) (fun j hj => hs 2 k _ (by decide)) (fun j hj => hs 7 k _ (by decide)) (fun j hj => hs 8 k _ (by decide)) (fun s j _ hj => hs 5 _ _ (by decide))
  obtain ⟨M', e1, e2, e3, -, -⟩ := h_pass hk hN (M := M1) (by rw [hs _ _ _ (by decide)]; exact hc) (fun s h => by rw [hs _ _ _ (by decide)]; exact hq s h)
  refine ⟨M', ?_, ?_, ?_⟩
  · simp only [f_X11_dayOf, q_gd (q_lt hk), hdd, h_air hk hd, q_bnd]
    rw [← hM1, e1, hA, q_bnd]
  · rw [e2, hA]
    have a0 : M1 0 0 0 = nI dd := by rw [hM1, u_n (by omega), u_n (by omega), u_n (by omega), u_n (by omega), u_s]
    have a1 : M1 0 0 1 = M 7 k (dd % 7) := by rw [hM1, u_n (by omega), u_n (by omega), u_n (by omega), u_s]
    have a2 : M1 0 0 2 = M 8 k (dd % 7) := by rw [hM1, u_n (by omega), u_n (by omega), u_s]
    have a3 : M1 0 0 3 = M 7 k ((dd + 6) % 7) := by rw [hM1, u_n (by omega), u_s]
    have a4 : M1 0 0 4 = M 8 k ((dd + 6) % 7) := by rw [hM1, u_s]
    rw [a0, a1, a2, a3, a4]
    unfold z_day
    rw [a_c1 (by omega), a_c2 (by omega), a_c1 (by omega), a_c2 (by omega)]
  · exact a_Ch.tr (fun c i j h1 _ _ _ => hs c i j h1) e3
