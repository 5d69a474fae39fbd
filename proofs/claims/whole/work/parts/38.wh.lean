/-! lots -/
def z_nx (z : Int32) : Int32 := z * 1103515245 + 12345
def z_dr (z : Int32) : Int32 := (z &&& 2147483647) / 65536 - (z &&& 2147483647) / 65536 / 9 * 9
theorem z_msk (z : Int32) : ¬ z &&& 2147483647 < 0 := by
  rw [z_lt]
  have e0 : (0 : Int32).toInt = 0 := rfl
  rw [e0]
  have : (z &&& 2147483647).toInt = (z.toBitVec &&& 2147483647#32).toInt := rfl
  rw [this, BitVec.toInt_eq_msb_cond]
  have hm : (z.toBitVec &&& 2147483647#32).msb = false := by
    rw [BitVec.msb_and]
    have : (2147483647#32).msb = false := by decide
    rw [this, Bool.and_false]
  rw [if_neg (by rw [hm]; decide)]
  omega
theorem z_drb (z : Int32) : -4 ≤ (z_dr z - 4).toInt ∧ (z_dr z - 4).toInt ≤ 4 := by
  obtain ⟨q, hq, e⟩ := nI_of (z_msk z)
  unfold z_dr
  rw [e, show (65536 : Int32) = nI 65536 from rfl, pk_div hq (by decide) (by decide), show (9 : Int32) = nI 9 from rfl, pk_rem (by omega) (by decide) (by decide)]
  have e4 : (4 : Int32).toInt = 4 := rfl
  have h9 : q / 65536 % 9 < 9 := Nat.mod_lt _ (by decide)
  rw [z_sub (by rw [z_n (by omega), e4]; omega) (by rw [z_n (by omega), e4]; omega), z_n (by omega), e4]
  omega
theorem h_dbC {M : gk_M} : f_X7_drawBelow 9 M = some (z_dr (z_nx (M 4 0 0)), gk_up M 4 0 0 (z_nx (M 4 0 0))) := by
  rw [f_X7_drawBelow, q_wr, if_neg (by decide), q_gd (by decide), u_s]
  rfl
theorem h_dbR {M : gk_M} : f_X12_draw 9 M = some (z_dr (z_nx (M 14 0 33)), gk_up M 14 0 33 (z_nx (M 14 0 33))) := by
  rw [f_X12_draw, q_wr, q_gd (by decide), u_s]
  rfl
theorem h_drawC (d : Int32) (M : gk_M) : ∃ M', f_X0_drawBy d M = some ((), M') ∧ (∀ c i j, c ≠ 0 → c ≠ 4 → M' c i j = M c i j) ∧ M' 0 0 0 = d ∧ M' 0 0 1 = z_dr (z_nx (M 4 0 0)) - 4 ∧ M' 0 0 2 = z_dr (z_nx (z_nx (M 4 0 0))) - 4 ∧ M' 0 0 3 = M 0 0 1 ∧ M' 0 0 4 = M 0 0 2 ∧ M' 4 0 0 = z_nx (z_nx (M 4 0 0)) := by
  refine ⟨gk_up (gk_up (gk_up (gk_up (gk_up (gk_up (gk_up M 0 0 0 d) 0 0 3 (M 0 0 1)) 0 0 4 (M 0 0 2)) 4 0 0 (z_nx (M 4 0 0))) 0 0 1 (z_dr (z_nx (M 4 0 0)) - 4)) 4 0 0 (z_nx (z_nx (M 4 0 0)))) 0 0 2 (z_dr (z_nx (z_nx (M 4 0 0))) - 4), ?_, ?_, ?_, ?_, ?_, ?_, ?_, ?_⟩
  · rw [f_X0_drawBy, q_wr, u_n (by omega), q_wr, u_n (by omega), u_n (by omega), q_wr, h_dbC, q_bnd, u_n (by omega), u_n (by omega), u_n (by omega), q_wr, h_dbC, q_bnd, u_n (by omega), u_s, q_wr]
  · intro c i j h1 h2
    rw [u_n (by omega), u_n (by omega), u_n (by omega), u_n (by omega), u_n (by omega), u_n (by omega), u_n (by omega)]
  · rw [u_n (by omega), u_n (by omega), u_n (by omega), u_n (by omega), u_n (by omega), u_n (by omega), u_s]
  · rw [u_n (by omega), u_n (by omega), u_s]
  · rw [u_s]
  · rw [u_n (by omega), u_n (by omega), u_n (by omega), u_n (by omega), u_n (by omega), u_s]
  · rw [u_n (by omega), u_n (by omega), u_n (by omega), u_n (by omega), u_s]
  · rw [u_n (by omega), u_s]
/-- hunger, and what there is, behind d days that the lot blows -/
def z_los (N : Nat) : Nat → a_S → Nat → Int32 → Int32 → Int32 → Int32 → Int32 × a_S
  | 0, A, _, _, _, _, acc => (acc, A)
  | d + 1, A, dd, z, le, ln, acc => z_los N d (z_pass A (nI dd) (z_dr (z_nx z) - 4) (z_dr (z_nx (z_nx z)) - 4) le ln) (dd + 1) (z_nx (z_nx z)) (z_dr (z_nx z) - 4) (z_dr (z_nx (z_nx z)) - 4) (acc + z_lack A N)
def z_lp (N : Nat) (wh : Int32) (r : Int32 × a_S) : Int32 := if ¬ wh = 0 then nI (0 + sN (fun i => sN (z_pw r.2 (r.2 0 3) i) i 0) N 0) else r.1
theorem h_loC {N n : Nat} (hn : n ≤ 40) {wh : Int32} : ∀ (d fuel m dd : Nat) (acc : Int32) (M : gk_M), m + d = n → d < fuel → dd + d ≤ 10100 → a_wf (a_c 1 M) N dd → (-4 ≤ (M 0 0 1).toInt ∧ (M 0 0 1).toInt ≤ 4) → (-4 ≤ (M 0 0 2).toInt ∧ (M 0 0 2).toInt ≤ 4) →
    ∃ M', X11_lots_l61 fuel (nI n) wh acc (nI m) M = some (z_lp N wh (z_los N d (a_c 1 M) dd (M 4 0 0) (M 0 0 1) (M 0 0 2) acc), M') ∧ a_Ch 1 M M' := by
  intro d
  induction d with
  | zero =>
    intro fuel m dd acc M hm hf hd hw b1 b2
    obtain ⟨k, rfl⟩ : ∃ k, fuel = k + 1 := ⟨fuel - 1, by omega⟩
    have hN := hw.1
    refine ⟨M, ?_, a_Ch.rf⟩
    rw [X11_lots_l61]
    dsimp only
    rw [if_pos (nI_le (by omega) (by omega)), z_los]
    unfold z_lp
    by_cases q : wh = 0
    · rw [if_neg (fun z => z q), if_neg (fun z => z q)]
    · have e : M 2 1 6 = a_c 1 M 0 3 := (a_c0 (j := 3) (by decide)).symm
      rw [if_pos q, if_pos q, f_X4_pairsWithin, q_gd (q_lt (by decide)), e, show X4_pairsWithin_l4 200 1 (a_c 1 M 0 3) 0 0 M = _ from h_pw4 (by decide) hN hw.cnt N 200 0 0 (by omega) (by omega), q_bnd]
  | succ d ih =>
    intro fuel m dd acc M hm hf hd hw b1 b2
    obtain ⟨k, rfl⟩ : ∃ k, fuel = k + 1 := ⟨fuel - 1, by omega⟩
    have hN := hw.1
    have e4 : M 2 1 4 = nI dd := by rw [← a_c0 (k := 1) (M := M) (j := 1) (by decide)]; exact hw.2.2.1
    obtain ⟨M1, e1, e2, a0, a1, a2, a3, a4, a5⟩ := h_drawC (nI dd) M
    have hA : a_c 1 M1 = a_c 1 M := a_c_congr hw.cnt hN (fun c i j q => e2 c i j (by omega) (by omega))
    have hw1 : a_wf (a_c 1 M1) N dd := by rw [hA]; exact hw
    obtain ⟨M2, f1, f2, f3, f4, f5⟩ := h_pass (k := 1) (by decide) hN hw1.cnt (fun s hs => by
      obtain ⟨q, hq, e⟩ := (hw1.2.2.2.2.2.2.2 s hs).1
      rw [a_cs hw1.cnt hN hs (by decide)] at e
      exact ⟨q, hq, e⟩)
    rw [hA, a0, a1, a2, a3, a4] at f2
    have hw2 : a_wf (a_c 1 M2) N (dd + 1) := by rw [f2]; exact hw.pass (by omega) (z_drb _) (z_drb _) b1 b2
    have g1 : M2 0 0 1 = z_dr (z_nx (M 4 0 0)) - 4 := by rw [f4]; exact a1
    have g2 : M2 0 0 2 = z_dr (z_nx (z_nx (M 4 0 0))) - 4 := by rw [f4]; exact a2
    have g4 : M2 4 0 0 = z_nx (z_nx (M 4 0 0)) := by rw [f5]; exact a5
    obtain ⟨M', k1, k2⟩ := ih k (m + 1) (dd + 1) (acc + z_lack (a_c 1 M) N) M2 (by omega) (by omega) (by omega) hw2 (by rw [g1]; exact z_drb _) (by rw [g2]; exact z_drb _)
    refine ⟨M', ?_, a_Ch.tr (a_Ch.tr (fun c i j h1 h2 _ _ => e2 c i j h1 h2) f3) k2⟩
    rw [X11_lots_l61]
    dsimp only
    rw [if_neg (nI_ge (by omega) (by omega)), e4, e1, q_bnd, f1, q_bnd, hA, nI_1, k1, f2, g1, g2, g4, z_los]
theorem h_lt106 {N dd : Nat} (hN : N ≤ 6) {x1 x3 acc x8 e n le ln : Int32} {κ : Int32 → Int32 → Int32 → Int32 → Int32 → Int32 → gk_M → Option (Int32 × gk_M)} : ∀ (d fuel m : Nat) (M : gk_M), m + d = N → M 14 0 0 = nI N → M 14 0 3 = nI dd → d < fuel → (∀ s, m ≤ s → s < N → (∃ k, k < 6 ∧ M 16 0 s = nI k) ∧ ∃ g, g < 10 ∧ M 16 1 s = nI g) →
    ∃ M', X12_lots_l106 κ fuel x1 x3 acc le ln x8 e n (nI m) M = gk_bnd (f_X12_eat M') (fun r16 M15 => gk_wr M15 14 0 3 ((M15 14 0 3) + (1 : Int32)) (fun M17 => κ x1 x3 (acc + r16) e n (x8 + 1) M17)) ∧ (∀ s, m ≤ s → s < N → M' 16 4 s = M 16 4 s + z_dE (M 16 0 s).toNatClampNeg (M 16 1 s) (nI dd) e n le ∧ M' 16 5 s = M 16 5 s + z_dN (M 16 0 s).toNatClampNeg (M 16 1 s) (nI dd) e n ln) ∧
      (∀ c i j, ¬ (c = 16 ∧ (i = 4 ∨ i = 5) ∧ m ≤ j ∧ j < N) → ¬ (c = 14 ∧ i = 0 ∧ (j = 15 ∨ j = 16)) → M' c i j = M c i j) := by
  intro d
  induction d with
  | zero =>
    intro fuel m M hm hc hdd hf hq
    obtain ⟨f, rfl⟩ : ∃ f, fuel = f + 1 := ⟨fuel - 1, by omega⟩
    have hcond : M 14 0 0 ≤ nI m := by rw [hc]; exact nI_le (by omega) (by omega)
    refine ⟨M, ?_, fun s h1 h2 => by omega, fun _ _ _ _ _ => rfl⟩
    simp only [X12_lots_l106, if_pos hcond]
  | succ d ih =>
    intro fuel m M hm hc hdd hf hq
    obtain ⟨f, rfl⟩ : ∃ f, fuel = f + 1 := ⟨fuel - 1, by omega⟩
    have hcond : ¬ M 14 0 0 ≤ nI m := by rw [hc]; exact nI_ge (by omega) (by omega)
    have hm6 : m < 6 := by omega
    obtain ⟨⟨k, hk, ek⟩, g, hg, eg⟩ := hq m (Nat.le_refl m) (by omega)
    have ekc : (M 16 0 m).toNatClampNeg = k := by rw [ek]; exact q_cl (by omega)
    obtain ⟨E, hE⟩ : ∃ E, E = z_dE k (nI g) (nI dd) e n le := ⟨_, rfl⟩
    obtain ⟨F, hF⟩ : ∃ F, F = z_dN k (nI g) (nI dd) e n ln := ⟨_, rfl⟩
    obtain ⟨M1, hM1⟩ : ∃ M1, M1 = gk_up (gk_up (gk_up (gk_up M 14 0 15 E) 14 0 16 F) 16 4 m (M 16 4 m + E)) 16 5 m (M 16 5 m + F) := ⟨_, rfl⟩
    have un : ∀ c i j, ¬ (c = 16 ∧ (i = 4 ∨ i = 5) ∧ j = m) → ¬ (c = 14 ∧ i = 0 ∧ (j = 15 ∨ j = 16)) → M1 c i j = M c i j := fun c i j a1 a2 => by
      rw [hM1, u_n (by omega), u_n (by omega), u_n (by omega), u_n (by omega)]
    obtain ⟨M', e1, e2, e3⟩ := ih f (m + 1) M1 (by omega) (by rw [un 14 0 0 (by omega) (by omega)]; exact hc) (by rw [un 14 0 3 (by omega) (by omega)]; exact hdd) (by omega) (fun s h1 h2 => by
      rw [un 16 0 s (by omega) (by omega), un 16 1 s (by omega) (by omega)]
      exact hq s (by omega) h2)
    refine ⟨M', ?_, ?_, ?_⟩
    · simp only [X12_lots_l106, if_neg hcond, q_gd (q_in hm6 (by decide)), q_cl (show m < 2 ^ 31 by omega), ek, eg, h_drBy hk hg M, hdd, q_bnd, q_wr, nI_1]
      rw [← hE, ← hF]
      simp only [u_n (show ¬ ((16 : Nat) = 14 ∧ (4 : Nat) = 0 ∧ m = 16) by omega), u_n (show ¬ ((16 : Nat) = 14 ∧ (4 : Nat) = 0 ∧ m = 15) by omega), u_n (show ¬ ((14 : Nat) = 14 ∧ (0 : Nat) = 0 ∧ (15 : Nat) = 16) by omega), u_s, u_n (show ¬ ((16 : Nat) = 16 ∧ (5 : Nat) = 4 ∧ m = m) by omega), u_n (show ¬ ((16 : Nat) = 14 ∧ (5 : Nat) = 0 ∧ m = 16) by omega), u_n (show ¬ ((16 : Nat) = 14 ∧ (5 : Nat) = 0 ∧ m = 15) by omega), u_n (show ¬ ((14 : Nat) = 16 ∧ (0 : Nat) = 4 ∧ (16 : Nat) = m) by omega)]
      rw [← hM1]
      exact e1
    · intro s h1 h2
      rcases Nat.lt_or_ge m s with hs | hs
      · obtain ⟨q1, q2⟩ := e2 s (by omega) h2
        rw [q1, q2, un 16 4 s (by omega) (by omega), un 16 5 s (by omega) (by omega), un 16 0 s (by omega) (by omega), un 16 1 s (by omega) (by omega)]
        exact ⟨rfl, rfl⟩
      · have : s = m := by omega
        subst this
        rw [e3 16 4 s (by omega) (by omega), e3 16 5 s (by omega) (by omega), ekc, eg, ← hE, ← hF, hM1]
        exact ⟨by rw [u_n (by omega), u_s], u_s⟩
    · intro c i j a1 a2
      rw [e3 c i j (by omega) a2, un c i j (by omega) a2]
theorem h_lt1 {N dd : Nat} {M : gk_M} (hw : a_wf (a_r M) N dd) {x1 x3 acc x8 e n le ln : Int32} {κ : Int32 → Int32 → Int32 → Int32 → Int32 → Int32 → gk_M → Option (Int32 × gk_M)} :
    ∃ M', X12_lots_l106 κ 200 x1 x3 acc le ln x8 e n 0 M = κ x1 x3 (acc + z_lack (a_r M) N) e n (x8 + 1) M' ∧ a_r M' = z_pass (a_r M) (nI dd) e n le ln ∧ r_RC M M' ∧ M' 14 0 33 = M 14 0 33 := by
  have hN := hw.1
  have hc := hw.cntR
  have hdd : M 14 0 3 = nI dd := by rw [← a_r01 (M := M)]; exact hw.2.2.1
  have hsh := hw.2.2.2.2.2.2.2
  obtain ⟨M1, e1, e2, e3⟩ := h_lt106 hN (x1 := x1) (x3 := x3) (acc := acc) (x8 := x8) (e := e) (n := n) (le := le) (ln := ln) (κ := κ) N 200 0 M (by omega) hc hdd (by omega) (fun s _ hs => by
    obtain ⟨⟨k, hk, ek⟩, ⟨g, hg, eg⟩, -⟩ := hsh s hs
    rw [a_rs hc hN hs (by decide)] at ek eg
    exact ⟨⟨k, hk, ek⟩, g, hg, eg⟩)
  obtain ⟨M2, f1, f2, f3⟩ := h_eat4 hN N 200 0 0 M1 (by omega) (by rw [e3 14 0 0 (by omega) (by omega)]; exact hc) (by omega)
  have f1 : f_X12_eat M1 = some (fN (fun s a => a + z_lk (fun j => M1 16 j s)) N 0 0, M2) := f1
  have hlack : fN (fun s a => a + z_lk (fun j => M1 16 j s)) N 0 0 = z_lack (a_r M) N := by
    refine fN_congr N 0 _ (fun s b h1 h2 => ?_)
    have q : z_lk (fun j => M1 16 j s) = z_lk (a_r M (s + 3)) := by
      unfold z_lk
      rw [a_rs hc hN (by omega) (by decide), a_rs hc hN (by omega) (by decide)]
      show M1 16 2 s - z_mn (M1 16 3 s) (M1 16 2 s) = _
      rw [e3 16 2 s (by omega) (by omega), e3 16 3 s (by omega) (by omega)]
    rw [q]
  refine ⟨gk_up M2 14 0 3 (M2 14 0 3 + 1), ?_, ?_, ?_, ?_⟩
  · rw [show X12_lots_l106 κ 200 x1 x3 acc le ln x8 e n 0 M = _ from e1, f1, q_bnd, q_wr, hlack]
  · have c0 : M2 14 0 0 = M 14 0 0 := by rw [f3 14 0 0 (by omega), e3 14 0 0 (by omega) (by omega)]
    have v : ∀ j, j < 15 → M2 14 0 j = M 14 0 j := fun j hj => by rw [f3 14 0 j (by omega), e3 14 0 j (by omega) (by omega)]
    refine a_ext (by rw [u_n (by omega), c0, a_r00]) (fun j hj => ?_) (fun j hj => ?_) (fun j hj => ?_) (fun s j hs hj => ?_)
    · rcases (show j = 0 ∨ j = 1 ∨ j = 2 ∨ j = 3 ∨ j = 4 by omega) with rfl | rfl | rfl | rfl | rfl
      · show gk_up M2 14 0 3 _ 14 0 0 = a_r M 0 0
        rw [u_n (by omega), v 0 (by decide), a_r00]
      · show gk_up M2 14 0 3 _ 14 0 3 = a_r M 0 1 + 1
        rw [u_s, v 3 (by decide), a_r01]
      · show gk_up M2 14 0 3 _ 14 0 1 = a_r M 0 2
        rw [u_n (by omega), v 1 (by decide), a_r02]
      · show gk_up M2 14 0 3 _ 14 0 2 = a_r M 0 3
        rw [u_n (by omega), v 2 (by decide), a_r03]
      · show gk_up M2 14 0 3 _ 14 0 4 = a_r M 0 4
        rw [u_n (by omega), v 4 (by decide), a_r04]
    · show gk_up M2 14 0 3 _ 15 0 j = a_r M 1 j
      rw [u_n (by omega), f3 15 0 j (by omega), e3 15 0 j (by omega) (by omega), a_r1 hj]
    · show gk_up M2 14 0 3 _ 15 1 j = a_r M 2 j
      rw [u_n (by omega), f3 15 1 j (by omega), e3 15 1 j (by omega) (by omega), a_r2 hj]
    · rw [u_n (by omega), c0, hc, q_cl (by omega)] at hs
      show gk_up M2 14 0 3 _ 16 j s = z_st (a_r M (s + 3)) (nI dd) e n le ln j
      rw [u_n (by omega), z_st_congr (S := a_r M (s + 3)) (S' := fun j => M 16 j s) (fun j hj => a_rs hc hN hs hj) hj]
      rcases (show j = 0 ∨ j = 1 ∨ j = 2 ∨ j = 3 ∨ j = 4 ∨ j = 5 by omega) with rfl | rfl | rfl | rfl | rfl | rfl
      · show M2 16 0 s = M 16 0 s
        rw [f3 16 0 s (by omega), e3 16 0 s (by omega) (by omega)]
      · show M2 16 1 s = M 16 1 s
        rw [f3 16 1 s (by omega), e3 16 1 s (by omega) (by omega)]
      · show M2 16 2 s = M 16 2 s
        rw [f3 16 2 s (by omega), e3 16 2 s (by omega) (by omega)]
      · show M2 16 3 s = M 16 3 s - z_mn (M 16 3 s) (M 16 2 s)
        rw [f2 s (by omega) hs, e3 16 3 s (by omega) (by omega), e3 16 2 s (by omega) (by omega)]
      · rw [f3 16 4 s (by omega), (e2 s (by omega) hs).1]
        rfl
      · rw [f3 16 5 s (by omega), (e2 s (by omega) hs).2]
        rfl
  · intro c i j hn
    unfold r_st at hn
    rw [u_n (by omega), f3 c i j (by omega), e3 c i j (by omega) (by omega)]
  · rw [u_n (by omega), f3 14 0 33 (by omega), e3 14 0 33 (by omega) (by omega)]
theorem h_lo229 {N dd a : Nat} {M : gk_M} (hw : a_wf (a_r M) N dd) (ha : a < N) {x3 x5 : Int32} {κ : Int32 → Int32 → Int32 → Int32 → gk_M → Option (Int32 × gk_M)} : ∀ (d fuel b p : Nat), b + d = N → a < b → d < fuel →
    X12_lots_l229 κ fuel x3 x5 (nI p) (nI a) (nI b) M = κ x3 x5 (nI (p + sN (z_pw (a_r M) (a_r M 0 3) a) d b)) (nI (a + 1)) M := by
  have hN := hw.1
  have hc := hw.cntR
  intro d
  induction d with
  | zero =>
    intro fuel b p hb hab hf
    obtain ⟨n, rfl⟩ : ∃ n, fuel = n + 1 := ⟨fuel - 1, by omega⟩
    have hcond : M 14 0 0 ≤ nI b := by rw [hc]; exact nI_le (by omega) (by omega)
    simp only [X12_lots_l229, if_pos hcond, nI_1, sN, Nat.add_zero]
  | succ d ih =>
    intro fuel b p hb hab hf
    obtain ⟨n, rfl⟩ : ∃ n, fuel = n + 1 := ⟨fuel - 1, by omega⟩
    have hcond : ¬ M 14 0 0 ≤ nI b := by rw [hc]; exact nI_ge (by omega) (by omega)
    rw [X12_lots_l229]
    dsimp only
    rw [if_neg hcond, h_far hw ha (show b < N by omega), q_bnd, sN, ← a_r03 (M := M)]
    by_cases g : a_r M 0 3 < z_gp (a_r M) a b
    · rw [if_pos g, X12_lots_j260, show (0 : Int32) = nI 0 from rfl, nI_add, nI_1, ih n (b + 1) _ (by omega) (by omega) (by omega), show z_pw (a_r M) (a_r M 0 3) a b = 0 from if_pos g, Nat.add_zero, Nat.zero_add]
    · rw [if_neg g, X12_lots_j260, nI_1, nI_1, ih n (b + 1) _ (by omega) (by omega) (by omega), show z_pw (a_r M) (a_r M 0 3) a b = 1 from if_neg g, Nat.add_assoc]
theorem h_lo214 {N dd : Nat} {M : gk_M} (hw : a_wf (a_r M) N dd) {x3 x5 : Int32} : ∀ (d fuel a p : Nat), a + d = N → d < fuel →
    X12_lots_l214 fuel x3 x5 (nI p) (nI a) M = some (if ¬ x3 = 0 then nI (p + sN (fun a => sN (z_pw (a_r M) (a_r M 0 3) a) (N - 1 - a) (a + 1)) d a) else x5, c_F 0 55 M) := by
  have hN := hw.1
  have hc := hw.cntR
  intro d
  induction d with
  | zero =>
    intro fuel a p ha hf
    obtain ⟨n, rfl⟩ : ∃ n, fuel = n + 1 := ⟨fuel - 1, by omega⟩
    have hcond : M 14 0 0 ≤ nI a := by rw [hc]; exact nI_le (by omega) (by omega)
    rw [X12_lots_l214]
    dsimp only
    rw [if_pos hcond, h_close, q_bnd]
    split <;> rfl
  | succ d ih =>
    intro fuel a p ha hf
    obtain ⟨n, rfl⟩ : ∃ n, fuel = n + 1 := ⟨fuel - 1, by omega⟩
    have hcond : ¬ M 14 0 0 ≤ nI a := by rw [hc]; exact nI_ge (by omega) (by omega)
    rw [X12_lots_l214]
    dsimp only
    rw [if_neg hcond, nI_1, h_lo229 hw (show a < N by omega) (N - 1 - a) 200 (a + 1) p (by omega) (by omega) (by omega), ih n (a + 1) _ (by omega) (by omega), sN, Nat.add_assoc]
theorem h_loR {N n : Nat} (hn : n ≤ 40) {wh : Int32} : ∀ (d fuel m dd : Nat) (acc le ln : Int32) (M : gk_M), m + d = n → d < fuel → dd + d ≤ 10100 → a_wf (a_r M) N dd → (-4 ≤ le.toInt ∧ le.toInt ≤ 4) → (-4 ≤ ln.toInt ∧ ln.toInt ≤ 4) →
    ∃ M', X12_lots_l77 fuel (nI n) wh acc le ln (nI m) M = some (z_lp N wh (z_los N d (a_r M) dd (M 14 0 33) le ln acc), c_F 0 55 M') ∧ r_RC M M' := by
  intro d
  induction d with
  | zero =>
    intro fuel m dd acc le ln M hm hf hd hw b1 b2
    obtain ⟨k, rfl⟩ : ∃ k, fuel = k + 1 := ⟨fuel - 1, by omega⟩
    have hN := hw.1
    refine ⟨M, ?_, r_RC.rf⟩
    rw [X12_lots_l77]
    dsimp only
    rw [if_pos (nI_le (by omega) (by omega)), z_los, show X12_lots_l214 200 wh acc 0 0 M = _ from h_lo214 hw N 200 0 0 (by omega) (by omega)]
    unfold z_lp
    rw [sN_tri hN (z_pw_sy hw)]
  | succ d ih =>
    intro fuel m dd acc le ln M hm hf hd hw b1 b2
    obtain ⟨k, rfl⟩ : ∃ k, fuel = k + 1 := ⟨fuel - 1, by omega⟩
    have hN := hw.1
    obtain ⟨M1, hM1⟩ : ∃ M1, M1 = gk_up (gk_up M 14 0 33 (z_nx (M 14 0 33))) 14 0 33 (z_nx (z_nx (M 14 0 33))) := ⟨_, rfl⟩
    have k1 : r_RK M M1 := by rw [hM1]; exact (r_RK.up (by unfold r_sc; omega)).tr (r_RK.up (by unfold r_sc; omega))
    have kc : r_RC M M1 := by rw [hM1]; exact (r_RC.up (by unfold r_st; omega)).tr (r_RC.up (by unfold r_st; omega))
    have hA : a_r M1 = a_r M := k1.st hw.cntR hN
    have z1 : M1 14 0 33 = z_nx (z_nx (M 14 0 33)) := by rw [hM1, u_s]
    obtain ⟨M2, f1, f2, f3, f4⟩ := h_lt1 (M := M1) (N := N) (dd := dd) (by rw [hA]; exact hw) (x1 := nI n) (x3 := wh) (acc := acc) (x8 := nI m) (e := z_dr (z_nx (M 14 0 33)) - 4) (n := z_dr (z_nx (z_nx (M 14 0 33))) - 4) (le := le) (ln := ln) (κ := X12_lots_l77 k)
    rw [hA] at f1 f2
    have hw2 : a_wf (a_r M2) N (dd + 1) := by rw [f2]; exact hw.pass (by omega) (z_drb _) (z_drb _) b1 b2
    obtain ⟨M', g1, g2⟩ := ih k (m + 1) (dd + 1) (acc + z_lack (a_r M) N) (z_dr (z_nx (M 14 0 33)) - 4) (z_dr (z_nx (z_nx (M 14 0 33))) - 4) M2 (by omega) (by omega) (by omega) hw2 (z_drb _) (z_drb _)
    refine ⟨M', ?_, (kc.tr f3).tr g2⟩
    rw [X12_lots_l77]
    dsimp only
    rw [if_neg (nI_ge (by omega) (by omega)), h_dbR, q_bnd, h_dbR, q_bnd, u_s, ← hM1, f1, nI_1, g1, f2, f4, z1, z_los]
theorem w_lots (x z wh : Int32) {M : gk_M} (h : i_ok M) : i_same Int32 (f_X11_lots x z wh) (f_X12_lots x z wh) M := by
  obtain ⟨N, dd, hd, hw, hc, hN, c0, r0, hwc⟩ := h.get
  by_cases p1 : (1 : Int32) ≤ x
  · by_cases p2 : x ≤ 40
    · rcases z_what wh 1 1 rfl with ⟨w1, w2, w3⟩ | ⟨w1, w2⟩
      · have x1 : (1 : Int32).toInt = 1 := rfl
        have x40 : (40 : Int32).toInt = 40 := rfl
        obtain ⟨n, hn, rfl⟩ := z_of (x := x) (n := 40) (by have := z_le.mp p1; omega) (by have := z_le.mp p2; omega)
        obtain ⟨M1, e1, e2, e3⟩ := h_copyW (k := 1) (o := 0) (by decide) (by decide) (by decide) hwc
        obtain ⟨M1', hM1'⟩ : ∃ M1', M1' = gk_up (gk_up (gk_up M1 4 0 0 z) 0 0 1 0) 0 0 2 0 := ⟨_, rfl⟩
        have k1 : ∀ c i j, c ≠ 0 → c ≠ 4 → M1' c i j = M1 c i j := fun c i j q1 q2 => by rw [hM1', u_n (by omega), u_n (by omega), u_n (by omega)]
        have hw1 : a_wf (a_c 1 M1) N dd := by rw [e2]; exact hwc
        have hA : a_c 1 M1' = a_r M := by rw [a_c_congr hw1.cnt hN (fun c i j q => k1 c i j (by omega) (by omega)), e2]; exact hc
        have q4 : M1' 4 0 0 = z := by rw [hM1', u_n (by omega), u_n (by omega), u_s]
        have q1 : M1' 0 0 1 = 0 := by rw [hM1', u_n (by omega), u_s]
        have q2 : M1' 0 0 2 = 0 := by rw [hM1', u_s]
        obtain ⟨M2, f1, f2⟩ := h_loC (N := N) hn (wh := wh) n 200 0 dd 0 M1' (by omega) (by omega) (by omega) (by rw [hA]; exact hw) (by rw [q1]; decide) (by rw [q2]; decide)
        rw [hA, q4, q1, q2] at f1
        have ch : a_Ch 1 M M2 := (e3.tr (fun c i j a b _ _ => k1 c i j a b)).tr f2
        obtain ⟨g1, g2, g3⟩ := i_open hw ch
        have hwo : a_wf (a_r (c_T 0 55 (gk_up M2 14 0 13 0))) N dd := by rw [g1]; exact hw
        have rc : r_RC (c_T 0 55 (gk_up M2 14 0 13 0)) (gk_up (c_T 0 55 (gk_up M2 14 0 13 0)) 14 0 33 z) := r_RC.up (by unfold r_st; omega)
        have aR : a_r (gk_up (c_T 0 55 (gk_up M2 14 0 13 0)) 14 0 33 z) = a_r M := by
          rw [(r_RK.up (by unfold r_sc; omega)).st hwo.cntR hN]; exact g1
        obtain ⟨M3, b1, b2⟩ := h_loR (N := N) hn (wh := wh) n 200 0 dd 0 0 0 (gk_up (c_T 0 55 (gk_up M2 14 0 13 0)) 14 0 33 z) (by omega) (by omega) (by omega) (by rw [aR]; exact hw) (by decide) (by decide)
        rw [aR, u_s] at b1
        refine i_mind h (M1 := M2) (M2 := M3) ?_ ch (rc.tr b2) ?_ (r := z_lp N wh (z_los N n (a_r M) dd z 0 0 0))
        · rw [f_X11_lots, h_rng, if_pos p1, if_pos p2, q_bnd, h_othT w1 w2, q_bnd, h_fst0, q_bnd, if_pos rfl, e1, q_bnd, q_wr, f_X0_fallCalm, q_wr, q_wr, q_bnd, ← hM1']
          exact f1
        · rw [f_X12_lots, q_wr, if_pos p1, if_pos p2, h_inT w3, q_bnd, if_pos (by decide), X12_lots_j42, if_pos (by decide), h_open, q_bnd, q_wr]
          exact b1
      · refine i_refuse h (q := 2) (x := -2) rfl (by decide) (by decide) ?_ ?_
        · rw [f_X11_lots, h_rng, if_pos p1, if_pos p2, q_bnd, h_othF w1, q_bnd, h_fst0, q_bnd, if_neg (by decide)]; exact q_ret
        · intro M1 hE
          rw [f_X12_lots, q_wr, if_pos p1, if_pos p2, h_inF w2, q_bnd, if_neg (by decide), X12_lots_j42, if_neg (by decide)]; exact q_ret
    · refine i_refuse h (q := 6) (x := -6) rfl (by decide) (by decide) ?_ ?_
      · obtain ⟨v, hv⟩ := h_othE wh 1 M
        rw [f_X11_lots, h_rng, if_pos p1, if_neg p2, q_bnd, hv, q_bnd, h_fstN (by decide), q_bnd, if_neg (by decide)]; exact q_ret
      · intro M1 hE
        rw [f_X12_lots, q_wr, if_pos p1, if_neg p2, X12_lots_j42, if_neg (by decide)]; exact q_ret
  · refine i_refuse h (q := 4) (x := -4) rfl (by decide) (by decide) ?_ ?_
    · obtain ⟨v, hv⟩ := h_othE wh 1 M
      rw [f_X11_lots, h_rng, if_neg p1, q_bnd, hv, q_bnd, h_fstN (by decide), q_bnd, if_neg (by decide)]; exact q_ret
    · intro M1 hE
      rw [f_X12_lots, q_wr, if_neg p1, X12_lots_j42, if_neg (by decide)]; exact q_ret
