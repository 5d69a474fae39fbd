/-! the reference does what statements mean -/
theorem co_R {Lt : Nat → Nat} {z k a n dd : Nat} {M : gk_M} (hr : r_rec Lt z k a M) (hw : a_wf (a_r M) n dd) (hk : k < 28) (hl : p_l Lt z a = 115 ∨ p_l Lt z a = 119 ∨ p_l Lt z a = 114 ∨ p_l Lt z a = 118) : (s_ap (a_r M) n (p_l Lt z a) (p_v Lt z a) = none → ∃ M', f_X12_comes (nI k) M = some (0, M') ∧ r_RC M M') ∧ ∀ B' n', s_ap (a_r M) n (p_l Lt z a) (p_v Lt z a) = some (B', n') → ∃ M', f_X12_comes (nI k) M = some (1, M') ∧ r_RC M M' ∧ a_r M' = B' := by
  have hN := hw.1
  have hc := hw.cntR
  have hg := p_v_rg (Lt := Lt) (z := z) (a := a)
  obtain ⟨h1, h2, h3, h4, h5⟩ := hr
  obtain ⟨v, hv⟩ : ∃ v, v = p_v Lt z a := ⟨_, rfl⟩
  obtain ⟨c, hcc⟩ : ∃ c, c = p_l Lt z a := ⟨_, rfl⟩
  rw [← hv] at h3 h4 h5
  rw [← hv, ← hcc] at hg
  rw [← hcc] at h2 h3 h4 hl
  rw [← hv, ← hcc]
  have v0 : M 21 0 (6 * k) = v 0 := h5
  have i6 : (6 : Int32) * nI k = nI (6 * k) := by rw [show (6 : Int32) = nI 6 from rfl, pk_mul]
  have gi0 : gk_in (nI (6 * k)) 168 = true := q_in (by omega) (by decide)
  have cl0 : (nI (6 * k)).toNatClampNeg = 6 * k := q_cl (by omega)
  have ne : ∀ d, d < 256 → c ≠ d → ¬ nI c = nI d := fun d hd q w => q ((nI_eq (by omega) (by omega)).mp w)
  rw [f_X12_comes, q_gd (q_in hk (by decide)), q_cl (show k < 2 ^ 31 by omega), h2, i6, cl0]
  unfold s_ap
  have x1 : (1 : Int64).toInt = 1 := rfl
  have x40 : (40 : Int64).toInt = 40 := rfl
  have x99 : (99 : Int64).toInt = 99 := rfl
  have y1 : (1 : Int32).toInt = 1 := rfl
  have y40 : (40 : Int32).toInt = 40 := rfl
  have y99 : (99 : Int32).toInt = 99 := rfl
  rcases hl with rfl | rfl | rfl | rfl
  · rw [if_pos rfl, if_neg (show ¬ nI 115 = 114 by decide), if_pos (show nI 115 = 115 from rfl), f_X12_shipComes, q_gd gi0, cl0, v0]
    obtain ⟨⟨k0, b0, g0⟩, -⟩ := hg.1 rfl
    have e5 : (5 < v 0) ↔ (6 ≤ v 0) := by
      have y5 : (5 : Int32).toInt = 5 := rfl
      have y6 : (6 : Int32).toInt = 6 := rfl
      rw [z_lt, z_le, y5, y6]; omega
    by_cases q1 : 6 ≤ v 0
    · rw [if_pos (Or.inl q1), if_pos (e5.mpr q1), X12_shipComes_j19, q_gd q_b0, q_bnd, q_gd q_b0]
      exact ⟨fun _ => ⟨M, rfl, r_RC.rf⟩, fun _ _ w => by cases w⟩
    · rw [if_neg (fun w => q1 (e5.mp w)), hc]
      by_cases q2 : n = 6
      · rw [if_pos (Or.inr q2), if_neg (fun w => w (by rw [q2]; rfl)), X12_shipComes_j19, q_gd q_b0, q_bnd, q_gd q_b0]
        exact ⟨fun _ => ⟨M, rfl, r_RC.rf⟩, fun _ _ w => by cases w⟩
      · have n6 : n < 6 := by omega
        rw [if_neg (show ¬ (6 ≤ v 0 ∨ n = 6) from fun w => by rcases w with w | w; exact q1 w; exact q2 w), if_pos (show ¬ nI n = 6 from fun w => q2 ((nI_eq (b := 6) (by omega) (by omega)).mp w))]
        refine ⟨fun w => (by cases w), fun B' n' w => ?_⟩
        injection w with w
        injection w with w1 w2
        subst w1
        have ij : ∀ j, j < 6 → nI (6 * k) + nI j = nI (6 * k + j) := fun j _ => nI_add _ _
        have gi : ∀ j, j < 6 → gk_in (nI (6 * k + j)) 168 = true := fun j hj => q_in (by omega) (by decide)
        have gn : gk_in (nI n) 6 = true := q_in n6 (by decide)
        have cn : (nI n).toNatClampNeg = n := q_cl (by omega)
        have cj : ∀ j, j < 6 → (nI (6 * k + j)).toNatClampNeg = 6 * k + j := fun j hj => q_cl (by omega)
        have hj := h3 rfl
        refine ⟨gk_up (gk_up (gk_up (gk_up (gk_up (gk_up (gk_up M 16 0 n (v 0)) 16 1 n (v 1)) 16 2 n (v 2)) 16 3 n (v 3)) 16 4 n (v 4)) 16 5 n (v 5)) 14 0 0 (nI (n + 1)), ?_, ?_, ?_⟩
        · rw [q_gd gi0, q_gd gn, cn, q_wr, show (1 : Int32) = nI 1 from rfl, ij 1 (by decide), q_gd (gi 1 (by decide)), cj 1 (by decide), u_n (by omega), hc, q_gd gn, cn, u_n (by omega), hj 1 (by decide), q_wr, show (2 : Int32) = nI 2 from rfl, ij 2 (by decide), q_gd (gi 2 (by decide)), cj 2 (by decide), u_n (by omega), u_n (by omega), hc, q_gd gn, cn, u_n (by omega), u_n (by omega), hj 2 (by decide), q_wr, show (3 : Int32) = nI 3 from rfl, ij 3 (by decide), q_gd (gi 3 (by decide)), cj 3 (by decide), u_n (by omega), u_n (by omega), u_n (by omega), hc, q_gd gn, cn, u_n (by omega), u_n (by omega), u_n (by omega), hj 3 (by decide), q_wr, show (4 : Int32) = nI 4 from rfl, ij 4 (by decide), q_gd (gi 4 (by decide)), cj 4 (by decide), u_n (by omega), u_n (by omega), u_n (by omega), u_n (by omega), hc, q_gd gn, cn, u_n (by omega), u_n (by omega), u_n (by omega), u_n (by omega), hj 4 (by decide), q_wr, show (5 : Int32) = nI 5 from rfl, ij 5 (by decide), q_gd (gi 5 (by decide)), cj 5 (by decide), u_n (by omega), u_n (by omega), u_n (by omega), u_n (by omega), u_n (by omega), hc, q_gd gn, cn, u_n (by omega), u_n (by omega), u_n (by omega), u_n (by omega), u_n (by omega), hj 5 (by decide), q_wr, q_wr, u_n (by omega), u_n (by omega), u_n (by omega), u_n (by omega), u_n (by omega), u_n (by omega), hc, nI_add]
          rfl
        · exact ((((((r_RC.up (by unfold r_st; omega)).tr (r_RC.up (by unfold r_st; omega))).tr (r_RC.up (by unfold r_st; omega))).tr (r_RC.up (by unfold r_st; omega))).tr (r_RC.up (by unfold r_st; omega))).tr (r_RC.up (by unfold r_st; omega))).tr (r_RC.up (by unfold r_st; omega))
        · refine a_ext u_s (fun j hj => ?_) (fun j hj => ?_) (fun j hj => ?_) (fun s j hs hj => ?_)
          · rcases (show j = 0 ∨ j = 1 ∨ j = 2 ∨ j = 3 ∨ j = 4 by omega) with rfl | rfl | rfl | rfl | rfl
            · exact u_s
            · show gk_up _ 14 0 0 (nI (n + 1)) 14 0 3 = a_r M 0 1
              rw [u_n (by omega), u_n (by omega), u_n (by omega), u_n (by omega), u_n (by omega), u_n (by omega), u_n (by omega), a_r01]
            · show gk_up _ 14 0 0 (nI (n + 1)) 14 0 1 = a_r M 0 2
              rw [u_n (by omega), u_n (by omega), u_n (by omega), u_n (by omega), u_n (by omega), u_n (by omega), u_n (by omega), a_r02]
            · show gk_up _ 14 0 0 (nI (n + 1)) 14 0 2 = a_r M 0 3
              rw [u_n (by omega), u_n (by omega), u_n (by omega), u_n (by omega), u_n (by omega), u_n (by omega), u_n (by omega), a_r03]
            · show gk_up _ 14 0 0 (nI (n + 1)) 14 0 4 = a_r M 0 4
              rw [u_n (by omega), u_n (by omega), u_n (by omega), u_n (by omega), u_n (by omega), u_n (by omega), u_n (by omega), a_r04]
          · show gk_up _ 14 0 0 (nI (n + 1)) 15 0 j = a_r M 1 j
            rw [u_n (by omega), u_n (by omega), u_n (by omega), u_n (by omega), u_n (by omega), u_n (by omega), u_n (by omega), a_r1 hj]
          · show gk_up _ 14 0 0 (nI (n + 1)) 15 1 j = a_r M 2 j
            rw [u_n (by omega), u_n (by omega), u_n (by omega), u_n (by omega), u_n (by omega), u_n (by omega), u_n (by omega), a_r2 hj]
          · rw [u_s, q_cl (by omega)] at hs
            show gk_up _ 14 0 0 (nI (n + 1)) 16 j s = if s = n then v j else a_r M (s + 3) j
            by_cases e : s = n
            · subst e
              rw [if_pos rfl, u_n (by omega)]
              rcases (show j = 0 ∨ j = 1 ∨ j = 2 ∨ j = 3 ∨ j = 4 ∨ j = 5 by omega) with rfl | rfl | rfl | rfl | rfl | rfl
              · rw [u_n (by omega), u_n (by omega), u_n (by omega), u_n (by omega), u_n (by omega), u_s]
              · rw [u_n (by omega), u_n (by omega), u_n (by omega), u_n (by omega), u_s]
              · rw [u_n (by omega), u_n (by omega), u_n (by omega), u_s]
              · rw [u_n (by omega), u_n (by omega), u_s]
              · rw [u_n (by omega), u_s]
              · rw [u_s]
            · rw [if_neg e, u_n (by omega), u_n (by omega), u_n (by omega), u_n (by omega), u_n (by omega), u_n (by omega), u_n (by omega), a_rs hc hN (by omega) hj]
  · rw [if_neg (show ¬ (119 : Nat) = 115 by decide), if_pos rfl, if_neg (show ¬ nI 119 = 114 by decide), if_neg (show ¬ nI 119 = 115 by decide), if_pos (show nI 119 = 119 from rfl), q_gd gi0, v0]
    obtain ⟨⟨k0, b0, g0⟩, g1, g2⟩ := hg.2 rfl
    have hj := h4 rfl
    have xm4 : (-4 : Int64).toInt = -4 := rfl
    have x4 : (4 : Int64).toInt = 4 := rfl
    have j1 : nI (6 * k) + 1 = nI (6 * k + 1) := nI_1 _
    have j2 : nI (6 * k) + 2 = nI (6 * k + 2) := nI_add _ 2
    have d1 : gk_in (nI (6 * k + 1)) 168 = true := q_in (by omega) (by decide)
    have d2 : gk_in (nI (6 * k + 2)) 168 = true := q_in (by omega) (by decide)
    have c1 : (nI (6 * k + 1)).toNatClampNeg = 6 * k + 1 := q_cl (by omega)
    have c2 : (nI (6 * k + 2)).toNatClampNeg = 6 * k + 2 := q_cl (by omega)
    have bad : X12_comes_j107 (nI (6 * k)) M = some (0, M) := by rw [X12_comes_j107, X12_comes_j108, if_pos rfl, X12_comes_j151, q_gd q_b0]
    by_cases q1 : 7 ≤ v 0
    · rw [if_pos q1, if_pos (Or.inl q1), bad]
      exact ⟨fun _ => ⟨M, rfl, r_RC.rf⟩, fun _ _ w => by cases w⟩
    · rw [if_neg q1, j1, d1, c1, hj 1 (by decide), show gk_gd true = fun (X : Option (Int32 × gk_M)) => X from rfl]
      dsimp only
      by_cases q2 : 4 < z_ab (v 1)
      · rw [if_pos (Or.inr (Or.inl q2)), h_inF (by rw [xm4, x4]; exact (z_ab4 g1).mp q2), q_bnd, if_pos rfl, bad]
        exact ⟨fun _ => ⟨M, rfl, r_RC.rf⟩, fun _ _ w => by cases w⟩
      · have t1 : -4 ≤ (v 1).toInt ∧ (v 1).toInt ≤ 4 := Classical.byContradiction (fun w => q2 ((z_ab4 g1).mpr w))
        rw [h_inT (by rw [xm4, x4]; exact t1), q_bnd, if_neg (show ¬ (1 : Int32) = 0 by decide), j2, d2, c2, hj 2 (by decide), show gk_gd true = fun (X : Option (Int32 × gk_M)) => X from rfl]
        dsimp only
        by_cases q3 : 4 < z_ab (v 2)
        · rw [if_pos (Or.inr (Or.inr q3)), h_inF (by rw [xm4, x4]; exact (z_ab4 g2).mp q3), q_bnd, if_pos rfl, bad]
          exact ⟨fun _ => ⟨M, rfl, r_RC.rf⟩, fun _ _ w => by cases w⟩
        · have t2 : -4 ≤ (v 2).toInt ∧ (v 2).toInt ≤ 4 := Classical.byContradiction (fun w => q3 ((z_ab4 g2).mpr w))
          have k7 : k0 < 7 := by
            rw [g0] at q1
            have := (not_congr (nI_leI (a := 7) (b := k0) (by omega) (by omega))).mp q1
            omega
          rw [if_neg (show ¬ (7 ≤ v 0 ∨ 4 < z_ab (v 1) ∨ 4 < z_ab (v 2)) from fun w => by rcases w with w | w | w; exact q1 w; exact q2 w; exact q3 w), h_inT (by rw [xm4, x4]; exact t2), q_bnd, if_neg (show ¬ (1 : Int32) = 0 by decide)]
          refine ⟨fun w => (by cases w), fun B' n' w => ?_⟩
          injection w with w
          injection w with w1 w2
          subst w1
          refine ⟨gk_up (gk_up M 15 0 k0 (v 1)) 15 1 k0 (v 2), ?_, ?_, ?_⟩
          · rw [X12_comes_j108, if_neg (by decide), q_gd gi0, j1, q_gd d1, cl0, v0, g0, q_gd (q_in k7 (by decide)), c1, hj 1 (by decide), q_cl (show k0 < 2 ^ 31 by omega), q_wr, q_gd gi0, j2, q_gd d2, u_n (by omega), v0, g0, q_gd (q_in k7 (by decide)), c2, u_n (by omega), hj 2 (by decide), q_cl (show k0 < 2 ^ 31 by omega), q_wr, X12_comes_j151, q_gd q_b1]
          · exact (r_RC.up (by unfold r_st; omega)).tr (r_RC.up (by unfold r_st; omega))
          · rw [g0, q_cl (show k0 < 2 ^ 31 by omega), ← a_r_up hc hN (r0 := 1) (j0 := k0) (v := v 1) (Or.inr (Or.inl ⟨Or.inl rfl, k7⟩)) (by omega)]
            exact a_r_up (M := gk_up M 15 0 k0 (v 1)) (by rw [u_n (by omega)]; exact hc) hN (r0 := 2) (j0 := k0) (v := v 2) (Or.inr (Or.inl ⟨Or.inr rfl, k7⟩)) (by omega)
  · rw [if_neg (show ¬ (114 : Nat) = 115 by decide), if_neg (show ¬ (114 : Nat) = 119 by decide), if_pos rfl, if_pos (show nI 114 = 114 from rfl), q_gd gi0, q_wr, q_gd gi0, v0, u_n (by omega), v0]
    by_cases q : v 0 < 1 ∨ 40 < v 0
    · rw [if_pos q]
      rw [z_lt, z_lt] at q
      rw [h_inF (by rw [x1, x40]; omega), q_bnd, q_gd q_b0]
      exact ⟨fun _ => ⟨_, rfl, r_RC.up (by unfold r_st; omega)⟩, fun _ _ w => by cases w⟩
    · rw [if_neg q]
      rw [z_lt, z_lt] at q
      rw [h_inT (by rw [x1, x40]; omega), q_bnd, q_gd q_b1]
      refine ⟨fun w => (by cases w), fun B' n' w => ?_⟩
      injection w with w
      injection w with w1 w2
      subst w1
      exact ⟨_, rfl, r_RC.up (by unfold r_st; omega), a_r_up hc hN (r0 := 0) (j0 := 2) (v := v 0) (Or.inl ⟨rfl, by decide⟩) (by omega)⟩
  · rw [if_neg (show ¬ (118 : Nat) = 115 by decide), if_neg (show ¬ (118 : Nat) = 119 by decide), if_neg (show ¬ (118 : Nat) = 114 by decide), if_pos rfl, if_neg (show ¬ nI 118 = 114 by decide), if_neg (show ¬ nI 118 = 115 by decide), if_neg (show ¬ nI 118 = 119 by decide), q_gd gi0, q_wr, q_gd gi0, v0, u_n (by omega), v0]
    by_cases q : v 0 < 1 ∨ 99 < v 0
    · rw [if_pos q]
      rw [z_lt, z_lt] at q
      rw [h_inF (by rw [x1, x99]; omega), q_bnd, q_gd q_b0]
      exact ⟨fun _ => ⟨_, rfl, r_RC.up (by unfold r_st; omega)⟩, fun _ _ w => by cases w⟩
    · rw [if_neg q]
      rw [z_lt, z_lt] at q
      rw [h_inT (by rw [x1, x99]; omega), q_bnd, q_gd q_b1]
      refine ⟨fun w => (by cases w), fun B' n' w => ?_⟩
      injection w with w
      injection w with w1 w2
      subst w1
      exact ⟨_, rfl, r_RC.up (by unfold r_st; omega), a_r_up hc hN (r0 := 0) (j0 := 3) (v := v 0) (Or.inl ⟨rfl, by decide⟩) (by omega)⟩
/-! all of them, one by one -/
def p_p (Lt : Nat → Nat) (z : Nat) : Nat → Nat × Bool
  | 0 => (0, false)
  | k + 1 => p_e Lt z (p_p Lt z k).1
theorem p_p_le {Lt : Nat → Nat} {z : Nat} : ∀ k, (p_p Lt z k).1 ≤ z
  | 0 => Nat.zero_le z
  | k + 1 => (p_e_le (p_p_le k)).1
def p_end (Lt : Nat → Nat) (z k : Nat) : Prop := (p_p Lt z k).2 = true ∨ (k ≠ 0 ∧ z ≤ (p_p Lt z k).1)
theorem z_least {P : Nat → Prop} : ∀ n, P n → ∃ m, m ≤ n ∧ P m ∧ ∀ k, k < m → ¬ P k := by
  intro n
  induction n using Nat.strongRecOn with
  | _ n ih =>
    intro h
    by_cases q : ∃ k, k < n ∧ P k
    · obtain ⟨k, hk, pk⟩ := q
      obtain ⟨m, hm, p1, p2⟩ := ih k hk pk
      exact ⟨m, by omega, p1, p2⟩
    · exact ⟨n, Nat.le_refl n, h, fun k hk pk => q ⟨k, hk, pk⟩⟩
theorem p_ex {Lt : Nat → Nat} {z : Nat} (hz : z ≤ 80) : ∃ K, 1 ≤ K ∧ K ≤ 27 ∧ p_end Lt z K ∧ ∀ k, k < K → ¬ p_end Lt z k := by
  have : ∃ K, K ≤ 27 ∧ p_end Lt z K := by
    apply Classical.byContradiction
    intro hn
    have h : ∀ k, k ≤ 27 → ¬ p_end Lt z k := fun k hk pk => hn ⟨k, hk, pk⟩
    have b : ∀ k, k ≤ 27 → 3 * k ≤ (p_p Lt z k).1 := by
      intro k
      induction k with
      | zero => intro _; exact Nat.zero_le _
      | succ k ih =>
        intro hk
        have i := ih (by omega)
        have f : (p_p Lt z (k + 1)).2 = false := by
          have := h (k + 1) hk
          simp only [p_end, not_or, Bool.not_eq_true] at this
          exact this.1
        have g : (p_p Lt z k).1 + 3 ≤ (p_p Lt z (k + 1)).1 := ((p_e_le (p_p_le k)).2 f).1
        omega
    have b27 := b 27 (Nat.le_refl _)
    have := p_p_le (Lt := Lt) (z := z) 27
    omega
  obtain ⟨K0, hK0, e0⟩ := this
  obtain ⟨K, hK, e, l⟩ := z_least K0 e0
  refine ⟨K, ?_, by omega, e, l⟩
  rcases Nat.eq_zero_or_pos K with q | q
  · subst q
    rcases e with e | e
    · exact Bool.noConfusion (show false = true from e)
    · exact absurd rfl e.1
  · exact q
def s_run (Lt : Nat → Nat) (z : Nat) : Nat → Nat → a_S → Nat → Option Nat × (a_S × Nat)
  | 0, _, B, n => (none, (B, n))
  | d + 1, k, B, n => match s_ap B n (p_l Lt z (p_p Lt z k).1) (p_v Lt z (p_p Lt z k).1) with
    | none => (some k, (B, n))
    | some (B', n') => s_run Lt z d (k + 1) B' n'
theorem s_run_wf {Lt : Nat → Nat} {z dd : Nat} : ∀ (d k : Nat) (B : a_S) (n : Nat), a_wf B n dd → a_wf (s_run Lt z d k B n).2.1 (s_run Lt z d k B n).2.2 dd
  | 0, _, _, _, h => h
  | d + 1, k, B, n, h => by
    rw [s_run]
    cases q : s_ap B n (p_l Lt z (p_p Lt z k).1) (p_v Lt z (p_p Lt z k).1) with
    | none => exact h
    | some r =>
      obtain ⟨B', n'⟩ := r
      exact s_run_wf d (k + 1) B' n' (s_ap_wf h p_v_rg q)
theorem s_run_lt {Lt : Nat → Nat} {z : Nat} : ∀ (d k : Nat) (B : a_S) (n f : Nat), (s_run Lt z d k B n).1 = some f → k ≤ f ∧ f < k + d
  | 0, _, _, _, _, h => by cases h
  | d + 1, k, B, n, f, h => by
    rw [s_run] at h
    cases q : s_ap B n (p_l Lt z (p_p Lt z k).1) (p_v Lt z (p_p Lt z k).1) with
    | none => rw [q] at h; injection h with h; omega
    | some r =>
      obtain ⟨B', n'⟩ := r
      rw [q] at h
      have := s_run_lt d (k + 1) B' n' f h
      omega
