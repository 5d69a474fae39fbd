/-! a statement -/
def p_l (Lt : Nat → Nat) (z a : Nat) : Nat := if a < z then Lt a else 999
def p_6 (x0 x1 x2 x3 x4 x5 : Int32) (j : Nat) : Int32 := if j = 0 then x0 else if j = 1 then x1 else if j = 2 then x2 else if j = 3 then x3 else if j = 4 then x4 else x5
def p_s1 (Lt : Nat → Nat) (z a : Nat) := p_num Lt z 1 (a + 1, false)
def p_s2 (Lt : Nat → Nat) (z a : Nat) := p_num Lt z 1 (p_s1 Lt z a).2
def p_s3 (Lt : Nat → Nat) (z a : Nat) := p_num Lt z 1 (p_s2 Lt z a).2
def p_s4 (Lt : Nat → Nat) (z a : Nat) := p_num Lt z 3 (p_s3 Lt z a).2
def p_s5 (Lt : Nat → Nat) (z a : Nat) := p_need Lt z 44 (p_s4 Lt z a).2
def p_s6 (Lt : Nat → Nat) (z a : Nat) := p_sg Lt z 2 (p_s5 Lt z a)
def p_s7 (Lt : Nat → Nat) (z a : Nat) := p_need Lt z 44 (p_s6 Lt z a).2
def p_s8 (Lt : Nat → Nat) (z a : Nat) := p_sg Lt z 2 (p_s7 Lt z a)
def p_w2 (Lt : Nat → Nat) (z a : Nat) := p_sg Lt z 1 (p_s1 Lt z a).2
def p_w3 (Lt : Nat → Nat) (z a : Nat) := p_sg Lt z 1 (p_w2 Lt z a).2
def p_q1 (Lt : Nat → Nat) (z a : Nat) := p_num Lt z 2 (a + 1, false)
def p_v (Lt : Nat → Nat) (z a : Nat) : Nat → Int32 := if p_l Lt z a = 115 then p_6 (nI (p_s1 Lt z a).1) (nI (p_s2 Lt z a).1) (nI (p_s3 Lt z a).1) (nI (p_s4 Lt z a).1) (p_s6 Lt z a).1 (p_s8 Lt z a).1 else if p_l Lt z a = 119 then p_6 (nI (p_s1 Lt z a).1) (p_w2 Lt z a).1 (p_w3 Lt z a).1 0 0 0 else p_6 (nI (p_q1 Lt z a).1) 0 0 0 0 0
def p_e (Lt : Nat → Nat) (z a : Nat) : Nat × Bool := if p_l Lt z a = 115 then p_need Lt z 59 (p_s8 Lt z a).2 else if p_l Lt z a = 119 then p_need Lt z 59 (p_w3 Lt z a).2 else if p_l Lt z a = 114 ∨ p_l Lt z a = 118 then p_need Lt z 59 (p_q1 Lt z a).2 else (a, true)
theorem p_e_le {Lt : Nat → Nat} {z a : Nat} (ha : a ≤ z) : (p_e Lt z a).1 ≤ z ∧ ((p_e Lt z a).2 = false → a + 3 ≤ (p_e Lt z a).1 ∧ (p_l Lt z a = 115 ∨ p_l Lt z a = 119 ∨ p_l Lt z a = 114 ∨ p_l Lt z a = 118)) := by
  unfold p_e
  have lt : ∀ c, c < 900 → p_l Lt z a = c → a + 1 ≤ z := fun c hc h => by
    unfold p_l at h
    by_cases q : a < z
    · exact q
    · rw [if_neg q] at h; omega
  by_cases q1 : p_l Lt z a = 115
  · rw [if_pos q1]
    have l1 := p_num_le (Lt := Lt) (k := 1) (st := (a + 1, false)) (lt _ (by decide) q1)
    have l2 := p_num_le (Lt := Lt) (k := 1) (st := (p_s1 Lt z a).2) l1.2.1
    have l3 := p_num_le (Lt := Lt) (k := 1) (st := (p_s2 Lt z a).2) l2.2.1
    have l4 := p_num_le (Lt := Lt) (k := 3) (st := (p_s3 Lt z a).2) l3.2.1
    have l5 := p_need_le (Lt := Lt) (c := 44) (st := (p_s4 Lt z a).2) l4.2.1
    have l6 := p_sg_le (Lt := Lt) (k := 2) (st := p_s5 Lt z a) l5.2.1
    have l7 := p_need_le (Lt := Lt) (c := 44) (st := (p_s6 Lt z a).2) l6.2.1
    have l8 := p_sg_le (Lt := Lt) (k := 2) (st := p_s7 Lt z a) l7.2.1
    have l9 := p_need_le (Lt := Lt) (c := 59) (st := (p_s8 Lt z a).2) l8.2.1
    refine ⟨l9.2.1, fun f => ⟨?_, Or.inl q1⟩⟩
    have m1 : a + 1 ≤ (p_s1 Lt z a).2.1 := l1.1
    have m2 : (p_s1 Lt z a).2.1 ≤ (p_s2 Lt z a).2.1 := l2.1
    have m3 : (p_s2 Lt z a).2.1 ≤ (p_s3 Lt z a).2.1 := l3.1
    have m4 : (p_s3 Lt z a).2.1 ≤ (p_s4 Lt z a).2.1 := l4.1
    have m5 : (p_s4 Lt z a).2.1 ≤ (p_s5 Lt z a).1 := l5.1
    have m6 : (p_s5 Lt z a).1 ≤ (p_s6 Lt z a).2.1 := l6.1
    have m7 : (p_s6 Lt z a).2.1 ≤ (p_s7 Lt z a).1 := l7.1
    have m9 := l9.2.2 f
    have m8 : (p_s7 Lt z a).1 + 1 ≤ (p_s8 Lt z a).2.1 := (l8.2.2 m9.1).2
    have m10 := m9.2
    omega
  · rw [if_neg q1]
    by_cases q2 : p_l Lt z a = 119
    · rw [if_pos q2]
      have l1 := p_num_le (Lt := Lt) (k := 1) (st := (a + 1, false)) (lt _ (by decide) q2)
      have l2 := p_sg_le (Lt := Lt) (k := 1) (st := (p_s1 Lt z a).2) l1.2.1
      have l3 := p_sg_le (Lt := Lt) (k := 1) (st := (p_w2 Lt z a).2) l2.2.1
      have l9 := p_need_le (Lt := Lt) (c := 59) (st := (p_w3 Lt z a).2) l3.2.1
      refine ⟨l9.2.1, fun f => ⟨?_, Or.inr (Or.inl q2)⟩⟩
      have m1 : a + 1 ≤ (p_s1 Lt z a).2.1 := l1.1
      have m2 : (p_s1 Lt z a).2.1 ≤ (p_w2 Lt z a).2.1 := l2.1
      have m9 := l9.2.2 f
      have m3 : (p_w2 Lt z a).2.1 + 1 ≤ (p_w3 Lt z a).2.1 := (l3.2.2 m9.1).2
      have m10 := m9.2
      omega
    · rw [if_neg q2]
      by_cases q3 : p_l Lt z a = 114 ∨ p_l Lt z a = 118
      · rw [if_pos q3]
        have l1 := p_num_le (Lt := Lt) (k := 2) (st := (a + 1, false)) (by rcases q3 with q | q; exact lt _ (by decide) q; exact lt _ (by decide) q)
        have l9 := p_need_le (Lt := Lt) (c := 59) (st := (p_q1 Lt z a).2) l1.2.1
        refine ⟨l9.2.1, fun f => ⟨?_, Or.inr (Or.inr q3)⟩⟩
        have m9 := l9.2.2 f
        have m1 : a + 1 + 1 ≤ (p_q1 Lt z a).2.1 := (l1.2.2 m9.1).2
        have m10 := m9.2
        omega
      · rw [if_neg q3]
        exact ⟨ha, fun f => Bool.noConfusion f⟩
/-! what a statement does to the class's draft -/
def k_ap (c : Nat) (v : Nat → Int32) (M : gk_M) : Int32 × gk_M := if c = 115 then (if 6 ≤ v 0 ∨ ¬ M 2 1 3 < 6 then (0, M) else (1, gk_up (gk_up (gk_up (gk_up (gk_up (gk_up (gk_up M 5 (6 * 1 + (M 2 1 3).toNatClampNeg) 0 (v 0)) 5 (6 * 1 + (M 2 1 3).toNatClampNeg) 1 (v 1)) 5 (6 * 1 + (M 2 1 3).toNatClampNeg) 2 (v 2)) 5 (6 * 1 + (M 2 1 3).toNatClampNeg) 3 (v 3)) 5 (6 * 1 + (M 2 1 3).toNatClampNeg) 4 (v 4)) 5 (6 * 1 + (M 2 1 3).toNatClampNeg) 5 (v 5)) 2 1 3 (M 2 1 3 + 1)))
  else if c = 119 then (if 7 ≤ v 0 ∨ 4 < z_ab (v 1) ∨ 4 < z_ab (v 2) then (0, M) else (1, gk_up (gk_up M 7 1 (v 0).toNatClampNeg (v 1)) 8 1 (v 0).toNatClampNeg (v 2)))
  else if c = 114 then (if v 0 < 1 ∨ 40 < v 0 then 0 else 1, gk_up M 2 1 5 (v 0))
  else if c = 118 then (if v 0 < 1 ∨ 99 < v 0 then 0 else 1, gk_up M 2 1 6 (v 0)) else (0, M)
theorem ship_C {Lt : Nat → Nat} {z a n : Nat} {M : gk_M} (h : p_C Lt z M) (ha : a + 1 ≤ z) (hn : n ≤ 6) (hc : M 2 1 3 = nI n) : f_X6_readShip 1 (s_S 3 2 3 (a + 1, false) M) = some ((k_ap 115 (p_6 (nI (p_s1 Lt z a).1) (nI (p_s2 Lt z a).1) (nI (p_s3 Lt z a).1) (nI (p_s4 Lt z a).1) (p_s6 Lt z a).1 (p_s8 Lt z a).1) M).1, s_S 3 2 3 (p_s8 Lt z a).2 (k_ap 115 (p_6 (nI (p_s1 Lt z a).1) (nI (p_s2 Lt z a).1) (nI (p_s3 Lt z a).1) (nI (p_s4 Lt z a).1) (p_s6 Lt z a).1 (p_s8 Lt z a).1) M).2) := by
  have l1 := p_num_le (Lt := Lt) (k := 1) (st := (a + 1, false)) ha
  have l2 := p_num_le (Lt := Lt) (k := 1) (st := (p_s1 Lt z a).2) l1.2.1
  have l3 := p_num_le (Lt := Lt) (k := 1) (st := (p_s2 Lt z a).2) l2.2.1
  have l4 := p_num_le (Lt := Lt) (k := 3) (st := (p_s3 Lt z a).2) l3.2.1
  have l5 := p_need_le (Lt := Lt) (c := 44) (st := (p_s4 Lt z a).2) l4.2.1
  have l6 := p_sg_le (Lt := Lt) (k := 2) (st := p_s5 Lt z a) l5.2.1
  have l7 := p_need_le (Lt := Lt) (c := 44) (st := (p_s6 Lt z a).2) l6.2.1
  have r1 : f_X6_readNumber 1 (s_S 3 2 3 (a + 1, false) M) = some (nI (p_s1 Lt z a).1, s_S 3 2 3 (p_s1 Lt z a).2 M) := num_C (k := 1) h (by decide) (by decide) ha
  have r2 : f_X6_readNumber 1 (s_S 3 2 3 (p_s1 Lt z a).2 M) = some (nI (p_s2 Lt z a).1, s_S 3 2 3 (p_s2 Lt z a).2 M) := num_C (k := 1) h (by decide) (by decide) l1.2.1
  have r3 : f_X6_readNumber 1 (s_S 3 2 3 (p_s2 Lt z a).2 M) = some (nI (p_s3 Lt z a).1, s_S 3 2 3 (p_s3 Lt z a).2 M) := num_C (k := 1) h (by decide) (by decide) l2.2.1
  have r4 : f_X6_readNumber 3 (s_S 3 2 3 (p_s3 Lt z a).2 M) = some (nI (p_s4 Lt z a).1, s_S 3 2 3 (p_s4 Lt z a).2 M) := num_C (k := 3) h (by decide) (by decide) l3.2.1
  have r5 : f_X6_need 44 (s_S 3 2 3 (p_s4 Lt z a).2 M) = some ((), s_S 3 2 3 (p_s5 Lt z a) M) := n_C (c := 44) h (by decide) l4.2.1
  have r6 : f_X6_readSigned 2 (s_S 3 2 3 (p_s5 Lt z a) M) = some ((p_s6 Lt z a).1, s_S 3 2 3 (p_s6 Lt z a).2 M) := sg_C (k := 2) h (by decide) (by decide) l5.2.1
  have r7 : f_X6_need 44 (s_S 3 2 3 (p_s6 Lt z a).2 M) = some ((), s_S 3 2 3 (p_s7 Lt z a) M) := n_C (c := 44) h (by decide) l6.2.1
  have r8 : f_X6_readSigned 2 (s_S 3 2 3 (p_s7 Lt z a) M) = some ((p_s8 Lt z a).1, s_S 3 2 3 (p_s8 Lt z a).2 M) := sg_C (k := 2) h (by decide) (by decide) l7.2.1
  have e : s_S 3 2 3 (p_s8 Lt z a).2 M 2 1 3 = M 2 1 3 := s_n (by omega)
  rw [f_X6_readShip, q_gd (q_lt (by decide)), r1, q_bnd, r2, q_bnd, r3, q_bnd, r4, q_bnd, r5, q_bnd, r6, q_bnd, r7, q_bnd, r8, q_bnd, e]
  obtain ⟨v, hv⟩ : ∃ v, v = p_6 (nI (p_s1 Lt z a).1) (nI (p_s2 Lt z a).1) (nI (p_s3 Lt z a).1) (nI (p_s4 Lt z a).1) (p_s6 Lt z a).1 (p_s8 Lt z a).1 := ⟨_, rfl⟩
  rw [← hv, show nI (p_s1 Lt z a).1 = v 0 by rw [hv]; rfl, show nI (p_s2 Lt z a).1 = v 1 by rw [hv]; rfl, show nI (p_s3 Lt z a).1 = v 2 by rw [hv]; rfl, show nI (p_s4 Lt z a).1 = v 3 by rw [hv]; rfl, show (p_s6 Lt z a).1 = v 4 by rw [hv]; rfl, show (p_s8 Lt z a).1 = v 5 by rw [hv]; rfl]
  unfold k_ap
  rw [if_pos rfl]
  by_cases q1 : 6 ≤ v 0
  · rw [if_pos q1, if_pos (Or.inl q1), X6_readShip_j67, q_gd q_b0]
  · rw [if_neg q1]
    by_cases q2 : M 2 1 3 < 6
    · have n6 : n < 6 := by
        rw [hc] at q2
        exact (nI_ltI (b := 6) (by omega) (by omega)).mp q2
      rw [if_pos q2, if_neg (show ¬ (6 ≤ v 0 ∨ ¬ M 2 1 3 < 6) from fun w => by rcases w with w | w; exact q1 w; exact w q2), q_gd (by rw [hc]; exact q_in n6 (by decide)), q_wr, s_cm (by omega), q_wr, s_cm (by omega), q_wr, s_cm (by omega), q_wr, s_cm (by omega), q_wr, s_cm (by omega), q_wr, s_cm (by omega), q_wr, s_n (by omega), s_cm (by omega), q_gd q_b1, u_n (by omega), u_n (by omega), u_n (by omega), u_n (by omega), u_n (by omega), u_n (by omega)]
    · rw [if_neg q2, if_pos (Or.inr q2), X6_readShip_j67, q_gd q_b0]
theorem wind_C {Lt : Nat → Nat} {z a : Nat} {M : gk_M} (h : p_C Lt z M) (ha : a + 1 ≤ z) : f_X6_readWind 1 (s_S 3 2 3 (a + 1, false) M) = some ((k_ap 119 (p_6 (nI (p_s1 Lt z a).1) (p_w2 Lt z a).1 (p_w3 Lt z a).1 0 0 0) M).1, s_S 3 2 3 (p_w3 Lt z a).2 (k_ap 119 (p_6 (nI (p_s1 Lt z a).1) (p_w2 Lt z a).1 (p_w3 Lt z a).1 0 0 0) M).2) := by
  have l1 := p_num_le (Lt := Lt) (k := 1) (st := (a + 1, false)) ha
  have l2 := p_sg_le (Lt := Lt) (k := 1) (st := (p_s1 Lt z a).2) l1.2.1
  have b1 := p_num_lt (Lt := Lt) (z := z) (k := 1) (by decide) (a + 1, false)
  have r1 : f_X6_readNumber 1 (s_S 3 2 3 (a + 1, false) M) = some (nI (p_s1 Lt z a).1, s_S 3 2 3 (p_s1 Lt z a).2 M) := num_C (k := 1) h (by decide) (by decide) ha
  have r2 : f_X6_readSigned 1 (s_S 3 2 3 (p_s1 Lt z a).2 M) = some ((p_w2 Lt z a).1, s_S 3 2 3 (p_w2 Lt z a).2 M) := sg_C (k := 1) h (by decide) (by decide) l1.2.1
  have r3 : f_X6_readSigned 1 (s_S 3 2 3 (p_w2 Lt z a).2 M) = some ((p_w3 Lt z a).1, s_S 3 2 3 (p_w3 Lt z a).2 M) := sg_C (k := 1) h (by decide) (by decide) l2.2.1
  rw [f_X6_readWind, q_gd (q_lt (by decide)), r1, q_bnd, r2, q_bnd, r3, q_bnd]
  obtain ⟨v, hv⟩ : ∃ v, v = p_6 (nI (p_s1 Lt z a).1) (p_w2 Lt z a).1 (p_w3 Lt z a).1 0 0 0 := ⟨_, rfl⟩
  rw [← hv, show (p_w2 Lt z a).1 = v 1 by rw [hv]; rfl, show (p_w3 Lt z a).1 = v 2 by rw [hv]; rfl]
  have v0 : v 0 = nI (p_s1 Lt z a).1 := by rw [hv]; rfl
  rw [← v0]
  unfold k_ap
  rw [if_neg (show ¬ (119 : Nat) = 115 by decide), if_pos (show (119 : Nat) = 119 from rfl)]
  by_cases q1 : 7 ≤ v 0
  · rw [if_pos q1, if_pos (Or.inl q1), X6_readWind_j42, q_gd q_b0]
  · have d7 : (p_s1 Lt z a).1 < 7 := by
      rw [v0] at q1
      have b1 : (p_s1 Lt z a).1 < 10 := b1
      have := (not_congr (nI_leI (a := 7) (b := (p_s1 Lt z a).1) (by omega) (by omega))).mp q1
      omega
    rw [if_neg q1, h_abs, q_bnd]
    by_cases q2 : 4 < z_ab (v 1)
    · rw [if_pos q2, if_pos (Or.inr (Or.inl q2)), X6_readWind_j42, q_gd q_b0]
    · rw [if_neg q2, h_abs, q_bnd]
      by_cases q3 : z_ab (v 2) ≤ 4
      · have q3' : ¬ 4 < z_ab (v 2) := by rw [z_lt]; rw [z_le] at q3; omega
        rw [if_pos q3, if_neg (show ¬ (7 ≤ v 0 ∨ 4 < z_ab (v 1) ∨ 4 < z_ab (v 2)) from fun w => by rcases w with w | w | w; exact q1 w; exact q2 w; exact q3' w), q_gd (by rw [v0]; exact q_in d7 (by decide)), q_wr, s_cm (by omega), q_gd (by rw [v0]; exact q_in d7 (by decide)), q_wr, s_cm (by omega), q_gd q_b1]
      · have q3' : 4 < z_ab (v 2) := by rw [z_lt]; rw [z_le] at q3; omega
        rw [if_neg q3, if_pos (Or.inr (Or.inr q3')), X6_readWind_j42, q_gd q_b0]
theorem rs_C {Lt : Nat → Nat} {z a : Nat} {M : gk_M} (h : p_C Lt z M) (ha : a + 1 ≤ z) : f_X6_readReach 1 (s_S 3 2 3 (a + 1, false) M) = some ((k_ap 114 (p_6 (nI (p_q1 Lt z a).1) 0 0 0 0 0) M).1, s_S 3 2 3 (p_q1 Lt z a).2 (k_ap 114 (p_6 (nI (p_q1 Lt z a).1) 0 0 0 0 0) M).2) ∧ f_X6_readSight 1 (s_S 3 2 3 (a + 1, false) M) = some ((k_ap 118 (p_6 (nI (p_q1 Lt z a).1) 0 0 0 0 0) M).1, s_S 3 2 3 (p_q1 Lt z a).2 (k_ap 118 (p_6 (nI (p_q1 Lt z a).1) 0 0 0 0 0) M).2) := by
  have r1 : f_X6_readNumber 2 (s_S 3 2 3 (a + 1, false) M) = some (nI (p_q1 Lt z a).1, s_S 3 2 3 (p_q1 Lt z a).2 M) := num_C (k := 2) h (by decide) (by decide) ha
  obtain ⟨v, hv⟩ : ∃ v, v = p_6 (nI (p_q1 Lt z a).1) 0 0 0 0 0 := ⟨_, rfl⟩
  have v0 : nI (p_q1 Lt z a).1 = v 0 := by rw [hv]; rfl
  refine ⟨?_, ?_⟩
  · rw [f_X6_readReach, q_gd (q_lt (by decide)), r1, q_bnd, q_wr, u_s, s_cm (by omega), ← hv, v0]
    unfold k_ap
    rw [if_neg (show ¬ (114 : Nat) = 115 by decide), if_neg (show ¬ (114 : Nat) = 119 by decide), if_pos (show (114 : Nat) = 114 from rfl)]
    by_cases q1 : v 0 < 1
    · rw [if_pos q1, if_pos (show v 0 < 1 ∨ 40 < v 0 from Or.inl q1), X6_readReach_j30, q_gd q_b0]
    · rw [if_neg q1]
      by_cases q2 : 40 < v 0
      · rw [if_pos q2, if_pos (show v 0 < 1 ∨ 40 < v 0 from Or.inr q2), X6_readReach_j30, q_gd q_b0]
      · rw [if_neg q2, if_neg (show ¬ (v 0 < 1 ∨ 40 < v 0) from fun w => by rcases w with w | w; exact q1 w; exact q2 w), q_gd q_b1]
  · rw [f_X6_readSight, q_gd (q_lt (by decide)), r1, q_bnd, q_wr, u_s, s_cm (by omega), ← hv, v0]
    unfold k_ap
    rw [if_neg (show ¬ (118 : Nat) = 115 by decide), if_neg (show ¬ (118 : Nat) = 119 by decide), if_neg (show ¬ (118 : Nat) = 114 by decide), if_pos (show (118 : Nat) = 118 from rfl)]
    by_cases q1 : v 0 < 1
    · rw [if_pos q1, if_pos (show v 0 < 1 ∨ 99 < v 0 from Or.inl q1), X6_readSight_j30, q_gd q_b0]
    · rw [if_neg q1]
      by_cases q2 : 99 < v 0
      · rw [if_pos q2, if_pos (show v 0 < 1 ∨ 99 < v 0 from Or.inr q2), X6_readSight_j30, q_gd q_b0]
      · rw [if_neg q2, if_neg (show ¬ (v 0 < 1 ∨ 99 < v 0) from fun w => by rcases w with w | w; exact q1 w; exact q2 w), q_gd q_b1]
theorem k_apC {c : Nat} {v : Nat → Int32} {M : gk_M} {n : Nat} (hn : n ≤ 6) (hc : M 2 1 3 = nI n) : ((k_ap c v M).1 = 0 ∨ (k_ap c v M).1 = 1) ∧ a_Ch 1 M (k_ap c v M).2 ∧ ∃ n', n' ≤ 6 ∧ (k_ap c v M).2 2 1 3 = nI n' := by
  unfold k_ap
  by_cases q1 : c = 115
  · rw [if_pos q1]
    by_cases q : 6 ≤ v 0 ∨ ¬ M 2 1 3 < 6
    · rw [if_pos q]; exact ⟨Or.inl rfl, a_Ch.rf, n, hn, hc⟩
    · rw [if_neg q]
      have q2 : M 2 1 3 < 6 := Classical.byContradiction (fun w => q (Or.inr w))
      have n6 : n < 6 := by rw [hc] at q2; exact (nI_ltI (b := 6) (by omega) (by omega)).mp q2
      refine ⟨Or.inr rfl, fun c i j h1 h2 h3 h4 => ?_, n + 1, by omega, ?_⟩
      · rw [hc, q_cl (by omega)] at *
        show gk_up (gk_up (gk_up (gk_up (gk_up (gk_up (gk_up M 5 (6 * 1 + n) 0 (v 0)) 5 (6 * 1 + n) 1 (v 1)) 5 (6 * 1 + n) 2 (v 2)) 5 (6 * 1 + n) 3 (v 3)) 5 (6 * 1 + n) 4 (v 4)) 5 (6 * 1 + n) 5 (v 5)) 2 1 3 (nI n + 1) c i j = M c i j
        rw [u_n (by omega), u_n (by omega), u_n (by omega), u_n (by omega), u_n (by omega), u_n (by omega), u_n (by omega)]
      · dsimp only
        rw [u_s, hc, nI_1]
  · rw [if_neg q1]
    by_cases q2 : c = 119
    · rw [if_pos q2]
      by_cases q : 7 ≤ v 0 ∨ 4 < z_ab (v 1) ∨ 4 < z_ab (v 2)
      · rw [if_pos q]; exact ⟨Or.inl rfl, a_Ch.rf, n, hn, hc⟩
      · rw [if_neg q]
        exact ⟨Or.inr rfl, fun c i j h1 h2 h3 h4 => by show gk_up (gk_up M 7 1 _ _) 8 1 _ _ c i j = M c i j; rw [u_n (by omega), u_n (by omega)], n, hn, by dsimp only; rw [u_n (by omega), u_n (by omega)]; exact hc⟩
    · rw [if_neg q2]
      by_cases q3 : c = 114
      · rw [if_pos q3]
        refine ⟨?_, fun c i j h1 h2 h3 h4 => u_n (by omega), n, hn, by dsimp only; rw [u_n (by omega)]; exact hc⟩
        show (if v 0 < 1 ∨ 40 < v 0 then (0 : Int32) else 1) = 0 ∨ (if v 0 < 1 ∨ 40 < v 0 then (0 : Int32) else 1) = 1
        split
        · exact Or.inl rfl
        · exact Or.inr rfl
      · rw [if_neg q3]
        by_cases q4 : c = 118
        · rw [if_pos q4]
          refine ⟨?_, fun c i j h1 h2 h3 h4 => u_n (by omega), n, hn, by dsimp only; rw [u_n (by omega)]; exact hc⟩
          show (if v 0 < 1 ∨ 99 < v 0 then (0 : Int32) else 1) = 0 ∨ (if v 0 < 1 ∨ 99 < v 0 then (0 : Int32) else 1) = 1
          split
          · exact Or.inl rfl
          · exact Or.inr rfl
        · rw [if_neg q4]; exact ⟨Or.inl rfl, a_Ch.rf, n, hn, hc⟩
theorem p_C.ch {Lt : Nat → Nat} {z : Nat} {M M' : gk_M} (h : p_C Lt z M) (hc : a_Ch 1 M M') : p_C Lt z M' := ⟨h.1, by rw [hc 3 0 1 (by omega) (by omega) (by omega) (by omega)]; exact h.2.1, fun j hj => by rw [hc 11 0 j (by omega) (by omega) (by omega) (by omega)]; exact h.2.2 j hj⟩
theorem st_C {Lt : Nat → Nat} {z a n : Nat} {M : gk_M} (h : p_C Lt z M) (ha : a ≤ z) (hn : n ≤ 6) (hc : M 2 1 3 = nI n) : f_X6_readStatement 1 (s_S 3 2 3 (a, false) M) = some ((k_ap (p_l Lt z a) (p_v Lt z a) M).1, s_S 3 2 3 (p_e Lt z a) (k_ap (p_l Lt z a) (p_v Lt z a) M).2) := by
  have tk : ∀ c, c < 256 → f_X6_take (nI c) (s_S 3 2 3 (a, false) M) = some (if p_l Lt z a = c then 1 else 0, s_S 3 2 3 (if p_l Lt z a = c then a + 1 else a, false) M) := fun c hc => by
    rw [t_C h hc ha]
    have e : p_at Lt z c (a, false) = true ↔ p_l Lt z a = c := by
      unfold p_at p_l
      by_cases q : a < z
      · rw [if_pos q]; simp [q]
      · rw [if_neg q]; simp [q]; omega
    by_cases q : p_l Lt z a = c
    · rw [if_pos q, if_pos q, if_pos (e.mpr q), if_pos (e.mpr q)]
    · rw [if_neg q, if_neg q, if_neg (fun w => q (e.mp w)), if_neg (fun w => q (e.mp w))]
  have lt : ∀ c, c < 900 → p_l Lt z a = c → a + 1 ≤ z := fun c hc h => by
    unfold p_l at h
    by_cases q : a < z
    · exact q
    · rw [if_neg q] at h; omega
  have fin : ∀ (st : Nat × Bool), st.1 ≤ z → ∀ (v : Nat → Int32), X6_readStatement_j79 (k_ap (p_l Lt z a) v M).1 (s_S 3 2 3 st (k_ap (p_l Lt z a) v M).2) = some ((k_ap (p_l Lt z a) v M).1, s_S 3 2 3 (p_need Lt z 59 st) (k_ap (p_l Lt z a) v M).2) := fun st hst v => by
    obtain ⟨k1, k2, -⟩ := k_apC (c := p_l Lt z a) (v := v) hn hc
    have r : f_X6_need 59 (s_S 3 2 3 st (k_ap (p_l Lt z a) v M).2) = some ((), s_S 3 2 3 (p_need Lt z 59 st) (k_ap (p_l Lt z a) v M).2) := n_C (c := 59) (h.ch k2) (by decide) hst
    rw [X6_readStatement_j79, r, q_bnd]
    rcases k1 with k | k <;> rw [k] <;> rfl
  rw [f_X6_readStatement, q_gd (q_lt (by decide)), show (115 : Int32) = nI 115 from rfl, tk 115 (by decide), q_bnd]
  unfold p_v p_e
  by_cases q1 : p_l Lt z a = 115
  · have l1 := lt _ (by decide) q1
    have m1 := p_num_le (Lt := Lt) (k := 1) (st := (a + 1, false)) l1
    have m2 := p_num_le (Lt := Lt) (k := 1) (st := (p_s1 Lt z a).2) m1.2.1
    have m3 := p_num_le (Lt := Lt) (k := 1) (st := (p_s2 Lt z a).2) m2.2.1
    have m4 := p_num_le (Lt := Lt) (k := 3) (st := (p_s3 Lt z a).2) m3.2.1
    have m5 := p_need_le (Lt := Lt) (c := 44) (st := (p_s4 Lt z a).2) m4.2.1
    have m6 := p_sg_le (Lt := Lt) (k := 2) (st := p_s5 Lt z a) m5.2.1
    have m7 := p_need_le (Lt := Lt) (c := 44) (st := (p_s6 Lt z a).2) m6.2.1
    have m8 := p_sg_le (Lt := Lt) (k := 2) (st := p_s7 Lt z a) m7.2.1
    have f := fin (p_s8 Lt z a).2 m8.2.1 (p_6 (nI (p_s1 Lt z a).1) (nI (p_s2 Lt z a).1) (nI (p_s3 Lt z a).1) (nI (p_s4 Lt z a).1) (p_s6 Lt z a).1 (p_s8 Lt z a).1)
    rw [if_pos q1, if_pos q1, if_pos q1, if_pos q1, if_neg (by decide), ship_C h l1 hn hc, q_bnd]
    rw [q1] at f ⊢
    exact f
  · rw [if_neg q1, if_neg q1, if_neg q1, if_neg q1, if_pos rfl, show (119 : Int32) = nI 119 from rfl, tk 119 (by decide), q_bnd]
    by_cases q2 : p_l Lt z a = 119
    · have l1 := lt _ (by decide) q2
      have m1 := p_num_le (Lt := Lt) (k := 1) (st := (a + 1, false)) l1
      have m2 := p_sg_le (Lt := Lt) (k := 1) (st := (p_s1 Lt z a).2) m1.2.1
      have m3 := p_sg_le (Lt := Lt) (k := 1) (st := (p_w2 Lt z a).2) m2.2.1
      have f := fin (p_w3 Lt z a).2 m3.2.1 (p_6 (nI (p_s1 Lt z a).1) (p_w2 Lt z a).1 (p_w3 Lt z a).1 0 0 0)
      rw [if_pos q2, if_pos q2, if_pos q2, if_pos q2, if_neg (by decide), wind_C h l1, q_bnd]
      rw [q2] at f ⊢
      exact f
    · rw [if_neg q2, if_neg q2, if_neg q2, if_neg q2, if_pos rfl, show (114 : Int32) = nI 114 from rfl, tk 114 (by decide), q_bnd]
      by_cases q3 : p_l Lt z a = 114
      · have l1 := lt _ (by decide) q3
        have m1 := p_num_le (Lt := Lt) (k := 2) (st := (a + 1, false)) l1
        have f := fin (p_q1 Lt z a).2 m1.2.1 (p_6 (nI (p_q1 Lt z a).1) 0 0 0 0 0)
        rw [if_pos q3, if_pos q3, if_neg (by decide), (rs_C h l1).1, q_bnd, if_pos (Or.inl q3)]
        rw [q3] at f ⊢
        exact f
      · rw [if_neg q3, if_neg q3, if_pos rfl, show (118 : Int32) = nI 118 from rfl, tk 118 (by decide), q_bnd]
        by_cases q4 : p_l Lt z a = 118
        · have l1 := lt _ (by decide) q4
          have m1 := p_num_le (Lt := Lt) (k := 2) (st := (a + 1, false)) l1
          have f := fin (p_q1 Lt z a).2 m1.2.1 (p_6 (nI (p_q1 Lt z a).1) 0 0 0 0 0)
          rw [if_pos q4, if_pos q4, if_neg (by decide), (rs_C h l1).2, q_bnd, if_pos (Or.inr q4)]
          rw [q4] at f ⊢
          exact f
        · have e : ∀ v, k_ap (p_l Lt z a) v M = (0, M) := fun v => by
            unfold k_ap
            rw [if_neg q1, if_neg q2, if_neg q3, if_neg q4]
          have r : f_X6_need 59 (s_S 3 2 3 (a, true) M) = some ((), s_S 3 2 3 (p_need Lt z 59 (a, true)) M) := n_C (c := 59) h (by decide) ha
          rw [if_neg q4, if_neg q4, if_pos rfl, q_gd q_b1, q_wr, s_c2, X6_readStatement_j79, r, q_bnd, q_gd q_b0, if_neg (show ¬ (p_l Lt z a = 114 ∨ p_l Lt z a = 118) from fun w => by rcases w with w | w; exact q3 w; exact q4 w), e]
          rfl
