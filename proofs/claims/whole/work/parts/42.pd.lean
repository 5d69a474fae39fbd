/-! what statements mean -/
def s_add (B : a_S) (n : Nat) (v : Nat → Int32) : a_S := a_nm (nI (n + 1)) (fun r j => match r with
  | 0 => if j = 0 then nI (n + 1) else B 0 j
  | 1 => B 1 j
  | 2 => B 2 j
  | s + 3 => if s = n then v j else B (s + 3) j)
def s_ap (B : a_S) (n c : Nat) (v : Nat → Int32) : Option (a_S × Nat) := if c = 115 then (if 6 ≤ v 0 ∨ n = 6 then none else some (s_add B n v, n + 1)) else if c = 119 then (if 7 ≤ v 0 ∨ 4 < z_ab (v 1) ∨ 4 < z_ab (v 2) then none else some (z_set (z_set B 1 (v 0).toNatClampNeg (v 1)) 2 (v 0).toNatClampNeg (v 2), n)) else if c = 114 then (if v 0 < 1 ∨ 40 < v 0 then none else some (z_set B 0 2 (v 0), n)) else if c = 118 then (if v 0 < 1 ∨ 99 < v 0 then none else some (z_set B 0 3 (v 0), n)) else none
def p_rg (c : Nat) (v : Nat → Int32) : Prop := (c = 115 → (∃ k, k < 10 ∧ v 0 = nI k) ∧ (∃ k, k < 10 ∧ v 1 = nI k) ∧ (∃ k, k < 10 ∧ v 2 = nI k) ∧ (∃ k, k < 1000 ∧ v 3 = nI k) ∧ (-99 ≤ (v 4).toInt ∧ (v 4).toInt ≤ 99) ∧ (-99 ≤ (v 5).toInt ∧ (v 5).toInt ≤ 99)) ∧ (c = 119 → (∃ k, k < 10 ∧ v 0 = nI k) ∧ (-9 ≤ (v 1).toInt ∧ (v 1).toInt ≤ 9) ∧ (-9 ≤ (v 2).toInt ∧ (v 2).toInt ≤ 9))
theorem p_v_rg {Lt : Nat → Nat} {z a : Nat} : p_rg (p_l Lt z a) (p_v Lt z a) := by
  have s2 := fun st => p_sg_rng (Lt := Lt) (z := z) (k := 2) (by decide) (by decide) st
  have s1 := fun st => p_sg_rng (Lt := Lt) (z := z) (k := 1) (by decide) (by decide) st
  refine ⟨fun q => ?_, fun q => ?_⟩
  · have vv : p_v Lt z a = p_6 (nI (p_s1 Lt z a).1) (nI (p_s2 Lt z a).1) (nI (p_s3 Lt z a).1) (nI (p_s4 Lt z a).1) (p_s6 Lt z a).1 (p_s8 Lt z a).1 := by unfold p_v; rw [if_pos q]
    rw [vv]
    refine ⟨⟨_, p_num_lt (k := 1) (by decide) _, rfl⟩, ⟨_, p_num_lt (k := 1) (by decide) _, rfl⟩, ⟨_, p_num_lt (k := 1) (by decide) _, rfl⟩, ⟨_, p_num_lt (k := 3) (by decide) _, rfl⟩, ?_, ?_⟩
    · have := s2 (p_s5 Lt z a)
      show -99 ≤ (p_sg Lt z 2 (p_s5 Lt z a)).1.toInt ∧ (p_sg Lt z 2 (p_s5 Lt z a)).1.toInt ≤ 99
      omega
    · have := s2 (p_s7 Lt z a)
      show -99 ≤ (p_sg Lt z 2 (p_s7 Lt z a)).1.toInt ∧ (p_sg Lt z 2 (p_s7 Lt z a)).1.toInt ≤ 99
      omega
  · have vv : p_v Lt z a = p_6 (nI (p_s1 Lt z a).1) (p_w2 Lt z a).1 (p_w3 Lt z a).1 0 0 0 := by unfold p_v; rw [if_neg (by omega), if_pos q]
    rw [vv]
    refine ⟨⟨_, p_num_lt (k := 1) (by decide) _, rfl⟩, ?_, ?_⟩
    · have := s1 (p_s1 Lt z a).2
      show -9 ≤ (p_sg Lt z 1 (p_s1 Lt z a).2).1.toInt ∧ (p_sg Lt z 1 (p_s1 Lt z a).2).1.toInt ≤ 9
      omega
    · have := s1 (p_w2 Lt z a).2
      show -9 ≤ (p_sg Lt z 1 (p_w2 Lt z a).2).1.toInt ∧ (p_sg Lt z 1 (p_w2 Lt z a).2).1.toInt ≤ 9
      omega
theorem z_ab4 {x : Int32} (h : -9 ≤ x.toInt ∧ x.toInt ≤ 9) : (4 < z_ab x) ↔ ¬ (-4 ≤ x.toInt ∧ x.toInt ≤ 4) := by
  have e0 : (0 : Int32).toInt = 0 := rfl
  have e4 : (4 : Int32).toInt = 4 := rfl
  unfold z_ab
  by_cases q : 0 ≤ x
  · rw [if_pos q, z_lt, e4]; rw [z_le, e0] at q; omega
  · rw [if_neg q, z_lt, e4, z_neg (by omega)]; rw [z_le, e0] at q; omega
theorem s_ap_wf {B B' : a_S} {n n' dd c : Nat} {v : Nat → Int32} (hw : a_wf B n dd) (hg : p_rg c v) (h : s_ap B n c v = some (B', n')) : a_wf B' n' dd := by
  unfold s_ap at h
  by_cases q1 : c = 115
  · rw [if_pos q1] at h
    by_cases q : 6 ≤ v 0 ∨ n = 6
    · rw [if_pos q] at h; cases h
    · rw [if_neg q] at h
      injection h with h
      injection h with h1 h2
      subst h1; subst h2
      obtain ⟨hN, hc, hdd, h4, hr, hs, hwd, hsh⟩ := hw
      obtain ⟨⟨k0, b0, g0⟩, ⟨k1, b1, g1⟩, ⟨k2, b2, g2⟩, ⟨k3, b3, g3⟩, g4, g5⟩ := hg.1 q1
      have n6 : n + 1 ≤ 6 := by
        have : n ≠ 6 := fun w => q (Or.inr w)
        omega
      have k6 : k0 < 6 := by
        have := fun w => q (Or.inl w)
        rw [g0] at this
        have := (not_congr (nI_leI (a := 6) (b := k0) (by omega) (by omega))).mp this
        omega
      have r0 : ∀ j, j < 5 → j ≠ 0 → s_add B n v 0 j = B 0 j := fun j hj h0 => by
        unfold s_add; rw [a_nm0 hj]; exact if_neg h0
      have r1 : ∀ j, j < 7 → s_add B n v 1 j = B 1 j ∧ s_add B n v 2 j = B 2 j := fun j hj => by
        unfold s_add; rw [a_nm1 hj, a_nm2 hj]; exact ⟨rfl, rfl⟩
      have r3 : ∀ s j, s < n + 1 → j < 6 → s_add B n v (s + 3) j = if s = n then v j else B (s + 3) j := fun s j hs hj => by
        unfold s_add; rw [a_nms rfl n6 hs hj]
      refine ⟨n6, by unfold s_add; rw [a_nm0 (by decide)]; rfl, by rw [r0 1 (by decide) (by decide)]; exact hdd, h4, by rw [r0 2 (by decide) (by decide)]; exact hr, by rw [r0 3 (by decide) (by decide)]; exact hs, fun d hd => ?_, fun s hs => ?_⟩
      · unfold a_wd
        rw [(r1 d hd).1, (r1 d hd).2]
        exact hwd d hd
      · unfold a_sh
        rw [r3 s 0 hs (by decide), r3 s 1 hs (by decide), r3 s 2 hs (by decide), r3 s 3 hs (by decide), r3 s 4 hs (by decide), r3 s 5 hs (by decide)]
        by_cases e : s = n
        · rw [if_pos e, if_pos e, if_pos e, if_pos e, if_pos e, if_pos e]
          exact ⟨⟨k0, k6, g0⟩, ⟨k1, b1, g1⟩, ⟨k2, b2, g2⟩, ⟨k3, b3, g3⟩, by omega, by omega⟩
        · rw [if_neg e, if_neg e, if_neg e, if_neg e, if_neg e, if_neg e]
          exact hsh s (by omega)
  · rw [if_neg q1] at h
    by_cases q2 : c = 119
    · rw [if_pos q2] at h
      by_cases q : 7 ≤ v 0 ∨ 4 < z_ab (v 1) ∨ 4 < z_ab (v 2)
      · rw [if_pos q] at h; cases h
      · rw [if_neg q] at h
        injection h with h
        injection h with h1 h2
        subst h1; subst h2
        obtain ⟨⟨k0, b0, g0⟩, g1, g2⟩ := hg.2 q2
        have t1 : -4 ≤ (v 1).toInt ∧ (v 1).toInt ≤ 4 := Classical.byContradiction (fun w => q (Or.inr (Or.inl ((z_ab4 g1).mpr w))))
        have t2 : -4 ≤ (v 2).toInt ∧ (v 2).toInt ≤ 4 := Classical.byContradiction (fun w => q (Or.inr (Or.inr ((z_ab4 g2).mpr w))))
        have k7 : k0 < 7 := by
          have := fun w => q (Or.inl w)
          rw [g0] at this
          have := (not_congr (nI_leI (a := 7) (b := k0) (by omega) (by omega))).mp this
          omega
        rw [g0, q_cl (by omega)]
        exact hw.wind k7 t1 t2
    · rw [if_neg q2] at h
      have x1 : (1 : Int32).toInt = 1 := rfl
      have x40 : (40 : Int32).toInt = 40 := rfl
      have x99 : (99 : Int32).toInt = 99 := rfl
      by_cases q3 : c = 114
      · rw [if_pos q3] at h
        by_cases q : v 0 < 1 ∨ 40 < v 0
        · rw [if_pos q] at h; cases h
        · rw [if_neg q] at h
          injection h with h
          injection h with h1 h2
          subst h1; subst h2
          rw [z_lt, z_lt] at q
          exact hw.scal (Or.inl rfl) (fun _ => by omega) (fun w => by omega)
      · rw [if_neg q3] at h
        by_cases q4 : c = 118
        · rw [if_pos q4] at h
          by_cases q : v 0 < 1 ∨ 99 < v 0
          · rw [if_pos q] at h; cases h
          · rw [if_neg q] at h
            injection h with h
            injection h with h1 h2
            subst h1; subst h2
            rw [z_lt, z_lt] at q
            exact hw.scal (Or.inr (Or.inl rfl)) (fun w => by omega) (fun _ => by omega)
        · rw [if_neg q4] at h; cases h
theorem a_cu {M M' : gk_M} {k N r0 j0 : Nat} {v : Int32} (hc : M 2 k 3 = nI N) (hN : N ≤ 6) (hr : a_rel N r0 j0) (e : M' 2 k 3 = M 2 k 3) (h : ∀ r j, a_rel N r j → a_rc k M' r j = if r = r0 ∧ j = j0 then v else a_rc k M r j) : a_c k M' = z_set (a_c k M) r0 j0 v := by
  unfold a_c
  rw [e]
  exact a_nm_set hc hN hr h
theorem a_c1w {M : gk_M} {N d : Nat} {v : Int32} (hc : M 2 1 3 = nI N) (hN : N ≤ 6) (hd : d < 7) : a_c 1 (gk_up M 7 1 d v) = z_set (a_c 1 M) 1 d v ∧ a_c 1 (gk_up M 8 1 d v) = z_set (a_c 1 M) 2 d v := by
  refine ⟨a_cu hc hN (Or.inr (Or.inl ⟨Or.inl rfl, hd⟩)) (by rw [u_n (by omega)]) (fun r j _ => ?_), a_cu hc hN (Or.inr (Or.inl ⟨Or.inr rfl, hd⟩)) (by rw [u_n (by omega)]) (fun r j _ => ?_)⟩
  · match r with
    | 0 => show gk_up M 7 1 d v 2 1 (3 + j) = if 0 = 1 ∧ j = d then v else M 2 1 (3 + j); rw [u_n (by omega), if_neg (by omega)]
    | 1 =>
      show gk_up M 7 1 d v 7 1 j = if 1 = 1 ∧ j = d then v else M 7 1 j
      by_cases q : j = d
      · subst q; rw [u_s, if_pos ⟨rfl, rfl⟩]
      · rw [u_n (by omega), if_neg (by omega)]
    | 2 => show gk_up M 7 1 d v 8 1 j = if 2 = 1 ∧ j = d then v else M 8 1 j; rw [u_n (by omega), if_neg (by omega)]
    | s + 3 => show gk_up M 7 1 d v 5 (6 * 1 + s) j = if s + 3 = 1 ∧ j = d then v else M 5 (6 * 1 + s) j; rw [u_n (by omega), if_neg (by omega)]
  · match r with
    | 0 => show gk_up M 8 1 d v 2 1 (3 + j) = if 0 = 2 ∧ j = d then v else M 2 1 (3 + j); rw [u_n (by omega), if_neg (by omega)]
    | 1 => show gk_up M 8 1 d v 7 1 j = if 1 = 2 ∧ j = d then v else M 7 1 j; rw [u_n (by omega), if_neg (by omega)]
    | 2 =>
      show gk_up M 8 1 d v 8 1 j = if 2 = 2 ∧ j = d then v else M 8 1 j
      by_cases q : j = d
      · subst q; rw [u_s, if_pos ⟨rfl, rfl⟩]
      · rw [u_n (by omega), if_neg (by omega)]
    | s + 3 => show gk_up M 8 1 d v 5 (6 * 1 + s) j = if s + 3 = 2 ∧ j = d then v else M 5 (6 * 1 + s) j; rw [u_n (by omega), if_neg (by omega)]
theorem a_c1s {M : gk_M} {N j0 : Nat} {v : Int32} (hc : M 2 1 3 = nI N) (hN : N ≤ 6) (hj : j0 = 2 ∨ j0 = 3) : a_c 1 (gk_up M 2 1 (3 + j0) v) = z_set (a_c 1 M) 0 j0 v := by
  refine a_cu hc hN (Or.inl ⟨rfl, by omega⟩) (by rw [u_n (by omega)]) (fun r j _ => ?_)
  match r with
  | 0 =>
    show gk_up M 2 1 (3 + j0) v 2 1 (3 + j) = if 0 = 0 ∧ j = j0 then v else M 2 1 (3 + j)
    by_cases q : j = j0
    · subst q; rw [u_s, if_pos ⟨rfl, rfl⟩]
    · rw [u_n (by omega), if_neg (by omega)]
  | 1 => show gk_up M 2 1 (3 + j0) v 7 1 j = if 1 = 0 ∧ j = j0 then v else M 7 1 j; rw [u_n (by omega), if_neg (by omega)]
  | 2 => show gk_up M 2 1 (3 + j0) v 8 1 j = if 2 = 0 ∧ j = j0 then v else M 8 1 j; rw [u_n (by omega), if_neg (by omega)]
  | s + 3 => show gk_up M 2 1 (3 + j0) v 5 (6 * 1 + s) j = if s + 3 = 0 ∧ j = j0 then v else M 5 (6 * 1 + s) j; rw [u_n (by omega), if_neg (by omega)]
/-- the class's draft does what statements mean -/
theorem k_apG {M : gk_M} {n dd c : Nat} {v : Nat → Int32} (hw : a_wf (a_c 1 M) n dd) (hg : p_rg c v) : (s_ap (a_c 1 M) n c v = none → (k_ap c v M).1 = 0) ∧ ∀ B' n', s_ap (a_c 1 M) n c v = some (B', n') → (k_ap c v M).1 = 1 ∧ a_c 1 (k_ap c v M).2 = B' := by
  have hN := hw.1
  have hc := hw.cnt
  unfold s_ap k_ap
  by_cases q1 : c = 115
  · rw [if_pos q1, if_pos q1]
    have e6 : (¬ M 2 1 3 < 6) ↔ n = 6 := by
      rw [hc]
      have := nI_ltI (a := n) (b := 6) (by omega) (by omega)
      constructor
      · intro w
        have := (not_congr this).mp w
        omega
      · intro w z
        have := this.mp z
        omega
    by_cases q : 6 ≤ v 0 ∨ n = 6
    · have q' : 6 ≤ v 0 ∨ ¬ M 2 1 3 < 6 := by rcases q with q | q; exact Or.inl q; exact Or.inr (e6.mpr q)
      rw [if_pos q, if_pos q']
      exact ⟨fun _ => rfl, fun _ _ w => by cases w⟩
    · have q' : ¬ (6 ≤ v 0 ∨ ¬ M 2 1 3 < 6) := fun w => q (by rcases w with w | w; exact Or.inl w; exact Or.inr (e6.mp w))
      rw [if_neg q, if_neg q']
      refine ⟨fun w => (by cases w), fun B' n' w => ⟨rfl, ?_⟩⟩
      injection w with w
      injection w with w1 w2
      subst w1
      have n6 : n < 6 := by
        have : n ≠ 6 := fun w => q (Or.inr w)
        omega
      dsimp only
      rw [hc, q_cl (by omega), nI_1]
      refine a_ext u_s (fun j hj => ?_) (fun j hj => ?_) (fun j hj => ?_) (fun s j hs hj => ?_)
      · show gk_up _ 2 1 3 (nI (n + 1)) 2 1 (3 + j) = if j = 0 then nI (n + 1) else a_c 1 M 0 j
        by_cases e : j = 0
        · subst e; rw [u_s, if_pos rfl]
        · rw [u_n (by omega), if_neg e, u_n (by omega), u_n (by omega), u_n (by omega), u_n (by omega), u_n (by omega), u_n (by omega), a_c0 hj]
      · show gk_up _ 2 1 3 (nI (n + 1)) 7 1 j = a_c 1 M 1 j
        rw [u_n (by omega), u_n (by omega), u_n (by omega), u_n (by omega), u_n (by omega), u_n (by omega), u_n (by omega), a_c1 hj]
      · show gk_up _ 2 1 3 (nI (n + 1)) 8 1 j = a_c 1 M 2 j
        rw [u_n (by omega), u_n (by omega), u_n (by omega), u_n (by omega), u_n (by omega), u_n (by omega), u_n (by omega), a_c2 hj]
      · rw [u_s, q_cl (by omega)] at hs
        show gk_up _ 2 1 3 (nI (n + 1)) 5 (6 * 1 + s) j = if s = n then v j else a_c 1 M (s + 3) j
        by_cases e : s = n
        · subst e
          rw [if_pos rfl, u_n (by omega)]
          rcases (show j = 0 ∨ j = 1 ∨ j = 2 ∨ j = 3 ∨ j = 4 ∨ j = 5 by omega) with rfl | rfl | rfl | rfl | rfl | rfl
          · rw [u_n (by omega), u_n (by omega), u_n (by omega), u_n (by omega), u_n (by omega), u_s]
          · rw [u_n (by omega), u_n (by omega), u_n (by omega), u_n (by omega), u_s]
          · rw [u_n (by omega), u_n (by omega), u_n (by omega), u_s]
          · rw [u_n (by omega), u_n (by omega), u_s]
          · rw [u_n (by omega), u_s]
          · rw [u_s]
        · rw [if_neg e, u_n (by omega), u_n (by omega), u_n (by omega), u_n (by omega), u_n (by omega), u_n (by omega), u_n (by omega), a_cs hc hN (by omega) hj]
  · rw [if_neg q1, if_neg q1]
    by_cases q2 : c = 119
    · rw [if_pos q2, if_pos q2]
      obtain ⟨⟨k0, b0, g0⟩, g1, g2⟩ := hg.2 q2
      by_cases q : 7 ≤ v 0 ∨ 4 < z_ab (v 1) ∨ 4 < z_ab (v 2)
      · rw [if_pos q, if_pos q]
        exact ⟨fun _ => rfl, fun _ _ w => by cases w⟩
      · rw [if_neg q, if_neg q]
        refine ⟨fun w => (by cases w), fun B' n' w => ⟨rfl, ?_⟩⟩
        injection w with w
        injection w with w1 w2
        subst w1
        have k7 : k0 < 7 := by
          have := fun w => q (Or.inl w)
          rw [g0] at this
          have := (not_congr (nI_leI (a := 7) (b := k0) (by omega) (by omega))).mp this
          omega
        dsimp only
        rw [g0, q_cl (by omega), (a_c1w (by rw [u_n (by omega)]; exact hc) hN k7).2, (a_c1w hc hN k7).1]
    · rw [if_neg q2, if_neg q2]
      by_cases q3 : c = 114
      · rw [if_pos q3, if_pos q3]
        by_cases q : v 0 < 1 ∨ 40 < v 0
        · rw [if_pos q, if_pos q]; exact ⟨fun _ => rfl, fun _ _ w => by cases w⟩
        · rw [if_neg q, if_neg q]
          refine ⟨fun w => (by cases w), fun B' n' w => ⟨rfl, ?_⟩⟩
          injection w with w
          injection w with w1 w2
          subst w1
          exact a_c1s (j0 := 2) hc hN (Or.inl rfl)
      · rw [if_neg q3, if_neg q3]
        by_cases q4 : c = 118
        · rw [if_pos q4, if_pos q4]
          by_cases q : v 0 < 1 ∨ 99 < v 0
          · rw [if_pos q, if_pos q]; exact ⟨fun _ => rfl, fun _ _ w => by cases w⟩
          · rw [if_neg q, if_neg q]
            refine ⟨fun w => (by cases w), fun B' n' w => ⟨rfl, ?_⟩⟩
            injection w with w
            injection w with w1 w2
            subst w1
            exact a_c1s (j0 := 3) hc hN (Or.inr rfl)
        · rw [if_neg q4, if_neg q4]; exact ⟨fun _ => rfl, fun _ _ w => by cases w⟩
