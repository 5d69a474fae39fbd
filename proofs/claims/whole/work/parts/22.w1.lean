/-! CALLS, one by one: class and reference answer alike -/
theorem q_ret {α : Type} {o : Option (α × gk_M)} : gk_bnd o (fun r M => some (r, M)) = o := by cases o <;> rfl
theorem i_n13 : ¬ i_kp 14 0 13 := by unfold i_kp; omega
theorem i_E.th {M M1 : gk_M} (h : i_E M M1) : i_E M (gk_up M1 14 0 13 0) := h.tr (i_E.up i_n13)
theorem i_E.cnt {M M1 : gk_M} {N : Nat} (h : i_E M M1) (hc : M 14 0 0 = nI N) : M1 14 0 0 = nI N := by rw [h 14 0 0 (Or.inr (Or.inr (Or.inr (Or.inr (Or.inr (Or.inr (Or.inl ⟨rfl, rfl, Or.inl (by decide)⟩)))))))]; exact hc
theorem h_othT {x m : Int32} {M : gk_M} (h0 : ¬ x < 0) (h1 : ¬ m < x) : f_X11_otherThan x m M = some (0, M) := by rw [f_X11_otherThan, if_neg h0, if_neg h1]
theorem h_othF {x m : Int32} {M : gk_M} (h : x < 0 ∨ m < x) : f_X11_otherThan x m M = some (-2, M) := by
  rw [f_X11_otherThan]
  rcases h with h | h
  · rw [if_pos h]; rfl
  · split
    · rfl
    · first | rfl | (rw [if_pos h]; rfl)
theorem q_pick {l g : Int32} {M : gk_M} : (if l < g then some ((0 : Int32), M) else some (1, M)) = some (if l < g then 0 else 1, M) := by split <;> rfl
theorem h_fst {a b : Int32} {M : gk_M} : f_X11_first a b M = some (if a = 0 then b else a, M) := by
  rw [f_X11_first]; split <;> rfl
theorem h_inT {x : Int32} {y z : Int64} {M : gk_M} (h : y.toInt ≤ x.toInt ∧ x.toInt ≤ z.toInt) : f_X12_in x.toInt64 y z M = some (1, M) := by rw [h_inI, if_pos h]
theorem h_inF {x : Int32} {y z : Int64} {M : gk_M} (h : ¬ (y.toInt ≤ x.toInt ∧ x.toInt ≤ z.toInt)) : f_X12_in x.toInt64 y z M = some (0, M) := by rw [h_inI, if_neg h]
theorem h_fst0 {b : Int32} {M : gk_M} : f_X11_first 0 b M = some (b, M) := by rw [f_X11_first, if_pos rfl]
theorem h_fstN {a b : Int32} {M : gk_M} (h : ¬ a = 0) : f_X11_first a b M = some (a, M) := by rw [f_X11_first, if_neg h]
/-- a number of 0 .. m, or not -/
theorem z_what (x m : Int32) (mL : Int64) (hm : mL.toInt = m.toInt) : (¬ x < 0 ∧ ¬ m < x ∧ (Int64.toInt 0 ≤ x.toInt ∧ x.toInt ≤ mL.toInt)) ∨ ((x < 0 ∨ m < x) ∧ ¬ (Int64.toInt 0 ≤ x.toInt ∧ x.toInt ≤ mL.toInt)) := by
  have e0 : (0 : Int32).toInt = 0 := rfl
  have e1 : (0 : Int64).toInt = 0 := rfl
  rw [e1, hm]
  by_cases h : 0 ≤ x.toInt ∧ x.toInt ≤ m.toInt
  · exact Or.inl ⟨by rw [z_lt]; omega, by rw [z_lt]; omega, h⟩
  · refine Or.inr ⟨?_, h⟩
    rw [z_lt, z_lt]
    omega
theorem h_othE (x m : Int32) (M : gk_M) : ∃ z, f_X11_otherThan x m M = some (z, M) := by
  rw [f_X11_otherThan]
  split
  · exact ⟨_, rfl⟩
  · split
    · exact ⟨_, rfl⟩
    · exact ⟨_, rfl⟩
theorem h_rngE (x l u : Int32) (M : gk_M) : ∃ z, f_X11_range x l u M = some (z, M) := by
  rw [f_X11_range]
  split
  · split
    · exact ⟨_, rfl⟩
    · exact ⟨_, rfl⟩
  · exact ⟨_, rfl⟩
theorem w_far (x y : Int32) {M : gk_M} (h : i_ok M) : i_same Int32 (f_X11_far x y) (f_X12_far x y) M := by
  obtain ⟨N, dd, hd, hw, hc, hN, c0, r0, hwc⟩ := h.get
  by_cases q : ∃ a b, a < N ∧ b < N ∧ a ≠ b ∧ x = nI a ∧ y = nI b
  · obtain ⟨a, b, ha, hb, hab, rfl, rfl⟩ := q
    have hw' : a_wf (a_r (gk_up M 14 0 13 0)) N dd := by rw [i_th.st r0 hN]; exact hw
    refine i_read h (r := z_gp (a_r M) a b) ?_ ?_
    · rw [f_X11_far, h_twoT hN c0 ha hb hab, q_bnd, if_pos rfl, h_gap (by decide) hN c0 ha hb, q_bnd, hc]
    · rw [f_X12_far, q_wr, h_are2T hN hw'.cntR ha hb hab, q_bnd, if_neg (by decide), h_far hw' ha hb, q_bnd, i_th.st r0 hN]
  · refine i_refuse h (q := 1) (x := -1) rfl (by decide) (by decide) ?_ ?_
    · rw [f_X11_far, h_twoF hN c0 q, q_bnd, if_neg (by decide)]; exact q_ret
    · intro M1 hE
      rw [f_X12_far, q_wr, h_are2F hN (hE.th.cnt r0) q, q_bnd, if_pos rfl]; exact q_ret
theorem w_open (x y w : Int32) {M : gk_M} (h : i_ok M) : i_same Int32 (f_X11_open x y w) (f_X12_open x y w) M := by
  obtain ⟨N, dd, hd, hw, hc, hN, c0, r0, hwc⟩ := h.get
  by_cases q : ∃ a b, a < N ∧ b < N ∧ a ≠ b ∧ x = nI a ∧ y = nI b
  · obtain ⟨a, b, ha, hb, hab, rfl, rfl⟩ := q
    have hw' : a_wf (a_r (gk_up M 14 0 13 0)) N dd := by rw [i_th.st r0 hN]; exact hw
    rcases z_what w 2 2 rfl with ⟨w1, w2, w3⟩ | ⟨w1, w2⟩
    · have e2 : M 2 0 5 = M 14 0 1 := by
        have := congrFun (congrFun hc 0) 2
        rwa [a_c0 (by decide), a_r02] at this
      have e3 : M 2 0 6 = M 14 0 2 := by
        have := congrFun (congrFun hc 0) 3
        rwa [a_c0 (by decide), a_r03] at this
      refine i_read h (r := if (if w = 0 then M 14 0 1 else if w = 1 then 1 else M 14 0 2) < z_gp (a_r M) a b then 0 else 1) ?_ ?_
      · rw [f_X11_open, h_twoT hN c0 ha hb hab, q_bnd, h_othT w1 w2, q_bnd, h_fst0, q_bnd, if_pos rfl]
        simp only [X11_open_j58, h_gap (show 0 < 3 by decide) hN c0 ha hb, q_bnd, hc, e2, e3]
        by_cases v0 : w = 0
        · subst v0
          rw [if_neg (show ¬ ¬ (0 : Int32) = 0 by decide), if_pos (rfl : (0 : Int32) = 0)]; exact q_pick
        · by_cases v1 : w = 1
          · subst v1
            rw [if_pos (show ¬ (1 : Int32) = 0 by decide), if_neg (show ¬ ¬ (1 : Int32) = 1 by decide), if_neg (show ¬ (1 : Int32) = 0 by decide), if_pos (rfl : (1 : Int32) = 1)]; exact q_pick
          · rw [if_pos v0, if_pos v1, if_neg v0, if_neg v1]; exact q_pick
      · rw [f_X12_open, q_wr, h_are2T hN hw'.cntR ha hb hab, q_bnd, if_neg (by decide), h_inT w3, q_bnd, if_pos (by decide), h_far hw' ha hb, q_bnd, i_th.st r0 hN]
        simp only [X12_open_j76, u_n (show ¬ ((14 : Nat) = 14 ∧ (0 : Nat) = 0 ∧ (1 : Nat) = 13) by omega), u_n (show ¬ ((14 : Nat) = 14 ∧ (0 : Nat) = 0 ∧ (2 : Nat) = 13) by omega)]
        by_cases v0 : w = 0
        · subst v0
          rw [if_neg (show ¬ ¬ (0 : Int32) = 0 by decide), if_pos (rfl : (0 : Int32) = 0)]; exact q_pick
        · by_cases v1 : w = 1
          · subst v1
            rw [if_pos (show ¬ (1 : Int32) = 0 by decide), if_neg (show ¬ ¬ (1 : Int32) = 1 by decide), if_neg (show ¬ (1 : Int32) = 0 by decide), if_pos (rfl : (1 : Int32) = 1)]; exact q_pick
          · rw [if_pos v0, if_pos v1, if_neg v0, if_neg v1]; exact q_pick
    · refine i_refuse h (q := 2) (x := -2) rfl (by decide) (by decide) ?_ ?_
      · rw [f_X11_open, h_twoT hN c0 ha hb hab, q_bnd, h_othF w1, q_bnd, h_fst0, q_bnd, if_neg (by decide)]; exact q_ret
      · intro M1 hE
        rw [f_X12_open, q_wr, h_are2T hN (hE.th.cnt r0) ha hb hab, q_bnd, if_neg (by decide), h_inF w2, q_bnd, if_neg (by decide), X12_open_j26, h_are2T hN (hE.th.cnt r0) ha hb hab, q_bnd, if_neg (by decide)]; exact q_ret
  · refine i_refuse h (q := 1) (x := -1) rfl (by decide) (by decide) ?_ ?_
    · rw [f_X11_open, h_twoF hN c0 q, q_bnd]
      obtain ⟨z, hz⟩ := h_othE w 2 M
      rw [hz, q_bnd, h_fstN (by decide), q_bnd, if_neg (by decide)]; exact q_ret
    · intro M1 hE
      rw [f_X12_open, q_wr, h_are2F hN (hE.th.cnt r0) q, q_bnd, if_pos rfl, X12_open_j26, h_are2F hN (hE.th.cnt r0) q, q_bnd, if_pos rfl]; exact q_ret
/-! one place of all that there is becomes v -/
def a_rel (N r j : Nat) : Prop := (r = 0 ∧ j < 5) ∨ ((r = 1 ∨ r = 2) ∧ j < 7) ∨ (3 ≤ r ∧ r < 3 + N ∧ j < 6)
def z_set (A : a_S) (r0 j0 : Nat) (v : Int32) : a_S := fun r j => if r = r0 ∧ j = j0 then v else A r j
theorem zs_s {A : a_S} {r j : Nat} {v : Int32} : z_set A r j v r j = v := if_pos ⟨rfl, rfl⟩
theorem zs_n {A : a_S} {r0 j0 r j : Nat} {v : Int32} (h : ¬ (r = r0 ∧ j = j0)) : z_set A r0 j0 v r j = A r j := if_neg h
theorem a_nm_set {cnt : Int32} {N : Nat} (hc : cnt = nI N) (hN : N ≤ 6) {raw raw' : a_S} {r0 j0 : Nat} {v : Int32} (hr : a_rel N r0 j0) (h : ∀ r j, a_rel N r j → raw' r j = if r = r0 ∧ j = j0 then v else raw r j) : a_nm cnt raw' = z_set (a_nm cnt raw) r0 j0 v := by
  subst hc
  funext r j
  unfold z_set a_nm
  rw [q_cl (show N < 2 ^ 31 by omega)]
  by_cases e : r = r0 ∧ j = j0
  · obtain ⟨rfl, rfl⟩ := e
    have hr2 := hr
    unfold a_rel at hr2
    rw [if_pos hr2, if_pos ⟨rfl, rfl⟩, h _ _ hr, if_pos ⟨rfl, rfl⟩]
  · rw [if_neg e]
    by_cases q : a_rel N r j
    · have q2 := q
      unfold a_rel at q2
      rw [if_pos q2, if_pos q2, h _ _ q, if_neg e]
    · unfold a_rel at q
      rw [if_neg q, if_neg q]
/-- where a place lies in the class, in the reference -/
def l_c (r j : Nat) : Nat × Nat × Nat := match r with
  | 0 => (2, 0, 3 + j)
  | 1 => (7, 0, j)
  | 2 => (8, 0, j)
  | s + 3 => (5, s, j)
def l_r (r j : Nat) : Nat × Nat × Nat := match r with
  | 0 => match j with
    | 0 => (14, 0, 0)
    | 1 => (14, 0, 3)
    | 2 => (14, 0, 1)
    | 3 => (14, 0, 2)
    | _ => (14, 0, 4)
  | 1 => (15, 0, j)
  | 2 => (15, 1, j)
  | s + 3 => (16, j, s)
theorem a_rc_l {M : gk_M} {r j : Nat} : a_rc 0 M r j = M (l_c r j).1 (l_c r j).2.1 (l_c r j).2.2 := by
  match r with
  | 0 => rfl
  | 1 => rfl
  | 2 => rfl
  | s + 3 => show M 5 (6 * 0 + s) j = M 5 s j; rw [show 6 * 0 + s = s by omega]
theorem a_rr_l {M : gk_M} {r j : Nat} : a_rr M r j = M (l_r r j).1 (l_r r j).2.1 (l_r r j).2.2 := by
  match r with
  | 0 =>
    match j with
    | 0 => rfl
    | 1 => rfl
    | 2 => rfl
    | 3 => rfl
    | _ + 4 => rfl
  | 1 => rfl
  | 2 => rfl
  | s + 3 => rfl
theorem l_c_inj {N r j r0 j0 : Nat} (h : a_rel N r j) (h0 : a_rel N r0 j0) (e : (l_c r j).1 = (l_c r0 j0).1 ∧ (l_c r j).2.1 = (l_c r0 j0).2.1 ∧ (l_c r j).2.2 = (l_c r0 j0).2.2) : r = r0 ∧ j = j0 := by
  match r, r0 with
  | 0, 0 => simp only [l_c] at e; omega
  | 0, 1 => simp only [l_c] at e; omega
  | 0, 2 => simp only [l_c] at e; omega
  | 0, t + 3 => simp only [l_c] at e; omega
  | 1, 0 => simp only [l_c] at e; omega
  | 1, 1 => simp only [l_c] at e; omega
  | 1, 2 => simp only [l_c] at e; omega
  | 1, t + 3 => simp only [l_c] at e; omega
  | 2, 0 => simp only [l_c] at e; omega
  | 2, 1 => simp only [l_c] at e; omega
  | 2, 2 => simp only [l_c] at e; omega
  | 2, t + 3 => simp only [l_c] at e; omega
  | s + 3, 0 => simp only [l_c] at e; omega
  | s + 3, 1 => simp only [l_c] at e; omega
  | s + 3, 2 => simp only [l_c] at e; omega
  | s + 3, t + 3 => simp only [l_c] at e; omega
theorem l_r0 {j : Nat} (h : j < 5) : l_r 0 j = (14, 0, if j = 0 then 0 else if j = 1 then 3 else if j = 2 then 1 else if j = 3 then 2 else 4) := by
  rcases (show j = 0 ∨ j = 1 ∨ j = 2 ∨ j = 3 ∨ j = 4 by omega) with rfl | rfl | rfl | rfl | rfl <;> rfl
theorem l_r_inj {N r j r0 j0 : Nat} (h : a_rel N r j) (h0 : a_rel N r0 j0) (e : (l_r r j).1 = (l_r r0 j0).1 ∧ (l_r r j).2.1 = (l_r r0 j0).2.1 ∧ (l_r r j).2.2 = (l_r r0 j0).2.2) : r = r0 ∧ j = j0 := by
  unfold a_rel at h h0
  match r, r0 with
  | 0, 0 =>
    rw [l_r0 (by omega), l_r0 (by omega)] at e
    rcases (show j = 0 ∨ j = 1 ∨ j = 2 ∨ j = 3 ∨ j = 4 by omega) with rfl | rfl | rfl | rfl | rfl <;> rcases (show j0 = 0 ∨ j0 = 1 ∨ j0 = 2 ∨ j0 = 3 ∨ j0 = 4 by omega) with rfl | rfl | rfl | rfl | rfl <;> simp at e ⊢
  | 0, 1 => rw [l_r0 (by omega)] at e; simp only [l_r] at e; omega
  | 0, 2 => rw [l_r0 (by omega)] at e; simp only [l_r] at e; omega
  | 0, t + 3 => rw [l_r0 (by omega)] at e; simp only [l_r] at e; omega
  | 1, 0 => rw [l_r0 (by omega)] at e; simp only [l_r] at e; omega
  | 2, 0 => rw [l_r0 (by omega)] at e; simp only [l_r] at e; omega
  | s + 3, 0 => rw [l_r0 (by omega)] at e; simp only [l_r] at e; omega
  | 1, 1 => simp only [l_r] at e; omega
  | 1, 2 => simp only [l_r] at e; omega
  | 1, t + 3 => simp only [l_r] at e; omega
  | 2, 1 => simp only [l_r] at e; omega
  | 2, 2 => simp only [l_r] at e; omega
  | 2, t + 3 => simp only [l_r] at e; omega
  | s + 3, 1 => simp only [l_r] at e; omega
  | s + 3, 2 => simp only [l_r] at e; omega
  | s + 3, t + 3 => simp only [l_r] at e; omega
theorem a_c_up {M : gk_M} {N : Nat} (hc : M 2 0 3 = nI N) (hN : N ≤ 6) {r0 j0 : Nat} {v : Int32} (hr : a_rel N r0 j0) (h0 : ¬ (r0 = 0 ∧ j0 = 0)) : a_c 0 (gk_up M (l_c r0 j0).1 (l_c r0 j0).2.1 (l_c r0 j0).2.2 v) = z_set (a_c 0 M) r0 j0 v := by
  have e : gk_up M (l_c r0 j0).1 (l_c r0 j0).2.1 (l_c r0 j0).2.2 v 2 0 3 = M 2 0 3 := u_n (fun z => h0 (by
    have := l_c_inj (N := N) (r := 0) (j := 0) (Or.inl ⟨rfl, by decide⟩) hr z
    exact ⟨this.1.symm, this.2.symm⟩))
  unfold a_c
  rw [e]
  refine a_nm_set hc hN hr (fun r j hrj => ?_)
  rw [a_rc_l, a_rc_l]
  by_cases q : r = r0 ∧ j = j0
  · obtain ⟨rfl, rfl⟩ := q
    rw [u_s, if_pos ⟨rfl, rfl⟩]
  · rw [if_neg q]
    exact u_n (fun z => q (l_c_inj hrj hr z))
theorem a_r_up {M : gk_M} {N : Nat} (hc : M 14 0 0 = nI N) (hN : N ≤ 6) {r0 j0 : Nat} {v : Int32} (hr : a_rel N r0 j0) (h0 : ¬ (r0 = 0 ∧ j0 = 0)) : a_r (gk_up M (l_r r0 j0).1 (l_r r0 j0).2.1 (l_r r0 j0).2.2 v) = z_set (a_r M) r0 j0 v := by
  have e : gk_up M (l_r r0 j0).1 (l_r r0 j0).2.1 (l_r r0 j0).2.2 v 14 0 0 = M 14 0 0 := u_n (fun z => h0 (by
    have := l_r_inj (N := N) (r := 0) (j := 0) (Or.inl ⟨rfl, by decide⟩) hr z
    exact ⟨this.1.symm, this.2.symm⟩))
  unfold a_r
  rw [e]
  refine a_nm_set hc hN hr (fun r j hrj => ?_)
  rw [a_rr_l, a_rr_l]
  by_cases q : r = r0 ∧ j = j0
  · obtain ⟨rfl, rfl⟩ := q
    rw [u_s, if_pos ⟨rfl, rfl⟩]
  · rw [if_neg q]
    exact u_n (fun z => q (l_r_inj hrj hr z))
