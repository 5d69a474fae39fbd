/-! WHAT HOLDS BETWEEN CLASS AND REFERENCE, between two calls -/
def a_kk (S : Nat → Int32) : a_S := a_nm (S 0) (fun r j => match r with
  | 0 => match j with
    | 0 => S 0
    | 1 => S 3
    | 2 => S 1
    | 3 => S 2
    | _ => S 4
  | 1 => S (5 + 2 * j)
  | 2 => S (5 + 2 * j + 1)
  | s + 3 => S (19 + 6 * s + j))
def i_img (M : gk_M) : Prop := (M 6 0 6 = 0 ∧ M 14 0 19 = 0) ∨ (M 6 0 6 = 1 ∧ M 14 0 19 = 1 ∧ ∃ N dd, dd ≤ 9999 ∧ a_wf (a_kk (M 18 1)) N dd ∧ a_c 2 M = a_kk (M 18 1))
def i_let (M : gk_M) : Prop := ∃ z, z ≤ 80 ∧ M 3 0 1 = nI z ∧ M 14 0 24 = nI z ∧ ∀ j, j < z → M 11 0 j = M 19 0 j ∧ ∃ b, b < 256 ∧ M 11 0 j = nI b
def i_row (M : gk_M) : Prop := ∃ z, z ≤ 12 ∧ M 6 0 9 = nI z ∧ M 14 0 32 = nI z ∧ ∀ j, j < z → M 12 0 j = M 22 0 j
def i_ref (M : gk_M) : Prop := ∀ j, j < 7 → M 13 0 j = M 17 0 j
def i_base (M : gk_M) : Prop := (∃ N dd, dd ≤ 9999 ∧ a_wf (a_r M) N dd ∧ a_c 0 M = a_r M) ∧ i_img M ∧ i_let M ∧ i_row M
def i_ok (M : gk_M) : Prop := i_base M ∧ i_ref M
/-- the cells that this speaks of, refusals apart -/
def i_kp (c i j : Nat) : Prop := ((c = 2 ∨ c = 7 ∨ c = 8) ∧ (i = 0 ∨ i = 2)) ∨ (c = 5 ∧ (i / 6 = 0 ∨ i / 6 = 2)) ∨ (c = 3 ∧ i = 0 ∧ j = 1) ∨ c = 6 ∨ c = 11 ∨ c = 12 ∨ (c = 14 ∧ i = 0 ∧ (j < 5 ∨ j = 19 ∨ j = 24 ∨ j = 32)) ∨ c = 15 ∨ c = 16 ∨ (c = 18 ∧ i = 1) ∨ c = 19 ∨ c = 22
def i_E (M M' : gk_M) : Prop := ∀ c i j, i_kp c i j → M' c i j = M c i j
theorem i_E.rf {M : gk_M} : i_E M M := fun _ _ _ _ => rfl
theorem i_E.tr {M M1 M2 : gk_M} (h1 : i_E M M1) (h2 : i_E M1 M2) : i_E M M2 := fun c i j h => (h2 c i j h).trans (h1 c i j h)
theorem i_E.up {M : gk_M} {c i j : Nat} {v : Int32} (h : ¬ i_kp c i j) : i_E M (gk_up M c i j v) := fun c' i' j' h' => u_n (fun z => h (by obtain ⟨rfl, rfl, rfl⟩ := z; exact h'))
theorem i_E.ch {M M' : gk_M} (h : a_Ch 1 M M') : i_E M M' := fun c i j hk => h c i j (by unfold i_kp at hk; omega) (by unfold i_kp at hk; omega) (by unfold i_kp at hk; omega) (by unfold i_kp at hk; omega)
theorem i_E.rk {M M' : gk_M} (h : r_RK M M') : i_E M M' := fun c i j hk => h c i j (by unfold i_kp at hk; unfold r_sc; omega)
theorem a_c_congr {k N : Nat} {M M' : gk_M} (hc : M 2 k 3 = nI N) (hN : N ≤ 6) (h : ∀ c i j, ((c = 2 ∨ c = 7 ∨ c = 8) ∧ i = k) ∨ (c = 5 ∧ i / 6 = k) → M' c i j = M c i j) : a_c k M' = a_c k M := by
  have e := h 2 k 3 (by omega)
  refine a_ext e (fun j hj => h 2 k _ (by omega)) (fun j hj => h 7 k _ (by omega)) (fun j hj => h 8 k _ (by omega)) (fun s j hs hj => ?_)
  rw [e, hc, q_cl (by omega)] at hs
  exact h 5 _ _ (by omega)
theorem i_E.r {M M' : gk_M} (h : i_E M M') {N dd : Nat} (hw : a_wf (a_r M) N dd) : a_r M' = a_r M :=
  a_r_ext hw.cntR hw.1 (fun j hj => h 14 0 j (by unfold i_kp; omega)) (fun i j hj => h 15 i j (by unfold i_kp; omega)) (fun j s hj hs => h 16 j s (by unfold i_kp; omega))
theorem i_E.c0 {M M' : gk_M} (h : i_E M M') {N dd : Nat} (hw : a_wf (a_c 0 M) N dd) : a_c 0 M' = a_c 0 M :=
  a_c_congr hw.cnt hw.1 (fun c i j q => h c i j (by unfold i_kp; omega))
theorem i_img.congr {M M' : gk_M} (h : i_img M) (hE : i_E M M') : i_img M' := by
  have e1 : M' 6 0 6 = M 6 0 6 := hE 6 0 6 (by unfold i_kp; omega)
  have e2 : M' 14 0 19 = M 14 0 19 := hE 14 0 19 (by unfold i_kp; omega)
  have e3 : M' 18 1 = M 18 1 := by funext j; exact hE 18 1 j (by unfold i_kp; omega)
  unfold i_img
  rw [e1, e2, e3]
  rcases h with h | ⟨h1, h2, N, dd, hd, hw, hc⟩
  · exact Or.inl h
  · refine Or.inr ⟨h1, h2, N, dd, hd, hw, ?_⟩
    rw [← hc]
    rw [← hc] at hw
    exact a_c_congr hw.cnt hw.1 (fun c i j q => hE c i j (by unfold i_kp; omega))
theorem i_let.congr {M M' : gk_M} (h : i_let M) (hE : i_E M M') : i_let M' := by
  obtain ⟨z, hz, h1, h2, h3⟩ := h
  refine ⟨z, hz, by rw [hE 3 0 1 (by unfold i_kp; omega)]; exact h1, by rw [hE 14 0 24 (by unfold i_kp; omega)]; exact h2, fun j hj => ?_⟩
  rw [hE 11 0 j (by unfold i_kp; omega), hE 19 0 j (by unfold i_kp; omega)]
  exact h3 j hj
theorem i_row.congr {M M' : gk_M} (h : i_row M) (hE : i_E M M') : i_row M' := by
  obtain ⟨z, hz, h1, h2, h3⟩ := h
  refine ⟨z, hz, by rw [hE 6 0 9 (by unfold i_kp; omega)]; exact h1, by rw [hE 14 0 32 (by unfold i_kp; omega)]; exact h2, fun j hj => ?_⟩
  rw [hE 12 0 j (by unfold i_kp; omega), hE 22 0 j (by unfold i_kp; omega)]
  exact h3 j hj
theorem i_base.congr {M M' : gk_M} (h : i_base M) (hE : i_E M M') : i_base M' := by
  obtain ⟨⟨N, dd, hd, hw, hc⟩, h2, h3, h4⟩ := h
  have e1 := hE.r hw
  have e2 := hE.c0 (by rw [hc]; exact hw)
  exact ⟨⟨N, dd, hd, by rw [e1]; exact hw, by rw [e1, e2]; exact hc⟩, h2.congr hE, h3.congr hE, h4.congr hE⟩
/-- both are left as they were but for scratch -/
theorem i_ok.mind {M M1 M2 : gk_M} (h : i_ok M) (h1 : a_Ch 1 M M1) (h2 : r_RK M1 M2) : i_ok M2 := by
  refine ⟨h.1.congr ((i_E.ch h1).tr (i_E.rk h2)), fun j hj => ?_⟩
  rw [h2 13 0 j (by unfold r_sc; omega), h2 17 0 j (by unfold r_sc; omega), h1 13 0 j (by omega) (by omega) (by omega) (by omega), h1 17 0 j (by omega) (by omega) (by omega) (by omega)]
  exact h.2 j hj
/-- both refuse -/
theorem i_ok.refused {M : gk_M} {q : Nat} (h : i_ok M) (hq : q < 7) : i_ok (gk_up (gk_up (gk_up M 13 0 q (M 13 0 q + 1)) 14 0 13 0) 17 0 q (gk_up (gk_up M 13 0 q (M 13 0 q + 1)) 14 0 13 0 17 0 q + 1)) := by
  refine ⟨h.1.congr (((i_E.up (by unfold i_kp; omega)).tr (i_E.up (by unfold i_kp; omega))).tr (i_E.up (by unfold i_kp; omega))), fun j hj => ?_⟩
  by_cases e : j = q
  · subst e
    rw [u_n (by omega), u_n (by omega), u_s, u_s, u_n (by omega), u_n (by omega), h.2 j hj]
  · rw [u_n (by omega), u_n (by omega), u_n (by omega), u_n (by omega), u_n (by omega), u_n (by omega)]
    exact h.2 j hj
theorem i_th {M : gk_M} : r_RK M (gk_up M 14 0 13 0) := r_RK.up (by unfold r_sc; omega)
/-- what a call of a method with the answers' kinds alike must show -/
def i_same (α : Type) (f g : gk_M → Option (α × gk_M)) (M : gk_M) : Prop := ∃ (r : α) (M1 M2 : gk_M), f M = some (r, M1) ∧ g M1 = some (r, M2) ∧ i_ok M2
/-- the facts at the start of a call -/
theorem i_ok.get {M : gk_M} (h : i_ok M) : ∃ N dd, dd ≤ 9999 ∧ a_wf (a_r M) N dd ∧ a_c 0 M = a_r M ∧ N ≤ 6 ∧ M 2 0 3 = nI N ∧ M 14 0 0 = nI N ∧ a_wf (a_c 0 M) N dd := by
  obtain ⟨⟨⟨N, dd, hd, hw, hc⟩, -⟩, -⟩ := h
  have hw2 : a_wf (a_c 0 M) N dd := by rw [hc]; exact hw
  exact ⟨N, dd, hd, hw, hc, hw.1, hw2.cnt, hw.cntR, hw2⟩
/-- the class refuses by q, and so does the reference -/
theorem i_refuse {M : gk_M} (h : i_ok M) {x : Int32} {q : Nat} (hx : x = -nI q) (h0 : 0 < q) (h7 : q < 7) {f g : gk_M → Option (Int32 × gk_M)} (hf : f M = f_X11_refuse x M) (hg : ∀ M1, i_E M M1 → g M1 = f_X12_refuse x (gk_up M1 14 0 13 0)) : i_same Int32 f g M := by
  refine ⟨x, gk_up M 13 0 q (M 13 0 q + 1), _, by rw [hf]; exact h_ref hx h0 h7, by rw [hg _ (i_E.up (by unfold i_kp; omega))]; exact h_refR hx h7, h.refused h7⟩
/-- both answer out of what there is, and change nothing -/
theorem i_read {α : Type} {M : gk_M} (h : i_ok M) {r : α} {f g : gk_M → Option (α × gk_M)} (hf : f M = some (r, M)) (hg : g M = some (r, gk_up M 14 0 13 0)) : i_same α f g M :=
  ⟨r, M, _, hf, hg, h.mind a_Ch.rf i_th⟩
