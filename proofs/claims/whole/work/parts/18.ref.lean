/-! THE REFERENCE -/
def a_rr (M : gk_M) : a_S := fun r j => match r with
  | 0 => match j with
    | 0 => M 14 0 0
    | 1 => M 14 0 3
    | 2 => M 14 0 1
    | 3 => M 14 0 2
    | _ => M 14 0 4
  | 1 => M 15 0 j
  | 2 => M 15 1 j
  | s + 3 => M 16 j s
def a_r (M : gk_M) : a_S := a_nm (M 14 0 0) (a_rr M)
theorem a_r00 {M : gk_M} : a_r M 0 0 = M 14 0 0 := a_nm0 (by decide)
theorem a_r01 {M : gk_M} : a_r M 0 1 = M 14 0 3 := a_nm0 (by decide)
theorem a_r02 {M : gk_M} : a_r M 0 2 = M 14 0 1 := a_nm0 (by decide)
theorem a_r03 {M : gk_M} : a_r M 0 3 = M 14 0 2 := a_nm0 (by decide)
theorem a_r04 {M : gk_M} : a_r M 0 4 = M 14 0 4 := a_nm0 (by decide)
theorem a_r1 {M : gk_M} {j : Nat} (h : j < 7) : a_r M 1 j = M 15 0 j := a_nm1 h
theorem a_r2 {M : gk_M} {j : Nat} (h : j < 7) : a_r M 2 j = M 15 1 j := a_nm2 h
theorem a_rs {M : gk_M} {N s j : Nat} (hc : M 14 0 0 = nI N) (hN : N ≤ 6) (hs : s < N) (h : j < 6) : a_r M (s + 3) j = M 16 j s := a_nms hc hN hs h
theorem a_r_ext {M M' : gk_M} {N : Nat} (hc : M 14 0 0 = nI N) (hN : N ≤ 6) (h0 : ∀ j, j < 5 → M' 14 0 j = M 14 0 j) (h1 : ∀ i j, j < 7 → M' 15 i j = M 15 i j) (h2 : ∀ j s, j < 6 → s < N → M' 16 j s = M 16 j s) : a_r M' = a_r M := by
  refine a_ext (h0 0 (by decide)) (fun j hj => ?_) (fun j hj => h1 0 j hj) (fun j hj => h1 1 j hj) (fun s j hs hj => ?_)
  · show a_rr M' 0 j = a_rr M 0 j
    rcases (show j = 0 ∨ j = 1 ∨ j = 2 ∨ j = 3 ∨ j = 4 by omega) with rfl | rfl | rfl | rfl | rfl
    · exact h0 0 (by decide)
    · exact h0 3 (by decide)
    · exact h0 1 (by decide)
    · exact h0 2 (by decide)
    · exact h0 4 (by decide)
  · rw [h0 0 (by decide), hc, q_cl (by omega)] at hs
    exact h2 j s hj hs
/-- cells that are the reference's state, or scratch, while something is in mind -/
def r_st (c i j : Nat) : Prop := (c = 14 ∧ i = 0 ∧ (j < 5 ∨ j = 13 ∨ j = 15 ∨ j = 16 ∨ j = 20 ∨ j = 21 ∨ j = 22 ∨ j = 33)) ∨ (c = 15 ∧ i < 2 ∧ j < 7) ∨ (c = 16 ∧ i < 6 ∧ j < 6)
def r_RC (M M' : gk_M) : Prop := ∀ c i j, ¬ r_st c i j → M' c i j = M c i j
theorem r_RC.rf {M : gk_M} : r_RC M M := fun _ _ _ _ => rfl
theorem r_RC.tr {M M1 M2 : gk_M} (h1 : r_RC M M1) (h2 : r_RC M1 M2) : r_RC M M2 := fun c i j h => (h2 c i j h).trans (h1 c i j h)
/-- scratch alone -/
def r_sc (c i j : Nat) : Prop := (c = 14 ∧ i = 0 ∧ (j = 13 ∨ j = 15 ∨ j = 16 ∨ j = 20 ∨ j = 21 ∨ j = 22 ∨ j = 33)) ∨ (c = 18 ∧ i = 0)
def r_RK (M M' : gk_M) : Prop := ∀ c i j, ¬ r_sc c i j → M' c i j = M c i j
theorem r_RK.rf {M : gk_M} : r_RK M M := fun _ _ _ _ => rfl
theorem r_RK.tr {M M1 M2 : gk_M} (h1 : r_RK M M1) (h2 : r_RK M1 M2) : r_RK M M2 := fun c i j h => (h2 c i j h).trans (h1 c i j h)
theorem r_RK.up {M : gk_M} {c i j : Nat} {v : Int32} (h : r_sc c i j) : r_RK M (gk_up M c i j v) := fun c' i' j' h' => u_n (fun z => h' (by obtain ⟨rfl, rfl, rfl⟩ := z; exact h))
theorem r_RC.up {M : gk_M} {c i j : Nat} {v : Int32} (h : r_st c i j) : r_RC M (gk_up M c i j v) := fun c' i' j' h' => u_n (fun z => h' (by obtain ⟨rfl, rfl, rfl⟩ := z; exact h))
/-! in, refusals, ships -/
theorem h_cmp {x y : Int64} : (lg_cmp x y < 0 ↔ x.toInt < y.toInt) ∧ (0 < lg_cmp x y ↔ y.toInt < x.toInt) := by
  unfold lg_cmp
  have h1 : x > y ↔ y.toInt < x.toInt := Int64.lt_iff_toInt_lt
  have h2 : x = y ↔ x.toInt = y.toInt := Int64.toInt_inj.symm
  by_cases a : x > y
  · rw [if_pos a]
    rw [h1] at a
    exact ⟨⟨fun q => absurd q (by decide), fun q => by omega⟩, ⟨fun _ => a, fun _ => by decide⟩⟩
  · rw [if_neg a]
    rw [h1] at a
    by_cases b : x = y
    · rw [if_pos b]
      rw [h2] at b
      exact ⟨⟨fun q => absurd q (by decide), fun q => by omega⟩, ⟨fun q => absurd q (by decide), fun q => by omega⟩⟩
    · rw [if_neg b]
      rw [h2] at b
      exact ⟨⟨fun _ => by omega, fun _ => by decide⟩, ⟨fun q => absurd q (by decide), fun q => by omega⟩⟩
theorem h_in {x y z : Int64} {M : gk_M} : f_X12_in x y z M = some (if y.toInt ≤ x.toInt ∧ x.toInt ≤ z.toInt then 1 else 0, M) := by
  simp only [f_X12_in, X12_in_j17, q_gd q_b0, q_gd q_b1]
  by_cases a : lg_cmp x y < 0
  · rw [if_pos a, if_neg]
    rw [h_cmp.1] at a
    omega
  · rw [if_neg a]
    rw [h_cmp.1] at a
    by_cases b : 0 < lg_cmp x z
    · rw [if_pos b, if_neg]
      rw [h_cmp.2] at b
      omega
    · rw [if_neg b, if_pos]
      rw [h_cmp.2] at b
      omega
theorem h_inI {x : Int32} {y z : Int64} {M : gk_M} : f_X12_in x.toInt64 y z M = some (if y.toInt ≤ x.toInt ∧ x.toInt ≤ z.toInt then 1 else 0, M) := by
  rw [h_in, Int32.toInt_toInt64]
theorem h_shT {N : Nat} (hN : N ≤ 6) {M : gk_M} (hc : M 14 0 0 = nI N) {a : Nat} (ha : a < N) : f_X12_isShip (nI a) M = some (1, M) := by
  have e : (M 14 0 0 - 1).toInt = (N : Int) - 1 := by rw [hc, z_sub (by rw [z_n (by omega)]; show (-2147483648 : Int) ≤ (N : Int) - 1; omega) (by rw [z_n (by omega)]; show (N : Int) - 1 < _; omega), z_n (by omega)]; rfl
  rw [f_X12_isShip, h_inI, if_pos ⟨by rw [z_n (by omega)]; exact Int.natCast_nonneg a, by rw [Int32.toInt_toInt64, e, z_n (by omega)]; omega⟩, q_bnd, q_gd q_b1]
theorem h_shF {N : Nat} (hN : N ≤ 6) {M : gk_M} (hc : M 14 0 0 = nI N) {x : Int32} (hx : x < 0 ∨ nI N ≤ x) : f_X12_isShip x M = some (0, M) := by
  have e : (M 14 0 0 - 1).toInt = (N : Int) - 1 := by rw [hc, z_sub (by rw [z_n (by omega)]; show (-2147483648 : Int) ≤ (N : Int) - 1; omega) (by rw [z_n (by omega)]; show (N : Int) - 1 < _; omega), z_n (by omega)]; rfl
  rw [f_X12_isShip, h_inI, if_neg, q_bnd, q_gd q_b0]
  rw [Int32.toInt_toInt64, e]
  rintro ⟨h1, h2⟩
  have h1 : 0 ≤ x.toInt := h1
  rcases hx with hx | hx
  · rw [z_lt] at hx
    have hx : x.toInt < 0 := hx
    omega
  · rw [z_le, z_n (by omega)] at hx
    omega
theorem h_are2T {N : Nat} (hN : N ≤ 6) {M : gk_M} (hc : M 14 0 0 = nI N) {a b : Nat} (ha : a < N) (hb : b < N) (hab : a ≠ b) : f_X12_areTwo (nI a) (nI b) M = some (1, M) := by
  have e : ¬ nI a = nI b := fun q => hab ((nI_eq (by omega) (by omega)).mp q)
  rw [f_X12_areTwo, h_shT hN hc ha, q_bnd, if_neg (by decide), h_shT hN hc hb, q_bnd, if_neg (by decide), if_neg e, q_gd q_b1]
theorem h_are2F {N : Nat} (hN : N ≤ 6) {M : gk_M} (hc : M 14 0 0 = nI N) {x y : Int32} (h : ¬ ∃ a b, a < N ∧ b < N ∧ a ≠ b ∧ x = nI a ∧ y = nI b) : f_X12_areTwo x y M = some (0, M) := by
  rw [f_X12_areTwo]
  rcases z_ship N hN x with ⟨a, ha, rfl⟩ | hx
  · rw [h_shT hN hc ha, q_bnd, if_neg (by decide)]
    rcases z_ship N hN y with ⟨b, hb, rfl⟩ | hy
    · rw [h_shT hN hc hb, q_bnd, if_neg (by decide)]
      by_cases e : a = b
      · subst e; rw [if_pos rfl]; rfl
      · exact absurd ⟨a, b, ha, hb, e, rfl, rfl⟩ h
    · rw [h_shF hN hc hy, q_bnd, if_pos rfl]; rfl
  · rw [h_shF hN hc hx, q_bnd, if_pos rfl]; rfl
theorem h_refR {x : Int32} {q : Nat} (hq : x = -nI q) (h7 : q < 7) {M : gk_M} : f_X12_refuse x M = some (x, gk_up M 17 0 q (M 17 0 q + 1)) := by
  have e : -x = nI q := by rw [hq]; exact Int32.neg_neg
  simp only [f_X12_refuse, e, q_gd (q_in h7 (by decide)), q_cl (show q < 2 ^ 31 by omega), q_wr]
/-! carrying: cT while it is taken, cF while it is put back -/
def c_ps (c i j : Nat) : Nat := if c = 14 ∧ i = 0 ∧ j < 5 then j else if c = 15 ∧ i < 2 ∧ j < 7 then 5 + 2 * j + i else if c = 16 ∧ i < 6 ∧ j < 6 then 19 + 6 * j + i else 100
def c_cl (M : gk_M) (q : Nat) : Int32 := if q < 5 then M 14 0 q else if q < 19 then M 15 ((q - 5) % 2) ((q - 5) / 2) else M 16 ((q - 19) % 6) ((q - 19) / 6)
theorem c_clps {M : gk_M} {c i j : Nat} (h : c_ps c i j < 55) : c_cl M (c_ps c i j) = M c i j := by
  unfold c_ps at h ⊢
  by_cases h1 : c = 14 ∧ i = 0 ∧ j < 5
  · rw [if_pos h1]
    obtain ⟨rfl, rfl, h1⟩ := h1
    unfold c_cl
    rw [if_pos h1]
  · rw [if_neg h1] at h ⊢
    by_cases h2 : c = 15 ∧ i < 2 ∧ j < 7
    · rw [if_pos h2]
      obtain ⟨rfl, h2, h3⟩ := h2
      unfold c_cl
      rw [if_neg (by omega), if_pos (by omega), show (5 + 2 * j + i - 5) % 2 = i by omega, show (5 + 2 * j + i - 5) / 2 = j by omega]
    · rw [if_neg h2] at h ⊢
      by_cases h3 : c = 16 ∧ i < 6 ∧ j < 6
      · rw [if_pos h3]
        obtain ⟨rfl, h3, h4⟩ := h3
        unfold c_cl
        rw [if_neg (by omega), if_neg (by omega), show (19 + 6 * j + i - 19) % 6 = i by omega, show (19 + 6 * j + i - 19) / 6 = j by omega]
      · rw [if_neg h3] at h
        omega
def c_T (t p : Nat) (M : gk_M) : gk_M := fun c i j => if c = 18 ∧ i = t ∧ j < p then c_cl M j else if c = 14 ∧ i = 0 ∧ j = 20 then nI p else if c = 14 ∧ i = 0 ∧ j = 21 then 1 else if c = 14 ∧ i = 0 ∧ j = 22 then nI (t + 1) else M c i j
def c_F (t p : Nat) (M : gk_M) : gk_M := fun c i j => if c_ps c i j < p then M 18 t (c_ps c i j) else if c = 14 ∧ i = 0 ∧ j = 20 then nI p else if c = 14 ∧ i = 0 ∧ j = 21 then 0 else if c = 14 ∧ i = 0 ∧ j = 22 then nI (t + 1) else M c i j
theorem c_kp {t : Nat} (ht : t < 2) : gk_kp (nI (t + 1)) = true ∧ (nI (t + 1)).toNatClampNeg - 1 = t := by
  rcases (show t = 0 ∨ t = 1 by omega) with rfl | rfl <;> decide
theorem c_psC {c i j : Nat} (h : c_ps c i j < 55) : (c = 14 ∧ i = 0 ∧ j < 5 ∧ c_ps c i j = j) ∨ (c = 15 ∧ i < 2 ∧ j < 7 ∧ c_ps c i j = 5 + 2 * j + i) ∨ (c = 16 ∧ i < 6 ∧ j < 6 ∧ c_ps c i j = 19 + 6 * j + i) := by
  unfold c_ps at h ⊢
  by_cases h1 : c = 14 ∧ i = 0 ∧ j < 5
  · rw [if_pos h1] at h ⊢
    exact Or.inl ⟨h1.1, h1.2.1, h1.2.2, rfl⟩
  · rw [if_neg h1] at h ⊢
    by_cases h2 : c = 15 ∧ i < 2 ∧ j < 7
    · rw [if_pos h2] at h ⊢
      exact Or.inr (Or.inl ⟨h2.1, h2.2.1, h2.2.2, rfl⟩)
    · rw [if_neg h2] at h ⊢
      by_cases h3 : c = 16 ∧ i < 6 ∧ j < 6
      · rw [if_pos h3] at h ⊢
        exact Or.inr (Or.inr ⟨h3.1, h3.2.1, h3.2.2, rfl⟩)
      · rw [if_neg h3] at h
        omega
theorem c_psn {c i j q : Nat} (h : c_ps c i j < 55) : c ≠ 18 ∧ ¬ (c = 14 ∧ i = 0 ∧ 5 ≤ j) := by
  unfold c_ps at h
  refine ⟨fun z => ?_, fun z => ?_⟩
  · rw [if_neg (by omega), if_neg (by omega), if_neg (by omega)] at h; omega
  · rw [if_neg (by omega), if_neg (by omega), if_neg (by omega)] at h; omega
theorem h_carT {α : Type} {t p : Nat} (ht : t < 2) (hp : p < 55) {M : gk_M} {c i j : Nat} (hps : c_ps c i j = p) {F : gk_M → Option α} :
    gk_bnd (f_X12_carry (c_T t p M c i j) (c_T t p M)) (fun r M1 => gk_wr M1 c i j r F) = F (c_T t (p + 1) M) := by
  obtain ⟨hn1, hn2⟩ := c_psn (q := 0) (show c_ps c i j < 55 by omega)
  obtain ⟨k1, k2⟩ := c_kp ht
  have e20 : c_T t p M 14 0 20 = nI p := by unfold c_T; rw [if_neg (by omega), if_pos (by omega)]
  have e21 : c_T t p M 14 0 21 = 1 := by unfold c_T; rw [if_neg (by omega), if_neg (by omega), if_pos (by omega)]
  have e22 : c_T t p M 14 0 22 = nI (t + 1) := by unfold c_T; rw [if_neg (by omega), if_neg (by omega), if_neg (by omega), if_pos (by omega)]
  have ec : c_T t p M c i j = M c i j := by unfold c_T; rw [if_neg (by omega), if_neg (by omega), if_neg (by omega), if_neg (by omega)]
  simp only [f_X12_carry, X12_carry_j17, e21, if_neg (show ¬ (1 : Int32) = 0 by decide), e22, q_gd k1, e20, q_gd (q_in (show p < 56 by omega) (by decide)), q_cl (show p < 2 ^ 31 by omega), k2, q_wr, u_n (show ¬ ((14 : Nat) = 18 ∧ (0 : Nat) = t ∧ (20 : Nat) = p) by omega), u_n (show ¬ ((14 : Nat) = 18 ∧ (0 : Nat) = t ∧ (22 : Nat) = p) by omega), u_n (show ¬ ((14 : Nat) = 14 ∧ (0 : Nat) = 0 ∧ (22 : Nat) = 20) by omega), u_s, nI_1, nI_pred, u_n (show ¬ ((18 : Nat) = 14 ∧ t = 0 ∧ p = 20) by omega), q_bnd]
  congr 1
  funext c' i' j'
  by_cases h1 : c' = c ∧ i' = i ∧ j' = j
  · obtain ⟨rfl, rfl, rfl⟩ := h1
    rw [u_s, ec]
    unfold c_T
    rw [if_neg (by omega), if_neg (by omega), if_neg (by omega), if_neg (by omega)]
  · rw [u_n h1]
    by_cases h2 : c' = 14 ∧ i' = 0 ∧ j' = 20
    · obtain ⟨rfl, rfl, rfl⟩ := h2
      rw [u_s]
      unfold c_T
      rw [if_neg (by omega), if_pos (by omega)]
    · rw [u_n h2]
      by_cases h3 : c' = 18 ∧ i' = t ∧ j' = p
      · obtain ⟨rfl, rfl, rfl⟩ := h3
        rw [u_s, ec]
        unfold c_T
        rw [if_pos (by omega), ← hps, c_clps (by omega)]
      · rw [u_n h3]
        unfold c_T
        by_cases h4 : c' = 18 ∧ i' = t ∧ j' < p
        · rw [if_pos h4, if_pos (by omega)]
        · rw [if_neg h4, if_neg (show ¬ (c' = 18 ∧ i' = t ∧ j' < p + 1) by omega), if_neg h2, if_neg h2]
theorem h_carF {α : Type} {t p : Nat} (ht : t < 2) (hp : p < 55) {M : gk_M} {c i j : Nat} (hps : c_ps c i j = p) {v : Int32} {F : gk_M → Option α} :
    gk_bnd (f_X12_carry v (c_F t p M)) (fun r M1 => gk_wr M1 c i j r F) = F (c_F t (p + 1) M) := by
  obtain ⟨hn1, hn2⟩ := c_psn (q := 0) (show c_ps c i j < 55 by omega)
  obtain ⟨k1, k2⟩ := c_kp ht
  have hp20 : ∀ j, 5 ≤ j → ¬ c_ps 14 0 j < 55 := fun j hj q => (c_psn (q := 0) q).2 ⟨rfl, rfl, hj⟩
  have hp18 : ∀ i j, ¬ c_ps 18 i j < 55 := fun i j q => (c_psn (q := 0) q).1 rfl
  have e20 : c_F t p M 14 0 20 = nI p := by unfold c_F; rw [if_neg (fun q => hp20 20 (by omega) (by omega)), if_pos (by omega)]
  have e21 : c_F t p M 14 0 21 = 0 := by unfold c_F; rw [if_neg (fun q => hp20 21 (by omega) (by omega)), if_neg (by omega), if_pos (by omega)]
  have e22 : c_F t p M 14 0 22 = nI (t + 1) := by unfold c_F; rw [if_neg (fun q => hp20 22 (by omega) (by omega)), if_neg (by omega), if_neg (by omega), if_pos (by omega)]
  have e18 : c_F t p M 18 t p = M 18 t p := by unfold c_F; rw [if_neg (fun q => hp18 t p (by omega)), if_neg (by omega), if_neg (by omega), if_neg (by omega)]
  simp only [f_X12_carry, X12_carry_j17, e21, if_pos, q_wr, u_n (show ¬ ((14 : Nat) = 14 ∧ (0 : Nat) = 0 ∧ (22 : Nat) = 20) by omega), e22, q_gd k1, e20, u_s, nI_1, nI_pred, q_gd (q_in (show p < 56 by omega) (by decide)), q_cl (show p < 2 ^ 31 by omega), k2, u_n (show ¬ ((18 : Nat) = 14 ∧ t = 0 ∧ p = 20) by omega), e18, q_bnd]
  congr 1
  funext c' i' j'
  by_cases h1 : c' = c ∧ i' = i ∧ j' = j
  · obtain ⟨rfl, rfl, rfl⟩ := h1
    rw [u_s]
    unfold c_F
    rw [if_pos (by omega), hps]
  · rw [u_n h1]
    have hne : c_ps c' i' j' ≠ p ∨ ¬ c_ps c' i' j' < 55 := by
      by_cases q : c_ps c' i' j' < 55
      · refine Or.inl (fun z => h1 ?_)
        have q2 : c_ps c i j < 55 := by omega
        have w1 := c_psC q
        have w2 := c_psC q2
        omega
      · exact Or.inr q
    by_cases h2 : c' = 14 ∧ i' = 0 ∧ j' = 20
    · obtain ⟨rfl, rfl, rfl⟩ := h2
      rw [u_s]
      unfold c_F
      rw [if_neg (fun q => hp20 20 (by omega) (by omega)), if_pos (by omega)]
    · rw [u_n h2]
      unfold c_F
      by_cases h4 : c_ps c' i' j' < p
      · rw [if_pos h4, if_pos (by omega)]
      · rw [if_neg h4, if_neg (show ¬ c_ps c' i' j' < p + 1 by omega), if_neg h2, if_neg h2]
