/-! pack: letters read, in the class and in the reference -/
def s_S (c x y : Nat) (st : Nat × Bool) (M : gk_M) : gk_M := gk_up (gk_up M c 0 x (nI st.1)) c 0 y (if st.2 = true then 1 else 0)
theorem s_1 {c x y : Nat} (h : x ≠ y) {st : Nat × Bool} {M : gk_M} : s_S c x y st M c 0 x = nI st.1 := by unfold s_S; rw [u_n (by omega), u_s]
theorem s_2 {c x y : Nat} {st : Nat × Bool} {M : gk_M} : s_S c x y st M c 0 y = if st.2 = true then 1 else 0 := by unfold s_S; rw [u_s]
theorem s_n {c x y : Nat} {st : Nat × Bool} {M : gk_M} {c' i j : Nat} (h : ¬ (c' = c ∧ i = 0 ∧ (j = x ∨ j = y))) : s_S c x y st M c' i j = M c' i j := by unfold s_S; rw [u_n (by omega), u_n (by omega)]
theorem s_u1 {c x y : Nat} (h : x ≠ y) {a a' : Nat} {b : Bool} {M : gk_M} : gk_up (s_S c x y (a, b) M) c 0 x (nI a') = s_S c x y (a', b) M := by
  funext c' i j
  by_cases q : c' = c ∧ i = 0 ∧ j = x
  · obtain ⟨rfl, rfl, rfl⟩ := q
    rw [u_s, s_1 h]
  · rw [u_n q]
    by_cases q2 : c' = c ∧ i = 0 ∧ j = y
    · obtain ⟨rfl, rfl, rfl⟩ := q2
      rw [s_2, s_2]
    · rw [s_n (by omega), s_n (by omega)]
theorem s_u2 {c x y : Nat} (h : x ≠ y) {a : Nat} {b b' : Bool} {M : gk_M} {v : Int32} (hv : v = if b' = true then 1 else 0) : gk_up (s_S c x y (a, b) M) c 0 y v = s_S c x y (a, b') M := by
  funext c' i j
  by_cases q : c' = c ∧ i = 0 ∧ j = y
  · obtain ⟨rfl, rfl, rfl⟩ := q
    rw [u_s, s_2]; exact hv
  · rw [u_n q]
    by_cases q2 : c' = c ∧ i = 0 ∧ j = x
    · obtain ⟨rfl, rfl, rfl⟩ := q2
      rw [s_1 h, s_1 h]
    · rw [s_n (by omega), s_n (by omega)]
theorem s_cm {c x y : Nat} {st : Nat × Bool} {M : gk_M} {c' i j : Nat} {v : Int32} (h : ¬ (c' = c ∧ i = 0 ∧ (j = x ∨ j = y))) : gk_up (s_S c x y st M) c' i j v = s_S c x y st (gk_up M c' i j v) := by
  funext c2 i2 j2
  by_cases q : c2 = c' ∧ i2 = i ∧ j2 = j
  · obtain ⟨rfl, rfl, rfl⟩ := q
    rw [u_s, s_n h, u_s]
  · rw [u_n q]
    by_cases q2 : c2 = c ∧ i2 = 0 ∧ (j2 = x ∨ j2 = y)
    · unfold s_S
      by_cases q3 : j2 = y
      · obtain ⟨rfl, rfl, q4⟩ := q2
        subst q3
        rw [u_s, u_s]
      · obtain ⟨rfl, rfl, q4⟩ := q2
        obtain rfl : j2 = x := by omega
        rw [u_n (by omega), u_s, u_n (by omega), u_s]
    · rw [s_n q2, s_n q2, u_n q]
theorem s_c1 {a a' : Nat} {b : Bool} {M : gk_M} : gk_up (s_S 3 2 3 (a, b) M) 3 0 2 (nI a') = s_S 3 2 3 (a', b) M := s_u1 (by decide)
theorem s_c2 {a : Nat} {b : Bool} {M : gk_M} : gk_up (s_S 3 2 3 (a, b) M) 3 0 3 1 = s_S 3 2 3 (a, true) M := s_u2 (b' := true) (by decide) rfl
theorem s_r1 {a a' : Nat} {b : Bool} {M : gk_M} : gk_up (s_S 14 25 26 (a, b) M) 14 0 25 (nI a') = s_S 14 25 26 (a', b) M := s_u1 (by decide)
theorem s_r2 {a : Nat} {b : Bool} {M : gk_M} : gk_up (s_S 14 25 26 (a, b) M) 14 0 26 1 = s_S 14 25 26 (a, true) M := s_u2 (b' := true) (by decide) rfl
theorem s_r0 {a : Nat} {b : Bool} {M : gk_M} : gk_up (s_S 14 25 26 (a, b) M) 14 0 26 0 = s_S 14 25 26 (a, false) M := s_u2 (b' := false) (by decide) rfl
theorem s_ra {a : Nat} {b : Bool} {M : gk_M} : s_S 14 25 26 (a, b) M 14 0 25 = nI a := s_1 (by decide)
theorem s_rt {a : Nat} {M : gk_M} : s_S 14 25 26 (a, true) M 14 0 26 = 1 := s_2
theorem s_rf {a : Nat} {M : gk_M} : s_S 14 25 26 (a, false) M 14 0 26 = 0 := s_2
/-- letters Lt, z of them -/
def p_at (Lt : Nat → Nat) (z c : Nat) (st : Nat × Bool) : Bool := !st.2 && (decide (st.1 < z) && decide (Lt st.1 = c))
def p_need (Lt : Nat → Nat) (z c : Nat) (st : Nat × Bool) : Nat × Bool := if p_at Lt z c st = true then (st.1 + 1, st.2) else (st.1, true)
def p_dg (Lt : Nat → Nat) (z a : Nat) : Bool := decide (a < z) && (decide (48 ≤ Lt a) && decide (Lt a ≤ 57))
def p_nl (Lt : Nat → Nat) (z : Nat) : Nat → Nat → Nat → Nat × Nat
  | 0, a, v => (v, a)
  | k + 1, a, v => if p_dg Lt z a = true then p_nl Lt z k (a + 1) (10 * v + (Lt a - 48)) else (v, a)
def p_num (Lt : Nat → Nat) (z k : Nat) (st : Nat × Bool) : Nat × (Nat × Bool) := if (!st.2 && p_dg Lt z st.1) = true then ((p_nl Lt z (k - 1) (st.1 + 1) (Lt st.1 - 48)).1, ((p_nl Lt z (k - 1) (st.1 + 1) (Lt st.1 - 48)).2, false)) else (0, (st.1, true))
def p_sg (Lt : Nat → Nat) (z k : Nat) (st : Nat × Bool) : Int32 × (Nat × Bool) := if p_at Lt z 45 st = true then (-nI (p_num Lt z k (st.1 + 1, st.2)).1, (p_num Lt z k (st.1 + 1, st.2)).2) else (nI (p_num Lt z k st).1, (p_num Lt z k st).2)
def p_C (Lt : Nat → Nat) (z : Nat) (M : gk_M) : Prop := z ≤ 80 ∧ M 3 0 1 = nI z ∧ ∀ j, j < z → Lt j < 256 ∧ M 11 0 j = nI (Lt j)
def p_R (Lt : Nat → Nat) (z : Nat) (M : gk_M) : Prop := z ≤ 80 ∧ M 14 0 24 = nI z ∧ ∀ j, j < z → Lt j < 256 ∧ M 19 0 j = nI (Lt j)
theorem p_dgT {Lt : Nat → Nat} {z a : Nat} (h : p_dg Lt z a = true) : a < z ∧ 48 ≤ Lt a ∧ Lt a ≤ 57 := by
  unfold p_dg at h
  simpa using h
theorem p_nl_le {Lt : Nat → Nat} {z : Nat} : ∀ (k a v : Nat), a ≤ z → a ≤ (p_nl Lt z k a v).2 ∧ (p_nl Lt z k a v).2 ≤ z
  | 0, _, _, h => ⟨Nat.le_refl _, h⟩
  | k + 1, a, v, h => by
    rw [p_nl]
    by_cases q : p_dg Lt z a = true
    · rw [if_pos q]
      have := p_nl_le (Lt := Lt) (z := z) k (a + 1) (10 * v + (Lt a - 48)) (by have := (p_dgT q).1; omega)
      omega
    · rw [if_neg q]; exact ⟨Nat.le_refl _, h⟩
theorem p_nl_lt {Lt : Nat → Nat} {z : Nat} : ∀ (k a v m : Nat), v < m → (p_nl Lt z k a v).1 < m * 10 ^ k
  | 0, _, _, m, h => by show _ < m * 10 ^ 0; rw [Nat.pow_zero, Nat.mul_one]; exact h
  | k + 1, a, v, m, h => by
    rw [p_nl]
    by_cases q : p_dg Lt z a = true
    · rw [if_pos q]
      have hd := p_dgT q
      have := p_nl_lt (Lt := Lt) (z := z) k (a + 1) (10 * v + (Lt a - 48)) (10 * m) (by omega)
      rw [Nat.pow_succ, Nat.mul_comm (10 ^ k) 10, ← Nat.mul_assoc, Nat.mul_comm m 10]
      exact this
    · rw [if_neg q]
      exact Nat.lt_of_lt_of_le h (Nat.le_mul_of_pos_right m (Nat.pow_pos (by decide)))
theorem p_num_lt {Lt : Nat → Nat} {z k : Nat} (hk : 1 ≤ k) (st : Nat × Bool) : (p_num Lt z k st).1 < 10 ^ k := by
  unfold p_num
  by_cases q : (!st.2 && p_dg Lt z st.1) = true
  · rw [if_pos q]
    have hd := p_dgT (Bool.and_eq_true _ _ ▸ q : (!st.2) = true ∧ p_dg Lt z st.1 = true).2
    have := p_nl_lt (Lt := Lt) (z := z) (k - 1) (st.1 + 1) (Lt st.1 - 48) 10 (by omega)
    have e : 10 ^ k = 10 * 10 ^ (k - 1) := by
      obtain ⟨j, rfl⟩ : ∃ j, k = j + 1 := ⟨k - 1, by omega⟩
      rw [Nat.pow_succ, Nat.mul_comm]; rfl
    rw [e]; exact this
  · rw [if_neg q]; exact Nat.pow_pos (by decide)
theorem p_num_le {Lt : Nat → Nat} {z k : Nat} {st : Nat × Bool} (h : st.1 ≤ z) : st.1 ≤ (p_num Lt z k st).2.1 ∧ (p_num Lt z k st).2.1 ≤ z ∧ ((p_num Lt z k st).2.2 = false → st.2 = false ∧ st.1 + 1 ≤ (p_num Lt z k st).2.1) := by
  unfold p_num
  by_cases q : (!st.2 && p_dg Lt z st.1) = true
  · rw [if_pos q]
    have q' : (!st.2) = true ∧ p_dg Lt z st.1 = true := by simpa using q
    have hd := p_dgT q'.2
    have := p_nl_le (Lt := Lt) (z := z) (k - 1) (st.1 + 1) (Lt st.1 - 48) (by omega)
    exact ⟨by show st.1 ≤ (p_nl Lt z (k - 1) (st.1 + 1) (Lt st.1 - 48)).2; omega, this.2, fun _ => ⟨by simpa using q'.1, this.1⟩⟩
  · rw [if_neg q]
    exact ⟨Nat.le_refl _, h, fun z => Bool.noConfusion z⟩
theorem p_atT {Lt : Nat → Nat} {z c : Nat} {st : Nat × Bool} (h : p_at Lt z c st = true) : st.2 = false ∧ st.1 < z ∧ Lt st.1 = c := by
  unfold p_at at h
  simpa using h
theorem p_need_le {Lt : Nat → Nat} {z c : Nat} {st : Nat × Bool} (h : st.1 ≤ z) : st.1 ≤ (p_need Lt z c st).1 ∧ (p_need Lt z c st).1 ≤ z ∧ ((p_need Lt z c st).2 = false → st.2 = false ∧ st.1 + 1 ≤ (p_need Lt z c st).1) := by
  unfold p_need
  by_cases q : p_at Lt z c st = true
  · rw [if_pos q]
    have := p_atT q
    exact ⟨Nat.le_succ _, this.2.1, fun _ => ⟨this.1, Nat.le_refl _⟩⟩
  · rw [if_neg q]
    exact ⟨Nat.le_refl _, h, fun z => Bool.noConfusion z⟩
theorem p_sg_le {Lt : Nat → Nat} {z k : Nat} {st : Nat × Bool} (h : st.1 ≤ z) : st.1 ≤ (p_sg Lt z k st).2.1 ∧ (p_sg Lt z k st).2.1 ≤ z ∧ ((p_sg Lt z k st).2.2 = false → st.2 = false ∧ st.1 + 1 ≤ (p_sg Lt z k st).2.1) := by
  unfold p_sg
  by_cases q : p_at Lt z 45 st = true
  · rw [if_pos q]
    have t := p_atT q
    have := p_num_le (Lt := Lt) (z := z) (k := k) (st := (st.1 + 1, st.2)) t.2.1
    have g1 : st.1 + 1 ≤ (p_num Lt z k (st.1 + 1, st.2)).2.1 := this.1
    exact ⟨by show st.1 ≤ (p_num Lt z k (st.1 + 1, st.2)).2.1; omega, this.2.1, fun f => ⟨t.1, g1⟩⟩
  · rw [if_neg q]
    exact p_num_le h
theorem p_sg_rng {Lt : Nat → Nat} {z k : Nat} (hk : 1 ≤ k) (hk2 : k ≤ 2) (st : Nat × Bool) : -(10 ^ k : Int) < (p_sg Lt z k st).1.toInt ∧ (p_sg Lt z k st).1.toInt < (10 ^ k : Int) := by
  have cp : ((10 ^ k : Nat) : Int) = (10 ^ k : Int) := by exact Int.natCast_pow 10 k
  have b : (10 : Nat) ^ k ≤ 10 ^ 2 := Nat.pow_le_pow_right (by decide) hk2
  unfold p_sg
  by_cases q : p_at Lt z 45 st = true
  · rw [if_pos q]
    have := p_num_lt (Lt := Lt) (z := z) hk (st.1 + 1, st.2)
    rw [z_neg (by rw [z_n (by omega)]; omega), z_n (by omega), ← cp]
    omega
  · rw [if_neg q]
    have := p_num_lt (Lt := Lt) (z := z) hk st
    show -(10 ^ k : Int) < (nI (p_num Lt z k st).1).toInt ∧ (nI (p_num Lt z k st).1).toInt < (10 ^ k : Int)
    rw [z_n (by omega), ← cp]
    omega
/-! the class -/
theorem t_C {Lt : Nat → Nat} {z c a : Nat} {b : Bool} {M : gk_M} (h : p_C Lt z M) (hc : c < 256) (ha : a ≤ z) : f_X6_take (nI c) (s_S 3 2 3 (a, b) M) = some (if p_at Lt z c (a, b) = true then 1 else 0, s_S 3 2 3 (if p_at Lt z c (a, b) = true then a + 1 else a, b) M) := by
  obtain ⟨hz, h1, h2⟩ := h
  have e3 : s_S 3 2 3 (a, b) M 3 0 3 = if b = true then 1 else 0 := s_2
  have e2 : s_S 3 2 3 (a, b) M 3 0 2 = nI a := s_1 (by decide)
  have e1 : s_S 3 2 3 (a, b) M 3 0 1 = nI z := by rw [s_n (by omega)]; exact h1
  rw [f_X6_take, e3, e2, e1]
  have no : p_at Lt z c (a, b) = false → X6_take_j35 (s_S 3 2 3 (a, b) M) = some (if p_at Lt z c (a, b) = true then 1 else 0, s_S 3 2 3 (if p_at Lt z c (a, b) = true then a + 1 else a, b) M) := fun q => by
    rw [q, if_neg (by decide), if_neg (by decide), X6_take_j35, X6_take_j36, if_pos rfl, X6_take_j51, q_gd q_b0]
  cases b with
  | true => rw [if_pos (by decide)]; exact no (by simp [p_at])
  | false =>
    rw [if_neg (by decide)]
    by_cases q : a < z
    · rw [if_neg (nI_ge q (by omega)), q_gd (q_in (show a < 80 by omega) (by decide)), q_cl (by omega), s_n (by omega), (h2 a q).2]
      by_cases q2 : Lt a = c
      · have p : p_at Lt z c (a, false) = true := by simp [p_at, q, q2]
        rw [if_neg (fun w => w (by rw [q2])), p, if_pos rfl, if_pos rfl, X6_take_j36, if_neg (by decide), q_wr, e2, nI_1, s_c1, X6_take_j51, q_gd q_b1]
      · rw [if_pos (fun w => q2 ((nI_eq (by have := (h2 a q).1; omega) (by omega)).mp w))]
        exact no (by simp [p_at, q2])
    · rw [if_pos (nI_le (by omega) (by omega))]
      exact no (by simp [p_at, q])
theorem n_C {Lt : Nat → Nat} {z c a : Nat} {b : Bool} {M : gk_M} (h : p_C Lt z M) (hc : c < 256) (ha : a ≤ z) : f_X6_need (nI c) (s_S 3 2 3 (a, b) M) = some ((), s_S 3 2 3 (p_need Lt z c (a, b)) M) := by
  rw [f_X6_need, t_C h hc ha, q_bnd]
  unfold p_need
  by_cases q : p_at Lt z c (a, b) = true
  · rw [if_pos q, if_pos q, if_pos q, if_pos (by decide)]
  · rw [if_neg q, if_neg q, if_neg q, if_neg (by decide), q_gd q_b1, q_wr, s_c2]
theorem d_C {Lt : Nat → Nat} {z a : Nat} {b : Bool} {M : gk_M} (h : p_C Lt z M) (ha : a ≤ z) : f_X6_isDigitNext (s_S 3 2 3 (a, b) M) = some (if (!b && p_dg Lt z a) = true then 1 else 0, s_S 3 2 3 (a, b) M) := by
  obtain ⟨hz, h1, h2⟩ := h
  have e3 : s_S 3 2 3 (a, b) M 3 0 3 = if b = true then 1 else 0 := s_2
  have e2 : s_S 3 2 3 (a, b) M 3 0 2 = nI a := s_1 (by decide)
  have e1 : s_S 3 2 3 (a, b) M 3 0 1 = nI z := by rw [s_n (by omega)]; exact h1
  have no : (!b && p_dg Lt z a) = false → X6_isDigitNext_j50 (s_S 3 2 3 (a, b) M) = some (if (!b && p_dg Lt z a) = true then 1 else 0, s_S 3 2 3 (a, b) M) := fun q => by
    rw [q, if_neg (by decide), X6_isDigitNext_j50, q_gd q_b0]
  rw [f_X6_isDigitNext, e3, e2, e1]
  cases b with
  | true => rw [if_pos (by decide)]; exact no rfl
  | false =>
    rw [if_neg (by decide)]
    by_cases q : a < z
    · have l := (h2 a q).1
      rw [if_neg (nI_ge q (by omega)), q_gd (q_in (show a < 80 by omega) (by decide)), q_cl (by omega), s_n (by omega), (h2 a q).2, q_gd (q_in (show a < 80 by omega) (by decide))]
      by_cases q1 : Lt a < 48
      · rw [if_pos (show nI (Lt a) < 48 from nI_lt (b := 48) q1 (by omega))]
        exact no (by simp [p_dg, show ¬ 48 ≤ Lt a by omega])
      · rw [if_neg (show ¬ nI (Lt a) < 48 from nI_nlt (b := 48) (by omega) (by omega))]
        by_cases q2 : 57 < Lt a
        · rw [if_pos (show 57 < nI (Lt a) from nI_lt (a := 57) q2 (by omega))]
          exact no (by simp [p_dg, show ¬ Lt a ≤ 57 by omega])
        · rw [if_neg (show ¬ 57 < nI (Lt a) from nI_nlt (a := 57) (by omega) (by omega)), q_gd q_b1, if_pos (by simp [p_dg, q, show 48 ≤ Lt a by omega, show Lt a ≤ 57 by omega])]
    · rw [if_pos (nI_le (by omega) (by omega))]
      exact no (by simp [p_dg, q])
theorem nl_C {Lt : Nat → Nat} {z k : Nat} {M : gk_M} (h : p_C Lt z M) (hk : k ≤ 3) : ∀ (d fuel c a v : Nat), c + d = k → 1 ≤ c → d < fuel → a ≤ z →
    X6_readNumber_l4 fuel (nI k) (nI v) (nI c) (s_S 3 2 3 (a, false) M) = some (nI (p_nl Lt z d a v).1, s_S 3 2 3 ((p_nl Lt z d a v).2, false) M) := by
  intro d
  induction d with
  | zero =>
    intro fuel c a v hc h1 hf ha
    obtain ⟨n, rfl⟩ : ∃ n, fuel = n + 1 := ⟨fuel - 1, by omega⟩
    rw [X6_readNumber_l4]
    dsimp only
    rw [if_pos (nI_le (by omega) (by omega)), X6_readNumber_j50, if_pos (nI_ne0 (by omega) (by omega)), X6_readNumber_j59, p_nl]
  | succ d ih =>
    intro fuel c a v hc h1 hf ha
    obtain ⟨n, rfl⟩ : ∃ n, fuel = n + 1 := ⟨fuel - 1, by omega⟩
    rw [X6_readNumber_l4]
    dsimp only
    rw [if_neg (nI_ge (by omega) (by omega)), d_C h ha, q_bnd, p_nl]
    have hb : (!false && p_dg Lt z a) = p_dg Lt z a := rfl
    rw [hb]
    by_cases q : p_dg Lt z a = true
    · have hd := p_dgT q
      have e2 : s_S 3 2 3 (a, false) M 3 0 2 = nI a := s_1 (by decide)
      rw [show (if p_dg Lt z a = true then (1 : Int32) else 0) = 1 from if_pos q, if_neg (show ¬ (1 : Int32) = 0 by decide), e2, q_gd (q_in (show a < 80 by have := h.1; omega) (by decide)), q_wr, nI_1 a, s_c1, q_cl (by have := h.1; omega), s_n (by omega), (h.2.2 a hd.1).2, show (10 : Int32) = nI 10 from rfl, pk_mul, nI_add, show (48 : Int32) = nI 48 from rfl, pk_sub (by omega), nI_1 c, if_pos q, show 10 * v + Lt a - 48 = 10 * v + (Lt a - 48) by omega, ih n (c + 1) (a + 1) _ (by omega) (by omega) (by omega) (by omega)]
    · rw [show (if p_dg Lt z a = true then (1 : Int32) else 0) = 0 from if_neg q, if_pos rfl, X6_readNumber_j50, if_pos (nI_ne0 (by omega) (by omega)), X6_readNumber_j59, if_neg q]
theorem num_C {Lt : Nat → Nat} {z k a : Nat} {b : Bool} {M : gk_M} (h : p_C Lt z M) (hk1 : 1 ≤ k) (hk : k ≤ 3) (ha : a ≤ z) : f_X6_readNumber (nI k) (s_S 3 2 3 (a, b) M) = some (nI (p_num Lt z k (a, b)).1, s_S 3 2 3 (p_num Lt z k (a, b)).2 M) := by
  rw [f_X6_readNumber]
  show X6_readNumber_l4 (199 + 1) (nI k) 0 0 _ = _
  rw [X6_readNumber_l4]
  dsimp only
  rw [if_neg (show ¬ nI k ≤ 0 from nI_nle (by omega) (by omega)), d_C h ha, q_bnd]
  unfold p_num
  by_cases q : (!b && p_dg Lt z a) = true
  · have q' : (!b) = true ∧ p_dg Lt z a = true := by simpa using q
    obtain rfl : b = false := by simpa using q'.1
    have hd := p_dgT q'.2
    have e2 : s_S 3 2 3 (a, false) M 3 0 2 = nI a := s_1 (by decide)
    rw [show (if (!false && p_dg Lt z a) = true then (1 : Int32) else 0) = 1 from if_pos q, if_neg (show ¬ (1 : Int32) = 0 by decide), e2, q_gd (q_in (show a < 80 by have := h.1; omega) (by decide)), q_wr, nI_1, s_c1, q_cl (by have := h.1; omega), s_n (by omega), (h.2.2 a hd.1).2, show (10 : Int32) * 0 + nI (Lt a) - 48 = nI (Lt a - 48) by
      rw [show (10 : Int32) * 0 = nI 0 from rfl, nI_add, show (48 : Int32) = nI 48 from rfl, pk_sub (by omega), Nat.zero_add], show (0 : Int32) + 1 = nI 1 from rfl, nl_C h hk (k - 1) 199 1 (a + 1) (Lt a - 48) (by omega) (by omega) (by omega) (by omega), if_pos q]
  · rw [show (if (!b && p_dg Lt z a) = true then (1 : Int32) else 0) = 0 from if_neg q, if_pos rfl, X6_readNumber_j50, if_neg (fun w => w rfl), q_gd q_b1, q_wr, s_c2, X6_readNumber_j59, if_neg q]
    rfl
theorem sg_C {Lt : Nat → Nat} {z k a : Nat} {b : Bool} {M : gk_M} (h : p_C Lt z M) (hk1 : 1 ≤ k) (hk : k ≤ 3) (ha : a ≤ z) : f_X6_readSigned (nI k) (s_S 3 2 3 (a, b) M) = some ((p_sg Lt z k (a, b)).1, s_S 3 2 3 (p_sg Lt z k (a, b)).2 M) := by
  rw [f_X6_readSigned, show (45 : Int32) = nI 45 from rfl, t_C h (by decide) ha, q_bnd]
  unfold p_sg
  by_cases q : p_at Lt z 45 (a, b) = true
  · have := p_atT q
    rw [if_pos q, if_pos q, if_pos q, if_neg (by decide), num_C h hk1 hk this.2.1, q_bnd]
  · rw [if_neg q, if_neg q, if_neg q, if_pos rfl, num_C h hk1 hk ha, q_bnd]
/-! the reference -/
theorem h_R {Lt : Nat → Nat} {z a : Nat} {b : Bool} {M : gk_M} (h : p_R Lt z M) (ha : a ≤ z) : f_X12_here (s_S 14 25 26 (a, b) M) = some (if a < z then nI (Lt a) else -1, s_S 14 25 26 (a, b) M) := by
  obtain ⟨hz, h1, h2⟩ := h
  have e2 : s_S 14 25 26 (a, b) M 14 0 25 = nI a := s_ra
  have e1 : s_S 14 25 26 (a, b) M 14 0 24 = nI z := by rw [s_n (by omega)]; exact h1
  rw [f_X12_here, e2, e1]
  by_cases q : a < z
  · rw [if_neg (nI_ge q (by omega)), if_pos q, q_gd (q_in (show a < 80 by omega) (by decide)), q_cl (by omega), s_n (by omega), (h2 a q).2]
  · rw [if_pos (nI_le (by omega) (by omega)), if_neg q]
theorem di_R {Lt : Nat → Nat} {z a : Nat} {b : Bool} {M : gk_M} (h : p_R Lt z M) (ha : a ≤ z) : gk_bnd (f_X12_here (s_S 14 25 26 (a, b) M)) (fun r5 M4 => f_X12_in (Int32.toInt64 r5) (48 : Int64) (57 : Int64) M4) = some (if p_dg Lt z a = true then 1 else 0, s_S 14 25 26 (a, b) M) := by
  rw [h_R h ha, q_bnd]
  have e48 : (48 : Int64).toInt = 48 := rfl
  have e57 : (57 : Int64).toInt = 57 := rfl
  have em : (-1 : Int32).toInt = -1 := rfl
  by_cases q : a < z
  · have l := (h.2.2 a q).1
    rw [if_pos q]
    by_cases q2 : 48 ≤ Lt a ∧ Lt a ≤ 57
    · rw [h_inT (by rw [e48, e57, z_n (by omega)]; omega), if_pos (by simp [p_dg, q, q2])]
    · rw [h_inF (by rw [e48, e57, z_n (by omega)]; omega), if_neg (by simp only [p_dg, Bool.and_eq_true, decide_eq_true_iff]; omega)]
  · rw [if_neg q, h_inF (by rw [e48, e57, em]; omega), if_neg (by simp [p_dg, q])]
theorem dg_R {Lt : Nat → Nat} {z a : Nat} {b : Bool} {M : gk_M} (h : p_R Lt z M) (ha : a ≤ z) : f_X12_readDigit (s_S 14 25 26 (a, b) M) = some (nI (p_num Lt z 1 (a, b)).1, s_S 14 25 26 (p_num Lt z 1 (a, b)).2 M) := by
  have e3 : s_S 14 25 26 (a, b) M 14 0 26 = if b = true then 1 else 0 := s_2
  have no : (!b && p_dg Lt z a) = false → X12_readDigit_j25 (s_S 14 25 26 (a, b) M) = some (nI (p_num Lt z 1 (a, b)).1, s_S 14 25 26 (p_num Lt z 1 (a, b)).2 M) := fun q => by
    unfold p_num
    rw [if_neg (show ¬ (!(a, b).2 && p_dg Lt z (a, b).1) = true by show ¬ (!b && p_dg Lt z a) = true; rw [q]; decide), X12_readDigit_j25, X12_readDigit_j30, q_gd q_b1, q_wr, s_r2, s_rt, if_neg (by decide)]
    rfl
  rw [f_X12_readDigit, e3]
  cases b with
  | true => rw [if_pos (by decide)]; exact no rfl
  | false =>
    have dd := di_R (b := false) (M := M) h ha
    rw [h_R h ha, q_bnd] at dd
    rw [if_neg (by decide), h_R h ha, q_bnd, dd, q_bnd]
    by_cases q : p_dg Lt z a = true
    · have hd := p_dgT q
      have l := h.1
      rw [show (if p_dg Lt z a = true then (1 : Int32) else 0) = 1 from if_pos q, if_pos (show ¬ (1 : Int32) = 0 by decide), X12_readDigit_j30, q_gd q_b0, q_wr, s_r0, s_rf, if_pos rfl, q_wr, s_ra, nI_1, s_r1, s_ra, nI_pred, q_gd (q_in (show a < 80 by omega) (by decide)), q_cl (by omega), s_n (by omega), (h.2.2 a hd.1).2, show (48 : Int32) = nI 48 from rfl, pk_sub (by omega)]
      unfold p_num
      rw [if_pos (by rw [q]; rfl)]
      rfl
    · rw [show (if p_dg Lt z a = true then (1 : Int32) else 0) = 0 from if_neg q, if_neg (show ¬ ¬ (0 : Int32) = 0 by decide)]
      exact no (by simpa using q)
theorem nl_R {Lt : Nat → Nat} {z k : Nat} {M : gk_M} (h : p_R Lt z M) (hk : k ≤ 3) : ∀ (d fuel c a v : Nat), c + d = k → d < fuel → a ≤ z →
    X12_readNumber_l7 fuel (nI k) (nI v) (nI c) (s_S 14 25 26 (a, false) M) = some (nI (p_nl Lt z d a v).1, s_S 14 25 26 ((p_nl Lt z d a v).2, false) M) := by
  intro d
  induction d with
  | zero =>
    intro fuel c a v hc hf ha
    obtain ⟨n, rfl⟩ : ∃ n, fuel = n + 1 := ⟨fuel - 1, by omega⟩
    rw [X12_readNumber_l7]
    dsimp only
    rw [if_pos (nI_le (by omega) (by omega)), X12_readNumber_j52, p_nl]
  | succ d ih =>
    intro fuel c a v hc hf ha
    obtain ⟨n, rfl⟩ : ∃ n, fuel = n + 1 := ⟨fuel - 1, by omega⟩
    have dd := di_R (b := false) (M := M) h ha
    rw [h_R h ha, q_bnd] at dd
    rw [X12_readNumber_l7]
    dsimp only
    rw [if_neg (nI_ge (by omega) (by omega)), s_rf, if_neg (show ¬ ¬ (0 : Int32) = 0 by decide), h_R h ha, q_bnd, dd, q_bnd, p_nl]
    by_cases q : p_dg Lt z a = true
    · have hd := p_dgT q
      have e : p_num Lt z 1 (a, false) = (Lt a - 48, (a + 1, false)) := by
        unfold p_num
        rw [if_pos (by rw [q]; rfl)]
        rfl
      rw [show (if p_dg Lt z a = true then (1 : Int32) else 0) = 1 from if_pos q, if_neg (show ¬ (1 : Int32) = 0 by decide), dg_R h ha, q_bnd, e, show (10 : Int32) = nI 10 from rfl, pk_mul, nI_add, nI_1, if_pos q, ih n (c + 1) (a + 1) _ (by omega) (by omega) (by omega)]
    · rw [show (if p_dg Lt z a = true then (1 : Int32) else 0) = 0 from if_neg q, if_pos rfl, X12_readNumber_j52, if_neg q]
theorem num_R {Lt : Nat → Nat} {z k a : Nat} {b : Bool} {M : gk_M} (h : p_R Lt z M) (hk1 : 1 ≤ k) (hk : k ≤ 3) (ha : a ≤ z) : f_X12_readNumber (nI k) (s_S 14 25 26 (a, b) M) = some (nI (p_num Lt z k (a, b)).1, s_S 14 25 26 (p_num Lt z k (a, b)).2 M) := by
  rw [f_X12_readNumber, dg_R h ha, q_bnd]
  by_cases q : (!b && p_dg Lt z a) = true
  · have q' : (!b) = true ∧ p_dg Lt z a = true := by simpa using q
    have hd := p_dgT q'.2
    have e : p_num Lt z 1 (a, b) = (Lt a - 48, (a + 1, false)) := by
      unfold p_num
      rw [if_pos q]
      rfl
    have e2 : p_num Lt z k (a, b) = ((p_nl Lt z (k - 1) (a + 1) (Lt a - 48)).1, ((p_nl Lt z (k - 1) (a + 1) (Lt a - 48)).2, false)) := by
      unfold p_num
      rw [if_pos q]
    rw [e, e2]
    exact nl_R h hk (k - 1) 200 1 (a + 1) (Lt a - 48) (by omega) (by omega) (by omega)
  · have e : ∀ k, p_num Lt z k (a, b) = (0, (a, true)) := fun k => by
      unfold p_num
      rw [if_neg q]
    rw [e, e]
    show X12_readNumber_l7 (199 + 1) (nI k) (nI 0) 1 _ = _
    rw [X12_readNumber_l7]
    dsimp only
    rw [s_rt, if_pos (show ¬ (1 : Int32) = 0 by decide), X12_readNumber_j52]
    split <;> rfl
theorem cm_R {Lt : Nat → Nat} {z a : Nat} {b : Bool} {M : gk_M} (h : p_R Lt z M) (ha : a ≤ z) : f_X12_readComma (s_S 14 25 26 (a, b) M) = some ((), s_S 14 25 26 (p_need Lt z 44 (a, b)) M) := by
  have e3 : s_S 14 25 26 (a, b) M 14 0 26 = if b = true then 1 else 0 := s_2
  have no : p_at Lt z 44 (a, b) = false → X12_readComma_j17 (s_S 14 25 26 (a, b) M) = some ((), s_S 14 25 26 (p_need Lt z 44 (a, b)) M) := fun q => by
    unfold p_need
    rw [q, if_neg (by decide), X12_readComma_j17, X12_readComma_j22, q_gd q_b1, q_wr, s_r2, s_rt, if_neg (by decide), X12_readComma_j42, q_wr, s_ra, show (0 : Int32) = nI 0 from rfl, nI_add, s_r1]
    rfl
  rw [f_X12_readComma, e3]
  cases b with
  | true => rw [if_pos (by decide)]; exact no (by simp [p_at])
  | false =>
    rw [if_neg (by decide), h_R h ha, q_bnd]
    by_cases q : a < z
    · have l := (h.2.2 a q).1
      rw [if_pos q]
      by_cases q2 : Lt a = 44
      · have p : p_at Lt z 44 (a, false) = true := by simp [p_at, q, q2]
        unfold p_need
        rw [p, if_pos rfl, if_pos (by rw [q2]; rfl), X12_readComma_j22, q_gd q_b0, q_wr, s_r0, s_rf, if_pos rfl, X12_readComma_j42, q_wr, s_ra, nI_1, s_r1]
      · rw [if_neg (show ¬ nI (Lt a) = 44 from fun w => q2 ((nI_eq (b := 44) (by omega) (by decide)).mp w))]
        exact no (by simp [p_at, q2])
    · rw [if_neg q, if_neg (by decide)]
      exact no (by simp [p_at, q])
theorem sg_R {Lt : Nat → Nat} {z k a : Nat} {b : Bool} {M : gk_M} (h : p_R Lt z M) (hk1 : 1 ≤ k) (hk : k ≤ 3) (ha : a ≤ z) : f_X12_readSigned (nI k) (s_S 14 25 26 (a, b) M) = some ((p_sg Lt z k (a, b)).1, s_S 14 25 26 (p_sg Lt z k (a, b)).2 M) := by
  have e3 : s_S 14 25 26 (a, b) M 14 0 26 = if b = true then 1 else 0 := s_2
  have no : p_at Lt z 45 (a, b) = false → X12_readSigned_j20 (nI k) (s_S 14 25 26 (a, b) M) = some ((p_sg Lt z k (a, b)).1, s_S 14 25 26 (p_sg Lt z k (a, b)).2 M) := fun q => by
    unfold p_sg
    rw [q, if_neg (by decide), X12_readSigned_j20, X12_readSigned_j21, if_pos rfl, X12_readSigned_j36, q_wr, s_ra, show (0 : Int32) = nI 0 from rfl, nI_add, s_r1]
    show gk_bnd (f_X12_readNumber (nI k) (s_S 14 25 26 (a, b) M)) _ = _
    rw [num_R h hk1 hk ha, q_bnd, if_pos (by decide)]
  rw [f_X12_readSigned, e3]
  cases b with
  | true => rw [if_pos (by decide)]; exact no (by simp [p_at])
  | false =>
    rw [if_neg (by decide), h_R h ha, q_bnd]
    by_cases q : a < z
    · have l := (h.2.2 a q).1
      rw [if_pos q]
      by_cases q2 : Lt a = 45
      · have p : p_at Lt z 45 (a, false) = true := by simp [p_at, q, q2]
        unfold p_sg
        rw [p, if_pos rfl, if_neg (fun w => w (by rw [q2]; rfl)), X12_readSigned_j21, if_neg (by decide), X12_readSigned_j36, q_wr, s_ra, nI_1, s_r1, num_R h hk1 hk (show (a, false).1 + 1 ≤ z from q), q_bnd, if_neg (by decide)]
      · rw [if_pos (show ¬ nI (Lt a) = 45 from fun w => q2 ((nI_eq (b := 45) (by omega) (by decide)).mp w))]
        exact no (by simp [p_at, q2])
    · rw [if_neg q, if_pos (by decide)]
      exact no (by simp [p_at, q])
