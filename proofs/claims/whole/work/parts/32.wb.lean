/-! groups: leads, round after round -/
def z_it (e : Nat → Nat → Bool) (N : Nat) : Nat → Nat → Nat
  | 0, w => w
  | k + 1, w => z_it e N k (z_ld e N w)
theorem z_it_s {e : Nat → Nat → Bool} {N : Nat} : ∀ (k w : Nat), z_it e N (k + 1) w = z_ld e N (z_it e N k w)
  | 0, _ => rfl
  | k + 1, w => by rw [z_it, z_it_s k (z_ld e N w)]; rfl
theorem z_it_lt {e : Nat → Nat → Bool} {N : Nat} : ∀ (k w : Nat), w < 2 ^ N → z_it e N k w < 2 ^ N
  | 0, _, h => h
  | k + 1, w, h => z_it_lt k _ (z_ld_lt h)
def z_cn (w : Nat) : Nat → Nat
  | 0 => 0
  | n + 1 => z_cn w n + (if w.testBit n = true then 1 else 0)
theorem z_cn_le {w : Nat} : ∀ n, z_cn w n ≤ n
  | 0 => Nat.le_refl 0
  | n + 1 => by
    have := z_cn_le (w := w) n
    rw [z_cn]
    split <;> omega
theorem z_cn_full {w : Nat} : ∀ n, n ≤ z_cn w n → ∀ t, t < n → w.testBit t = true
  | 0, _, t, h => absurd h (by omega)
  | n + 1, hn, t, h => by
    rw [z_cn] at hn
    have l := z_cn_le (w := w) n
    by_cases q : w.testBit n = true
    · rw [if_pos q] at hn
      by_cases e : t = n
      · subst e; exact q
      · exact z_cn_full n (by omega) t (by omega)
    · rw [if_neg q] at hn
      omega
theorem z_cn_mono {w v : Nat} (h : ∀ t, w.testBit t = true → v.testBit t = true) : ∀ n, z_cn w n ≤ z_cn v n
  | 0 => Nat.le_refl 0
  | n + 1 => by
    have := z_cn_mono h n
    rw [z_cn, z_cn]
    by_cases q : w.testBit n = true
    · rw [if_pos q, if_pos (h n q)]; omega
    · rw [if_neg q]; split <;> omega
theorem z_cn_lt {w v s : Nat} (h : ∀ t, w.testBit t = true → v.testBit t = true) (h1 : ¬ w.testBit s = true) (h2 : v.testBit s = true) : ∀ n, s < n → z_cn w n < z_cn v n
  | 0, hs => absurd hs (by omega)
  | n + 1, hs => by
    rw [z_cn, z_cn]
    by_cases e : s = n
    · subst e
      have := z_cn_mono h s
      rw [if_neg h1, if_pos h2]; omega
    · have := z_cn_lt h h1 h2 n (by omega)
      by_cases q : w.testBit n = true
      · rw [if_pos q, if_pos (h n q)]; omega
      · rw [if_neg q]; split <;> omega
theorem z_lt_bit {w N t : Nat} (h : w < 2 ^ N) (ht : N ≤ t) : w.testBit t = false := Nat.testBit_lt_two_pow (Nat.lt_of_lt_of_le h (Nat.pow_le_pow_right (by decide) ht))
theorem z_fix {e : Nat → Nat → Bool} {N w : Nat} (hw : w < 2 ^ N) (h : ∀ t, t < N → (z_ld e N w).testBit t = true → w.testBit t = true) : z_ld e N w = w := by
  apply Nat.eq_of_testBit_eq
  intro t
  by_cases ht : t < N
  · by_cases q : w.testBit t = true
    · rw [q, z_ld_sub q]
    · have q2 : ¬ (z_ld e N w).testBit t = true := fun z => q (h t ht z)
      simp only [Bool.not_eq_true] at q q2
      rw [q, q2]
  · rw [z_lt_bit hw (by omega), z_lt_bit (z_ld_lt hw) (by omega)]
theorem z_stab {e : Nat → Nat → Bool} {N a : Nat} (ha : a < N) : ∀ k, z_ld e N (z_it e N k (2 ^ a)) = z_it e N k (2 ^ a) ∨ k + 1 ≤ z_cn (z_it e N k (2 ^ a)) N
  | 0 => by
    right
    have h0 := z_cn_lt (w := 0) (v := 2 ^ a) (s := a) (fun t q => by rw [Nat.zero_testBit] at q; exact Bool.noConfusion q) (by rw [Nat.zero_testBit]; decide) (by simp) N ha
    show 0 + 1 ≤ z_cn (2 ^ a) N
    omega
  | k + 1 => by
    rw [z_it_s]
    rcases z_stab ha k (e := e) (N := N) with h | h
    · left; rw [h, h]
    · by_cases q : z_ld e N (z_it e N k (2 ^ a)) = z_it e N k (2 ^ a)
      · left; rw [q, q]
      · right
        have hl : z_it e N k (2 ^ a) < 2 ^ N := z_it_lt k _ (z_2a ha)
        have : ∃ t, t < N ∧ (z_ld e N (z_it e N k (2 ^ a))).testBit t = true ∧ ¬ (z_it e N k (2 ^ a)).testBit t = true := by
          apply Classical.byContradiction
          intro hn
          exact q (z_fix hl (fun t ht ht2 => Classical.byContradiction (fun z => hn ⟨t, ht, ht2, z⟩)))
        obtain ⟨t, ht, t1, t2⟩ := this
        have := z_cn_lt (fun t q => z_ld_sub (e := e) (N := N) q) t2 t1 N ht
        omega
/-- all that leads come to from a -/
def z_C (e : Nat → Nat → Bool) (N a : Nat) : Nat := z_it e N (N - 1) (2 ^ a)
theorem z_C_lt {e : Nat → Nat → Bool} {N a : Nat} (ha : a < N) : z_C e N a < 2 ^ N := z_it_lt _ _ (z_2a ha)
theorem z_C_fix {e : Nat → Nat → Bool} {N a : Nat} (ha : a < N) : z_ld e N (z_C e N a) = z_C e N a := by
  rcases z_stab ha (N - 1) (e := e) with h | h
  · exact h
  · exact z_fix (z_C_lt ha) (fun t ht _ => z_cn_full N (by rw [show N - 1 + 1 = N by omega] at h; exact h) t ht)
theorem z_C_it {e : Nat → Nat → Bool} {N a : Nat} (ha : a < N) : z_it e N N (2 ^ a) = z_C e N a := by
  have : z_it e N N (2 ^ a) = z_it e N (N - 1 + 1) (2 ^ a) := by rw [show N - 1 + 1 = N by omega]
  rw [this, z_it_s]
  exact z_C_fix ha
theorem z_it_sub {e : Nat → Nat → Bool} {N : Nat} : ∀ (k w t : Nat), w.testBit t = true → (z_it e N k w).testBit t = true
  | 0, _, _, h => h
  | k + 1, w, t, h => z_it_sub k _ t (z_ld_sub h)
theorem z_C_self {e : Nat → Nat → Bool} {N a : Nat} : (z_C e N a).testBit a = true := z_it_sub _ _ _ (by simp)
theorem z_C_step {e : Nat → Nat → Bool} {N a i t : Nat} (ha : a < N) (hi : i < N) (ht : t < N) (h : (z_C e N a).testBit i = true) (he : e i t = true) : (z_C e N a).testBit t = true := by
  rw [← z_C_fix ha, z_ld_bit, decide_eq_true ht, (z_any_iff (c := fun i => (z_C e N a).testBit i && e i t) N 0).mpr ⟨i, by omega, by omega, by show ((z_C e N a).testBit i && e i t) = true; rw [h, he]; rfl⟩]
  simp
theorem z_it_cl {e : Nat → Nat → Bool} {N a : Nat} (ha : a < N) : ∀ (k w : Nat), w < 2 ^ N → (∀ t, w.testBit t = true → (z_C e N a).testBit t = true) → ∀ t, (z_it e N k w).testBit t = true → (z_C e N a).testBit t = true
  | 0, _, _, h => h
  | k + 1, w, hw, h => by
    refine z_it_cl ha k (z_ld e N w) (z_ld_lt hw) (fun t ht => ?_)
    rw [z_ld_bit] at ht
    by_cases q : w.testBit t = true
    · exact h t q
    · simp only [Bool.not_eq_true] at q
      rw [q, Bool.false_or, Bool.and_eq_true, decide_eq_true_iff, z_any_iff] at ht
      obtain ⟨htN, i, -, hi, hie⟩ := ht
      rw [Bool.and_eq_true] at hie
      exact z_C_step ha (by omega) htN (h i hie.1) hie.2
theorem z_C_sub {e : Nat → Nat → Bool} {N a i : Nat} (ha : a < N) (hi : i < N) (h : (z_C e N a).testBit i = true) : ∀ t, (z_C e N i).testBit t = true → (z_C e N a).testBit t = true :=
  z_it_cl ha (N - 1) (2 ^ i) (z_2a hi) (fun t ht => by
    by_cases q : i = t
    · subst q; exact h
    · rw [Nat.testBit_two_pow_of_ne q] at ht; exact Bool.noConfusion ht)
theorem z_it_sy {e : Nat → Nat → Bool} {N a : Nat} (ha : a < N) (he : ∀ i j, i < N → j < N → e i j = e j i) : ∀ (k t : Nat), t < N → (z_it e N k (2 ^ a)).testBit t = true → (z_C e N t).testBit a = true
  | 0, t, ht, h => by
    by_cases q : a = t
    · subst q; exact z_C_self
    · have h : (2 ^ a).testBit t = true := h
      rw [Nat.testBit_two_pow_of_ne q] at h; exact Bool.noConfusion h
  | k + 1, t, ht, h => by
    rw [z_it_s, z_ld_bit] at h
    by_cases q : (z_it e N k (2 ^ a)).testBit t = true
    · exact z_it_sy ha he k t ht q
    · simp only [Bool.not_eq_true] at q
      rw [q, Bool.false_or, Bool.and_eq_true, z_any_iff] at h
      obtain ⟨-, i, -, hi, hie⟩ := h
      rw [Bool.and_eq_true] at hie
      have hi : i < N := by omega
      have h1 := z_it_sy ha he k i hi hie.1
      have h2 : (z_C e N t).testBit i = true := z_C_step ht ht hi z_C_self (by rw [he t i ht hi]; exact hie.2)
      exact z_C_sub ht hi h2 a h1
theorem z_C_sy {e : Nat → Nat → Bool} {N a t : Nat} (ha : a < N) (ht : t < N) (he : ∀ i j, i < N → j < N → e i j = e j i) (h : (z_C e N a).testBit t = true) : (z_C e N t).testBit a = true := z_it_sy ha he _ t ht h
/-! the class's rounds, and the reference's -/
theorem h_grpC {k N dd : Nat} (hk : k < 3) {M : gk_M} (hwf : a_wf (a_c k M) N dd) : ∀ (d fuel m w : Nat), m + d = N → d < fuel → w < 2 ^ N →
    X4_groupOf_l6 fuel k (nI w) (nI m) M = some (nI (z_it (z_e (a_c k M)) N d w), M) := by
  have hN := hwf.1
  have hc := hwf.cnt
  intro d
  induction d with
  | zero =>
    intro fuel m w hm hf hw
    obtain ⟨n, rfl⟩ : ∃ n, fuel = n + 1 := ⟨fuel - 1, by omega⟩
    have hcond : M 2 k 3 ≤ nI m := by rw [hc]; exact nI_le (by omega) (by omega)
    simp only [X4_groupOf_l6, q_gd (q_lt hk), if_pos hcond, z_it]
  | succ d ih =>
    intro fuel m w hm hf hw
    obtain ⟨n, rfl⟩ : ∃ n, fuel = n + 1 := ⟨fuel - 1, by omega⟩
    have hcond : ¬ M 2 k 3 ≤ nI m := by rw [hc]; exact nI_ge (by omega) (by omega)
    rw [X4_groupOf_l6]
    dsimp only
    rw [q_gd (q_lt hk), if_neg hcond, h_ldC hk hwf (z_p6 hN hw), q_bnd, nI_1, ih n (m + 1) _ (by omega) (by omega) (z_ld_lt hw), z_it]
def z_lone (e : Nat → Nat → Bool) (N i : Nat) : Bool := !z_any (fun j => (z_C e N i).testBit j) i 0
theorem h_gsC {N dd : Nat} {M : gk_M} (hwf : a_wf (a_c 0 M) N dd) : ∀ (d fuel i g n : Nat), i + d = N → d < fuel → g < 2 ^ N → (∀ t, t < N → (g.testBit t = true ↔ ∃ j, j < i ∧ (z_C (z_e (a_c 0 M)) N j).testBit t = true)) →
    X11_groups_l6 fuel (nI g) (nI n) (nI i) M = some (nI (n + sN (fun i => if z_lone (z_e (a_c 0 M)) N i = true then 1 else 0) d i), M) := by
  have hN := hwf.1
  have hc := hwf.cnt
  have sy : ∀ i j, i < N → j < N → z_e (a_c 0 M) i j = z_e (a_c 0 M) j i := fun i j hi hj => by unfold z_e; rw [z_gp_sy hwf hi hj]
  intro d
  induction d with
  | zero =>
    intro fuel i g n hi hf hg hh
    obtain ⟨f, rfl⟩ : ∃ f, fuel = f + 1 := ⟨fuel - 1, by omega⟩
    have hcond : M 2 0 3 ≤ nI i := by rw [hc]; exact nI_le (by omega) (by omega)
    simp only [X11_groups_l6, if_pos hcond, sN, Nat.add_zero]
  | succ d ih =>
    intro fuel i g n hi hf hg hh
    obtain ⟨f, rfl⟩ : ∃ f, fuel = f + 1 := ⟨fuel - 1, by omega⟩
    have hcond : ¬ M 2 0 3 ≤ nI i := by rw [hc]; exact nI_ge (by omega) (by omega)
    have hiN : i < N := by omega
    have hb := (b_has g (z_p6 hN hg) i (by omega)).1
    have hlone : z_lone (z_e (a_c 0 M)) N i = true ↔ ¬ g.testBit i = true := by
      unfold z_lone
      rw [Bool.not_eq_true', ← Bool.not_eq_true, z_any_iff, hh i hiN]
      refine not_congr ⟨?_, ?_⟩
      · rintro ⟨j, -, hj, hji⟩
        exact ⟨j, by omega, z_C_sy hiN (by omega) sy hji⟩
      · rintro ⟨j, hj, hji⟩
        exact ⟨j, by omega, by omega, z_C_sy (by omega) hiN sy hji⟩
    rw [X11_groups_l6]
    dsimp only
    rw [if_neg hcond, sN]
    by_cases q : g.testBit i = true
    · have q' : ¬ nI g &&& (1 : Int32) <<< (nI i &&& 31) = 0 := fun z => by rw [hb.mp z] at q; exact Bool.noConfusion q
      rw [if_pos q', X11_groups_j39, nI_1, if_neg (fun z => hlone.mp z q), Nat.zero_add]
      refine ih f (i + 1) g n (by omega) (by omega) hg (fun t ht => ?_)
      rw [hh t ht]
      constructor
      · rintro ⟨j, hj, hjt⟩
        exact ⟨j, by omega, hjt⟩
      · rintro ⟨j, hj, hjt⟩
        by_cases e : j = i
        · subst e
          obtain ⟨j', hj', hj'i⟩ := (hh j hiN).mp q
          exact ⟨j', hj', z_C_sub (by omega) hiN hj'i t hjt⟩
        · exact ⟨j, by omega, hjt⟩
    · have q' : nI g &&& (1 : Int32) <<< (nI i &&& 31) = 0 := hb.mpr (by simpa using q)
      have hC := z_C_lt (e := z_e (a_c 0 M)) hiN
      have gr : f_X4_groupOf 0 (nI i) M = some (nI (z_C (z_e (a_c 0 M)) N i), M) := by
        rw [f_X4_groupOf, q_gd (q_lt (by decide)), b_one i (by omega)]
        exact h_grpC (by decide) hwf (N - 1) 200 1 (2 ^ i) (by omega) (by omega) (z_2a hiN)
      rw [if_neg (fun z => z q'), gr, q_bnd, X11_groups_j39, nI_1, nI_1, b_or', if_pos (hlone.mpr q)]
      rw [ih f (i + 1) _ (n + 1) (by omega) (by omega) (Nat.or_lt_two_pow hg hC) (fun t ht => ?_), Nat.add_assoc]
      rw [Nat.testBit_or, Bool.or_eq_true, hh t ht]
      constructor
      · rintro (⟨j, hj, hjt⟩ | hit)
        · exact ⟨j, by omega, hjt⟩
        · exact ⟨i, by omega, hit⟩
      · rintro ⟨j, hj, hjt⟩
        by_cases e : j = i
        · subst e; exact Or.inr hjt
        · exact Or.inl ⟨j, by omega, hjt⟩
theorem h_grpR {N dd i : Nat} {M : gk_M} (hwf : a_wf (a_r M) N dd) {n : Nat} {κ : Int32 → Int32 → gk_M → Option (Int32 × gk_M)} : ∀ (d fuel m w : Nat), m + d = N → d < fuel → w < 2 ^ N →
    X12_groups_l24 κ fuel (nI n) (nI i) (nI w) (nI m) M = if ¬ (nI (z_it (z_e (a_r M)) N d w) &&& ((1 : Int32) <<< (nI i &&& 31) - 1)) = 0 then κ (nI n + 0) (nI i + 1) M else κ (nI n + 1) (nI i + 1) M := by
  have hN := hwf.1
  have hc := hwf.cntR
  intro d
  induction d with
  | zero =>
    intro fuel m w hm hf hw
    obtain ⟨f, rfl⟩ : ∃ f, fuel = f + 1 := ⟨fuel - 1, by omega⟩
    have hcond : M 14 0 0 ≤ nI m := by rw [hc]; exact nI_le (by omega) (by omega)
    rw [X12_groups_l24]
    dsimp only
    rw [if_pos hcond]
    rfl
  | succ d ih =>
    intro fuel m w hm hf hw
    obtain ⟨f, rfl⟩ : ∃ f, fuel = f + 1 := ⟨fuel - 1, by omega⟩
    have hcond : ¬ M 14 0 0 ≤ nI m := by rw [hc]; exact nI_ge (by omega) (by omega)
    rw [X12_groups_l24]
    dsimp only
    rw [if_neg hcond, h_ldR hwf (z_p6 hN hw), q_bnd, nI_1, ih f (m + 1) _ (by omega) (by omega) (z_ld_lt hw), z_it]
theorem b_low : ∀ w, w < 64 → ∀ i, i < 6 → ((nI w &&& ((1 : Int32) <<< (nI i &&& 31) - 1)) = 0 ↔ z_any (fun j => w.testBit j) i 0 = false) := by decide +kernel
theorem h_gsR {N dd : Nat} {M : gk_M} (hwf : a_wf (a_r M) N dd) : ∀ (d fuel i n : Nat), i + d = N → d < fuel →
    X12_groups_l9 fuel (nI n) (nI i) M = some (nI (n + sN (fun i => if z_lone (z_e (a_r M)) N i = true then 1 else 0) d i), M) := by
  have hN := hwf.1
  have hc := hwf.cntR
  intro d
  induction d with
  | zero =>
    intro fuel i n hi hf
    obtain ⟨f, rfl⟩ : ∃ f, fuel = f + 1 := ⟨fuel - 1, by omega⟩
    have hcond : M 14 0 0 ≤ nI i := by rw [hc]; exact nI_le (by omega) (by omega)
    simp only [X12_groups_l9, if_pos hcond, sN, Nat.add_zero]
  | succ d ih =>
    intro fuel i n hi hf
    obtain ⟨f, rfl⟩ : ∃ f, fuel = f + 1 := ⟨fuel - 1, by omega⟩
    have hcond : ¬ M 14 0 0 ≤ nI i := by rw [hc]; exact nI_ge (by omega) (by omega)
    have hiN : i < N := by omega
    have l := h_grpR (i := i) hwf (n := n) (κ := X12_groups_l9 f) N 200 0 (2 ^ i) (by omega) (by omega) (z_2a hiN)
    have hb := b_low (z_C (z_e (a_r M)) N i) (z_p6 hN (z_C_lt hiN)) i (by omega)
    rw [X12_groups_l9]
    dsimp only
    rw [if_neg hcond, b_one i (by omega), show X12_groups_l24 (X12_groups_l9 f) 200 (nI n) (nI i) (nI (2 ^ i)) 0 M = _ from l, z_C_it hiN, sN]
    by_cases q : z_any (fun j => (z_C (z_e (a_r M)) N i).testBit j) i 0 = false
    · have q2 : z_lone (z_e (a_r M)) N i = true := by unfold z_lone; rw [q]; rfl
      rw [if_neg (fun z => z (hb.mpr q)), if_pos q2, nI_1, nI_1, ih f (i + 1) (n + 1) (by omega) (by omega), Nat.add_assoc]
    · have q2 : ¬ z_lone (z_e (a_r M)) N i = true := by
        unfold z_lone
        simp only [Bool.not_eq_false] at q
        rw [q]; decide
      rw [if_pos (fun z => q (hb.mp z)), if_neg q2, show (0 : Int32) = nI 0 from rfl, nI_add, Nat.add_zero, nI_1, ih f (i + 1) n (by omega) (by omega), Nat.zero_add]
theorem w_groups {M : gk_M} (h : i_ok M) : i_same Int32 f_X11_groups f_X12_groups M := by
  obtain ⟨N, dd, hd, hw, hc, hN, c0, r0, hwc⟩ := h.get
  have hw' : a_wf (a_r (gk_up M 14 0 13 0)) N dd := by rw [i_th.st r0 hN]; exact hw
  refine i_read h (r := nI (0 + sN (fun i => if z_lone (z_e (a_r M)) N i = true then 1 else 0) N 0)) ?_ ?_
  · rw [f_X11_groups, ← hc]
    exact h_gsC hwc N 200 0 0 0 (by omega) (by omega) (Nat.two_pow_pos N) (fun t ht => by
      rw [Nat.zero_testBit]
      exact ⟨fun z => Bool.noConfusion z, fun ⟨j, hj, _⟩ => absurd hj (by omega)⟩)
  · rw [f_X12_groups, q_wr, ← i_th.st r0 hN]
    exact h_gsR hw' N 200 0 0 (by omega) (by omega)
