/-! pack -/
theorem p_go {Lt : Nat → Nat} {z k : Nat} (h : ¬ p_end Lt z k) : (p_p Lt z k).2 = false ∧ (k = 0 ∨ (p_p Lt z k).1 < z) := by
  simp only [p_end, not_or, Bool.not_eq_true] at h
  exact ⟨h.1, by omega⟩
theorem p_pair {Lt : Nat → Nat} {z k : Nat} (h : (p_p Lt z k).2 = false) : p_p Lt z k = ((p_p Lt z k).1, false) := by rw [← h]
theorem h_pkF {Lt : Nat → Nat} {z K p : Nat} (hK : K ≤ 27) (hp : p ≤ 80) (he : p_end Lt z K) (hl : ∀ k, k < K → ¬ p_end Lt z k) : ∀ (d fuel k n : Nat) (M : gk_M), k + d = K → d < fuel → p_C Lt z M → n ≤ 6 → M 2 1 3 = nI n →
    ∃ M', X6_readInto_l14 fuel 1 (nI p) (nI k) (s_S 3 2 3 (p_p Lt z k) M) = X6_readInto_j74 (nI p) (nI K) (s_S 3 2 3 (p_p Lt z K) M') ∧ a_Ch 1 M M' := by
  intro d
  induction d with
  | zero =>
    intro fuel k n M hk hf h hn hc
    obtain ⟨f, rfl⟩ : ∃ f, fuel = f + 1 := ⟨fuel - 1, by omega⟩
    obtain rfl : k = K := by omega
    refine ⟨M, ?_, a_Ch.rf⟩
    rw [X6_readInto_l14]
    dsimp only
    rw [q_gd (q_lt (by decide)), if_neg (show ¬ (80 : Int32) < nI k from nI_nlt (a := 80) (by omega) (by omega)), s_2]
    rcases he with he | ⟨he1, he2⟩
    · rw [he, if_pos (show ¬ (if true = true then (1 : Int32) else 0) = 0 by decide)]
    · by_cases q : (p_p Lt z k).2 = true
      · rw [q, if_pos (show ¬ (if true = true then (1 : Int32) else 0) = 0 by decide)]
      · have q' : (p_p Lt z k).2 = false := by simpa using q
        have l := p_p_le (Lt := Lt) (z := z) k
        rw [q', if_neg (show ¬ ¬ (if false = true then (1 : Int32) else 0) = 0 by decide), if_neg (nI_ne0 (by omega) (by omega)), s_1 (by decide), s_n (by omega), h.2.1, if_pos (nI_le (by omega) (by have := h.1; omega))]
  | succ d ih =>
    intro fuel k n M hk hf h hn hc
    obtain ⟨f, rfl⟩ : ∃ f, fuel = f + 1 := ⟨fuel - 1, by omega⟩
    obtain ⟨g1, g2⟩ := p_go (hl k (by omega))
    have l := p_p_le (Lt := Lt) (z := z) k
    obtain ⟨k1, k2, n', hn', hc'⟩ := k_apC (c := p_l Lt z (p_p Lt z k).1) (v := p_v Lt z (p_p Lt z k).1) hn hc
    obtain ⟨M', f1, f2⟩ := ih f (k + 1) n' (k_ap (p_l Lt z (p_p Lt z k).1) (p_v Lt z (p_p Lt z k).1) M).2 (by omega) (by omega) (h.ch k2) hn' hc'
    refine ⟨M', ?_, k2.tr f2⟩
    have st := st_C h l hn hc
    rw [← p_pair g1] at st
    have body : X6_readInto_j42 (X6_readInto_l14 f) 1 (nI p) (nI k) (s_S 3 2 3 (p_p Lt z k) M) = X6_readInto_l14 f 1 (nI p) (nI (k + 1)) (s_S 3 2 3 (p_p Lt z (k + 1)) (k_ap (p_l Lt z (p_p Lt z k).1) (p_v Lt z (p_p Lt z k).1) M).2) := by
      have pm : ¬ nI p = -1 := by
        rw [z_eq, z_n (by omega)]
        intro w
        have : ((p : Nat) : Int) = -1 := w
        omega
      rw [X6_readInto_j42, q_gd (q_lt (by decide)), st, q_bnd]
      rcases k1 with k1 | k1
      · rw [k1, if_neg (by decide), if_pos pm, X6_readInto_j68, q_gd (q_lt (by decide)), nI_1]; rfl
      · rw [k1, if_pos (by decide), X6_readInto_j68, q_gd (q_lt (by decide)), nI_1]; rfl
    rw [← f1, ← body, X6_readInto_l14]
    dsimp only
    rw [q_gd (q_lt (by decide)), if_neg (show ¬ (80 : Int32) < nI k from nI_nlt (a := 80) (by omega) (by omega)), s_2, g1, if_neg (show ¬ ¬ (if false = true then (1 : Int32) else 0) = 0 by decide)]
    by_cases q : k = 0
    · rw [if_pos (by rw [q]; rfl)]
    · have g3 : (p_p Lt z k).1 < z := by omega
      rw [if_neg (nI_ne0 (by omega) (by omega)), s_1 (by decide), s_n (by omega), h.2.1, if_neg (nI_ge g3 (by have := h.1; omega))]
theorem h_pkG {Lt : Nat → Nat} {z K dd : Nat} (hK : K ≤ 27) (hz : z ≤ 80) (he : p_end Lt z K) (hl : ∀ k, k < K → ¬ p_end Lt z k) : ∀ (d fuel k n : Nat) (M : gk_M), k + d = K → d < fuel → p_C Lt z M → a_wf (a_c 1 M) n dd →
    ∃ M' x, X6_readInto_l14 fuel 1 (-1) (nI k) (s_S 3 2 3 (p_p Lt z k) M) = X6_readInto_j74 x (nI K) (s_S 3 2 3 (p_p Lt z K) M') ∧ a_Ch 1 M M' ∧ ((s_run Lt z d k (a_c 1 M) n).1 = none → x = -1 ∧ a_c 1 M' = (s_run Lt z d k (a_c 1 M) n).2.1) ∧ ∀ f, (s_run Lt z d k (a_c 1 M) n).1 = some f → x = nI (p_p Lt z f).1 := by
  intro d
  induction d with
  | zero =>
    intro fuel k n M hk hf h hw
    obtain ⟨f, rfl⟩ : ∃ f, fuel = f + 1 := ⟨fuel - 1, by omega⟩
    obtain rfl : k = K := by omega
    refine ⟨M, -1, ?_, a_Ch.rf, fun _ => ⟨rfl, rfl⟩, fun f w => by cases w⟩
    rw [X6_readInto_l14]
    dsimp only
    rw [q_gd (q_lt (by decide)), if_neg (show ¬ (80 : Int32) < nI k from nI_nlt (a := 80) (by omega) (by omega)), s_2]
    rcases he with he | ⟨he1, he2⟩
    · rw [he, if_pos (show ¬ (if true = true then (1 : Int32) else 0) = 0 by decide)]
    · by_cases q : (p_p Lt z k).2 = true
      · rw [q, if_pos (show ¬ (if true = true then (1 : Int32) else 0) = 0 by decide)]
      · have q' : (p_p Lt z k).2 = false := by simpa using q
        have l := p_p_le (Lt := Lt) (z := z) k
        rw [q', if_neg (show ¬ ¬ (if false = true then (1 : Int32) else 0) = 0 by decide), if_neg (nI_ne0 (by omega) (by omega)), s_1 (by decide), s_n (by omega), h.2.1, if_pos (nI_le (by omega) (by omega))]
  | succ d ih =>
    intro fuel k n M hk hf h hw
    obtain ⟨f, rfl⟩ : ∃ f, fuel = f + 1 := ⟨fuel - 1, by omega⟩
    obtain ⟨g1, g2⟩ := p_go (hl k (by omega))
    have l := p_p_le (Lt := Lt) (z := z) k
    have hn := hw.1
    have hc := hw.cnt
    obtain ⟨-, k2, n', hn', hc'⟩ := k_apC (c := p_l Lt z (p_p Lt z k).1) (v := p_v Lt z (p_p Lt z k).1) hn hc
    obtain ⟨m1, m2⟩ := k_apG (c := p_l Lt z (p_p Lt z k).1) (v := p_v Lt z (p_p Lt z k).1) hw p_v_rg
    have st := st_C h l hn hc
    rw [← p_pair g1] at st
    have step : X6_readInto_l14 (f + 1) 1 (-1) (nI k) (s_S 3 2 3 (p_p Lt z k) M) = X6_readInto_j42 (X6_readInto_l14 f) 1 (-1) (nI k) (s_S 3 2 3 (p_p Lt z k) M) := by
      rw [X6_readInto_l14]
      dsimp only
      rw [q_gd (q_lt (by decide)), if_neg (show ¬ (80 : Int32) < nI k from nI_nlt (a := 80) (by omega) (by omega)), s_2, g1, if_neg (show ¬ ¬ (if false = true then (1 : Int32) else 0) = 0 by decide)]
      by_cases q : k = 0
      · rw [if_pos (by rw [q]; rfl)]
      · have g3 : (p_p Lt z k).1 < z := by omega
        rw [if_neg (nI_ne0 (by omega) (by omega)), s_1 (by decide), s_n (by omega), h.2.1, if_neg (nI_ge g3 (by omega))]
    rw [s_run]
    cases q : s_ap (a_c 1 M) n (p_l Lt z (p_p Lt z k).1) (p_v Lt z (p_p Lt z k).1) with
    | none =>
      obtain ⟨M', f1, f2⟩ := h_pkF (Lt := Lt) (z := z) (K := K) (p := (p_p Lt z k).1) hK (by omega) he hl d f (k + 1) n' (k_ap (p_l Lt z (p_p Lt z k).1) (p_v Lt z (p_p Lt z k).1) M).2 (by omega) (by omega) (h.ch k2) hn' hc'
      refine ⟨M', nI (p_p Lt z k).1, ?_, k2.tr f2, fun w => (by cases w), fun g w => (by injection w with w; rw [w])⟩
      rw [step, ← f1, X6_readInto_j42, q_gd (q_lt (by decide)), st, q_bnd, m1 q, if_neg (by decide), if_neg (by decide), X6_readInto_j68, q_gd (q_lt (by decide)), nI_1, s_1 (by decide)]
      rfl
    | some r =>
      obtain ⟨B', n2⟩ := r
      obtain ⟨t1, t2⟩ := m2 B' n2 q
      have hw' : a_wf (a_c 1 (k_ap (p_l Lt z (p_p Lt z k).1) (p_v Lt z (p_p Lt z k).1) M).2) n2 dd := by rw [t2]; exact s_ap_wf hw p_v_rg q
      obtain ⟨M', x, f1, f2, f3, f4⟩ := ih f (k + 1) n2 (k_ap (p_l Lt z (p_p Lt z k).1) (p_v Lt z (p_p Lt z k).1) M).2 (by omega) (by omega) (h.ch k2) hw'
      rw [t2] at f3 f4
      refine ⟨M', x, ?_, k2.tr f2, f3, f4⟩
      rw [step, ← f1, X6_readInto_j42, q_gd (q_lt (by decide)), st, q_bnd, t1, if_pos (by decide), X6_readInto_j68, q_gd (q_lt (by decide)), nI_1]
      rfl
theorem h_pkR1 {Lt : Nat → Nat} {z K : Nat} (hK : K ≤ 27) (he : p_end Lt z K) (hl : ∀ k, k < K → ¬ p_end Lt z k) : ∀ (d fuel k : Nat) (M : gk_M), k + d = K → d < fuel → p_R Lt z M → M 14 0 27 = nI k →
    ∃ M', X12_pack_l20 fuel (s_S 14 25 26 (p_p Lt z k) M) = X12_pack_j52 (s_S 14 25 26 (p_p Lt z K) M') ∧ M' 14 0 27 = nI K ∧ (∀ i, k ≤ i → i < K → (p_p Lt z (i + 1)).2 = false → r_rec Lt z i (p_p Lt z i).1 M') ∧ (∀ c i j, ¬ (c = 20 ∧ k ≤ j) → ¬ (c = 21 ∧ 6 * k ≤ j) → ¬ (c = 14 ∧ i = 0 ∧ j = 27) → M' c i j = M c i j) := by
  intro d
  induction d with
  | zero =>
    intro fuel k M hk hf h h27
    obtain ⟨f, rfl⟩ : ∃ f, fuel = f + 1 := ⟨fuel - 1, by omega⟩
    obtain rfl : k = K := by omega
    refine ⟨M, ?_, h27, fun i h1 h2 => by omega, fun _ _ _ _ _ _ => rfl⟩
    rw [X12_pack_l20]
    dsimp only
    rw [s_2]
    rcases he with he | ⟨he1, he2⟩
    · rw [he, if_pos (show ¬ (if true = true then (1 : Int32) else 0) = 0 by decide)]
    · by_cases q : (p_p Lt z k).2 = true
      · rw [q, if_pos (show ¬ (if true = true then (1 : Int32) else 0) = 0 by decide)]
      · have q' : (p_p Lt z k).2 = false := by simpa using q
        have l := p_p_le (Lt := Lt) (z := z) k
        have e27 : s_S 14 25 26 (p_p Lt z k) M 14 0 27 = nI k := by rw [s_n (by omega)]; exact h27
        have e24 : s_S 14 25 26 (p_p Lt z k) M 14 0 24 = nI z := by rw [s_n (by omega)]; exact h.2.1
        rw [q', if_neg (show ¬ ¬ (if false = true then (1 : Int32) else 0) = 0 by decide), e27, if_neg (nI_ne0 (by omega) (by omega)), s_1 (by decide), e24, if_pos (nI_le (by omega) (by have := h.1; omega))]
  | succ d ih =>
    intro fuel k M hk hf h h27
    obtain ⟨f, rfl⟩ : ∃ f, fuel = f + 1 := ⟨fuel - 1, by omega⟩
    obtain ⟨g1, g2⟩ := p_go (hl k (by omega))
    have l := p_p_le (Lt := Lt) (z := z) k
    obtain ⟨M1, s1, s2, s3, s4⟩ := st_R h l (show k < 28 by omega) h27
    rw [← p_pair g1] at s1
    have h1 : p_R Lt z M1 := h.fr (fun c i j q1 q2 q3 => s4 c i j (by omega) (by omega) q3)
    obtain ⟨M', f1, f2, f3, f4⟩ := ih f (k + 1) M1 (by omega) (by omega) h1 s2
    refine ⟨M', ?_, f2, fun i i1 i2 i3 => ?_, fun c i j q1 q2 q3 => ?_⟩
    · have e27 : s_S 14 25 26 (p_p Lt z k) M 14 0 27 = nI k := by rw [s_n (by omega)]; exact h27
      have e24 : s_S 14 25 26 (p_p Lt z k) M 14 0 24 = nI z := by rw [s_n (by omega)]; exact h.2.1
      have body : X12_pack_j45 (X12_pack_l20 f) (s_S 14 25 26 (p_p Lt z k) M) = X12_pack_j52 (s_S 14 25 26 (p_p Lt z K) M') := by
        rw [X12_pack_j45, s1, q_bnd]; exact f1
      rw [X12_pack_l20]
      dsimp only
      rw [s_2, g1, if_neg (show ¬ ¬ (if false = true then (1 : Int32) else 0) = 0 by decide), e27, e24, body]
      by_cases q : k = 0
      · rw [if_pos (by rw [q]; rfl)]
      · have g3 : (p_p Lt z k).1 < z := by omega
        rw [if_neg (nI_ne0 (by omega) (by omega)), s_1 (by decide), if_neg (nI_ge g3 (by have := h.1; omega))]
    · by_cases e : i = k
      · subst e
        obtain ⟨t1, t2, t3, t4, t5⟩ := s3 i3
        exact ⟨by rw [f4 _ _ _ (by omega) (by omega) (by omega)]; exact t1, by rw [f4 _ _ _ (by omega) (by omega) (by omega)]; exact t2, fun w j hj => by rw [f4 _ _ _ (by omega) (by omega) (by omega)]; exact t3 w j hj, fun w j hj => by rw [f4 _ _ _ (by omega) (by omega) (by omega)]; exact t4 w j hj, by rw [f4 _ _ _ (by omega) (by omega) (by omega)]; exact t5⟩
      · exact f3 i (by omega) i2 i3
    · rw [f4 c i j (by omega) (by omega) q3, s4 c i j (by omega) (by omega) q3]
theorem r_rec.rc {Lt : Nat → Nat} {z k a : Nat} {M M' : gk_M} (h : r_rec Lt z k a M) (hc : r_RC M M') : r_rec Lt z k a M' := by
  obtain ⟨t1, t2, t3, t4, t5⟩ := h
  exact ⟨by rw [hc _ _ _ (by unfold r_st; omega)]; exact t1, by rw [hc _ _ _ (by unfold r_st; omega)]; exact t2, fun w j hj => by rw [hc _ _ _ (by unfold r_st; omega)]; exact t3 w j hj, fun w j hj => by rw [hc _ _ _ (by unfold r_st; omega)]; exact t4 w j hj, by rw [hc _ _ _ (by unfold r_st; omega)]; exact t5⟩
theorem h_pkR2 {Lt : Nat → Nat} {z K dd : Nat} (hK : K ≤ 27) (hg : ∀ k, k < K → (p_p Lt z (k + 1)).2 = false) : ∀ (d fuel k n : Nat) (M : gk_M), k + d = K → d < fuel → M 14 0 27 = nI K → (∀ i, i < K → r_rec Lt z i (p_p Lt z i).1 M) → a_wf (a_r M) n dd →
    ∃ M', r_RC M M' ∧ ((s_run Lt z d k (a_r M) n).1 = none → X12_pack_l79 fuel (nI k) M = some (nI K, M') ∧ a_r M' = (s_run Lt z d k (a_r M) n).2.1) ∧ ∀ f, (s_run Lt z d k (a_r M) n).1 = some f → X12_pack_l79 fuel (nI k) M = some (-2000 - nI (p_p Lt z f).1, c_F 0 55 M') := by
  intro d
  induction d with
  | zero =>
    intro fuel k n M hk hf h27 hr hw
    obtain ⟨f, rfl⟩ : ∃ f, fuel = f + 1 := ⟨fuel - 1, by omega⟩
    refine ⟨M, r_RC.rf, fun _ => ⟨?_, rfl⟩, fun f w => by cases w⟩
    rw [X12_pack_l79]
    dsimp only
    rw [h27, if_pos (nI_le (by omega) (by omega))]
  | succ d ih =>
    intro fuel k n M hk hf h27 hr hw
    obtain ⟨f, rfl⟩ : ∃ f, fuel = f + 1 := ⟨fuel - 1, by omega⟩
    have l := p_p_le (Lt := Lt) (z := z) k
    have ok := ((p_e_le (Lt := Lt) l).2 (hg k (by omega))).2
    obtain ⟨m1, m2⟩ := co_R (hr k (by omega)) hw (show k < 28 by omega) ok
    have hc : ¬ M 14 0 27 ≤ nI k := by rw [h27]; exact nI_ge (by omega) (by omega)
    rw [s_run]
    cases q : s_ap (a_r M) n (p_l Lt z (p_p Lt z k).1) (p_v Lt z (p_p Lt z k).1) with
    | none =>
      obtain ⟨M1, e1, e2⟩ := m1 q
      refine ⟨M1, e2, fun w => (by cases w), fun g w => ?_⟩
      injection w with w
      subst w
      have r1 := ((hr k (by omega)).rc e2).1
      rw [X12_pack_l79]
      dsimp only
      rw [if_neg hc, e1, q_bnd, if_neg (by decide), h_close, q_bnd, q_gd (q_in (show k < 28 by omega) (by decide)), q_cl (by omega), c_Fn (by omega) (by omega) (by omega) (by omega), r1]
    | some r =>
      obtain ⟨B', n2⟩ := r
      obtain ⟨M1, e1, e2, e3⟩ := m2 B' n2 q
      have hw' : a_wf (a_r M1) n2 dd := by rw [e3]; exact s_ap_wf hw p_v_rg q
      obtain ⟨M', f1, f2, f3⟩ := ih f (k + 1) n2 M1 (by omega) (by omega) (by rw [e2 14 0 27 (by unfold r_st; omega)]; exact h27) (fun i hi => (hr i hi).rc e2) hw'
      rw [e3] at f2 f3
      have st : X12_pack_l79 (f + 1) (nI k) M = X12_pack_l79 f (nI (k + 1)) M1 := by
        rw [X12_pack_l79]
        dsimp only
        rw [if_neg hc, e1, q_bnd, if_pos (by decide), nI_1]
      refine ⟨M', e2.tr f1, fun w => ?_, fun g w => ?_⟩
      · rw [st]; exact f2 w
      · rw [st]; exact f3 g w
/-- cells that stay at a pack -/
def p_kp (c i j : Nat) : Prop := c = 6 ∨ (c = 14 ∧ i = 0 ∧ (j = 19 ∨ j = 32)) ∨ (c = 18 ∧ i = 1) ∨ ((c = 2 ∨ c = 7 ∨ c = 8) ∧ i = 2) ∨ (c = 5 ∧ i / 6 = 2) ∨ c = 12 ∨ c = 22 ∨ c = 13 ∨ c = 17
theorem i_pk {M M' : gk_M} (h : i_ok M) (hk : ∀ c i j, p_kp c i j → M' c i j = M c i j) (h3 : M' 3 0 1 = 0) (h24 : M' 14 0 24 = 0) {A : a_S} {N dd : Nat} (hc : a_c 0 M' = A) (hr : a_r M' = A) (hw : a_wf A N dd) (hd : dd ≤ 9999) : i_ok M' := by
  refine ⟨⟨⟨N, dd, hd, by rw [hr]; exact hw, by rw [hr]; exact hc⟩, ?_, ?_, ?_⟩, ?_⟩
  · exact h.1.2.1.c3 (hk _ _ _ (by unfold p_kp; omega)) (hk _ _ _ (by unfold p_kp; omega)) (fun j => hk _ _ _ (by unfold p_kp; omega)) (fun c i j q => hk _ _ _ (by unfold p_kp; omega))
  · exact ⟨0, by omega, h3, h24, fun j hj => absurd hj (by omega)⟩
  · exact h.1.2.2.2.c3 (hk _ _ _ (by unfold p_kp; omega)) (hk _ _ _ (by unfold p_kp; omega)) (fun j => hk _ _ _ (by unfold p_kp; omega)) (fun j => hk _ _ _ (by unfold p_kp; omega))
  · intro j hj
    rw [hk 13 0 j (by unfold p_kp; omega), hk 17 0 j (by unfold p_kp; omega)]
    exact h.2 j hj
