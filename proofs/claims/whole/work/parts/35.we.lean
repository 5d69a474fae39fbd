/-! the nearest of several -/
def z_os (g : Nat → Int32) (i : Nat) : Option Nat → Option Nat
  | none => some i
  | some t => if g t ≤ g i then some t else some i
def z_nf (g : Nat → Int32) (lo : Nat → Bool) : Nat → Nat → Option Nat → Option Nat
  | 0, _, o => o
  | d + 1, m, o => z_nf g lo d (m + 1) (if lo m = true then o else z_os g m o)
theorem z_os_ok {g : Nat → Int32} {lo : Nat → Bool} {N i : Nat} (hi : i < N) (hl : lo i = false) {o : Option Nat} (h : ∀ t, o = some t → t < N ∧ lo t = false) : ∀ t, z_os g i o = some t → t < N ∧ lo t = false := by
  intro t ht
  cases o with
  | none => injection ht with ht; subst ht; exact ⟨hi, hl⟩
  | some u =>
    have ht : (if g u ≤ g i then some u else some i) = some t := ht
    by_cases q : g u ≤ g i
    · rw [if_pos q] at ht; exact h t ht
    · rw [if_neg q] at ht; injection ht with ht; subst ht; exact ⟨hi, hl⟩
theorem z_nf_ok {g : Nat → Int32} {lo : Nat → Bool} {N : Nat} : ∀ (d m : Nat) (o : Option Nat), m + d ≤ N → (∀ t, o = some t → t < N ∧ lo t = false) → ∀ t, z_nf g lo d m o = some t → t < N ∧ lo t = false
  | 0, _, _, _, h => h
  | d + 1, m, o, hm, h => by
    refine z_nf_ok d (m + 1) _ (by omega) ?_
    by_cases q : lo m = true
    · rw [if_pos q]; exact h
    · rw [if_neg q]; exact z_os_ok (by omega) (by simpa using q) h
theorem z_os_ex {g : Nat → Int32} {i : Nat} {o : Option Nat} : ∃ t, z_os g i o = some t := by
  cases o with
  | none => exact ⟨i, rfl⟩
  | some u =>
    show ∃ t, (if g u ≤ g i then some u else some i) = some t
    split
    · exact ⟨_, rfl⟩
    · exact ⟨_, rfl⟩
theorem z_nf_ex {g : Nat → Int32} {lo : Nat → Bool} : ∀ (d m : Nat) (o : Option Nat), ((∃ t, o = some t) ∨ ∃ i, m ≤ i ∧ i < m + d ∧ lo i = false) → ∃ t, z_nf g lo d m o = some t
  | 0, m, o, h => by
    rcases h with h | ⟨i, h1, h2, _⟩
    · exact h
    · omega
  | d + 1, m, o, h => by
    refine z_nf_ex d (m + 1) _ ?_
    by_cases q : lo m = true
    · rw [if_pos q]
      rcases h with h | ⟨i, h1, h2, h3⟩
      · exact Or.inl h
      · refine Or.inr ⟨i, ?_, by omega, h3⟩
        by_cases e : i = m
        · subst e; rw [q] at h3; exact Bool.noConfusion h3
        · omega
    · rw [if_neg q]; exact Or.inl z_os_ex
theorem h_ntC {k N : Nat} (hk : k < 3) (hN : N ≤ 6) {M : gk_M} (hc : M 2 k 3 = nI N) {e n x3 : Int32} {lo : Nat → Bool} (hlo : ∀ i, i < N → (nI i = x3 ↔ lo i = true)) : ∀ (d fuel m : Nat) (o : Option Nat), m + d = N → d < fuel → (∀ t, o = some t → t < N ∧ lo t = false) →
    X4_nearestTo_l7 fuel k e n x3 (z_an o) (nI m) M = some (z_an (z_nf (fun i => z_gq (a_c k M) i e n) lo d m o), M) := by
  intro d
  induction d with
  | zero =>
    intro fuel m o hm hf ho
    obtain ⟨f, rfl⟩ : ∃ f, fuel = f + 1 := ⟨fuel - 1, by omega⟩
    have hcond : M 2 k 3 ≤ nI m := by rw [hc]; exact nI_le (by omega) (by omega)
    rw [X4_nearestTo_l7]
    dsimp only
    rw [q_gd (q_lt hk), if_pos hcond, z_nf]
  | succ d ih =>
    intro fuel m o hm hf ho
    obtain ⟨f, rfl⟩ : ∃ f, fuel = f + 1 := ⟨fuel - 1, by omega⟩
    have hcond : ¬ M 2 k 3 ≤ nI m := by rw [hc]; exact nI_ge (by omega) (by omega)
    rw [X4_nearestTo_l7]
    dsimp only
    rw [q_gd (q_lt hk), if_neg hcond, z_nf]
    by_cases q : lo m = true
    · rw [if_pos ((hlo m (by omega)).mpr q), if_pos q, X4_nearestTo_j52, q_gd (q_lt hk), nI_1, ih f (m + 1) o (by omega) (by omega) ho]
    · have q' : lo m = false := by simpa using q
      rw [if_neg (fun z => q ((hlo m (by omega)).mp z)), if_neg q]
      have ih' := ih f (m + 1) (z_os (fun i => z_gq (a_c k M) i e n) m o) (by omega) (by omega) (z_os_ok (by omega) q' ho)
      cases o with
      | none =>
        rw [if_pos (show z_an none = -9 from rfl), X4_nearestTo_j48, q_gd (q_lt hk), X4_nearestTo_j52, q_gd (q_lt hk), nI_1]
        exact ih'
      | some t =>
        have ht := (ho t rfl).1
        rw [if_neg (show ¬ z_an (some t) = -9 from z_n9 (by omega)), h_gq hk hN hc (show m < N by omega), q_bnd, show z_an (some t) = nI t from rfl, h_gq hk hN hc ht, q_bnd]
        by_cases g : z_gq (a_c k M) t e n ≤ z_gq (a_c k M) m e n
        · rw [show z_os (fun i => z_gq (a_c k M) i e n) m (some t) = some t from if_pos g] at ih' ⊢
          rw [if_pos g, X4_nearestTo_j52, q_gd (q_lt hk), nI_1]
          exact ih'
        · rw [show z_os (fun i => z_gq (a_c k M) i e n) m (some t) = some m from if_neg g] at ih' ⊢
          rw [if_neg g, X4_nearestTo_j48, q_gd (q_lt hk), X4_nearestTo_j52, q_gd (q_lt hk), nI_1]
          exact ih'
/-! givenUp -/
def z_c (A : a_S) (s : Nat) : Nat := (A (s + 3) 2).toNatClampNeg
def z_b (A : a_S) (s : Nat) : Nat := (A (s + 3) 3).toNatClampNeg
theorem a_wf.cz {A : a_S} {N dd : Nat} (h : a_wf A N dd) {s : Nat} (hs : s < N) : z_c A s < 10 ∧ z_b A s < 1000 ∧ A (s + 3) 2 = nI (z_c A s) ∧ A (s + 3) 3 = nI (z_b A s) := by
  obtain ⟨-, -, ⟨c, hc, ec⟩, ⟨b, hb, eb⟩, -⟩ := h.2.2.2.2.2.2.2 s hs
  unfold z_c z_b
  rw [ec, eb, q_cl (by omega), q_cl (by omega)]
  exact ⟨hc, hb, rfl, rfl⟩
def z_nt (A : a_S) (N s : Nat) : Nat := (z_nf (fun i => z_gp A i s) (fun i => decide (i = s)) N 0 none).getD 0
theorem z_nt_ok {A : a_S} {N s : Nat} (hN : 2 ≤ N) : z_nf (fun i => z_gp A i s) (fun i => decide (i = s)) N 0 none = some (z_nt A N s) ∧ z_nt A N s < N ∧ z_nt A N s ≠ s := by
  obtain ⟨t, ht⟩ := z_nf_ex (g := fun i => z_gp A i s) (lo := fun i => decide (i = s)) N 0 none (Or.inr (by
    by_cases q : s = 0
    · exact ⟨1, by omega, by omega, decide_eq_false (by omega)⟩
    · exact ⟨0, by omega, by omega, decide_eq_false (by omega)⟩))
  have ok := z_nf_ok (g := fun i => z_gp A i s) (lo := fun i => decide (i = s)) (N := N) N 0 none (by omega) (fun t h => by cases h) t ht
  have e : z_nt A N s = t := by unfold z_nt; rw [ht]; rfl
  rw [e]
  exact ⟨ht, ok.1, of_decide_eq_false ok.2⟩
def z_c1 (A : a_S) (N s i : Nat) : Nat := if i = s then 0 else if i = z_nt A N s then min 9 (z_c A (z_nt A N s) + z_c A s) else z_c A i
def z_b1 (A : a_S) (N s i : Nat) : Nat := if i = z_nt A N s then min 999 (z_b A (z_nt A N s) + z_b A s) else z_b A i
def z_H (A : a_S) (n N s : Nat) : Nat := sN (fun i => n * z_c1 A N s i - z_b1 A N s i) N 0
theorem h_hwC {N dd s n : Nat} (hs : s < N) (hn : n ≤ 60) (h2 : 2 ≤ N) {M : gk_M} (hw : a_wf (a_c 0 M) N dd) : ∃ M', f_X11_hungerWithout (nI s) (nI n) M = some (nI (z_H (a_c 0 M) n N s), M') ∧ a_Ch 1 M M' := by
  have hN := hw.1
  obtain ⟨M1, e1, e2, e3⟩ := h_copyW (k := 1) (o := 0) (by decide) (by decide) (by decide) hw
  have hw1 : a_wf (a_c 1 M1) N dd := by rw [e2]; exact hw
  have c1 := hw1.cnt
  obtain ⟨A, hA⟩ : ∃ A, A = a_c 0 M := ⟨_, rfl⟩
  rw [← hA] at e2 ⊢
  obtain ⟨k1, k2, k3⟩ := z_nt_ok (A := A) (N := N) (s := s) h2
  obtain ⟨t, ht⟩ : ∃ t, t = z_nt A N s := ⟨_, rfl⟩
  have cell : ∀ i j, i < N → j < 6 → M1 5 (6 * 1 + i) j = A (i + 3) j := fun i j hi hj => by rw [← e2, a_cs c1 hN hi hj]
  have near : f_X4_nearestTo 1 (M1 5 (6 * 1 + s) 4) (M1 5 (6 * 1 + s) 5) (nI s) M1 = some (nI t, M1) := by
    rw [f_X4_nearestTo, q_gd (q_lt (by decide)), cell s 4 hs (by decide), cell s 5 hs (by decide)]
    have := h_ntC (k := 1) (by decide) hN c1 (e := A (s + 3) 4) (n := A (s + 3) 5) (x3 := nI s) (lo := fun i => decide (i = s)) (fun i hi => by rw [decide_eq_true_iff]; exact nI_eq (by omega) (by omega)) N 200 0 none (by omega) (by omega) (fun t h => by cases h)
    rw [e2] at this
    rw [show X4_nearestTo_l7 200 1 (A (s + 3) 4) (A (s + 3) 5) (nI s) (-9) 0 M1 = _ from this, show z_nf (fun i => z_gq A i (A (s + 3) 4) (A (s + 3) 5)) (fun i => decide (i = s)) N 0 none = some t from by rw [ht]; exact k1]
    rfl
  have htN : t < N := by rw [ht]; exact k2
  have hts : t ≠ s := by rw [ht]; exact k3
  have czt : z_c A t < 10 ∧ z_b A t < 1000 ∧ A (t + 3) 2 = nI (z_c A t) ∧ A (t + 3) 3 = nI (z_b A t) := by rw [hA]; exact hw.cz htN
  have czs : z_c A s < 10 ∧ z_b A s < 1000 ∧ A (s + 3) 2 = nI (z_c A s) ∧ A (s + 3) 3 = nI (z_b A s) := by rw [hA]; exact hw.cz hs
  obtain ⟨M3, hM3⟩ : ∃ M3, M3 = gk_up (gk_up (gk_up (gk_up M1 5 (6 * 1 + t) 2 (nI (min 9 (z_c A t + z_c A s)))) 5 (6 * 1 + t) 3 (nI (min 999 (z_b A t + z_b A s)))) 5 (6 * 1 + s) 2 0) 5 (6 * 1 + s) 3 0 := ⟨_, rfl⟩
  have up : f_X4_giveUp 1 (nI s) M1 = some ((), M3) := by
    rw [f_X4_giveUp, q_gd (q_lt (by decide)), q_gd (q_in (show s < 6 by omega) (by decide)), q_cl (show s < 2 ^ 31 by omega), near, q_bnd, h_hasT (by decide) hN c1 htN, q_bnd, if_neg (by decide), q_gd (q_in (show t < 6 by omega) (by decide)), q_cl (show t < 2 ^ 31 by omega), h_min, q_bnd, cell t 2 htN (by decide), cell s 2 hs (by decide), czt.2.2.1, czs.2.2.1, nI_add, show (9 : Int32) = nI 9 from rfl, z_mnN (by decide) (by omega), q_wr, h_min, q_bnd, u_n (by omega), u_n (by omega), cell t 3 htN (by decide), cell s 3 hs (by decide), czt.2.2.2, czs.2.2.2, nI_add, show (999 : Int32) = nI 999 from rfl, z_mnN (by decide) (by omega), q_wr, X4_giveUp_j78, q_gd (q_lt (by omega)), q_wr, q_wr, hM3]
  have ch3 : a_Ch 1 M1 M3 := fun c i j q1 q2 q3 q4 => by
    rw [hM3, u_n (by omega), u_n (by omega), u_n (by omega), u_n (by omega)]
  refine ⟨M3, ?_, e3.tr ch3⟩
  have hg := h_hgC (k := 1) (by decide) hN hn (c := z_c1 A N s) (b := fun i => if i = s then 0 else z_b1 A N s i) (M := M3) (by rw [hM3, u_n (by omega), u_n (by omega), u_n (by omega), u_n (by omega)]; exact c1) (fun i hi => ?_) N 200 0 0 (by omega) (by omega)
  · rw [f_X11_hungerWithout, e1, q_bnd, up, q_bnd, f_X4_hungerToCome, q_gd (q_lt (by decide)), show X4_hungerToCome_l4 200 1 (nI n) 0 0 M3 = _ from hg, q_bnd, Nat.zero_add]
    have : sN (fun i => n * z_c1 A N s i - (if i = s then 0 else z_b1 A N s i)) N 0 = z_H A n N s := sN_congr N 0 (fun i _ hi => by
      by_cases q : i = s
      · rw [if_pos q, show z_c1 A N s i = 0 from if_pos q]; omega
      · rw [if_neg q])
    rw [this]
  · have czi : z_c A i < 10 ∧ z_b A i < 1000 ∧ A (i + 3) 2 = nI (z_c A i) ∧ A (i + 3) 3 = nI (z_b A i) := by rw [hA]; exact hw.cz hi
    show z_c1 A N s i < 1000 ∧ (if i = s then 0 else z_b1 A N s i) < 1000 ∧ M3 5 (6 * 1 + i) 2 = nI (z_c1 A N s i) ∧ M3 5 (6 * 1 + i) 3 = nI (if i = s then 0 else z_b1 A N s i)
    unfold z_c1 z_b1
    rw [← ht]
    by_cases q : i = s
    · subst q
      rw [if_pos rfl, if_pos rfl, hM3, u_n (by omega), u_s, u_s]
      exact ⟨by omega, by omega, rfl, rfl⟩
    · rw [if_neg q, if_neg q]
      by_cases q2 : i = t
      · subst q2
        rw [if_pos rfl, if_pos rfl, hM3, u_n (by omega), u_n (by omega), u_n (by omega), u_s, u_n (by omega), u_n (by omega), u_s]
        exact ⟨by omega, by omega, rfl, rfl⟩
      · rw [if_neg q2, if_neg q2, hM3, u_n (by omega), u_n (by omega), u_n (by omega), u_n (by omega), u_n (by omega), u_n (by omega), u_n (by omega), u_n (by omega), cell i 2 hi (by decide), cell i 3 hi (by decide)]
        exact ⟨by omega, czi.2.1, czi.2.2.1, czi.2.2.2⟩
def z_a1 : Option Nat → Int32
  | none => -1
  | some k => nI k
theorem h_hwR9 {N dd s n : Nat} (hs : s < N) (hn : n ≤ 60) (h2 : 2 ≤ N) {M : gk_M} (hw : a_wf (a_r M) N dd) : ∀ (d fuel m : Nat) (o : Option Nat), m + d = N → d < fuel → (∀ t, o = some t → t < N ∧ (fun i => decide (i = s)) t = false) → z_nf (fun i => z_gp (a_r M) i s) (fun i => decide (i = s)) d m o = some (z_nt (a_r M) N s) →
    ∃ M', X12_hungryWithout_l9 fuel (nI s) (nI n) (z_a1 o) (nI m) M = some (nI (z_H (a_r M) n N s), c_F 0 55 M') ∧ r_RC M M' := by
  have hN := hw.1
  have hc := hw.cntR
  obtain ⟨k1, k2, k3⟩ := z_nt_ok (A := a_r M) (N := N) (s := s) h2
  intro d
  induction d with
  | zero =>
    intro fuel m o hm hf ho hz
    obtain ⟨f, rfl⟩ : ∃ f, fuel = f + 1 := ⟨fuel - 1, by omega⟩
    have hcond : M 14 0 0 ≤ nI m := by rw [hc]; exact nI_le (by omega) (by omega)
    have hz : o = some (z_nt (a_r M) N s) := hz
    obtain ⟨t, ht⟩ : ∃ t, t = z_nt (a_r M) N s := ⟨_, rfl⟩
    rw [← ht] at hz k2 k3
    subst hz
    have czt := hw.cz k2
    have czs := hw.cz hs
    have cell : ∀ i j, i < N → j < 6 → M 16 j i = a_r M (i + 3) j := fun i j hi hj => by rw [a_rs hc hN hi hj]
    obtain ⟨M3, hM3⟩ : ∃ M3, M3 = gk_up (gk_up (gk_up M 16 2 t (nI (min 9 (z_c (a_r M) t + z_c (a_r M) s)))) 16 3 t (nI (min 999 (z_b (a_r M) t + z_b (a_r M) s)))) 16 2 s 0 := ⟨_, rfl⟩
    have rc3 : r_RC M M3 := by
      rw [hM3]
      exact ((r_RC.up (by unfold r_st; omega)).tr (r_RC.up (by unfold r_st; omega))).tr (r_RC.up (by unfold r_st; omega))
    obtain ⟨M', f1, f2⟩ := h_hgL (N := N) (n := n) hN hn (c := z_c1 (a_r M) N s) n 200 0 0 (z_b1 (a_r M) N s) M3 (by omega) (by omega) (by rw [hM3, u_n (by omega), u_n (by omega), u_n (by omega)]; exact hc) (fun i hi => by
      have czi := hw.cz hi
      unfold z_c1 z_b1
      rw [← ht]
      by_cases q : i = s
      · subst q
        rw [if_pos rfl, if_neg (Ne.symm k3), hM3, u_s, u_n (by omega), u_n (by omega), u_n (by omega), cell i 3 hi (by decide)]
        exact ⟨by omega, by omega, rfl, czi.2.2.2⟩
      · rw [if_neg q]
        by_cases q2 : i = t
        · subst q2
          rw [if_pos rfl, if_pos rfl, hM3, u_n (by omega), u_n (by omega), u_s, u_n (by omega), u_s]
          exact ⟨by omega, by omega, rfl, rfl⟩
        · rw [if_neg q2, if_neg q2, hM3, u_n (by omega), u_n (by omega), u_n (by omega), u_n (by omega), u_n (by omega), u_n (by omega), cell i 2 hi (by decide), cell i 3 hi (by decide)]
          exact ⟨by omega, czi.2.1, czi.2.2.1, czi.2.2.2⟩)
    refine ⟨M', ?_, rc3.tr f2⟩
    rw [Nat.zero_add] at f1
    have t6 : t < 6 := by omega
    have s6 : s < 6 := by omega
    rw [X12_hungryWithout_l9]
    dsimp only
    rw [if_pos hcond, show z_a1 (some t) = nI t from rfl, q_gd (q_in t6 (by decide)), q_gd (q_in s6 (by decide)), q_cl (show t < 2 ^ 31 by omega), q_cl (show s < 2 ^ 31 by omega), cell t 2 k2 (by decide), cell s 2 hs (by decide), czt.2.2.1, czs.2.2.1, nI_add, show (9 : Int32) = nI 9 from rfl, h_held (by decide) (by omega), q_bnd, q_gd (q_in t6 (by decide)), q_wr, q_gd (q_in t6 (by decide)), q_gd (q_in s6 (by decide)), u_n (by omega), u_n (by omega), cell t 3 k2 (by decide), cell s 3 hs (by decide), czt.2.2.2, czs.2.2.2, nI_add, show (999 : Int32) = nI 999 from rfl, h_held (by decide) (by omega), q_bnd, q_gd (q_in t6 (by decide)), q_wr, q_gd (q_in s6 (by decide)), q_wr, ← hM3, f_X12_hungryIn, show X12_hungryIn_l4 200 (nI n) 0 0 M3 = _ from f1, q_bnd, h_close, q_bnd]
    rfl
  | succ d ih =>
    intro fuel m o hm hf ho hz
    obtain ⟨f, rfl⟩ : ∃ f, fuel = f + 1 := ⟨fuel - 1, by omega⟩
    have hcond : ¬ M 14 0 0 ≤ nI m := by rw [hc]; exact nI_ge (by omega) (by omega)
    rw [z_nf] at hz
    rw [X12_hungryWithout_l9]
    dsimp only
    rw [if_neg hcond]
    by_cases q : m = s
    · have e : nI m = nI s := by rw [q]
      rw [if_pos (decide_eq_true q)] at hz
      rw [if_pos e, X12_hungryWithout_j49, X12_hungryWithout_j50, nI_1]
      exact ih f (m + 1) o (by omega) (by omega) ho hz
    · have e : ¬ nI m = nI s := fun z => q ((nI_eq (by omega) (by omega)).mp z)
      have q' : ¬ decide (m = s) = true := by simpa using q
      rw [if_neg q'] at hz
      have ih' := ih f (m + 1) (z_os (fun i => z_gp (a_r M) i s) m o) (by omega) (by omega) (z_os_ok (by omega) (decide_eq_false q) ho) hz
      rw [if_neg e]
      cases o with
      | none =>
        rw [if_pos (show z_a1 none < 0 by decide), X12_hungryWithout_j44, X12_hungryWithout_j50, nI_1]
        exact ih'
      | some t =>
        have ht := (ho t rfl).1
        rw [if_neg (show ¬ z_a1 (some t) < 0 from nI_pos (by omega)), h_far hw hs (show m < N by omega), q_bnd, show z_a1 (some t) = nI t from rfl, h_far hw hs ht, q_bnd, z_gp_sy hw hs ht, z_gp_sy hw hs (show m < N by omega)]
        by_cases g : z_gp (a_r M) t s ≤ z_gp (a_r M) m s
        · rw [show z_os (fun i => z_gp (a_r M) i s) m (some t) = some t from if_pos g] at ih'
          rw [if_pos g, X12_hungryWithout_j49, X12_hungryWithout_j50, nI_1]
          exact ih'
        · rw [show z_os (fun i => z_gp (a_r M) i s) m (some t) = some m from if_neg g] at ih'
          rw [if_neg g, X12_hungryWithout_j44, X12_hungryWithout_j50, nI_1]
          exact ih'
theorem h_hwR {N dd s n : Nat} (hs : s < N) (hn : n ≤ 60) (h2 : 2 ≤ N) {M : gk_M} (hw : a_wf (a_r M) N dd) : ∃ M', f_X12_hungryWithout (nI s) (nI n) M = some (nI (z_H (a_r M) n N s), M') ∧ r_RK M M' := by
  have e := (c_TK M).st hw.cntR hw.1
  obtain ⟨M', f1, f2⟩ := h_hwR9 (M := c_T 0 55 M) (dd := dd) hs hn h2 (by rw [e]; exact hw) N 200 0 none (by omega) (by have := hw.1; omega) (fun t h => by cases h) (z_nt_ok h2).1
  refine ⟨c_F 0 55 M', ?_, c_FK f2⟩
  rw [f_X12_hungryWithout, h_open, q_bnd, ← e]
  exact f1
def z_gu (H : Nat → Nat) : Nat → Nat → Nat → Nat
  | 0, _, t => t
  | d + 1, m, t => z_gu H d (m + 1) (if nI (H t) ≤ nI (H m) then t else m)
theorem h_guC {N dd n : Nat} (hn : n ≤ 60) (h2 : 2 ≤ N) {A : a_S} (hw : a_wf A N dd) {wh : Int32} : ∀ (d fuel m t : Nat) (M : gk_M), m + d = N → d < fuel → t < N → a_c 0 M = A →
    ∃ M', X11_givenUp_l54 fuel (nI n) wh (nI t) (nI (z_H A n N t)) (nI m) M = some (if ¬ wh = 0 then nI (z_H A n N (z_gu (z_H A n N) d m t)) else nI (z_gu (z_H A n N) d m t), M') ∧ a_Ch 1 M M' := by
  have hN := hw.1
  intro d
  induction d with
  | zero =>
    intro fuel m t M hm hf ht hA
    obtain ⟨f, rfl⟩ : ∃ f, fuel = f + 1 := ⟨fuel - 1, by omega⟩
    have hc : M 2 0 3 = nI N := a_wf.cnt (k := 0) (M := M) (by rw [hA]; exact hw)
    refine ⟨M, ?_, a_Ch.rf⟩
    rw [X11_givenUp_l54]
    dsimp only
    rw [hc, if_pos (nI_le (by omega) (by omega)), z_gu]
    split <;> rfl
  | succ d ih =>
    intro fuel m t M hm hf ht hA
    obtain ⟨f, rfl⟩ : ∃ f, fuel = f + 1 := ⟨fuel - 1, by omega⟩
    have hc : M 2 0 3 = nI N := a_wf.cnt (k := 0) (M := M) (by rw [hA]; exact hw)
    obtain ⟨M1, e1, e2⟩ := h_hwC (n := n) (s := m) (by omega) hn h2 (M := M) (by rw [hA]; exact hw)
    have hA1 : a_c 0 M1 = A := by rw [e2.ice (by decide) hc hN]; exact hA
    rw [X11_givenUp_l54]
    dsimp only
    rw [hc, if_neg (nI_ge (by omega) (by omega)), e1, q_bnd, hA, z_gu]
    by_cases g : nI (z_H A n N t) ≤ nI (z_H A n N m)
    · obtain ⟨M', f1, f2⟩ := ih f (m + 1) t M1 (by omega) (by omega) ht hA1
      refine ⟨M', ?_, e2.tr f2⟩
      rw [if_pos g, if_pos g, X11_givenUp_j90, nI_1, f1]
    · obtain ⟨M', f1, f2⟩ := ih f (m + 1) m M1 (by omega) (by omega) (by omega) hA1
      refine ⟨M', ?_, e2.tr f2⟩
      rw [if_neg g, if_neg g, X11_givenUp_j90, nI_1, f1]
theorem h_guR {N dd n : Nat} (hn : n ≤ 60) (h2 : 2 ≤ N) {A : a_S} (hw : a_wf A N dd) {wh : Int32} : ∀ (d fuel m t : Nat) (M : gk_M), m + d = N → d < fuel → t < N → a_r M = A →
    ∃ M', X12_givenUp_l60 fuel (nI n) wh (nI t) (nI m) M = some (if ¬ wh = 0 then nI (z_H A n N (z_gu (z_H A n N) d m t)) else nI (z_gu (z_H A n N) d m t), M') ∧ r_RK M M' := by
  have hN := hw.1
  intro d
  induction d with
  | zero =>
    intro fuel m t M hm hf ht hA
    obtain ⟨f, rfl⟩ : ∃ f, fuel = f + 1 := ⟨fuel - 1, by omega⟩
    have hc : M 14 0 0 = nI N := a_wf.cntR (M := M) (by rw [hA]; exact hw)
    rw [X12_givenUp_l60]
    dsimp only
    rw [hc, if_pos (nI_le (by omega) (by omega)), z_gu]
    by_cases q : wh = 0
    · exact ⟨M, by rw [if_neg (fun z => z q), if_neg (fun z => z q)], r_RK.rf⟩
    · obtain ⟨M1, e1, e2⟩ := h_hwR (n := n) (s := t) ht hn h2 (M := M) (by rw [hA]; exact hw)
      exact ⟨M1, by rw [if_pos q, if_pos q, e1, q_bnd, hA], e2⟩
  | succ d ih =>
    intro fuel m t M hm hf ht hA
    obtain ⟨f, rfl⟩ : ∃ f, fuel = f + 1 := ⟨fuel - 1, by omega⟩
    have hc : M 14 0 0 = nI N := a_wf.cntR (M := M) (by rw [hA]; exact hw)
    obtain ⟨M1, e1, e2⟩ := h_hwR (n := n) (s := m) (by omega) hn h2 (M := M) (by rw [hA]; exact hw)
    have hA1 : a_r M1 = A := by rw [e2.st hc hN]; exact hA
    have hc1 : M1 14 0 0 = nI N := a_wf.cntR (M := M1) (by rw [hA1]; exact hw)
    obtain ⟨M2, f1, f2⟩ := h_hwR (n := n) (s := t) ht hn h2 (M := M1) (by rw [hA1]; exact hw)
    have hA2 : a_r M2 = A := by rw [f2.st hc1 hN]; exact hA1
    rw [X12_givenUp_l60]
    dsimp only
    rw [hc, if_neg (nI_ge (by omega) (by omega)), e1, q_bnd, f1, q_bnd, hA, hA1, z_gu]
    by_cases g : nI (z_H A n N t) ≤ nI (z_H A n N m)
    · obtain ⟨M', g1, g2⟩ := ih f (m + 1) t M2 (by omega) (by omega) ht hA2
      refine ⟨M', ?_, (e2.tr f2).tr g2⟩
      rw [if_pos g, if_pos g, X12_givenUp_j93, nI_1, g1]
    · obtain ⟨M', g1, g2⟩ := ih f (m + 1) m M2 (by omega) (by omega) (by omega) hA2
      refine ⟨M', ?_, (e2.tr f2).tr g2⟩
      rw [if_neg g, if_neg g, X12_givenUp_j93, nI_1, g1]
theorem w_givenUp (x wh : Int32) {M : gk_M} (h : i_ok M) : i_same Int32 (f_X11_givenUp x wh) (f_X12_givenUp x wh) M := by
  obtain ⟨N, dd, hd, hw, hc, hN, c0, r0, hwc⟩ := h.get
  have bad : ∀ (v : Int32) (q : Nat), v = -nI q → 0 < q → q < 7 → ¬ v = 0 → ¬ 0 ≤ v → ((¬ 0 ≤ x ∧ v = -4) ∨ (0 ≤ x ∧ ¬ x ≤ 60 ∧ v = -6)) → i_same Int32 (f_X11_givenUp x wh) (f_X12_givenUp x wh) M := fun v q hv h0 h7 hz hneg hn => by
    have hr : (if (0 : Int32) ≤ x then if x ≤ 60 then (0 : Int32) else -6 else -4) = v := by
      rcases hn with ⟨p1, rfl⟩ | ⟨p1, p2, rfl⟩
      · rw [if_neg p1]
      · rw [if_pos p1, if_neg p2]
    refine i_refuse h hv h0 h7 ?_ ?_
    · obtain ⟨z, hz2⟩ := h_othE wh 1 M
      rw [f_X11_givenUp, h_rng, hr, q_bnd, hz2, q_bnd, h_fstN hz, q_bnd, if_neg hz]; exact q_ret
    · intro M1 hE
      rw [f_X12_givenUp, q_wr, h_wd, hr, q_bnd, if_pos hz, X12_givenUp_j31, X12_givenUp_j32, if_neg hneg]; exact q_ret
  rcases z_n60 x 60 60 rfl (by decide) with ⟨n, hn, rfl, y0, y1⟩ | y0 | ⟨y0, y1⟩
  · rcases z_what wh 1 1 rfl with ⟨w1, w2, w3⟩ | ⟨w1, w2⟩
    · by_cases h2 : 2 ≤ N
      · have c2 : (2 : Int32) ≤ nI N := nI_le (a := 2) h2 (by omega)
        obtain ⟨M1, e1, e2⟩ := h_hwC (n := n) (s := 0) (by omega) hn h2 hwc
        have c01 : M1 2 0 3 = nI N := by rw [e2 2 0 3 (by omega) (by omega) (by omega) (by omega)]; exact c0
        obtain ⟨M2, f1, f2⟩ := h_guC hn h2 hw (wh := wh) (N - 1) 200 1 0 M1 (by omega) (by omega) (by omega) (by rw [e2.ice (by decide) c0 hN]; exact hc)
        have ch := e2.tr f2
        have hE : i_E M (gk_up M2 14 0 13 0) := (i_E.ch ch).th
        have r2 := hE.cnt r0
        obtain ⟨M3, k1, k2⟩ := h_guR hn h2 hw (wh := wh) (N - 1) 200 1 0 (gk_up M2 14 0 13 0) (by omega) (by omega) (by omega) (hE.r hw)
        refine ⟨if ¬ wh = 0 then nI (z_H (a_r M) n N (z_gu (z_H (a_r M) n N) (N - 1) 1 0)) else nI (z_gu (z_H (a_r M) n N) (N - 1) 1 0), M2, M3, ?_, ?_, h.mind ch (i_th.tr k2)⟩
        · rw [f_X11_givenUp, h_rng, if_pos y0, if_pos y1, q_bnd, h_othT w1 w2, q_bnd, h_fst0, q_bnd, if_pos rfl, c0, if_pos c2, show (0 : Int32) = nI 0 from rfl, e1, q_bnd, hc]
          exact f1
        · rw [f_X12_givenUp, q_wr, h_wd, if_pos y0, if_pos y1, q_bnd, if_neg (fun z => z rfl), h_inT w3, q_bnd, if_pos (by decide), X12_givenUp_j31, X12_givenUp_j32, if_pos (by decide), r2, if_pos c2]
          exact k1
      · have c2 : ¬ (2 : Int32) ≤ nI N := nI_ge (b := 2) (by omega) (by omega)
        refine i_read h (r := -9) ?_ ?_
        · rw [f_X11_givenUp, h_rng, if_pos y0, if_pos y1, q_bnd, h_othT w1 w2, q_bnd, h_fst0, q_bnd, if_pos rfl, c0, if_neg c2]
        · rw [f_X12_givenUp, q_wr, h_wd, if_pos y0, if_pos y1, q_bnd, if_neg (fun z => z rfl), h_inT w3, q_bnd, if_pos (by decide), X12_givenUp_j31, X12_givenUp_j32, if_pos (by decide), i_E.rf.th.cnt r0, if_neg c2]
    · refine i_refuse h (q := 2) (x := -2) rfl (by decide) (by decide) ?_ ?_
      · rw [f_X11_givenUp, h_rng, if_pos y0, if_pos y1, q_bnd, h_othF w1, q_bnd, h_fst0, q_bnd, if_neg (by decide)]; exact q_ret
      · intro M1 hE
        rw [f_X12_givenUp, q_wr, h_wd, if_pos y0, if_pos y1, q_bnd, if_neg (fun z => z rfl), h_inF w2, q_bnd, if_neg (by decide), X12_givenUp_j32, if_neg (by decide)]; exact q_ret
  · exact bad (-4) 4 rfl (by decide) (by decide) (by decide) (by decide) (Or.inl ⟨y0, rfl⟩)
  · exact bad (-6) 6 rfl (by decide) (by decide) (by decide) (by decide) (Or.inr ⟨y0, y1, rfl⟩)
