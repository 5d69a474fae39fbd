/-! home -/
theorem z_ab_pos {x : Int32} (h : -2000000 ≤ x.toInt ∧ x.toInt ≤ 2000000) : 0 ≤ (z_ab x).toInt := by
  unfold z_ab
  have e0 : (0 : Int32).toInt = 0 := rfl
  by_cases q : 0 ≤ x
  · rw [if_pos q]; rw [z_le] at q; omega
  · rw [if_neg q, z_neg (by omega)]; rw [z_le] at q; omega
theorem z_gq_pos {A : a_S} {N dd a : Nat} (h : a_wf A N dd) (ha : a < N) {e n : Int32} (he : -9999 ≤ e.toInt ∧ e.toInt ≤ 9999) (hn : -9999 ≤ n.toInt ∧ n.toInt ≤ 9999) : ¬ z_gq A a e n < 0 := by
  have p := h.pos ha
  have h1 := z_ab_pos (x := A (a + 3) 4 - e) (by rw [z_sub (by omega) (by omega)]; omega)
  have h2 := z_ab_pos (x := A (a + 3) 5 - n) (by rw [z_sub (by omega) (by omega)]; omega)
  have e0 : (0 : Int32).toInt = 0 := rfl
  unfold z_gq z_mx
  rw [z_lt]
  split <;> omega
/-- the ship nearest to a place -/
def z_np (A : a_S) (N : Nat) (e n : Int32) : Nat := (z_nf (fun i => z_gq A i e n) (fun _ => false) N 0 none).getD 0
theorem z_np_ok {A : a_S} {N : Nat} {e n : Int32} (h : 0 < N) : z_nf (fun i => z_gq A i e n) (fun _ => false) N 0 none = some (z_np A N e n) ∧ z_np A N e n < N := by
  obtain ⟨t, ht⟩ := z_nf_ex (g := fun i => z_gq A i e n) (lo := fun _ => false) N 0 none (Or.inr ⟨0, by omega, by omega, rfl⟩)
  have ok := z_nf_ok (g := fun i => z_gq A i e n) (lo := fun _ => false) (N := N) N 0 none (by omega) (fun t h => by cases h) t ht
  have q : z_np A N e n = t := by unfold z_np; rw [ht]; rfl
  rw [q]
  exact ⟨ht, ok.1⟩
theorem h_np {k N dd : Nat} (hk : k < 3) {M : gk_M} (hw : a_wf (a_c k M) N dd) (h0 : 0 < N) {e n : Int32} : f_X4_nearestTo k e n (-9) M = some (nI (z_np (a_c k M) N e n), M) := by
  have hN := hw.1
  have := h_ntC hk hN hw.cnt (e := e) (n := n) (x3 := -9) (lo := fun _ => false) (fun i hi => ⟨fun q => absurd q (z_n9 (by omega)), fun q => Bool.noConfusion q⟩) N 200 0 none (by omega) (by omega) (fun t h => by cases h)
  rw [f_X4_nearestTo, q_gd (q_lt hk), show X4_nearestTo_l7 200 k e n (-9) (-9) 0 M = _ from this, (z_np_ok h0).1]
  rfl
/-- so far: how far, who, when -/
def z_rs (g : Nat → Int32) (m : Int32) (i : Nat) (st : Int32 × Int32 × Int32) : Int32 × Int32 × Int32 := if st.1 < 0 then (g i, nI i, m) else if st.1 ≤ g i then st else (g i, nI i, m)
def z_rf (g : Nat → Int32) (m : Int32) : Nat → Nat → Int32 × Int32 × Int32 → Int32 × Int32 × Int32
  | 0, _, st => st
  | d + 1, i, st => z_rf g m d (i + 1) (z_rs g m i st)
def z_cb (g : Nat → Int32) (m : Int32) (st : Int32 × Int32 × Int32) (t : Nat) : Int32 × Int32 × Int32 := if st.1 ≤ g t then st else (g t, nI t, m)
theorem z_rf_cb {g : Nat → Int32} {N : Nat} (hg : ∀ i, i < N → ¬ g i < 0) {m : Int32} {st : Int32 × Int32 × Int32} (h0 : ¬ st.1 < 0) : ∀ (d i t : Nat), i + d ≤ N → t < N → ∃ u, z_nf g (fun _ => false) d i (some t) = some u ∧ z_rf g m d i (z_cb g m st t) = z_cb g m st u
  | 0, _, t, _, _ => ⟨t, rfl, rfl⟩
  | d + 1, i, t, hi, ht => by
    rw [z_nf, z_rf, if_neg (show ¬ (fun _ : Nat => false) i = true from fun z => Bool.noConfusion z)]
    have key : ∃ u, u < N ∧ z_os g i (some t) = some u ∧ z_rs g m i (z_cb g m st t) = z_cb g m st u := by
      have hgt := hg t ht
      have hgi := hg i (by omega)
      by_cases q : g t ≤ g i
      · refine ⟨t, ht, if_pos q, ?_⟩
        unfold z_cb z_rs
        by_cases p : st.1 ≤ g t
        · rw [if_pos p, if_neg h0, if_pos (by rw [z_le] at p q ⊢; omega)]
        · rw [if_neg p]
          show (if g t < 0 then _ else if g t ≤ g i then _ else _) = _
          rw [if_neg hgt, if_pos q]
      · refine ⟨i, by omega, if_neg q, ?_⟩
        unfold z_cb z_rs
        by_cases p : st.1 ≤ g t
        · rw [if_pos p, if_neg h0]
        · rw [if_neg p]
          show (if g t < 0 then _ else if g t ≤ g i then _ else _) = _
          rw [if_neg hgt, if_neg q, if_neg (by rw [z_le] at p q ⊢; omega)]
    obtain ⟨u, hu, k1, k2⟩ := key
    rw [k1, k2]
    exact z_rf_cb hg h0 d (i + 1) u (by omega) hu
theorem z_rf_new {g : Nat → Int32} {N : Nat} (hg : ∀ i, i < N → ¬ g i < 0) {m : Int32} : ∀ (d i t : Nat), i + d ≤ N → t < N → ∃ u, z_nf g (fun _ => false) d i (some t) = some u ∧ z_rf g m d i (g t, nI t, m) = (g u, nI u, m)
  | 0, _, t, _, _ => ⟨t, rfl, rfl⟩
  | d + 1, i, t, hi, ht => by
    rw [z_nf, z_rf, if_neg (show ¬ (fun _ : Nat => false) i = true from fun z => Bool.noConfusion z)]
    have hgt := hg t ht
    by_cases q : g t ≤ g i
    · rw [show z_os g i (some t) = some t from if_pos q, show z_rs g m i (g t, nI t, m) = (g t, nI t, m) by
        unfold z_rs
        show (if g t < 0 then _ else if g t ≤ g i then _ else _) = _
        rw [if_neg hgt, if_pos q]]
      exact z_rf_new hg d (i + 1) t (by omega) ht
    · rw [show z_os g i (some t) = some i from if_neg q, show z_rs g m i (g t, nI t, m) = (g i, nI i, m) by
        unfold z_rs
        show (if g t < 0 then _ else if g t ≤ g i then _ else _) = _
        rw [if_neg hgt, if_neg q]]
      exact z_rf_new hg d (i + 1) i (by omega) (by omega)
theorem z_rf_day {A : a_S} {N : Nat} {e n m : Int32} (h0 : 0 < N) (hg : ∀ i, i < N → ¬ z_gq A i e n < 0) {st : Int32 × Int32 × Int32} (hs : ¬ st.1 < 0) : z_rf (fun i => z_gq A i e n) m N 0 st = z_cb (fun i => z_gq A i e n) m st (z_np A N e n) := by
  obtain ⟨d, rfl⟩ : ∃ d, N = d + 1 := ⟨N - 1, by omega⟩
  obtain ⟨u, k1, k2⟩ := z_rf_cb (g := fun i => z_gq A i e n) hg (m := m) hs d 1 0 (by omega) (by omega)
  have k3 := (z_np_ok (A := A) (N := d + 1) (e := e) (n := n) h0).1
  rw [z_nf, if_neg (show ¬ (fun _ : Nat => false) 0 = true by decide), show z_os (fun i => z_gq A i e n) 0 none = some 0 from rfl, k1] at k3
  injection k3 with k3
  rw [z_rf, ← k3, ← k2]
  congr 1
  unfold z_rs z_cb
  rw [if_neg hs]
theorem z_rf_0 {A : a_S} {N : Nat} {e n m : Int32} (h0 : 0 < N) (hg : ∀ i, i < N → ¬ z_gq A i e n < 0) {st : Int32 × Int32 × Int32} (hs : st.1 < 0) : z_rf (fun i => z_gq A i e n) m N 0 st = (z_gq A (z_np A N e n) e n, nI (z_np A N e n), m) := by
  obtain ⟨d, rfl⟩ : ∃ d, N = d + 1 := ⟨N - 1, by omega⟩
  obtain ⟨u, k1, k2⟩ := z_rf_new (g := fun i => z_gq A i e n) hg (m := m) d 1 0 (by omega) (by omega)
  have k3 := (z_np_ok (A := A) (N := d + 1) (e := e) (n := n) h0).1
  rw [z_nf, if_neg (show ¬ (fun _ : Nat => false) 0 = true by decide), show z_os (fun i => z_gq A i e n) 0 none = some 0 from rfl, k1] at k3
  injection k3 with k3
  rw [z_rf, ← k3, ← k2]
  congr 1
  unfold z_rs
  rw [if_pos hs]
def z_hm (N : Nat) (e n : Int32) : Nat → a_S → Nat → Nat → Int32 × Int32 × Int32 → Int32 × Int32 × Int32
  | 0, _, _, _, st => st
  | d + 1, A, dd, m, st => z_hm N e n d (z_day A dd) (dd + 1) (m + 1) (z_cb (fun i => z_gq A i e n) (nI m) st (z_np A N e n))
def z_pk (wh : Int32) (st : Int32 × Int32 × Int32) : Int32 := if ¬ wh = 0 then if ¬ wh = 1 then st.1 else st.2.2 else st.2.1
theorem h_hmC {N nn : Nat} (hn : nn ≤ 60) (h0 : 0 < N) {e n wh : Int32} : ∀ (d fuel m dd : Nat) (st : Int32 × Int32 × Int32) (M : gk_M), m + d = nn + 1 → d < fuel → dd + d ≤ 10100 → a_wf (a_c 1 M) N dd →
    ∃ M', X11_home_l104 fuel e n (nI nn) wh st.2.1 st.2.2 st.1 (nI m) M = some (z_pk wh (z_hm N e n d (z_day (a_c 1 M) dd) (dd + 1) m st), M') ∧ a_Ch 1 M M' := by
  intro d
  induction d with
  | zero =>
    intro fuel m dd st M hm hf hd hw
    obtain ⟨k, rfl⟩ : ∃ k, fuel = k + 1 := ⟨fuel - 1, by omega⟩
    refine ⟨M, ?_, a_Ch.rf⟩
    rw [X11_home_l104]
    dsimp only
    rw [if_pos (nI_lt (by omega) (by omega)), z_hm]
    unfold z_pk
    split
    · split <;> rfl
    · rfl
  | succ d ih =>
    intro fuel m dd st M hm hf hd hw
    obtain ⟨k, rfl⟩ : ∃ k, fuel = k + 1 := ⟨fuel - 1, by omega⟩
    obtain ⟨M1, e1, e2, e3⟩ := h_dayW (k := 1) (by decide) hw
    have hw1 : a_wf (a_c 1 M1) N (dd + 1) := by rw [e2]; exact hw.day (by omega)
    have ok := (z_np_ok (A := a_c 1 M1) (N := N) (e := e) (n := n) h0).2
    obtain ⟨M', f1, f2⟩ := ih k (m + 1) (dd + 1) (z_cb (fun i => z_gq (a_c 1 M1) i e n) (nI m) st (z_np (a_c 1 M1) N e n)) M1 (by omega) (by omega) (by omega) hw1
    refine ⟨M', ?_, e3.tr f2⟩
    rw [X11_home_l104]
    dsimp only
    rw [if_neg (nI_nlt (by omega) (by omega)), e1, q_bnd, h_np (by decide) hw1 h0, q_bnd, h_gq (by decide) hw1.1 hw1.cnt ok, q_bnd, z_hm, ← e2, X11_home_j164, X11_home_j164, nI_1, ← f1]
    unfold z_cb
    by_cases g : st.1 ≤ z_gq (a_c 1 M1) (z_np (a_c 1 M1) N e n) e n
    · rw [if_pos g, if_pos g]
    · rw [if_neg g, if_neg g]
theorem h_hmI {N dd : Nat} {M : gk_M} (hw : a_wf (a_r M) N dd) {e n nn wh : Int32} (he : -9999 ≤ e.toInt ∧ e.toInt ≤ 9999) (hn : -9999 ≤ n.toInt ∧ n.toInt ≤ 9999) {m : Nat} {κ : Int32 → Int32 → Int32 → Int32 → Int32 → Int32 → Int32 → Int32 → gk_M → Option (Int32 × gk_M)} : ∀ (d fuel i : Nat) (st : Int32 × Int32 × Int32), i + d = N → d < fuel →
    X12_home_l130 κ fuel e n nn wh st.1 st.2.1 st.2.2 (nI m) (nI i) M = gk_bnd (f_X12_daysOn 1 M) (fun r M6 => κ e n nn wh (z_rf (fun i => z_gq (a_r M) i e n) (nI m) d i st).1 (z_rf (fun i => z_gq (a_r M) i e n) (nI m) d i st).2.1 (z_rf (fun i => z_gq (a_r M) i e n) (nI m) d i st).2.2 (nI (m + 1)) M6) := by
  have hN := hw.1
  have hc := hw.cntR
  intro d
  induction d with
  | zero =>
    intro fuel i st hi hf
    obtain ⟨f, rfl⟩ : ∃ f, fuel = f + 1 := ⟨fuel - 1, by omega⟩
    have hcond : M 14 0 0 ≤ nI i := by rw [hc]; exact nI_le (by omega) (by omega)
    rw [X12_home_l130]
    dsimp only
    rw [if_pos hcond, nI_1]
    rfl
  | succ d ih =>
    intro fuel i st hi hf
    obtain ⟨f, rfl⟩ : ∃ f, fuel = f + 1 := ⟨fuel - 1, by omega⟩
    have hcond : ¬ M 14 0 0 ≤ nI i := by rw [hc]; exact nI_ge (by omega) (by omega)
    have pa := hw.pos (show i < N by omega)
    have gq : ∀ F : Int32 → Option (Int32 × gk_M), (if z_ab (M 16 4 i - e) ≤ z_ab (M 16 5 i - n) then F (z_ab (M 16 5 i - n)) else F (z_ab (M 16 4 i - e))) = F (z_gq (a_r M) i e n) := fun F => by
      unfold z_gq
      rw [a_rs hc hN (show i < N by omega) (by decide), a_rs hc hN (show i < N by omega) (by decide), ← z_mxR]
      split <;> rfl
    have p4 := a_rs (j := 4) hc hN (show i < N by omega) (by decide)
    have p5 := a_rs (j := 5) hc hN (show i < N by omega) (by decide)
    rw [p4, p5] at pa
    rw [X12_home_l130]
    dsimp only
    rw [if_neg hcond, q_gd (q_in (show i < 6 by omega) (by decide)), q_cl (show i < 2 ^ 31 by omega), h_apart pa.1 ⟨by omega, by omega⟩, q_bnd, q_gd (q_in (show i < 6 by omega) (by decide)), h_apart pa.2 ⟨by omega, by omega⟩, q_bnd]
    refine (gq (fun v => X12_home_j179 κ (X12_home_l130 κ f) e n nn wh st.1 st.2.1 st.2.2 (nI m) (nI i) v M)).trans ?_
    rw [z_rf, ← ih f (i + 1) (z_rs (fun i => z_gq (a_r M) i e n) (nI m) i st) (by omega) (by omega)]
    unfold z_rs
    rw [X12_home_j179]
    by_cases g1 : st.1 < 0
    · rw [if_pos g1, if_pos g1, X12_home_j193, X12_home_j198, if_neg (by decide), X12_home_j212, if_neg (by decide), X12_home_j226, if_neg (by decide), X12_home_j240, nI_1]
    · rw [if_neg g1, if_neg g1]
      by_cases g2 : st.1 ≤ z_gq (a_r M) i e n
      · rw [if_pos g2, if_pos g2, X12_home_j198, if_pos rfl, X12_home_j212, if_pos rfl, X12_home_j226, if_pos rfl, X12_home_j240, nI_1]
      · rw [if_neg g2, if_neg g2, X12_home_j193, X12_home_j198, if_neg (by decide), X12_home_j212, if_neg (by decide), X12_home_j226, if_neg (by decide), X12_home_j240, nI_1]
theorem h_hmR {N nn : Nat} (hnn : nn ≤ 60) (h0 : 0 < N) {e n wh : Int32} (he : -9999 ≤ e.toInt ∧ e.toInt ≤ 9999) (hn : -9999 ≤ n.toInt ∧ n.toInt ≤ 9999) : ∀ (d fuel m dd : Nat) (st : Int32 × Int32 × Int32) (M : gk_M), m + d = nn + 1 → d < fuel → dd + d ≤ 10100 → a_wf (a_r M) N dd → ¬ st.1 < 0 →
    ∃ M', X12_home_l121 fuel e n (nI nn) wh st.1 st.2.1 st.2.2 (nI m) M = some (z_pk wh (z_hm N e n d (a_r M) dd m st), c_F 0 55 M') ∧ r_RC M M' := by
  intro d
  induction d with
  | zero =>
    intro fuel m dd st M hm hf hd hw hst
    obtain ⟨k, rfl⟩ : ∃ k, fuel = k + 1 := ⟨fuel - 1, by omega⟩
    refine ⟨M, ?_, r_RC.rf⟩
    rw [X12_home_l121]
    dsimp only
    rw [if_pos (nI_lt (by omega) (by omega)), h_close, q_bnd, z_hm]
    unfold z_pk
    split
    · split <;> rfl
    · rfl
  | succ d ih =>
    intro fuel m dd st M hm hf hd hw hst
    obtain ⟨k, rfl⟩ : ∃ k, fuel = k + 1 := ⟨fuel - 1, by omega⟩
    have hN := hw.1
    have hg : ∀ i, i < N → ¬ z_gq (a_r M) i e n < 0 := fun i hi => z_gq_pos hw hi he hn
    obtain ⟨M1, rr, e1, e2, e3⟩ := h_dayR (by omega) hw
    have hw1 : a_wf (a_r M1) N (dd + 1) := by rw [e2]; exact hw.day (by omega)
    have day := z_rf_day (A := a_r M) (e := e) (n := n) (m := nI m) h0 hg hst
    have hst' : ¬ (z_cb (fun i => z_gq (a_r M) i e n) (nI m) st (z_np (a_r M) N e n)).1 < 0 := by
      unfold z_cb
      split
      · exact hst
      · exact hg _ (z_np_ok h0).2
    obtain ⟨M', f1, f2⟩ := ih k (m + 1) (dd + 1) (z_cb (fun i => z_gq (a_r M) i e n) (nI m) st (z_np (a_r M) N e n)) M1 (by omega) (by omega) (by omega) hw1 hst'
    refine ⟨M', ?_, e3.tr f2⟩
    rw [X12_home_l121]
    dsimp only
    rw [if_neg (nI_nlt (by omega) (by omega)), show (0 : Int32) = nI 0 from rfl, h_hmI hw he hn N 200 0 st (by omega) (by omega), e1, q_bnd, day, f1, e2, z_hm]
theorem h_hmSt {x e n : Int32} {M : gk_M} : gk_bnd (f_X11_rangeOfTwo e n (-9999) 9999 M) (fun r2 M1 => gk_bnd (f_X11_range x 0 60 M1) (fun r4 M3 => f_X11_belowFirst r4 r2 M3)) = some (if 0 ≤ x ∧ -9999 ≤ e ∧ -9999 ≤ n then (if x ≤ 60 ∧ e ≤ 9999 ∧ n ≤ 9999 then 0 else -6) else -4, M) := by
  rw [h_r2, q_bnd, h_rng, q_bnd, f_X11_belowFirst]
  by_cases p1 : 0 ≤ x <;> by_cases p2 : x ≤ 60 <;> by_cases p3 : (-9999 : Int32) ≤ e <;> by_cases p4 : (-9999 : Int32) ≤ n <;> by_cases p5 : e ≤ 9999 <;> by_cases p6 : n ≤ 9999 <;> simp only [p1, p2, p3, p4, p5, p6, if_true, if_false, and_self, and_true, true_and, and_false, false_and, h_fst, q_bnd] <;> rfl
theorem w_home (e n x wh : Int32) {M : gk_M} (h : i_ok M) : i_same Int32 (f_X11_home e n x wh) (f_X12_home e n x wh) M := by
  obtain ⟨N, dd, hd, hw, hc, hN, c0, r0, hwc⟩ := h.get
  have cl : ∀ {M : gk_M}, f_X11_home e n x wh M = gk_bnd (gk_bnd (f_X11_rangeOfTwo e n (-9999) 9999 M) (fun r2 M1 => gk_bnd (f_X11_range x 0 60 M1) (fun r4 M3 => f_X11_belowFirst r4 r2 M3))) (fun r6 M5 => gk_bnd (f_X11_otherThan wh (2 : Int32) M5) (fun r8 M7 => gk_bnd (f_X11_first r6 r8 M7) (fun r10 M9 => if r10 = 0 then if ¬ (M9 2 0 3) = 0 then gk_bnd (f_X4_copyFrom 1 0 M9) (fun _ M11 => gk_bnd (f_X4_nearestTo 0 e n (-9 : Int32) M11) (fun r14 M13 => gk_bnd (f_X4_gapToPlace 0 r14 e n M13) (fun r16 M15 => X11_home_l104 200 e n x wh r14 ((0 : Int32)) r16 ((1 : Int32)) M15))) else some ((-9 : Int32), M9) else gk_bnd (f_X11_refuse r10 M9) (fun r24 M23 => some (r24, M23))))) := fun {M} => by
    rw [f_X11_home, h_r2, q_bnd, q_bnd, h_rng, q_bnd, q_bnd]
  have rf : ∀ M1, f_X12_home e n x wh M1 = X12_home_j54 e n x wh (if 0 ≤ x ∧ -9999 ≤ e ∧ -9999 ≤ n then (if x ≤ 60 ∧ e ≤ 9999 ∧ n ≤ 9999 then 0 else -6) else -4) (gk_up M1 14 0 13 0) := fun M1 => by
    have t1 : x < 0 ↔ ¬ 0 ≤ x := by rw [z_lt, z_le]; omega
    have t2 : e < -9999 ↔ ¬ -9999 ≤ e := by rw [z_lt, z_le]; omega
    have t3 : 60 < x ↔ ¬ x ≤ 60 := by rw [z_lt, z_le]; omega
    have t4 : 9999 < e ↔ ¬ e ≤ 9999 := by rw [z_lt, z_le]; omega
    rw [f_X12_home, q_wr]
    by_cases p1 : 0 ≤ x
    · rw [if_neg (fun z => t1.mp z p1)]
      by_cases p3 : (-9999 : Int32) ≤ e
      · rw [if_neg (fun z => t2.mp z p3)]
        by_cases p4 : (-9999 : Int32) ≤ n
        · rw [if_pos p4, if_pos (show 0 ≤ x ∧ -9999 ≤ e ∧ -9999 ≤ n from ⟨p1, p3, p4⟩)]
          by_cases p2 : x ≤ 60
          · rw [if_neg (fun z => t3.mp z p2)]
            by_cases p5 : e ≤ 9999
            · rw [if_neg (fun z => t4.mp z p5)]
              by_cases p6 : n ≤ 9999
              · rw [if_pos p6, if_pos (show x ≤ 60 ∧ e ≤ 9999 ∧ n ≤ 9999 from ⟨p2, p5, p6⟩)]
              · rw [if_neg p6, if_neg (show ¬ (x ≤ 60 ∧ e ≤ 9999 ∧ n ≤ 9999) from fun z => p6 z.2.2), X12_home_j48]
            · rw [if_pos (t4.mpr p5), if_neg (show ¬ (x ≤ 60 ∧ e ≤ 9999 ∧ n ≤ 9999) from fun z => p5 z.2.1), X12_home_j48]
          · rw [if_pos (t3.mpr p2), if_neg (show ¬ (x ≤ 60 ∧ e ≤ 9999 ∧ n ≤ 9999) from fun z => p2 z.1), X12_home_j48]
        · rw [if_neg p4, if_neg (show ¬ (0 ≤ x ∧ -9999 ≤ e ∧ -9999 ≤ n) from fun z => p4 z.2.2), X12_home_j23]
      · rw [if_pos (t2.mpr p3), if_neg (show ¬ (0 ≤ x ∧ -9999 ≤ e ∧ -9999 ≤ n) from fun z => p3 z.2.1), X12_home_j23]
    · rw [if_pos (t1.mpr p1), if_neg (show ¬ (0 ≤ x ∧ -9999 ≤ e ∧ -9999 ≤ n) from fun z => p1 z.1), X12_home_j23]
  have bad : ∀ (v : Int32) (q : Nat), v = -nI q → 0 < q → q < 7 → ¬ v = 0 → ¬ 0 ≤ v → (if 0 ≤ x ∧ -9999 ≤ e ∧ -9999 ≤ n then (if x ≤ 60 ∧ e ≤ 9999 ∧ n ≤ 9999 then (0 : Int32) else -6) else -4) = v → i_same Int32 (f_X11_home e n x wh) (f_X12_home e n x wh) M := fun v q hv h0 h7 hz hneg hr => by
    refine i_refuse h hv h0 h7 ?_ ?_
    · obtain ⟨z, hz2⟩ := h_othE wh 2 M
      rw [cl, h_hmSt, hr, q_bnd, hz2, q_bnd, h_fstN hz, q_bnd, if_neg hz]; exact q_ret
    · intro M1 hE
      rw [rf, hr, X12_home_j54, if_pos hz, X12_home_j79, X12_home_j81, if_neg hneg]; exact q_ret
  by_cases p : 0 ≤ x ∧ -9999 ≤ e ∧ -9999 ≤ n
  · by_cases p' : x ≤ 60 ∧ e ≤ 9999 ∧ n ≤ 9999
    · have hr : (if 0 ≤ x ∧ -9999 ≤ e ∧ -9999 ≤ n then (if x ≤ 60 ∧ e ≤ 9999 ∧ n ≤ 9999 then (0 : Int32) else -6) else -4) = 0 := by rw [if_pos p, if_pos p']
      rcases z_what wh 2 2 rfl with ⟨w1, w2, w3⟩ | ⟨w1, w2⟩
      · by_cases hN0 : N = 0
        · have n0 : nI N = 0 := by rw [hN0]; rfl
          refine i_read h (r := -9) ?_ ?_
          · rw [cl, h_hmSt, hr, q_bnd, h_othT w1 w2, q_bnd, h_fst0, q_bnd, if_pos rfl, c0, if_neg (fun z => z n0)]
          · rw [rf, hr, X12_home_j54, if_neg (fun z => z rfl), h_inT w3, q_bnd, if_pos (by decide), X12_home_j79, X12_home_j81, if_pos (by decide), i_E.rf.th.cnt r0, if_neg (fun z => z n0)]
        · have h0 : 0 < N := by omega
          have n0 : ¬ nI N = 0 := nI_ne0 h0 (by omega)
          have he : -9999 ≤ e.toInt ∧ e.toInt ≤ 9999 := ⟨z_le.mp p.2.1, z_le.mp p'.2.1⟩
          have hn : -9999 ≤ n.toInt ∧ n.toInt ≤ 9999 := ⟨z_le.mp p.2.2, z_le.mp p'.2.2⟩
          have x0 : (0 : Int32).toInt = 0 := rfl
          have x60 : (60 : Int32).toInt = 60 := rfl
          obtain ⟨nn, hnn, rfl⟩ := z_of (x := x) (n := 60) (by have := z_le.mp p.1; omega) (by have := z_le.mp p'.1; omega)
          obtain ⟨M1, e1, e2, e3⟩ := h_copyW (k := 1) (o := 0) (by decide) (by decide) (by decide) hwc
          have hw1 : a_wf (a_c 1 M1) N dd := by rw [e2]; exact hwc
          have ac0 : a_c 0 M1 = a_r M := by rw [e3.ice (by decide) c0 hN]; exact hc
          have hw0 : a_wf (a_c 0 M1) N dd := by rw [ac0]; exact hw
          have ok := (z_np_ok (A := a_r M) (N := N) (e := e) (n := n) h0).2
          obtain ⟨st, hst⟩ : ∃ st : Int32 × Int32 × Int32, st = (z_gq (a_r M) (z_np (a_r M) N e n) e n, nI (z_np (a_r M) N e n), nI 0) := ⟨_, rfl⟩
          have hg : ∀ i, i < N → ¬ z_gq (a_r M) i e n < 0 := fun i hi => z_gq_pos hw hi he hn
          obtain ⟨M2, f1, f2⟩ := h_hmC hnn h0 (e := e) (n := n) (wh := wh) nn 200 1 dd st M1 (by omega) (by omega) (by omega) hw1
          have ch := e3.tr f2
          obtain ⟨g1, g2, g3⟩ := i_open hw ch
          have hwo : a_wf (a_r (c_T 0 55 (gk_up M2 14 0 13 0))) N dd := by rw [g1]; exact hw
          obtain ⟨M3, rr, b1, b2, b3⟩ := h_dayR (by omega) hwo
          rw [g1] at b2
          have hw3 : a_wf (a_r M3) N (dd + 1) := by rw [b2]; exact hw.day (by omega)
          obtain ⟨M4, k1, k2⟩ := h_hmR hnn h0 (e := e) (n := n) (wh := wh) he hn nn 199 1 (dd + 1) st M3 (by omega) (by omega) (by omega) hw3 (by rw [hst]; exact hg _ ok)
          rw [b2] at k1
          rw [e2, hc] at f1
          refine i_mind h (M1 := M2) (M2 := M4) ?_ ch (b3.tr k2) ?_ (r := z_pk wh (z_hm N e n nn (z_day (a_r M) dd) (dd + 1) 1 st))
          · rw [cl, h_hmSt, hr, q_bnd, h_othT w1 w2, q_bnd, h_fst0, q_bnd, if_pos rfl, c0, if_pos n0, e1, q_bnd, h_np (by decide) hw0 h0, q_bnd, ac0, h_gq (by decide) hN hw0.cnt ok, q_bnd, ac0]
            rw [hst] at f1 ⊢
            exact f1
          · have day := z_rf_0 (A := a_r M) (e := e) (n := n) (m := nI 0) h0 hg (st := (-1, 0, 0)) (by decide)
            rw [rf, hr, X12_home_j54, if_neg (fun z => z rfl), h_inT w3, q_bnd, if_pos (by decide), X12_home_j79, X12_home_j81, if_pos (by decide), g2, if_pos n0, h_open, q_bnd]
            show X12_home_l121 (199 + 1) e n (nI nn) wh (-1) 0 0 0 _ = _
            rw [X12_home_l121]
            dsimp only
            have step := h_hmI hwo (nn := nI nn) (wh := wh) he hn (m := 0) (κ := X12_home_l121 199) N 200 0 (-1, 0, 0) (by omega) (by omega)
            rw [if_neg (show ¬ nI nn < 0 from nI_pos (by omega)), show X12_home_l130 (X12_home_l121 199) 200 e n (nI nn) wh (-1) 0 0 0 0 _ = _ from step, b1, q_bnd, g1, day, ← hst]
            rw [hst] at k1 ⊢
            exact k1
      · refine i_refuse h (q := 2) (x := -2) rfl (by decide) (by decide) ?_ ?_
        · rw [cl, h_hmSt, hr, q_bnd, h_othF w1, q_bnd, h_fst0, q_bnd, if_neg (by decide)]; exact q_ret
        · intro M1 hE
          rw [rf, hr, X12_home_j54, if_neg (fun z => z rfl), h_inF w2, q_bnd, if_neg (by decide), X12_home_j81, if_neg (by decide)]; exact q_ret
    · exact bad (-6) 6 rfl (by decide) (by decide) (by decide) (by decide) (by rw [if_pos p, if_neg p'])
  · exact bad (-4) 4 rfl (by decide) (by decide) (by decide) (by decide) (by rw [if_neg p])
