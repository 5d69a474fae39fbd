def p_f5 (X M5 : gk_M) : Prop := (∀ c i j, c ≠ 20 → c ≠ 21 → ¬ (c = 14 ∧ i = 0 ∧ (j = 13 ∨ j = 24 ∨ j = 25 ∨ j = 26 ∨ j = 27)) → M5 c i j = X c i j) ∧ M5 14 0 24 = 0
theorem h_pkR {Lt : Nat → Nat} {z K n dd : Nat} {X : gk_M} (hK : K ≤ 27) (he : p_end Lt z K) (hl : ∀ k, k < K → ¬ p_end Lt z k) (hX : p_R Lt z X) (hw : a_wf (a_r X) n dd) : ∃ M5, p_f5 X M5 ∧ ((p_p Lt z K).2 = true → f_X12_pack X = some (-1000 - nI (p_p Lt z K).1, M5)) ∧ ((p_p Lt z K).2 = false → ∃ M', r_RC (c_T 0 55 M5) M' ∧ ((s_run Lt z K 0 (a_r X) n).1 = none → f_X12_pack X = some (nI K, M') ∧ a_r M' = (s_run Lt z K 0 (a_r X) n).2.1) ∧ ∀ f, (s_run Lt z K 0 (a_r X) n).1 = some f → f_X12_pack X = some (-2000 - nI (p_p Lt z f).1, c_F 0 55 M')) := by
  have hN := hw.1
  have hY : p_R Lt z (gk_up (gk_up X 14 0 13 0) 14 0 27 0) := ⟨hX.1, by rw [u_n (by omega), u_n (by omega)]; exact hX.2.1, fun j hj => by rw [u_n (by omega), u_n (by omega)]; exact hX.2.2 j hj⟩
  obtain ⟨Mr, f1, f2, f3, f4⟩ := h_pkR1 hK he hl K 200 0 (gk_up (gk_up X 14 0 13 0) 14 0 27 0) (by omega) (by omega) hY u_s
  have start : f_X12_pack X = X12_pack_j52 (s_S 14 25 26 (p_p Lt z K) Mr) := by
    rw [← f1, f_X12_pack, q_wr, q_wr, q_gd q_b0, q_wr, q_wr]
    exact congrArg (X12_pack_l20 200) (s_cm (c := 14) (x := 25) (y := 26) (st := (0, false)) (M := gk_up X 14 0 13 0) (c' := 14) (i := 0) (j := 27) (v := 0) (by omega))
  obtain ⟨M5, hM5⟩ : ∃ M5, M5 = gk_up (s_S 14 25 26 (p_p Lt z K) Mr) 14 0 24 0 := ⟨_, rfl⟩
  have fr5 : p_f5 X M5 := by
    refine ⟨fun c i j q1 q2 q3 => ?_, by rw [hM5, u_s]⟩
    rw [hM5, u_n (by omega), s_n (by omega), f4 c i j (by omega) (by omega) (by omega), u_n (by omega), u_n (by omega)]
  have a5 : a_r M5 = a_r X := a_r_ext hw.cntR hN (fun j hj => fr5.1 14 0 j (by omega) (by omega) (by omega)) (fun i j hj => fr5.1 15 i j (by omega) (by omega) (by omega)) (fun j s hj hs => fr5.1 16 j s (by omega) (by omega) (by omega))
  have e26 : M5 14 0 26 = if (p_p Lt z K).2 = true then 1 else 0 := by rw [hM5, u_n (by omega), s_2]
  have e25 : M5 14 0 25 = nI (p_p Lt z K).1 := by rw [hM5, u_n (by omega), s_1 (by decide)]
  have e27 : M5 14 0 27 = nI K := by rw [hM5, u_n (by omega), s_n (by omega)]; exact f2
  refine ⟨M5, fr5, fun hb => ?_, fun hb => ?_⟩
  · rw [start, X12_pack_j52, q_wr, ← hM5, e26, hb, if_neg (show ¬ (if true = true then (1 : Int32) else 0) = 0 by decide), e25]
  · have r5 : M5 14 0 0 = nI n := a_wf.cntR (M := M5) (by rw [a5]; exact hw)
    have aT : a_r (c_T 0 55 M5) = a_r X := by rw [(c_TK M5).st r5 hN]; exact a5
    have good : ∀ k, k < K → (p_p Lt z (k + 1)).2 = false := fun k hk => by
      by_cases q : k + 1 = K
      · rw [q]; exact hb
      · exact (p_go (hl (k + 1) (by omega))).1
    have recs : ∀ i, i < K → r_rec Lt z i (p_p Lt z i).1 (c_T 0 55 M5) := fun i hi => by
      obtain ⟨t1, t2, t3, t4, t5⟩ := f3 i (by omega) hi (good i hi)
      have cell : ∀ c x j, c = 20 ∨ c = 21 → c_T 0 55 M5 c x j = Mr c x j := fun c x j q => by
        rw [c_Tn (by omega) (by omega), hM5, u_n (by omega), s_n (by omega)]
      exact ⟨by rw [cell _ _ _ (by omega)]; exact t1, by rw [cell _ _ _ (by omega)]; exact t2, fun w j hj => by rw [cell _ _ _ (by omega)]; exact t3 w j hj, fun w j hj => by rw [cell _ _ _ (by omega)]; exact t4 w j hj, by rw [cell _ _ _ (by omega)]; exact t5⟩
    obtain ⟨M', g1, g2, g3⟩ := h_pkR2 (dd := dd) hK good K 200 0 n (c_T 0 55 M5) (by omega) (by omega) (by rw [c_Tn (by omega) (by omega)]; exact e27) recs (by rw [aT]; exact hw)
    rw [aT] at g2 g3
    have go : f_X12_pack X = X12_pack_l79 200 (nI 0) (c_T 0 55 M5) := by
      rw [start, X12_pack_j52, q_wr, ← hM5, e26, hb, if_pos (show (if false = true then (1 : Int32) else 0) = 0 by decide), h_open, q_bnd]
      rfl
    exact ⟨M', g1, fun w => by rw [go]; exact g2 w, fun f w => by rw [go]; exact g3 f w⟩
theorem w_pack {M : gk_M} (h : i_ok M) : i_same Int32 f_X11_pack f_X12_pack M := by
  obtain ⟨N, dd, hd, hw, hc, hN, c0, r0, hwc⟩ := h.get
  obtain ⟨z, hz, l1, l2, l3⟩ := h.1.2.2.1
  obtain ⟨Lt, hLt⟩ : ∃ Lt : Nat → Nat, Lt = fun j => (M 11 0 j).toNatClampNeg := ⟨_, rfl⟩
  have lt : ∀ j, j < z → Lt j < 256 ∧ M 11 0 j = nI (Lt j) := fun j hj => by
    obtain ⟨-, b, hb, eb⟩ := l3 j hj
    rw [hLt]
    show (M 11 0 j).toNatClampNeg < 256 ∧ M 11 0 j = nI (M 11 0 j).toNatClampNeg
    rw [eb, q_cl (by omega)]
    exact ⟨hb, rfl⟩
  have pC : p_C Lt z M := ⟨hz, l1, lt⟩
  have pR : p_R Lt z M := ⟨hz, l2, fun j hj => ⟨(lt j hj).1, by rw [← (l3 j hj).1]; exact (lt j hj).2⟩⟩
  obtain ⟨K, hK1, hK, he, hl⟩ := p_ex (Lt := Lt) hz
  obtain ⟨M1, e1, e2, e3⟩ := h_copyW (k := 1) (o := 0) (by decide) (by decide) (by decide) hwc
  have hw1 : a_wf (a_c 1 M1) N dd := by rw [e2]; exact hwc
  obtain ⟨M2, x, g1, g2, g3, g4⟩ := h_pkG (dd := dd) hK hz he hl K 200 0 N M1 (by omega) (by omega) (pC.ch e3) hw1
  rw [e2, hc] at g3 g4
  have into : f_X6_readInto 1 M1 = X6_readInto_j74 x (nI K) (s_S 3 2 3 (p_p Lt z K) M2) := by
    rw [← g1, f_X6_readInto, q_gd (q_lt (by decide)), q_wr, q_gd q_b0, q_wr]
    rfl
  obtain ⟨Mc, hMc⟩ : ∃ Mc, Mc = gk_up (s_S 3 2 3 (p_p Lt z K) M2) 3 0 1 0 := ⟨_, rfl⟩
  have ch := e3.tr g2
  have fc : ∀ c i j, ¬ (c = 3 ∧ i = 0) → Mc c i j = M2 c i j := fun c i j q => by rw [hMc, u_n (by omega), s_n (by omega)]
  have f0 : ∀ c i j, c ≠ 0 → c ≠ 4 → ¬ ((c = 2 ∨ c = 7 ∨ c = 8) ∧ i = 1) → ¬ (c = 5 ∧ i / 6 = 1) → ¬ (c = 3 ∧ i = 0) → Mc c i j = M c i j := fun c i j q1 q2 q3 q4 q5 => by rw [fc c i j q5]; exact ch c i j q1 q2 q3 q4
  have c31 : Mc 3 0 1 = 0 := by rw [hMc, u_s]
  have c33 : Mc 3 0 3 = if (p_p Lt z K).2 = true then 1 else 0 := by rw [hMc, u_n (by omega), s_2]
  have c32 : Mc 3 0 2 = nI (p_p Lt z K).1 := by rw [hMc, u_n (by omega), s_1 (by decide)]
  have cls : f_X11_pack M = gk_bnd (if Mc 3 0 3 = 0 then if x = (-1 : Int32) then some (nI K, Mc) else some (((-2000 : Int32) - x), Mc) else some (((-1000 : Int32) - (Mc 3 0 2)), Mc)) (fun r4 M3 => if r4 ≤ 0 then X11_pack_j38 r4 M3 else gk_bnd (f_X4_copyFrom 0 1 M3) (fun _ M5 => X11_pack_j38 r4 M5)) := by
    rw [f_X11_pack, e1, q_bnd, into, X6_readInto_j74, q_wr, ← hMc]
  have le : ∀ p, p ≤ 80 → ∀ b : Int32, b = -1000 ∨ b = -2000 → b - nI p ≤ 0 := fun p hp b hb => by
    have e0 : (0 : Int32).toInt = 0 := rfl
    have m1 : (-1000 : Int32).toInt = -1000 := rfl
    have m2 : (-2000 : Int32).toInt = -2000 := rfl
    rcases hb with rfl | rfl
    · rw [z_le, e0, z_sub (by rw [z_n (by omega)]; omega) (by rw [z_n (by omega)]; omega), z_n (by omega)]; omega
    · rw [z_le, e0, z_sub (by rw [z_n (by omega)]; omega) (by rw [z_n (by omega)]; omega), z_n (by omega)]; omega
  have lK := p_p_le (Lt := Lt) (z := z) K
  have pRc : p_R Lt z Mc := ⟨hz, by rw [f0 14 0 24 (by omega) (by omega) (by omega) (by omega) (by omega)]; exact l2, fun j hj => by rw [f0 19 0 j (by omega) (by omega) (by omega) (by omega) (by omega)]; exact pR.2.2 j hj⟩
  have arc : a_r Mc = a_r M := a_r_ext r0 hN (fun j hj => f0 14 0 j (by omega) (by omega) (by omega) (by omega) (by omega)) (fun i j hj => f0 15 i j (by omega) (by omega) (by omega) (by omega) (by omega)) (fun j s hj hs => f0 16 j s (by omega) (by omega) (by omega) (by omega) (by omega))
  have ac0 : a_c 0 Mc = a_r M := by rw [a_c_congr c0 hN (fun c i j q => f0 c i j (by omega) (by omega) (by omega) (by omega) (by omega))]; exact hc
  have rc0 : Mc 14 0 0 = nI N := a_wf.cntR (M := Mc) (by rw [arc]; exact hw)
  have cc0 : Mc 2 0 3 = nI N := a_wf.cnt (k := 0) (M := Mc) (by rw [ac0]; exact hw)
  by_cases hb : (p_p Lt z K).2 = true
  · obtain ⟨M5, b1, b2, -⟩ := h_pkR (n := N) (dd := dd) hK he hl pRc (by rw [arc]; exact hw)
    refine ⟨-1000 - nI (p_p Lt z K).1, Mc, M5, ?_, b2 hb, ?_⟩
    · rw [cls, c33, hb, if_neg (show ¬ (if true = true then (1 : Int32) else 0) = 0 by decide), q_bnd, c32, if_pos (le _ (by omega) _ (Or.inl rfl)), X11_pack_j38]
    · refine i_pk h (A := a_r M) (N := N) (dd := dd) (fun c i j q => ?_) ?_ b1.2 ?_ ?_ hw hd
      · unfold p_kp at q
        rw [b1.1 c i j (by omega) (by omega) (by omega), f0 c i j (by omega) (by omega) (by omega) (by omega) (by omega)]
      · rw [b1.1 3 0 1 (by omega) (by omega) (by omega)]; exact c31
      · rw [← ac0]; exact a_c_congr cc0 hN (fun c i j q => b1.1 c i j (by omega) (by omega) (by omega))
      · rw [← arc]; exact a_r_ext rc0 hN (fun j hj => b1.1 14 0 j (by omega) (by omega) (by omega)) (fun i j hj => b1.1 15 i j (by omega) (by omega) (by omega)) (fun j s hj hs => b1.1 16 j s (by omega) (by omega) (by omega))
  · have hb' : (p_p Lt z K).2 = false := by simpa using hb
    have t0 : Mc 3 0 3 = 0 := by rw [c33, hb']; rfl
    cases q : (s_run Lt z K 0 (a_r M) N).1 with
    | some f =>
      obtain ⟨M5, b1, -, b3⟩ := h_pkR (n := N) (dd := dd) hK he hl pRc (by rw [arc]; exact hw)
      obtain ⟨M', d1, -, d3⟩ := b3 hb'
      rw [arc] at d3
      have xf := g4 f q
      have fl := s_run_lt K 0 (a_r M) N f q
      have lf := p_p_le (Lt := Lt) (z := z) f
      have pm : ¬ nI (p_p Lt z f).1 = -1 := by
        rw [z_eq, z_n (by omega)]
        intro w
        have : (((p_p Lt z f).1 : Nat) : Int) = -1 := w
        omega
      have rk : r_RK M5 (c_F 0 55 M') := c_FK d1
      have r5 : M5 14 0 0 = nI N := by rw [b1.1 14 0 0 (by omega) (by omega) (by omega)]; exact rc0
      refine ⟨-2000 - nI (p_p Lt z f).1, Mc, c_F 0 55 M', ?_, d3 f q, ?_⟩
      · rw [cls, if_pos t0, xf, if_neg pm, q_bnd, if_pos (le _ (by omega) _ (Or.inr rfl)), X11_pack_j38]
      · refine i_pk h (A := a_r M) (N := N) (dd := dd) (fun c i j q => ?_) ?_ ?_ ?_ ?_ hw hd
        · unfold p_kp at q
          rw [rk c i j (by unfold r_sc; omega), b1.1 c i j (by omega) (by omega) (by omega), f0 c i j (by omega) (by omega) (by omega) (by omega) (by omega)]
        · rw [rk 3 0 1 (by unfold r_sc; omega), b1.1 3 0 1 (by omega) (by omega) (by omega)]; exact c31
        · rw [rk 14 0 24 (by unfold r_sc; omega)]; exact b1.2
        · rw [← ac0]; exact a_c_congr cc0 hN (fun c i j q => by rw [rk c i j (by unfold r_sc; omega)]; exact b1.1 c i j (by omega) (by omega) (by omega))
        · rw [rk.st r5 hN, ← arc]; exact a_r_ext rc0 hN (fun j hj => b1.1 14 0 j (by omega) (by omega) (by omega)) (fun i j hj => b1.1 15 i j (by omega) (by omega) (by omega)) (fun j s hj hs => b1.1 16 j s (by omega) (by omega) (by omega))
    | none =>
      obtain ⟨x1, x2⟩ := g3 q
      obtain ⟨B, hB⟩ : ∃ B, B = (s_run Lt z K 0 (a_r M) N).2.1 := ⟨_, rfl⟩
      obtain ⟨n, hn⟩ : ∃ n, n = (s_run Lt z K 0 (a_r M) N).2.2 := ⟨_, rfl⟩
      have wB : a_wf B n dd := by rw [hB, hn]; exact s_run_wf K 0 (a_r M) N hw
      have w2 : a_wf (a_c 1 M2) n dd := by rw [x2, ← hB]; exact wB
      have acm : a_c 1 Mc = B := by rw [a_c_congr w2.cnt w2.1 (fun c i j q => fc c i j (by omega)), x2, ← hB]
      obtain ⟨X, k1, k2, k3⟩ := h_copyW (k := 0) (o := 1) (N := n) (dd := dd) (by decide) (by decide) (by decide) (M := Mc) (by rw [acm]; exact wB)
      rw [acm] at k2
      have fX : ∀ c i j, c ≠ 0 → c ≠ 4 → ¬ ((c = 2 ∨ c = 7 ∨ c = 8) ∧ i = 0) → ¬ (c = 5 ∧ i / 6 = 0) → X c i j = Mc c i j := k3
      have pRX : p_R Lt z X := ⟨hz, by rw [fX 14 0 24 (by omega) (by omega) (by omega) (by omega)]; exact pRc.2.1, fun j hj => by rw [fX 19 0 j (by omega) (by omega) (by omega) (by omega)]; exact pRc.2.2 j hj⟩
      have arX : a_r X = a_r M := by
        rw [← arc]
        exact a_r_ext rc0 hN (fun j hj => fX 14 0 j (by omega) (by omega) (by omega) (by omega)) (fun i j hj => fX 15 i j (by omega) (by omega) (by omega) (by omega)) (fun j s hj hs => fX 16 j s (by omega) (by omega) (by omega) (by omega))
      obtain ⟨M5, b1, -, b3⟩ := h_pkR (n := N) (dd := dd) hK he hl pRX (by rw [arX]; exact hw)
      obtain ⟨M', d1, d2, -⟩ := b3 hb'
      rw [arX] at d2
      obtain ⟨d4, d5⟩ := d2 q
      have wX : a_wf (a_c 0 X) n dd := by rw [k2]; exact wB
      have tot : ∀ c i j, ¬ r_st c i j → ¬ r_sc c i j → c ≠ 20 → c ≠ 21 → ¬ (c = 14 ∧ i = 0 ∧ (j = 13 ∨ j = 24 ∨ j = 25 ∨ j = 26 ∨ j = 27)) → M' c i j = X c i j := fun c i j q1 q2 q3 q4 q5 => by
        rw [d1 c i j q1, c_TK M5 c i j q2, b1.1 c i j q3 q4 q5]
      refine ⟨nI K, X, M', ?_, d4, ?_⟩
      · rw [cls, if_pos t0, x1, if_pos rfl, q_bnd, if_neg (nI_nle (by omega) (by omega)), k1, q_bnd, X11_pack_j38]
      · refine i_pk h (A := B) (N := n) (dd := dd) (fun c i j q => ?_) ?_ ?_ ?_ ?_ wB hd
        · unfold p_kp at q
          rw [tot c i j (by unfold r_st; omega) (by unfold r_sc; omega) (by omega) (by omega) (by omega), fX c i j (by omega) (by omega) (by omega) (by omega), f0 c i j (by omega) (by omega) (by omega) (by omega) (by omega)]
        · rw [tot 3 0 1 (by unfold r_st; omega) (by unfold r_sc; omega) (by omega) (by omega) (by omega), fX 3 0 1 (by omega) (by omega) (by omega) (by omega)]; exact c31
        · rw [d1 14 0 24 (by unfold r_st; omega), c_TK M5 14 0 24 (by unfold r_sc; omega)]; exact b1.2
        · rw [← k2]; exact a_c_congr wX.cnt wX.1 (fun c i j q => tot c i j (by unfold r_st; omega) (by unfold r_sc; omega) (by omega) (by omega) (by omega))
        · rw [d5, hB]
