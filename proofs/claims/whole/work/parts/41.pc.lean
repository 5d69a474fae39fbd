/-! a statement, the reference -/
def r_rec (Lt : Nat → Nat) (z k a : Nat) (M : gk_M) : Prop := M 20 0 k = nI a ∧ M 20 1 k = nI (p_l Lt z a) ∧ (p_l Lt z a = 115 → ∀ j, j < 6 → M 21 0 (6 * k + j) = p_v Lt z a j) ∧ (p_l Lt z a = 119 → ∀ j, j < 3 → M 21 0 (6 * k + j) = p_v Lt z a j) ∧ M 21 0 (6 * k + 0) = p_v Lt z a 0
theorem p_R.fr {Lt : Nat → Nat} {z : Nat} {M M' : gk_M} (h : p_R Lt z M) (hc : ∀ c i j, ¬ c = 20 → ¬ c = 21 → ¬ (c = 14 ∧ i = 0 ∧ j = 27) → M' c i j = M c i j) : p_R Lt z M' := ⟨h.1, by rw [hc 14 0 24 (by omega) (by omega) (by omega)]; exact h.2.1, fun j hj => by rw [hc 19 0 j (by omega) (by omega) (by omega)]; exact h.2.2 j hj⟩
theorem fin_R {Lt : Nat → Nat} {z k : Nat} {M : gk_M} (h : p_R Lt z M) (h27 : M 14 0 27 = nI k) {st : Nat × Bool} (hs : st.1 ≤ z) : X12_readStatement_j239 (s_S 14 25 26 st M) = some ((), s_S 14 25 26 (p_need Lt z 59 st) (gk_up M 14 0 27 (nI (k + 1)))) := by
  obtain ⟨a, b⟩ := st
  have e3 : s_S 14 25 26 (a, b) M 14 0 26 = if b = true then 1 else 0 := s_2
  have e27 : ∀ st, s_S 14 25 26 st M 14 0 27 = nI k := fun st => by rw [s_n (by omega)]; exact h27
  have no : p_at Lt z 59 (a, b) = false → X12_readStatement_j256 (s_S 14 25 26 (a, b) M) = some ((), s_S 14 25 26 (p_need Lt z 59 (a, b)) (gk_up M 14 0 27 (nI (k + 1)))) := fun q => by
    unfold p_need
    rw [q, if_neg (by decide), X12_readStatement_j256, X12_readStatement_j261, q_gd q_b1, q_wr, s_r2, s_rt, if_neg (by decide), X12_readStatement_j281, q_wr, s_ra, show (0 : Int32) = nI 0 from rfl, nI_add, s_r1, q_wr, e27, nI_1, s_cm (by omega)]
    rfl
  rw [X12_readStatement_j239, e3]
  cases b with
  | true => rw [if_pos (by decide)]; exact no (by simp [p_at])
  | false =>
    rw [if_neg (by decide), h_R h hs, q_bnd]
    by_cases q : a < z
    · have l := (h.2.2 a q).1
      rw [if_pos q]
      by_cases q2 : Lt a = 59
      · have p : p_at Lt z 59 (a, false) = true := by simp [p_at, q, q2]
        unfold p_need
        rw [p, if_pos rfl, if_pos (show nI (Lt a) = 59 by rw [q2]; rfl), X12_readStatement_j261, q_gd q_b0, q_wr, s_r0, s_rf, if_pos rfl, X12_readStatement_j281, q_wr, s_ra, nI_1, s_r1, q_wr, e27, nI_1, s_cm (by omega)]
      · rw [if_neg (show ¬ nI (Lt a) = 59 from fun w => q2 ((nI_eq (b := 59) (by omega) (by decide)).mp w))]
        exact no (by simp [p_at, q2])
    · rw [if_neg q, if_neg (by decide)]
      exact no (by simp [p_at, q])
theorem st_R {Lt : Nat → Nat} {z a k : Nat} {M : gk_M} (h : p_R Lt z M) (ha : a ≤ z) (hk : k < 28) (h27 : M 14 0 27 = nI k) : ∃ M', f_X12_readStatement (s_S 14 25 26 (a, false) M) = some ((), s_S 14 25 26 (p_e Lt z a) M') ∧ M' 14 0 27 = nI (k + 1) ∧ ((p_e Lt z a).2 = false → r_rec Lt z k a M') ∧ ∀ c i j, ¬ (c = 20 ∧ j = k) → ¬ (c = 21 ∧ 6 * k ≤ j ∧ j < 6 * k + 6) → ¬ (c = 14 ∧ i = 0 ∧ j = 27) → M' c i j = M c i j := by
  obtain ⟨l, hl⟩ : ∃ l, l = if a < z then nI (Lt a) else -1 := ⟨_, rfl⟩
  obtain ⟨Mb, hMb⟩ : ∃ Mb, Mb = gk_up (gk_up M 20 0 k (nI a)) 20 1 k l := ⟨_, rfl⟩
  have lc : ∀ c, c < 256 → (l = nI c ↔ p_l Lt z a = c) := fun c hc => by
    rw [hl]
    unfold p_l
    by_cases q : a < z
    · rw [if_pos q, if_pos q]; exact nI_eq (by have := (h.2.2 a q).1; omega) (by omega)
    · rw [if_neg q, if_neg q]
      refine ⟨fun w => ?_, fun w => by omega⟩
      have := congrArg Int32.toInt w
      rw [z_n (by omega)] at this
      have w2 : (-1 : Int32).toInt = -1 := rfl
      omega
  have lt : ∀ c, c < 900 → p_l Lt z a = c → a + 1 ≤ z := fun c hc h => by
    unfold p_l at h
    by_cases q : a < z
    · exact q
    · rw [if_neg q] at h; omega
  have fb : ∀ c i j, ¬ (c = 20 ∧ j = k) → Mb c i j = M c i j := fun c i j q => by rw [hMb, u_n (by omega), u_n (by omega)]
  have hb : p_R Lt z Mb := h.fr (fun c i j q1 _ _ => fb c i j (by omega))
  have b27 : Mb 14 0 27 = nI k := by rw [fb _ _ _ (by omega)]; exact h27
  have b200 : Mb 20 0 k = nI a := by rw [hMb, u_n (by omega), u_s]
  have b201 : Mb 20 1 k = l := by rw [hMb, u_s]
  have s27 : s_S 14 25 26 (a, false) M 14 0 27 = nI k := by rw [s_n (by omega)]; exact h27
  have i6 : (6 : Int32) * nI k = nI (6 * k) := by rw [show (6 : Int32) = nI 6 from rfl, pk_mul]
  have ij : ∀ j, nI (6 * k) + nI j = nI (6 * k + j) := fun j => nI_add _ _
  have gi : ∀ j, j < 6 → gk_in (nI (6 * k + j)) 168 = true := fun j hj => q_in (by omega) (by decide)
  have gi0 : gk_in (nI (6 * k)) 168 = true := q_in (by omega) (by decide)
  have start : ∀ x y : Option (Unit × gk_M), (if ¬ s_S 14 25 26 (a, false) Mb 14 0 26 = 0 then x else y) = y := fun x y => by rw [s_rf, if_neg (by decide)]
  have s0 : f_X12_readStatement (s_S 14 25 26 (a, false) M) = (if l = 115 then X12_readStatement_j63 (nI k) l (s_S 14 25 26 (a, false) Mb) else if l = 119 then X12_readStatement_j63 (nI k) l (s_S 14 25 26 (a, false) Mb) else if l = 114 then X12_readStatement_j63 (nI k) l (s_S 14 25 26 (a, false) Mb) else if l = 118 then X12_readStatement_j63 (nI k) l (s_S 14 25 26 (a, false) Mb) else X12_readStatement_j59 (nI k) l (s_S 14 25 26 (a, false) Mb)) := by
    rw [f_X12_readStatement, h_R h ha, q_bnd, s27, q_gd (q_in hk (by decide)), q_wr, s_ra, s_cm (by omega), q_gd (q_in hk (by decide)), q_wr, s_cm (by omega), q_cl (by omega), ← hl, ← hMb, start]
  have s1 : X12_readStatement_j63 (nI k) l (s_S 14 25 26 (a, false) Mb) = (if ¬ l = (115 : Int32) then if ¬ l = (119 : Int32) then gk_bnd (f_X12_readNumber (2 : Int32) (s_S 14 25 26 (a + 1, false) Mb)) (fun r8 M7 => gk_gd (gk_in (nI (6 * k)) 168) (gk_wr M7 21 0 (6 * k) r8 (fun M9 => X12_readStatement_j239 M9))) else gk_bnd (f_X12_readDigit (s_S 14 25 26 (a + 1, false) Mb)) (fun r16 M15 => gk_gd (gk_in (nI (6 * k)) 168) (gk_wr M15 21 0 (6 * k) r16 (fun M17 => gk_bnd (f_X12_readSigned (1 : Int32) M17) (fun r19 M18 => gk_gd (gk_in (nI (6 * k + 1)) 168) (gk_wr M18 21 0 (6 * k + 1) r19 (fun M20 => gk_bnd (f_X12_readSigned (1 : Int32) M20) (fun r22 M21 => gk_gd (gk_in (nI (6 * k + 2)) 168) (gk_wr M21 21 0 (6 * k + 2) r22 (fun M23 => X12_readStatement_j239 M23))))))))) else gk_bnd (f_X12_readDigit (s_S 14 25 26 (a + 1, false) Mb)) (fun r25 M24 => gk_gd (gk_in (nI (6 * k)) 168) (gk_wr M24 21 0 (6 * k) r25 (fun M26 => gk_bnd (f_X12_readDigit M26) (fun r28 M27 => gk_gd (gk_in (nI (6 * k + 1)) 168) (gk_wr M27 21 0 (6 * k + 1) r28 (fun M29 => gk_bnd (f_X12_readDigit M29) (fun r31 M30 => gk_gd (gk_in (nI (6 * k + 2)) 168) (gk_wr M30 21 0 (6 * k + 2) r31 (fun M32 => gk_bnd (f_X12_readNumber (3 : Int32) M32) (fun r34 M33 => gk_gd (gk_in (nI (6 * k + 3)) 168) (gk_wr M33 21 0 (6 * k + 3) r34 (fun M35 => gk_bnd (f_X12_readComma M35) (fun _ M36 => gk_bnd (f_X12_readSigned (2 : Int32) M36) (fun r39 M38 => gk_gd (gk_in (nI (6 * k + 4)) 168) (gk_wr M38 21 0 (6 * k + 4) r39 (fun M40 => gk_bnd (f_X12_readComma M40) (fun _ M41 => gk_bnd (f_X12_readSigned (2 : Int32) M41) (fun r44 M43 => gk_gd (gk_in (nI (6 * k + 5)) 168) (gk_wr M43 21 0 (6 * k + 5) r44 (fun M45 => X12_readStatement_j239 M45))))))))))))))))))))) := by
    rw [X12_readStatement_j63, X12_readStatement_j64, q_gd q_b0, q_wr, s_r0, s_rf, if_pos rfl, X12_readStatement_j84, q_wr, s_ra, nI_1, s_r1, i6]
    simp only [show (1 : Int32) = nI 1 from rfl, show (2 : Int32) = nI 2 from rfl, show (3 : Int32) = nI 3 from rfl, show (4 : Int32) = nI 4 from rfl, show (5 : Int32) = nI 5 from rfl, ij, q_cl (show 6 * k < 2 ^ 31 by omega), q_cl (show 6 * k + 1 < 2 ^ 31 by omega), q_cl (show 6 * k + 2 < 2 ^ 31 by omega), q_cl (show 6 * k + 3 < 2 ^ 31 by omega), q_cl (show 6 * k + 4 < 2 ^ 31 by omega), q_cl (show 6 * k + 5 < 2 ^ 31 by omega)]
  have up : ∀ {X : gk_M} {i : Nat} {v : Int32}, p_R Lt z X → p_R Lt z (gk_up X 21 0 i v) := fun hX => hX.fr (fun c i j q1 q2 q3 => u_n (by omega))
  have u27 : ∀ {X : gk_M} {i : Nat} {v : Int32}, X 14 0 27 = nI k → gk_up X 21 0 i v 14 0 27 = nI k := fun hX => by rw [u_n (by omega)]; exact hX
  rw [s0]
  unfold p_e r_rec
  by_cases q1 : p_l Lt z a = 115
  · have e1 : l = 115 := (lc 115 (by decide)).mpr q1
    have l1 := lt _ (by decide) q1
    have m1 := p_num_le (Lt := Lt) (k := 1) (st := (a + 1, false)) l1
    have m2 := p_num_le (Lt := Lt) (k := 1) (st := (p_s1 Lt z a).2) m1.2.1
    have m3 := p_num_le (Lt := Lt) (k := 1) (st := (p_s2 Lt z a).2) m2.2.1
    have m4 := p_num_le (Lt := Lt) (k := 3) (st := (p_s3 Lt z a).2) m3.2.1
    have m5 := p_need_le (Lt := Lt) (c := 44) (st := (p_s4 Lt z a).2) m4.2.1
    have m6 := p_sg_le (Lt := Lt) (k := 2) (st := p_s5 Lt z a) m5.2.1
    have m7 := p_need_le (Lt := Lt) (c := 44) (st := (p_s6 Lt z a).2) m6.2.1
    have m8 := p_sg_le (Lt := Lt) (k := 2) (st := p_s7 Lt z a) m7.2.1
    have r1 : ∀ X, p_R Lt z X → f_X12_readDigit (s_S 14 25 26 (a + 1, false) X) = some (nI (p_s1 Lt z a).1, s_S 14 25 26 (p_s1 Lt z a).2 X) := fun X hX => dg_R hX l1
    have r2 : ∀ X, p_R Lt z X → f_X12_readDigit (s_S 14 25 26 (p_s1 Lt z a).2 X) = some (nI (p_s2 Lt z a).1, s_S 14 25 26 (p_s2 Lt z a).2 X) := fun X hX => dg_R hX m1.2.1
    have r3 : ∀ X, p_R Lt z X → f_X12_readDigit (s_S 14 25 26 (p_s2 Lt z a).2 X) = some (nI (p_s3 Lt z a).1, s_S 14 25 26 (p_s3 Lt z a).2 X) := fun X hX => dg_R hX m2.2.1
    have r4 : ∀ X, p_R Lt z X → f_X12_readNumber 3 (s_S 14 25 26 (p_s3 Lt z a).2 X) = some (nI (p_s4 Lt z a).1, s_S 14 25 26 (p_s4 Lt z a).2 X) := fun X hX => num_R (k := 3) hX (by decide) (by decide) m3.2.1
    have r5 : ∀ X, p_R Lt z X → f_X12_readComma (s_S 14 25 26 (p_s4 Lt z a).2 X) = some ((), s_S 14 25 26 (p_s5 Lt z a) X) := fun X hX => cm_R hX m4.2.1
    have r6 : ∀ X, p_R Lt z X → f_X12_readSigned 2 (s_S 14 25 26 (p_s5 Lt z a) X) = some ((p_s6 Lt z a).1, s_S 14 25 26 (p_s6 Lt z a).2 X) := fun X hX => sg_R (k := 2) hX (by decide) (by decide) m5.2.1
    have r7 : ∀ X, p_R Lt z X → f_X12_readComma (s_S 14 25 26 (p_s6 Lt z a).2 X) = some ((), s_S 14 25 26 (p_s7 Lt z a) X) := fun X hX => cm_R hX m6.2.1
    have r8 : ∀ X, p_R Lt z X → f_X12_readSigned 2 (s_S 14 25 26 (p_s7 Lt z a) X) = some ((p_s8 Lt z a).1, s_S 14 25 26 (p_s8 Lt z a).2 X) := fun X hX => sg_R (k := 2) hX (by decide) (by decide) m7.2.1
    have vv : p_v Lt z a = p_6 (nI (p_s1 Lt z a).1) (nI (p_s2 Lt z a).1) (nI (p_s3 Lt z a).1) (nI (p_s4 Lt z a).1) (p_s6 Lt z a).1 (p_s8 Lt z a).1 := by unfold p_v; rw [if_pos q1]
    refine ⟨gk_up (gk_up (gk_up (gk_up (gk_up (gk_up (gk_up Mb 21 0 (6 * k) (nI (p_s1 Lt z a).1)) 21 0 (6 * k + 1) (nI (p_s2 Lt z a).1)) 21 0 (6 * k + 2) (nI (p_s3 Lt z a).1)) 21 0 (6 * k + 3) (nI (p_s4 Lt z a).1)) 21 0 (6 * k + 4) (p_s6 Lt z a).1) 21 0 (6 * k + 5) (p_s8 Lt z a).1) 14 0 27 (nI (k + 1)), ?_, u_s, ?_, ?_⟩
    · rw [if_pos e1, s1, if_neg (fun w => w e1), r1 _ hb, q_bnd, q_gd gi0, q_wr, s_cm (by omega), r2 _ (up hb), q_bnd, q_gd (gi 1 (by decide)), q_wr, s_cm (by omega), r3 _ (up (up hb)), q_bnd, q_gd (gi 2 (by decide)), q_wr, s_cm (by omega), r4 _ (up (up (up hb))), q_bnd, q_gd (gi 3 (by decide)), q_wr, s_cm (by omega), r5 _ (up (up (up (up hb)))), q_bnd, r6 _ (up (up (up (up hb)))), q_bnd, q_gd (gi 4 (by decide)), q_wr, s_cm (by omega), r7 _ (up (up (up (up (up hb))))), q_bnd, r8 _ (up (up (up (up (up hb))))), q_bnd, q_gd (gi 5 (by decide)), q_wr, s_cm (by omega), fin_R (up (up (up (up (up (up hb)))))) (u27 (u27 (u27 (u27 (u27 (u27 b27)))))) (st := (p_s8 Lt z a).2) m8.2.1, if_pos q1]
    · intro _
      have c0 : ∀ i, (gk_up (gk_up (gk_up (gk_up (gk_up (gk_up (gk_up Mb 21 0 (6 * k) (nI (p_s1 Lt z a).1)) 21 0 (6 * k + 1) (nI (p_s2 Lt z a).1)) 21 0 (6 * k + 2) (nI (p_s3 Lt z a).1)) 21 0 (6 * k + 3) (nI (p_s4 Lt z a).1)) 21 0 (6 * k + 4) (p_s6 Lt z a).1) 21 0 (6 * k + 5) (p_s8 Lt z a).1) 14 0 27 (nI (k + 1))) 20 i k = Mb 20 i k := fun i => by rw [u_n (by omega), u_n (by omega), u_n (by omega), u_n (by omega), u_n (by omega), u_n (by omega), u_n (by omega)]
      have v0 : (gk_up (gk_up (gk_up (gk_up (gk_up (gk_up (gk_up Mb 21 0 (6 * k) (nI (p_s1 Lt z a).1)) 21 0 (6 * k + 1) (nI (p_s2 Lt z a).1)) 21 0 (6 * k + 2) (nI (p_s3 Lt z a).1)) 21 0 (6 * k + 3) (nI (p_s4 Lt z a).1)) 21 0 (6 * k + 4) (p_s6 Lt z a).1) 21 0 (6 * k + 5) (p_s8 Lt z a).1) 14 0 27 (nI (k + 1))) 21 0 (6 * k + 0) = p_v Lt z a 0 := by rw [vv, u_n (by omega), u_n (by omega), u_n (by omega), u_n (by omega), u_n (by omega), u_n (by omega), Nat.add_zero, u_s]; rfl
      refine ⟨by rw [c0]; exact b200, by rw [c0, b201, q1]; exact e1, fun _ j hj => ?_, fun w => by omega, v0⟩
      rcases (show j = 0 ∨ j = 1 ∨ j = 2 ∨ j = 3 ∨ j = 4 ∨ j = 5 by omega) with rfl | rfl | rfl | rfl | rfl | rfl
      · exact v0
      · rw [vv, u_n (by omega), u_n (by omega), u_n (by omega), u_n (by omega), u_n (by omega), u_s]; rfl
      · rw [vv, u_n (by omega), u_n (by omega), u_n (by omega), u_n (by omega), u_s]; rfl
      · rw [vv, u_n (by omega), u_n (by omega), u_n (by omega), u_s]; rfl
      · rw [vv, u_n (by omega), u_n (by omega), u_s]; rfl
      · rw [vv, u_n (by omega), u_s]; rfl
    · intro c i j n1 n2 n3
      rw [u_n (by omega), u_n (by omega), u_n (by omega), u_n (by omega), u_n (by omega), u_n (by omega), u_n (by omega)]
      exact fb c i j n1
  · have e1 : ¬ l = 115 := fun w => q1 ((lc 115 (by decide)).mp w)
    by_cases q2 : p_l Lt z a = 119
    · have e2 : l = 119 := (lc 119 (by decide)).mpr q2
      have l1 := lt _ (by decide) q2
      have m1 := p_num_le (Lt := Lt) (k := 1) (st := (a + 1, false)) l1
      have m2 := p_sg_le (Lt := Lt) (k := 1) (st := (p_s1 Lt z a).2) m1.2.1
      have m3 := p_sg_le (Lt := Lt) (k := 1) (st := (p_w2 Lt z a).2) m2.2.1
      have r1 : ∀ X, p_R Lt z X → f_X12_readDigit (s_S 14 25 26 (a + 1, false) X) = some (nI (p_s1 Lt z a).1, s_S 14 25 26 (p_s1 Lt z a).2 X) := fun X hX => dg_R hX l1
      have r2 : ∀ X, p_R Lt z X → f_X12_readSigned 1 (s_S 14 25 26 (p_s1 Lt z a).2 X) = some ((p_w2 Lt z a).1, s_S 14 25 26 (p_w2 Lt z a).2 X) := fun X hX => sg_R (k := 1) hX (by decide) (by decide) m1.2.1
      have r3 : ∀ X, p_R Lt z X → f_X12_readSigned 1 (s_S 14 25 26 (p_w2 Lt z a).2 X) = some ((p_w3 Lt z a).1, s_S 14 25 26 (p_w3 Lt z a).2 X) := fun X hX => sg_R (k := 1) hX (by decide) (by decide) m2.2.1
      have vv : p_v Lt z a = p_6 (nI (p_s1 Lt z a).1) (p_w2 Lt z a).1 (p_w3 Lt z a).1 0 0 0 := by unfold p_v; rw [if_neg q1, if_pos q2]
      refine ⟨gk_up (gk_up (gk_up (gk_up Mb 21 0 (6 * k) (nI (p_s1 Lt z a).1)) 21 0 (6 * k + 1) (p_w2 Lt z a).1) 21 0 (6 * k + 2) (p_w3 Lt z a).1) 14 0 27 (nI (k + 1)), ?_, u_s, ?_, ?_⟩
      · rw [if_neg e1, if_pos e2, s1, if_pos e1, if_neg (fun w => w e2), r1 _ hb, q_bnd, q_gd gi0, q_wr, s_cm (by omega), r2 _ (up hb), q_bnd, q_gd (gi 1 (by decide)), q_wr, s_cm (by omega), r3 _ (up (up hb)), q_bnd, q_gd (gi 2 (by decide)), q_wr, s_cm (by omega), fin_R (up (up (up hb))) (u27 (u27 (u27 b27))) (st := (p_w3 Lt z a).2) m3.2.1, if_neg q1, if_pos q2]
      · intro _
        have c0 : ∀ i, (gk_up (gk_up (gk_up (gk_up Mb 21 0 (6 * k) (nI (p_s1 Lt z a).1)) 21 0 (6 * k + 1) (p_w2 Lt z a).1) 21 0 (6 * k + 2) (p_w3 Lt z a).1) 14 0 27 (nI (k + 1))) 20 i k = Mb 20 i k := fun i => by rw [u_n (by omega), u_n (by omega), u_n (by omega), u_n (by omega)]
        have v0 : (gk_up (gk_up (gk_up (gk_up Mb 21 0 (6 * k) (nI (p_s1 Lt z a).1)) 21 0 (6 * k + 1) (p_w2 Lt z a).1) 21 0 (6 * k + 2) (p_w3 Lt z a).1) 14 0 27 (nI (k + 1))) 21 0 (6 * k + 0) = p_v Lt z a 0 := by rw [vv, u_n (by omega), u_n (by omega), u_n (by omega), Nat.add_zero, u_s]; rfl
        refine ⟨by rw [c0]; exact b200, by rw [c0, b201, q2]; exact e2, fun w => by omega, fun _ j hj => ?_, v0⟩
        rcases (show j = 0 ∨ j = 1 ∨ j = 2 by omega) with rfl | rfl | rfl
        · exact v0
        · rw [vv, u_n (by omega), u_n (by omega), u_s]; rfl
        · rw [vv, u_n (by omega), u_s]; rfl
      · intro c i j n1 n2 n3
        rw [u_n (by omega), u_n (by omega), u_n (by omega), u_n (by omega)]
        exact fb c i j n1
    · have e2 : ¬ l = 119 := fun w => q2 ((lc 119 (by decide)).mp w)
      by_cases q3 : p_l Lt z a = 114 ∨ p_l Lt z a = 118
      · have l1 : a + 1 ≤ z := by rcases q3 with q | q; exact lt _ (by decide) q; exact lt _ (by decide) q
        have m1 := p_num_le (Lt := Lt) (k := 2) (st := (a + 1, false)) l1
        have r1 : ∀ X, p_R Lt z X → f_X12_readNumber 2 (s_S 14 25 26 (a + 1, false) X) = some (nI (p_q1 Lt z a).1, s_S 14 25 26 (p_q1 Lt z a).2 X) := fun X hX => num_R (k := 2) hX (by decide) (by decide) l1
        have vv : p_v Lt z a = p_6 (nI (p_q1 Lt z a).1) 0 0 0 0 0 := by unfold p_v; rw [if_neg q1, if_neg q2]
        have go : X12_readStatement_j63 (nI k) l (s_S 14 25 26 (a, false) Mb) = some ((), s_S 14 25 26 (p_need Lt z 59 (p_q1 Lt z a).2) (gk_up (gk_up Mb 21 0 (6 * k) (nI (p_q1 Lt z a).1)) 14 0 27 (nI (k + 1)))) := by
          rw [s1, if_pos e1, if_pos e2, r1 _ hb, q_bnd, q_gd gi0, q_wr, s_cm (by omega), fin_R (up hb) (u27 b27) (st := (p_q1 Lt z a).2) m1.2.1]
        refine ⟨gk_up (gk_up Mb 21 0 (6 * k) (nI (p_q1 Lt z a).1)) 14 0 27 (nI (k + 1)), ?_, u_s, ?_, ?_⟩
        · rw [if_neg e1, if_neg e2, if_neg q1, if_neg q2, if_pos q3]
          rcases q3 with q | q
          · rw [if_pos (show l = 114 from (lc 114 (by decide)).mpr q)]; exact go
          · rw [if_neg (show ¬ l = 114 from fun w => by have := (lc 114 (by decide)).mp w; omega), if_pos (show l = 118 from (lc 118 (by decide)).mpr q)]; exact go
        · intro _
          have ll : l = nI (p_l Lt z a) := by rcases q3 with q | q; exact (lc _ (by omega)).mpr rfl; exact (lc _ (by omega)).mpr rfl
          exact ⟨by rw [u_n (by omega), u_n (by omega)]; exact b200, by rw [u_n (by omega), u_n (by omega), b201]; exact ll, fun w => by omega, fun w => by omega, by rw [vv, u_n (by omega), Nat.add_zero, u_s]; rfl⟩
        · intro c i j n1 n2 n3
          rw [u_n (by omega), u_n (by omega)]
          exact fb c i j n1
      · have e3 : ¬ l = 114 := fun w => q3 (Or.inl ((lc 114 (by decide)).mp w))
        have e4 : ¬ l = 118 := fun w => q3 (Or.inr ((lc 118 (by decide)).mp w))
        have pn : p_num Lt z 2 (a, true) = (0, (a, true)) := by unfold p_num; rw [if_neg (by simp)]
        have r1 : f_X12_readNumber 2 (s_S 14 25 26 (a, true) Mb) = some (nI 0, s_S 14 25 26 (a, true) Mb) := by
          have := num_R (k := 2) (b := true) hb (by decide) (by decide) ha
          rw [pn] at this
          exact this
        have f := fin_R (up (i := 6 * k) (v := nI 0) hb) (u27 b27) (st := (a, true)) ha
        refine ⟨gk_up (gk_up Mb 21 0 (6 * k) (nI 0)) 14 0 27 (nI (k + 1)), ?_, u_s, ?_, ?_⟩
        · rw [if_neg e1, if_neg e2, if_neg e3, if_neg e4, if_neg q1, if_neg q2, if_neg q3, X12_readStatement_j59, X12_readStatement_j64, q_gd q_b1, q_wr, s_r2, s_rt, if_neg (by decide), X12_readStatement_j84, q_wr, s_ra, show nI a + 0 = nI a by rw [show (0 : Int32) = nI 0 from rfl, nI_add]; rfl, s_r1, if_pos e1, if_pos e2, r1, q_bnd, i6, q_gd gi0, q_wr, q_cl (by omega), s_cm (by omega), f]
          have : p_need Lt z 59 (a, true) = (a, true) := by unfold p_need; rw [if_neg (by simp [p_at])]
          rw [this]
        · intro w
          rw [if_neg q1, if_neg q2, if_neg q3] at w
          exact Bool.noConfusion w
        · intro c i j n1 n2 n3
          rw [u_n (by omega), u_n (by omega)]
          exact fb c i j n1
