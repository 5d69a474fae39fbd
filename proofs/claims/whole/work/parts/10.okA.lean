set_option maxRecDepth 100000 in
set_option maxHeartbeats 4000000 in
theorem ok_X0_fallCalm  (M : gk_M) (K : gk_V → gk_M → Prop) (h : gk_Sat gk_U (f_X0_fallCalm  M) K) : gk_MS 0 yX0_fallCalm cX0_fallCalm 1 none [gk_R 0 0] M K := by

  refine gk_MS_of [some (gk_R 0 0)] (by decide +kernel) (Nat.le_of_ble_eq_true rfl) (And.intro rfl True.intro) ?_
  show gk_G RX0 cX0_fallCalm 1 0 none none K 0 [some (gk_R 0 0)] [] M
  refine gk_aload_n dX0_fallCalm_0 rfl rfl ?_
  refine gk_iconst (v := (0 : Int32)) dX0_fallCalm_1 (by decide) ?_
  refine gk_putI fr_X0_9 si_0_1 (by decide) dX0_fallCalm_2 h (fun M1 h => ?_)
  refine gk_aload_n dX0_fallCalm_5 rfl rfl ?_
  refine gk_iconst (v := (0 : Int32)) dX0_fallCalm_6 (by decide) ?_
  refine gk_putI fr_X0_15 si_0_2 (by decide) dX0_fallCalm_7 h (fun M2 h => ?_)
  exact gk_vret dX0_fallCalm_10 rfl h
set_option maxRecDepth 100000 in
set_option maxHeartbeats 4000000 in
theorem ok_X7_drawBelow (a1 : Int32) (M : gk_M) (K : gk_V → gk_M → Prop) (h : gk_Sat gk_I (f_X7_drawBelow a1 M) K) : gk_MS 0 yX7_drawBelow cX7_drawBelow 2 (some .int) [gk_R 4 0, gk_I a1] M K := by

  refine gk_MS_of [some (gk_R 4 0), some (gk_I a1)] (by decide +kernel) (Nat.le_of_ble_eq_true rfl) (And.intro rfl (And.intro rfl True.intro)) ?_
  show gk_G RX7 cX7_drawBelow 2 0 (some .int) none K 0 [some (gk_R 4 0), some (gk_I a1)] [] M
  refine gk_aload_n dX7_drawBelow_0 rfl rfl ?_
  refine gk_aload_n dX7_drawBelow_1 rfl rfl ?_
  refine gk_getI fr_X7_7 si_4_0 (by decide) dX7_drawBelow_2 ?_
  refine gk_ldc dX7_drawBelow_5 kc_X7_13 ?_
  refine gk_imul dX7_drawBelow_7 ?_
  refine gk_sipush (v := (12345 : Int32)) dX7_drawBelow_8 (by decide) ?_
  refine gk_iadd dX7_drawBelow_11 ?_
  refine gk_putI fr_X7_7 si_4_0 (by decide) dX7_drawBelow_12 h (fun M1 h => ?_)
  refine gk_iload_n dX7_drawBelow_15 rfl rfl ?_
  refine gk_if_le (tgt := 34) dX7_drawBelow_16 (by decide) h (fun h => ?_) (fun h => ?_)
  · refine gk_iconst (v := (0 : Int32)) dX7_drawBelow_34 (by decide) ?_
    exact gk_iret dX7_drawBelow_35 rfl h
  · refine gk_aload_n dX7_drawBelow_19 rfl rfl ?_
    refine gk_getI fr_X7_7 si_4_0 (by decide) dX7_drawBelow_20 ?_
    refine gk_ldc dX7_drawBelow_23 kc_X7_14 ?_
    refine gk_iand dX7_drawBelow_25 ?_
    refine gk_ldc dX7_drawBelow_26 kc_X7_15 ?_
    refine gk_idiv dX7_drawBelow_28 (by decide) ?_
    refine gk_iload_n dX7_drawBelow_29 rfl rfl ?_
    refine gk_irem_g dX7_drawBelow_30 h (fun h => ?_)
    refine gk_goto (tgt := 35) dX7_drawBelow_31 (by decide) ?_
    exact gk_iret dX7_drawBelow_35 rfl h
set_option maxRecDepth 100000 in
set_option maxHeartbeats 4000000 in
theorem ok_X0_drawBy (a2 : Int32) (M : gk_M) (K : gk_V → gk_M → Prop) (h : gk_Sat gk_U (f_X0_drawBy a2 M) K) : gk_MS 1 yX0_drawBy cX0_drawBy 3 none [gk_R 0 0, gk_R 4 0, gk_I a2] M K := by

  refine gk_MS_of [some (gk_R 0 0), some (gk_R 4 0), some (gk_I a2)] (by decide +kernel) (Nat.le_of_ble_eq_true rfl) (And.intro rfl (And.intro rfl (And.intro rfl True.intro))) ?_
  show gk_G RX0 cX0_drawBy 3 1 none none K 0 [some (gk_R 0 0), some (gk_R 4 0), some (gk_I a2)] [] M
  refine gk_aload_n dX0_drawBy_0 rfl rfl ?_
  refine gk_iload_n dX0_drawBy_1 rfl rfl ?_
  refine gk_putI fr_X0_18 si_0_0 (by decide) dX0_drawBy_2 h (fun M1 h => ?_)
  refine gk_aload_n dX0_drawBy_5 rfl rfl ?_
  refine gk_aload_n dX0_drawBy_6 rfl rfl ?_
  refine gk_getI fr_X0_9 si_0_1 (by decide) dX0_drawBy_7 ?_
  refine gk_putI fr_X0_21 si_0_3 (by decide) dX0_drawBy_10 h (fun M2 h => ?_)
  refine gk_aload_n dX0_drawBy_13 rfl rfl ?_
  refine gk_aload_n dX0_drawBy_14 rfl rfl ?_
  refine gk_getI fr_X0_15 si_0_2 (by decide) dX0_drawBy_15 ?_
  refine gk_putI fr_X0_24 si_0_4 (by decide) dX0_drawBy_18 h (fun M3 h => ?_)
  refine gk_aload_n dX0_drawBy_21 rfl rfl ?_
  refine gk_aload_n dX0_drawBy_22 rfl rfl ?_
  refine gk_bipush (v := (9 : Int32)) dX0_drawBy_23 (by decide) ?_
  refine gk_callI (As := [gk_R 4 0, gk_I (9 : Int32)]) (st := [gk_R 0 0]) 0 (cr_X0_27 (by decide) rfl) (fun K' h' => ok_X7_drawBelow (9 : Int32) M3 K' h') rfl (by decide) (by decide) (fun _ => Nat.le_of_ble_eq_true rfl) dX0_drawBy_25 h (fun r5 M4 h => ?_)
  refine gk_iconst (v := (4 : Int32)) dX0_drawBy_28 (by decide) ?_
  refine gk_isub dX0_drawBy_29 ?_
  refine gk_putI fr_X0_9 si_0_1 (by decide) dX0_drawBy_30 h (fun M6 h => ?_)
  refine gk_aload_n dX0_drawBy_33 rfl rfl ?_
  refine gk_aload_n dX0_drawBy_34 rfl rfl ?_
  refine gk_bipush (v := (9 : Int32)) dX0_drawBy_35 (by decide) ?_
  refine gk_callI (As := [gk_R 4 0, gk_I (9 : Int32)]) (st := [gk_R 0 0]) 0 (cr_X0_27 (by decide) rfl) (fun K' h' => ok_X7_drawBelow (9 : Int32) M6 K' h') rfl (by decide) (by decide) (fun _ => Nat.le_of_ble_eq_true rfl) dX0_drawBy_37 h (fun r8 M7 h => ?_)
  refine gk_iconst (v := (4 : Int32)) dX0_drawBy_40 (by decide) ?_
  refine gk_isub dX0_drawBy_41 ?_
  refine gk_putI fr_X0_15 si_0_2 (by decide) dX0_drawBy_42 h (fun M9 h => ?_)
  exact gk_vret dX0_drawBy_45 rfl h
set_option maxRecDepth 100000 in
set_option maxHeartbeats 4000000 in
theorem ok_X1_eastward (a0 : Nat) (a2 : Int32) (M : gk_M) (K : gk_V → gk_M → Prop) (h : gk_Sat gk_I (f_X1_eastward a0 a2 M) K) : gk_MS 0 yX1_eastward cX1_eastward 3 (some .int) [gk_R 1 a0, gk_R 0 0, gk_I a2] M K := by
  have hga0 := h.gd
  have h := hga0.2
  have ha0 := gk_lt_of hga0.1
  refine gk_MS_of [some (gk_R 1 a0), some (gk_R 0 0), some (gk_I a2)] (by decide +kernel) (Nat.le_of_ble_eq_true rfl) (And.intro rfl (And.intro rfl (And.intro rfl True.intro))) ?_
  show gk_G RX1 cX1_eastward 3 0 (some .int) none K 0 [some (gk_R 1 a0), some (gk_R 0 0), some (gk_I a2)] [] M
  refine gk_aload_n dX1_eastward_0 rfl rfl ?_
  refine gk_getI fr_X1_7 si_0_1 (by decide) dX1_eastward_1 ?_
  exact gk_iret dX1_eastward_4 rfl h
set_option maxRecDepth 100000 in
set_option maxHeartbeats 4000000 in
theorem ok_X1_northward (a0 : Nat) (a2 : Int32) (M : gk_M) (K : gk_V → gk_M → Prop) (h : gk_Sat gk_I (f_X1_northward a0 a2 M) K) : gk_MS 0 yX1_northward cX1_northward 3 (some .int) [gk_R 1 a0, gk_R 0 0, gk_I a2] M K := by
  have hga0 := h.gd
  have h := hga0.2
  have ha0 := gk_lt_of hga0.1
  refine gk_MS_of [some (gk_R 1 a0), some (gk_R 0 0), some (gk_I a2)] (by decide +kernel) (Nat.le_of_ble_eq_true rfl) (And.intro rfl (And.intro rfl (And.intro rfl True.intro))) ?_
  show gk_G RX1 cX1_northward 3 0 (some .int) none K 0 [some (gk_R 1 a0), some (gk_R 0 0), some (gk_I a2)] [] M
  refine gk_aload_n dX1_northward_0 rfl rfl ?_
  refine gk_getI fr_X1_13 si_0_2 (by decide) dX1_northward_1 ?_
  exact gk_iret dX1_northward_4 rfl h
set_option maxRecDepth 100000 in
set_option maxHeartbeats 4000000 in
theorem ok_X3_eastward (a0 : Nat) (a2 : Int32) (M : gk_M) (K : gk_V → gk_M → Prop) (h : gk_Sat gk_I (f_X3_eastward a0 a2 M) K) : gk_MS 1 yX3_eastward cX3_eastward 3 (some .int) [gk_R 1 a0, gk_R 0 0, gk_I a2] M K := by
  have hga0 := h.gd
  have h := hga0.2
  have ha0 := gk_lt_of hga0.1
  refine gk_MS_of [some (gk_R 1 a0), some (gk_R 0 0), some (gk_I a2)] (by decide +kernel) (Nat.le_of_ble_eq_true rfl) (And.intro rfl (And.intro rfl (And.intro rfl True.intro))) ?_
  show gk_G RX3 cX3_eastward 3 1 (some .int) none K 0 [some (gk_R 1 a0), some (gk_R 0 0), some (gk_I a2)] [] M
  refine gk_aload_n dX3_eastward_0 rfl rfl ?_
  refine gk_aload_n dX3_eastward_1 rfl rfl ?_
  refine gk_iload_n dX3_eastward_2 rfl rfl ?_
  refine gk_callI (As := [gk_R 1 a0, gk_R 0 0, gk_I a2]) (st := []) 0 (cr_X3_7 ha0 rfl) (fun K' h' => ok_X1_eastward a0 a2 M K' h') rfl (by decide) (by decide) (fun _ => Nat.le_of_ble_eq_true rfl) dX3_eastward_3 h (fun r2 M1 h => ?_)
  refine gk_iconst (v := (2 : Int32)) dX3_eastward_6 (by decide) ?_
  refine gk_idiv dX3_eastward_7 (by decide) ?_
  exact gk_iret dX3_eastward_8 rfl h
set_option maxRecDepth 100000 in
set_option maxHeartbeats 4000000 in
theorem ok_X2_sign (a0 : Int32) (M : gk_M) (K : gk_V → gk_M → Prop) (h : gk_Sat gk_I (f_X2_sign a0 M) K) : gk_MS 0 yX2_sign cX2_sign 1 (some .int) [gk_I a0] M K := by

  refine gk_MS_of [some (gk_I a0)] (by decide +kernel) (Nat.le_of_ble_eq_true rfl) (And.intro rfl True.intro) ?_
  show gk_G RX2 cX2_sign 1 0 (some .int) none K 0 [some (gk_I a0)] [] M
  refine gk_iload_n dX2_sign_0 rfl rfl ?_
  refine gk_if_le (tgt := 8) dX2_sign_1 (by decide) h (fun h => ?_) (fun h => ?_)
  · refine gk_iload_n dX2_sign_8 rfl rfl ?_
    refine gk_if_ge (tgt := 16) dX2_sign_9 (by decide) h (fun h => ?_) (fun h => ?_)
    · refine gk_iconst (v := (0 : Int32)) dX2_sign_16 (by decide) ?_
      exact gk_iret dX2_sign_17 rfl h
    · refine gk_iconst (v := (-1 : Int32)) dX2_sign_12 (by decide) ?_
      refine gk_goto (tgt := 17) dX2_sign_13 (by decide) ?_
      exact gk_iret dX2_sign_17 rfl h
  · refine gk_iconst (v := (1 : Int32)) dX2_sign_4 (by decide) ?_
    refine gk_goto (tgt := 17) dX2_sign_5 (by decide) ?_
    exact gk_iret dX2_sign_17 rfl h
set_option maxRecDepth 100000 in
set_option maxHeartbeats 4000000 in
theorem ok_X2_eastward (a0 : Nat) (a2 : Int32) (M : gk_M) (K : gk_V → gk_M → Prop) (h : gk_Sat gk_I (f_X2_eastward a0 a2 M) K) : gk_MS 2 yX2_eastward cX2_eastward 3 (some .int) [gk_R 1 a0, gk_R 0 0, gk_I a2] M K := by
  have hga0 := h.gd
  have h := hga0.2
  have ha0 := gk_lt_of hga0.1
  refine gk_MS_of [some (gk_R 1 a0), some (gk_R 0 0), some (gk_I a2)] (by decide +kernel) (Nat.le_of_ble_eq_true rfl) (And.intro rfl (And.intro rfl (And.intro rfl True.intro))) ?_
  show gk_G RX2 cX2_eastward 3 2 (some .int) none K 0 [some (gk_R 1 a0), some (gk_R 0 0), some (gk_I a2)] [] M
  refine gk_aload_n dX2_eastward_0 rfl rfl ?_
  refine gk_aload_n dX2_eastward_1 rfl rfl ?_
  refine gk_iload_n dX2_eastward_2 rfl rfl ?_
  refine gk_callI (As := [gk_R 1 a0, gk_R 0 0, gk_I a2]) (st := []) 1 (cr_X2_7 ha0 rfl) (fun K' h' => ok_X3_eastward a0 a2 M K' h') rfl (by decide) (by decide) (fun _ => Nat.le_of_ble_eq_true rfl) dX2_eastward_3 h (fun r2 M1 h => ?_)
  refine gk_iload_n dX2_eastward_6 rfl rfl ?_
  refine gk_aload_n dX2_eastward_7 rfl rfl ?_
  refine gk_getI fr_X2_11 si_0_1 (by decide) dX2_eastward_8 ?_
  refine gk_callI (As := [gk_I (M1 0 0 1)]) (st := [gk_I a2, gk_I r2]) 0 (cr_X2_17 rfl) (fun K' h' => ok_X2_sign (M1 0 0 1) M1 K' h') rfl (by decide) (by decide) (fun _ => Nat.le_of_ble_eq_true rfl) dX2_eastward_11 h (fun r4 M3 h => ?_)
  refine gk_imul dX2_eastward_14 ?_
  refine gk_iadd dX2_eastward_15 ?_
  exact gk_iret dX2_eastward_16 rfl h
set_option maxRecDepth 100000 in
set_option maxHeartbeats 4000000 in
theorem ok_X3_northward (a0 : Nat) (a2 : Int32) (M : gk_M) (K : gk_V → gk_M → Prop) (h : gk_Sat gk_I (f_X3_northward a0 a2 M) K) : gk_MS 1 yX3_northward cX3_northward 3 (some .int) [gk_R 1 a0, gk_R 0 0, gk_I a2] M K := by
  have hga0 := h.gd
  have h := hga0.2
  have ha0 := gk_lt_of hga0.1
  refine gk_MS_of [some (gk_R 1 a0), some (gk_R 0 0), some (gk_I a2)] (by decide +kernel) (Nat.le_of_ble_eq_true rfl) (And.intro rfl (And.intro rfl (And.intro rfl True.intro))) ?_
  show gk_G RX3 cX3_northward 3 1 (some .int) none K 0 [some (gk_R 1 a0), some (gk_R 0 0), some (gk_I a2)] [] M
  refine gk_aload_n dX3_northward_0 rfl rfl ?_
  refine gk_aload_n dX3_northward_1 rfl rfl ?_
  refine gk_iload_n dX3_northward_2 rfl rfl ?_
  refine gk_callI (As := [gk_R 1 a0, gk_R 0 0, gk_I a2]) (st := []) 0 (cr_X3_11 ha0 rfl) (fun K' h' => ok_X1_northward a0 a2 M K' h') rfl (by decide) (by decide) (fun _ => Nat.le_of_ble_eq_true rfl) dX3_northward_3 h (fun r2 M1 h => ?_)
  refine gk_iconst (v := (2 : Int32)) dX3_northward_6 (by decide) ?_
  refine gk_idiv dX3_northward_7 (by decide) ?_
  exact gk_iret dX3_northward_8 rfl h
set_option maxRecDepth 100000 in
set_option maxHeartbeats 4000000 in
theorem ok_X8_copyFrom (a0 : Nat) (a1 : Nat) (M : gk_M) (K : gk_V → gk_M → Prop) (h : gk_Sat gk_U (f_X8_copyFrom a0 a1 M) K) : gk_MS 0 yX8_copyFrom cX8_copyFrom 2 none [gk_R 5 a0, gk_R 5 a1] M K := by
  have hga0 := h.gd
  have h := hga0.2
  have ha0 := gk_lt_of hga0.1
  have hga1 := h.gd
  have h := hga1.2
  have ha1 := gk_lt_of hga1.1
  refine gk_MS_of [some (gk_R 5 a0), some (gk_R 5 a1)] (by decide +kernel) (Nat.le_of_ble_eq_true rfl) (And.intro rfl (And.intro rfl True.intro)) ?_
  show gk_G RX8 cX8_copyFrom 2 0 none none K 0 [some (gk_R 5 a0), some (gk_R 5 a1)] [] M
  refine gk_aload_n dX8_copyFrom_0 rfl rfl ?_
  refine gk_aload_n dX8_copyFrom_1 rfl rfl ?_
  refine gk_getI fr_X8_7 si_5_0 ha1 dX8_copyFrom_2 ?_
  refine gk_putI fr_X8_7 si_5_0 ha0 dX8_copyFrom_5 h (fun M1 h => ?_)
  refine gk_aload_n dX8_copyFrom_8 rfl rfl ?_
  refine gk_aload_n dX8_copyFrom_9 rfl rfl ?_
  refine gk_getI fr_X8_13 si_5_1 ha1 dX8_copyFrom_10 ?_
  refine gk_putI fr_X8_13 si_5_1 ha0 dX8_copyFrom_13 h (fun M2 h => ?_)
  refine gk_aload_n dX8_copyFrom_16 rfl rfl ?_
  refine gk_aload_n dX8_copyFrom_17 rfl rfl ?_
  refine gk_getI fr_X8_16 si_5_2 ha1 dX8_copyFrom_18 ?_
  refine gk_putI fr_X8_16 si_5_2 ha0 dX8_copyFrom_21 h (fun M3 h => ?_)
  refine gk_aload_n dX8_copyFrom_24 rfl rfl ?_
  refine gk_aload_n dX8_copyFrom_25 rfl rfl ?_
  refine gk_getI fr_X8_19 si_5_3 ha1 dX8_copyFrom_26 ?_
  refine gk_putI fr_X8_19 si_5_3 ha0 dX8_copyFrom_29 h (fun M4 h => ?_)
  refine gk_aload_n dX8_copyFrom_32 rfl rfl ?_
  refine gk_aload_n dX8_copyFrom_33 rfl rfl ?_
  refine gk_getI fr_X8_22 si_5_4 ha1 dX8_copyFrom_34 ?_
  refine gk_putI fr_X8_22 si_5_4 ha0 dX8_copyFrom_37 h (fun M5 h => ?_)
  refine gk_aload_n dX8_copyFrom_40 rfl rfl ?_
  refine gk_aload_n dX8_copyFrom_41 rfl rfl ?_
  refine gk_getI fr_X8_25 si_5_5 ha1 dX8_copyFrom_42 ?_
  refine gk_putI fr_X8_25 si_5_5 ha0 dX8_copyFrom_45 h (fun M6 h => ?_)
  exact gk_vret dX8_copyFrom_48 rfl h
set_option maxRecDepth 100000 in
set_option maxHeartbeats 4000000 in
theorem ok_X4_copyFrom_l40 {K : gk_V → gk_M → Prop} : ∀ (n : Nat) (x0 : Nat) (x1 : Nat) (x2 : Int32) (M : gk_M), gk_Sat gk_U (X4_copyFrom_l40 n x0 x1 x2 M) K → gk_G RX4 cX4_copyFrom 3 1 none none K 40 [some (gk_R 2 x0), some (gk_R 2 x1), some (gk_I x2)] [] M := by
  intro n
  induction n with
  | zero => intro x0 x1 x2 M h; exact h.no.elim
  | succ n ih =>
    intro x0 x1 x2 M h
    have hgx0 := h.gd
    have h := hgx0.2
    have hx0 := gk_lt_of hgx0.1
    have hgx1 := h.gd
    have h := hgx1.2
    have hx1 := gk_lt_of hgx1.1
    refine gk_iload_n dX4_copyFrom_40 rfl rfl ?_
    refine gk_aload_n dX4_copyFrom_41 rfl rfl ?_
    refine gk_getI fr_X4_32 si_2_3 hx1 dX4_copyFrom_42 ?_
    refine gk_icmp_ge (tgt := 69) dX4_copyFrom_45 (by decide) h (fun h => ?_) (fun h => ?_)
    · refine gk_aload_n dX4_copyFrom_69 rfl rfl ?_
      refine gk_aload_n dX4_copyFrom_70 rfl rfl ?_
      refine gk_getI fr_X4_32 si_2_3 hx1 dX4_copyFrom_71 ?_
      refine gk_putI fr_X4_32 si_2_3 hx0 dX4_copyFrom_74 h (fun M1 h => ?_)
      refine gk_aload_n dX4_copyFrom_77 rfl rfl ?_
      refine gk_aload_n dX4_copyFrom_78 rfl rfl ?_
      refine gk_getI fr_X4_39 si_2_4 hx1 dX4_copyFrom_79 ?_
      refine gk_putI fr_X4_39 si_2_4 hx0 dX4_copyFrom_82 h (fun M2 h => ?_)
      refine gk_aload_n dX4_copyFrom_85 rfl rfl ?_
      refine gk_aload_n dX4_copyFrom_86 rfl rfl ?_
      refine gk_getI fr_X4_24 si_2_5 hx1 dX4_copyFrom_87 ?_
      refine gk_putI fr_X4_24 si_2_5 hx0 dX4_copyFrom_90 h (fun M3 h => ?_)
      refine gk_aload_n dX4_copyFrom_93 rfl rfl ?_
      refine gk_aload_n dX4_copyFrom_94 rfl rfl ?_
      refine gk_getI fr_X4_28 si_2_6 hx1 dX4_copyFrom_95 ?_
      refine gk_putI fr_X4_28 si_2_6 hx0 dX4_copyFrom_98 h (fun M4 h => ?_)
      refine gk_aload_n dX4_copyFrom_101 rfl rfl ?_
      refine gk_aload_n dX4_copyFrom_102 rfl rfl ?_
      refine gk_getI fr_X4_42 si_2_7 hx1 dX4_copyFrom_103 ?_
      refine gk_putI fr_X4_42 si_2_7 hx0 dX4_copyFrom_106 h (fun M5 h => ?_)
      exact gk_vret dX4_copyFrom_109 rfl h
    · refine gk_aload_n dX4_copyFrom_48 rfl rfl ?_
      refine gk_get (v := gk_R 9 x0) fr_X4_20 pf_2_2 hx0 dX4_copyFrom_49 ?_
      refine gk_iload_n dX4_copyFrom_52 rfl rfl ?_
      refine gk_aald (f := fun i j => 6 * i + j) (t0 := 1) ga_9 (fun _ => rfl) hx0 dX4_copyFrom_53 h (fun h hb6 => ?_)
      have hc7 : (6 * x0 + (Int32.toNatClampNeg x2)) < 18 := by omega
      refine gk_aload_n dX4_copyFrom_54 rfl rfl ?_
      refine gk_get (v := gk_R 9 x1) fr_X4_20 pf_2_2 hx1 dX4_copyFrom_55 ?_
      refine gk_iload_n dX4_copyFrom_58 rfl rfl ?_
      refine gk_aald (f := fun i j => 6 * i + j) (t0 := 1) ga_9 (fun _ => rfl) hx1 dX4_copyFrom_59 h (fun h hb8 => ?_)
      have hc9 : (6 * x1 + (Int32.toNatClampNeg x2)) < 18 := by omega
      refine gk_callV (As := [gk_R 5 (6 * x0 + (Int32.toNatClampNeg x2)), gk_R 5 (6 * x1 + (Int32.toNatClampNeg x2))]) (st := []) 0 (cr_X4_35 hc7 rfl) (fun K' h' => ok_X8_copyFrom ((6 * x0 + (Int32.toNatClampNeg x2))) ((6 * x1 + (Int32.toNatClampNeg x2))) M K' h') rfl (by decide) (by decide) (fun _ => Nat.le_of_ble_eq_true rfl) dX4_copyFrom_60 h (fun _ M10 h => ?_)
      refine gk_iinc (v := (x2 + (1 : Int32))) (L' := [some (gk_R 2 x0), some (gk_R 2 x1), some (gk_I (x2 + (1 : Int32)))]) dX4_copyFrom_63 rfl rfl (by decide) rfl rfl ?_
      refine gk_goto (tgt := 40) dX4_copyFrom_66 (by decide) ?_
      exact gk_weak [some (gk_R 2 x0), some (gk_R 2 x1), some (gk_I (x2 + (1 : Int32)))] (And.intro rfl (And.intro rfl (And.intro rfl True.intro))) (ih x0 x1 ((x2 + (1 : Int32))) M10 h)
set_option maxRecDepth 100000 in
set_option maxHeartbeats 4000000 in
theorem ok_X4_copyFrom_l2 {K : gk_V → gk_M → Prop} : ∀ (n : Nat) (x0 : Nat) (x1 : Nat) (x2 : Int32) (M : gk_M), gk_Sat gk_U (X4_copyFrom_l2 n x0 x1 x2 M) K → gk_G RX4 cX4_copyFrom 3 1 none none K 2 [some (gk_R 2 x0), some (gk_R 2 x1), some (gk_I x2)] [] M := by
  intro n
  induction n with
  | zero => intro x0 x1 x2 M h; exact h.no.elim
  | succ n ih =>
    intro x0 x1 x2 M h
    have hgx0 := h.gd
    have h := hgx0.2
    have hx0 := gk_lt_of hgx0.1
    have hgx1 := h.gd
    have h := hgx1.2
    have hx1 := gk_lt_of hgx1.1
    refine gk_iload_n dX4_copyFrom_2 rfl rfl ?_
    refine gk_bipush (v := (7 : Int32)) dX4_copyFrom_3 (by decide) ?_
    refine gk_icmp_ge (tgt := 38) dX4_copyFrom_5 (by decide) h (fun h => ?_) (fun h => ?_)
    · refine gk_iconst (v := (0 : Int32)) dX4_copyFrom_38 (by decide) ?_
      refine gk_istore_n (L' := [some (gk_R 2 x0), some (gk_R 2 x1), some (gk_I (0 : Int32))]) dX4_copyFrom_39 rfl (by decide) rfl rfl ?_
      exact gk_weak [some (gk_R 2 x0), some (gk_R 2 x1), some (gk_I (0 : Int32))] (And.intro rfl (And.intro rfl (And.intro rfl True.intro))) (ok_X4_copyFrom_l40 200 x0 x1 ((0 : Int32)) M h)
    · refine gk_aload_n dX4_copyFrom_8 rfl rfl ?_
      refine gk_get (v := gk_R 7 x0) fr_X4_9 pf_2_0 hx0 dX4_copyFrom_9 ?_
      refine gk_iload_n dX4_copyFrom_12 rfl rfl ?_
      refine gk_aload_n dX4_copyFrom_13 rfl rfl ?_
      refine gk_get (v := gk_R 7 x1) fr_X4_9 pf_2_0 hx1 dX4_copyFrom_14 ?_
      refine gk_iload_n dX4_copyFrom_17 rfl rfl ?_
      refine gk_iald ga_7 hx1 dX4_copyFrom_18 h (fun h hb12 => ?_)
      refine gk_iast ga_7 hx0 dX4_copyFrom_19 h (fun M13 h => ?_)
      refine gk_aload_n dX4_copyFrom_20 rfl rfl ?_
      refine gk_get (v := gk_R 8 x0) fr_X4_15 pf_2_1 hx0 dX4_copyFrom_21 ?_
      refine gk_iload_n dX4_copyFrom_24 rfl rfl ?_
      refine gk_aload_n dX4_copyFrom_25 rfl rfl ?_
      refine gk_get (v := gk_R 8 x1) fr_X4_15 pf_2_1 hx1 dX4_copyFrom_26 ?_
      refine gk_iload_n dX4_copyFrom_29 rfl rfl ?_
      refine gk_iald ga_8 hx1 dX4_copyFrom_30 h (fun h hb14 => ?_)
      refine gk_iast ga_8 hx0 dX4_copyFrom_31 h (fun M15 h => ?_)
      refine gk_iinc (v := (x2 + (1 : Int32))) (L' := [some (gk_R 2 x0), some (gk_R 2 x1), some (gk_I (x2 + (1 : Int32)))]) dX4_copyFrom_32 rfl rfl (by decide) rfl rfl ?_
      refine gk_goto (tgt := 2) dX4_copyFrom_35 (by decide) ?_
      exact gk_weak [some (gk_R 2 x0), some (gk_R 2 x1), some (gk_I (x2 + (1 : Int32)))] (And.intro rfl (And.intro rfl (And.intro rfl True.intro))) (ih x0 x1 ((x2 + (1 : Int32))) M15 h)
set_option maxRecDepth 100000 in
set_option maxHeartbeats 4000000 in
theorem ok_X4_copyFrom (a0 : Nat) (a1 : Nat) (M : gk_M) (K : gk_V → gk_M → Prop) (h : gk_Sat gk_U (f_X4_copyFrom a0 a1 M) K) : gk_MS 1 yX4_copyFrom cX4_copyFrom 3 none [gk_R 2 a0, gk_R 2 a1] M K := by
  have hga0 := h.gd
  have h := hga0.2
  have ha0 := gk_lt_of hga0.1
  have hga1 := h.gd
  have h := hga1.2
  have ha1 := gk_lt_of hga1.1
  refine gk_MS_of [some (gk_R 2 a0), some (gk_R 2 a1), none] (by decide +kernel) (Nat.le_of_ble_eq_true rfl) (And.intro rfl (And.intro rfl True.intro)) ?_
  show gk_G RX4 cX4_copyFrom 3 1 none none K 0 [some (gk_R 2 a0), some (gk_R 2 a1), none] [] M
  refine gk_iconst (v := (0 : Int32)) dX4_copyFrom_0 (by decide) ?_
  refine gk_istore_n (L' := [some (gk_R 2 a0), some (gk_R 2 a1), some (gk_I (0 : Int32))]) dX4_copyFrom_1 rfl (by decide) rfl rfl ?_
  exact gk_weak [some (gk_R 2 a0), some (gk_R 2 a1), some (gk_I (0 : Int32))] (And.intro rfl (And.intro rfl (And.intro rfl True.intro))) (ok_X4_copyFrom_l2 200 a0 a1 ((0 : Int32)) M h)
set_option maxRecDepth 100000 in
set_option maxHeartbeats 4000000 in
theorem ok_X4_has_j16 {K : gk_V → gk_M → Prop}  (M : gk_M) (h : gk_Sat gk_I (X4_has_j16  M) K) : gk_G RX4 cX4_has 2 0 (some .boolean) none K 16 [none, none] [] M := by
  refine gk_iconst (v := (0 : Int32)) dX4_has_16 (by decide) ?_
  exact gk_zret dX4_has_17 rfl h
set_option maxRecDepth 100000 in
set_option maxHeartbeats 4000000 in
theorem ok_X4_has (a0 : Nat) (a1 : Int32) (M : gk_M) (K : gk_V → gk_M → Prop) (h : gk_Sat gk_I (f_X4_has a0 a1 M) K) : gk_MS 0 yX4_has cX4_has 2 (some .boolean) [gk_R 2 a0, gk_I a1] M K := by
  have hga0 := h.gd
  have h := hga0.2
  have ha0 := gk_lt_of hga0.1
  refine gk_MS_of [some (gk_R 2 a0), some (gk_I a1)] (by decide +kernel) (Nat.le_of_ble_eq_true rfl) (And.intro rfl (And.intro rfl True.intro)) ?_
  show gk_G RX4 cX4_has 2 0 (some .boolean) none K 0 [some (gk_R 2 a0), some (gk_I a1)] [] M
  refine gk_iload_n dX4_has_0 rfl rfl ?_
  refine gk_if_lt (tgt := 16) dX4_has_1 (by decide) h (fun h => ?_) (fun h => ?_)
  · exact gk_weak [none, none] True.intro (ok_X4_has_j16 M h)
  · refine gk_iload_n dX4_has_4 rfl rfl ?_
    refine gk_aload_n dX4_has_5 rfl rfl ?_
    refine gk_getI fr_X4_32 si_2_3 ha0 dX4_has_6 ?_
    refine gk_icmp_ge (tgt := 16) dX4_has_9 (by decide) h (fun h => ?_) (fun h => ?_)
    · exact gk_weak [none, none] True.intro (ok_X4_has_j16 M h)
    · refine gk_iconst (v := (1 : Int32)) dX4_has_12 (by decide) ?_
      refine gk_goto (tgt := 17) dX4_has_13 (by decide) ?_
      exact gk_zret dX4_has_17 rfl h
set_option maxRecDepth 100000 in
set_option maxHeartbeats 4000000 in
theorem ok_X4_allShips (a0 : Nat) (M : gk_M) (K : gk_V → gk_M → Prop) (h : gk_Sat gk_I (f_X4_allShips a0 M) K) : gk_MS 0 yX4_allShips cX4_allShips 1 (some .int) [gk_R 2 a0] M K := by
  have hga0 := h.gd
  have h := hga0.2
  have ha0 := gk_lt_of hga0.1
  refine gk_MS_of [some (gk_R 2 a0)] (by decide +kernel) (Nat.le_of_ble_eq_true rfl) (And.intro rfl True.intro) ?_
  show gk_G RX4 cX4_allShips 1 0 (some .int) none K 0 [some (gk_R 2 a0)] [] M
  refine gk_iconst (v := (1 : Int32)) dX4_allShips_0 (by decide) ?_
  refine gk_aload_n dX4_allShips_1 rfl rfl ?_
  refine gk_getI fr_X4_32 si_2_3 ha0 dX4_allShips_2 ?_
  refine gk_ishl dX4_allShips_5 ?_
  refine gk_iconst (v := (1 : Int32)) dX4_allShips_6 (by decide) ?_
  refine gk_isub dX4_allShips_7 ?_
  exact gk_iret dX4_allShips_8 rfl h
set_option maxRecDepth 100000 in
set_option maxHeartbeats 4000000 in
theorem ok_J9_abs_0f7a4 (a0 : Int32) (M : gk_M) (K : gk_V → gk_M → Prop) (h : gk_Sat gk_I (f_J9_abs_0f7a4 a0 M) K) : gk_MS 0 yJ9_abs_0f7a4 cJ9_abs_0f7a4 1 (some .int) [gk_I a0] M K := by

  refine gk_MS_of [some (gk_I a0)] (by decide +kernel) (Nat.le_of_ble_eq_true rfl) (And.intro rfl True.intro) ?_
  show gk_G RJ9 cJ9_abs_0f7a4 1 0 (some .int) none K 0 [some (gk_I a0)] [] M
  refine gk_iload_n dJ9_abs_0f7a4_0 rfl rfl ?_
  refine gk_if_ge (tgt := 9) dJ9_abs_0f7a4_1 (by decide) h (fun h => ?_) (fun h => ?_)
  · refine gk_iload_n dJ9_abs_0f7a4_9 rfl rfl ?_
    exact gk_iret dJ9_abs_0f7a4_10 rfl h
  · refine gk_iload_n dJ9_abs_0f7a4_4 rfl rfl ?_
    refine gk_ineg dJ9_abs_0f7a4_5 ?_
    refine gk_goto (tgt := 10) dJ9_abs_0f7a4_6 (by decide) ?_
    exact gk_iret dJ9_abs_0f7a4_10 rfl h
set_option maxRecDepth 100000 in
set_option maxHeartbeats 4000000 in
theorem ok_J9_max_7cf53 (a0 : Int32) (a1 : Int32) (M : gk_M) (K : gk_V → gk_M → Prop) (h : gk_Sat gk_I (f_J9_max_7cf53 a0 a1 M) K) : gk_MS 0 yJ9_max_7cf53 cJ9_max_7cf53 2 (some .int) [gk_I a0, gk_I a1] M K := by

  refine gk_MS_of [some (gk_I a0), some (gk_I a1)] (by decide +kernel) (Nat.le_of_ble_eq_true rfl) (And.intro rfl (And.intro rfl True.intro)) ?_
  show gk_G RJ9 cJ9_max_7cf53 2 0 (some .int) none K 0 [some (gk_I a0), some (gk_I a1)] [] M
  refine gk_iload_n dJ9_max_7cf53_0 rfl rfl ?_
  refine gk_iload_n dJ9_max_7cf53_1 rfl rfl ?_
  refine gk_icmp_lt (tgt := 9) dJ9_max_7cf53_2 (by decide) h (fun h => ?_) (fun h => ?_)
  · refine gk_iload_n dJ9_max_7cf53_9 rfl rfl ?_
    exact gk_iret dJ9_max_7cf53_10 rfl h
  · refine gk_iload_n dJ9_max_7cf53_5 rfl rfl ?_
    refine gk_goto (tgt := 10) dJ9_max_7cf53_6 (by decide) ?_
    exact gk_iret dJ9_max_7cf53_10 rfl h
set_option maxRecDepth 100000 in
set_option maxHeartbeats 4000000 in
theorem ok_X4_gapToPlace (a0 : Nat) (a1 : Int32) (a2 : Int32) (a3 : Int32) (M : gk_M) (K : gk_V → gk_M → Prop) (h : gk_Sat gk_I (f_X4_gapToPlace a0 a1 a2 a3 M) K) : gk_MS 1 yX4_gapToPlace cX4_gapToPlace 4 (some .int) [gk_R 2 a0, gk_I a1, gk_I a2, gk_I a3] M K := by
  have hga0 := h.gd
  have h := hga0.2
  have ha0 := gk_lt_of hga0.1
  refine gk_MS_of [some (gk_R 2 a0), some (gk_I a1), some (gk_I a2), some (gk_I a3)] (by decide +kernel) (Nat.le_of_ble_eq_true rfl) (And.intro rfl (And.intro rfl (And.intro rfl (And.intro rfl True.intro)))) ?_
  show gk_G RX4 cX4_gapToPlace 4 1 (some .int) none K 0 [some (gk_R 2 a0), some (gk_I a1), some (gk_I a2), some (gk_I a3)] [] M
  refine gk_aload_n dX4_gapToPlace_0 rfl rfl ?_
  refine gk_get (v := gk_R 9 a0) fr_X4_20 pf_2_2 ha0 dX4_gapToPlace_1 ?_
  refine gk_iload_n dX4_gapToPlace_4 rfl rfl ?_
  refine gk_aald (f := fun i j => 6 * i + j) (t0 := 1) ga_9 (fun _ => rfl) ha0 dX4_gapToPlace_5 h (fun h hb1 => ?_)
  have hc2 : (6 * a0 + (Int32.toNatClampNeg a1)) < 18 := by omega
  refine gk_getI fr_X4_45 si_5_4 hc2 dX4_gapToPlace_6 ?_
  refine gk_iload_n dX4_gapToPlace_9 rfl rfl ?_
  refine gk_isub dX4_gapToPlace_10 ?_
  refine gk_callI (As := [gk_I ((M 5 (6 * a0 + (Int32.toNatClampNeg a1)) 4) - a2)]) (st := []) 0 (cr_X4_48 rfl) (fun K' h' => ok_J9_abs_0f7a4 ((M 5 (6 * a0 + (Int32.toNatClampNeg a1)) 4) - a2) M K' h') rfl (by decide) (by decide) (fun _ => Nat.le_of_ble_eq_true rfl) dX4_gapToPlace_11 h (fun r4 M3 h => ?_)
  refine gk_aload_n dX4_gapToPlace_14 rfl rfl ?_
  refine gk_get (v := gk_R 9 a0) fr_X4_20 pf_2_2 ha0 dX4_gapToPlace_15 ?_
  refine gk_iload_n dX4_gapToPlace_18 rfl rfl ?_
  refine gk_aald (f := fun i j => 6 * i + j) (t0 := 1) ga_9 (fun _ => rfl) ha0 dX4_gapToPlace_19 h (fun h hb5 => ?_)
  have hc6 : (6 * a0 + (Int32.toNatClampNeg a1)) < 18 := by omega
  refine gk_getI fr_X4_54 si_5_5 hc6 dX4_gapToPlace_20 ?_
  refine gk_iload_n dX4_gapToPlace_23 rfl rfl ?_
  refine gk_isub dX4_gapToPlace_24 ?_
  refine gk_callI (As := [gk_I ((M3 5 (6 * a0 + (Int32.toNatClampNeg a1)) 5) - a3)]) (st := [gk_I r4]) 0 (cr_X4_48 rfl) (fun K' h' => ok_J9_abs_0f7a4 ((M3 5 (6 * a0 + (Int32.toNatClampNeg a1)) 5) - a3) M3 K' h') rfl (by decide) (by decide) (fun _ => Nat.le_of_ble_eq_true rfl) dX4_gapToPlace_25 h (fun r8 M7 h => ?_)
  refine gk_callI (As := [gk_I r4, gk_I r8]) (st := []) 0 (cr_X4_57 rfl) (fun K' h' => ok_J9_max_7cf53 r4 r8 M7 K' h') rfl (by decide) (by decide) (fun _ => Nat.le_of_ble_eq_true rfl) dX4_gapToPlace_28 h (fun r10 M9 h => ?_)
  exact gk_iret dX4_gapToPlace_31 rfl h
set_option maxRecDepth 100000 in
set_option maxHeartbeats 4000000 in
theorem ok_X4_gap (a0 : Nat) (a1 : Int32) (a2 : Int32) (M : gk_M) (K : gk_V → gk_M → Prop) (h : gk_Sat gk_I (f_X4_gap a0 a1 a2 M) K) : gk_MS 2 yX4_gap cX4_gap 3 (some .int) [gk_R 2 a0, gk_I a1, gk_I a2] M K := by
  have hga0 := h.gd
  have h := hga0.2
  have ha0 := gk_lt_of hga0.1
  refine gk_MS_of [some (gk_R 2 a0), some (gk_I a1), some (gk_I a2)] (by decide +kernel) (Nat.le_of_ble_eq_true rfl) (And.intro rfl (And.intro rfl (And.intro rfl True.intro))) ?_
  show gk_G RX4 cX4_gap 3 2 (some .int) none K 0 [some (gk_R 2 a0), some (gk_I a1), some (gk_I a2)] [] M
  refine gk_aload_n dX4_gap_0 rfl rfl ?_
  refine gk_iload_n dX4_gap_1 rfl rfl ?_
  refine gk_aload_n dX4_gap_2 rfl rfl ?_
  refine gk_get (v := gk_R 9 a0) fr_X4_20 pf_2_2 ha0 dX4_gap_3 ?_
  refine gk_iload_n dX4_gap_6 rfl rfl ?_
  refine gk_aald (f := fun i j => 6 * i + j) (t0 := 1) ga_9 (fun _ => rfl) ha0 dX4_gap_7 h (fun h hb1 => ?_)
  have hc2 : (6 * a0 + (Int32.toNatClampNeg a2)) < 18 := by omega
  refine gk_getI fr_X4_45 si_5_4 hc2 dX4_gap_8 ?_
  refine gk_aload_n dX4_gap_11 rfl rfl ?_
  refine gk_get (v := gk_R 9 a0) fr_X4_20 pf_2_2 ha0 dX4_gap_12 ?_
  refine gk_iload_n dX4_gap_15 rfl rfl ?_
  refine gk_aald (f := fun i j => 6 * i + j) (t0 := 1) ga_9 (fun _ => rfl) ha0 dX4_gap_16 h (fun h hb3 => ?_)
  have hc4 : (6 * a0 + (Int32.toNatClampNeg a2)) < 18 := by omega
  refine gk_getI fr_X4_54 si_5_5 hc4 dX4_gap_17 ?_
  refine gk_callI (As := [gk_R 2 a0, gk_I a1, gk_I (M 5 (6 * a0 + (Int32.toNatClampNeg a2)) 4), gk_I (M 5 (6 * a0 + (Int32.toNatClampNeg a2)) 5)]) (st := []) 1 (cr_X4_61 ha0 rfl) (fun K' h' => ok_X4_gapToPlace a0 a1 (M 5 (6 * a0 + (Int32.toNatClampNeg a2)) 4) (M 5 (6 * a0 + (Int32.toNatClampNeg a2)) 5) M K' h') rfl (by decide) (by decide) (fun _ => Nat.le_of_ble_eq_true rfl) dX4_gap_20 h (fun r6 M5 h => ?_)
  exact gk_iret dX4_gap_23 rfl h
set_option maxRecDepth 100000 in
set_option maxHeartbeats 4000000 in
theorem ok_X4_pairsWithin_j35 {K : gk_V → gk_M → Prop} (κ4 : Nat → Int32 → Int32 → Int32 → gk_M → Option (Int32 × gk_M)) (κ15 : Nat → Int32 → Int32 → Int32 → Int32 → gk_M → Option (Int32 × gk_M)) (hκ4 : ∀ (x0 : Nat) (x1 : Int32) (x2 : Int32) (x3 : Int32) (M : gk_M), gk_Sat gk_I (κ4 x0 x1 x2 x3 M) K → gk_G RX4 cX4_pairsWithin 5 3 (some .int) none K 4 [some (gk_R 2 x0), some (gk_I x1), some (gk_I x2), some (gk_I x3), none] [] M) (hκ15 : ∀ (x0 : Nat) (x1 : Int32) (x2 : Int32) (x3 : Int32) (x4 : Int32) (M : gk_M), gk_Sat gk_I (κ15 x0 x1 x2 x3 x4 M) K → gk_G RX4 cX4_pairsWithin 5 3 (some .int) none K 15 [some (gk_R 2 x0), some (gk_I x1), some (gk_I x2), some (gk_I x3), some (gk_I x4)] [] M) (x0 : Nat) (x1 : Int32) (x2 : Int32) (x3 : Int32) (x4 : Int32) (M : gk_M) (h : gk_Sat gk_I (X4_pairsWithin_j35 κ4 κ15 x0 x1 x2 x3 x4 M) K) : gk_G RX4 cX4_pairsWithin 5 3 (some .int) none K 35 [some (gk_R 2 x0), some (gk_I x1), some (gk_I x2), some (gk_I x3), some (gk_I x4)] [] M := by
  have hgx0 := h.gd
  have h := hgx0.2
  have hx0 := gk_lt_of hgx0.1
  refine gk_iinc (v := (x4 + (1 : Int32))) (L' := [some (gk_R 2 x0), some (gk_I x1), some (gk_I x2), some (gk_I x3), some (gk_I (x4 + (1 : Int32)))]) dX4_pairsWithin_35 rfl rfl (by decide) rfl rfl ?_
  refine gk_goto (tgt := 15) dX4_pairsWithin_38 (by decide) ?_
  exact gk_weak [some (gk_R 2 x0), some (gk_I x1), some (gk_I x2), some (gk_I x3), some (gk_I (x4 + (1 : Int32)))] (And.intro rfl (And.intro rfl (And.intro rfl (And.intro rfl (And.intro rfl True.intro))))) (hκ15 x0 x1 x2 x3 ((x4 + (1 : Int32))) M h)
set_option maxRecDepth 100000 in
set_option maxHeartbeats 4000000 in
theorem ok_X4_pairsWithin_l15 {K : gk_V → gk_M → Prop} (κ4 : Nat → Int32 → Int32 → Int32 → gk_M → Option (Int32 × gk_M)) (hκ4 : ∀ (x0 : Nat) (x1 : Int32) (x2 : Int32) (x3 : Int32) (M : gk_M), gk_Sat gk_I (κ4 x0 x1 x2 x3 M) K → gk_G RX4 cX4_pairsWithin 5 3 (some .int) none K 4 [some (gk_R 2 x0), some (gk_I x1), some (gk_I x2), some (gk_I x3), none] [] M) : ∀ (n : Nat) (x0 : Nat) (x1 : Int32) (x2 : Int32) (x3 : Int32) (x4 : Int32) (M : gk_M), gk_Sat gk_I (X4_pairsWithin_l15 κ4 n x0 x1 x2 x3 x4 M) K → gk_G RX4 cX4_pairsWithin 5 3 (some .int) none K 15 [some (gk_R 2 x0), some (gk_I x1), some (gk_I x2), some (gk_I x3), some (gk_I x4)] [] M := by
  intro n
  induction n with
  | zero => intro x0 x1 x2 x3 x4 M h; exact h.no.elim
  | succ n ih =>
    intro x0 x1 x2 x3 x4 M h
    have hgx0 := h.gd
    have h := hgx0.2
    have hx0 := gk_lt_of hgx0.1
    refine gk_iload dX4_pairsWithin_15 rfl ?_
    refine gk_iload_n dX4_pairsWithin_17 rfl rfl ?_
    refine gk_icmp_ge (tgt := 41) dX4_pairsWithin_18 (by decide) h (fun h => ?_) (fun h => ?_)
    · refine gk_iinc (v := (x3 + (1 : Int32))) (L' := [some (gk_R 2 x0), some (gk_I x1), some (gk_I x2), some (gk_I (x3 + (1 : Int32))), some (gk_I x4)]) dX4_pairsWithin_41 rfl rfl (by decide) rfl rfl ?_
      refine gk_goto (tgt := 4) dX4_pairsWithin_44 (by decide) ?_
      exact gk_weak [some (gk_R 2 x0), some (gk_I x1), some (gk_I x2), some (gk_I (x3 + (1 : Int32))), none] (And.intro rfl (And.intro rfl (And.intro rfl (And.intro rfl True.intro)))) (hκ4 x0 x1 x2 ((x3 + (1 : Int32))) M h)
    · refine gk_aload_n dX4_pairsWithin_21 rfl rfl ?_
      refine gk_iload_n dX4_pairsWithin_22 rfl rfl ?_
      refine gk_iload dX4_pairsWithin_23 rfl ?_
      refine gk_callI (As := [gk_R 2 x0, gk_I x3, gk_I x4]) (st := []) 2 (cr_X4_65 hx0 rfl) (fun K' h' => ok_X4_gap x0 x3 x4 M K' h') rfl (by decide) (by decide) (fun _ => Nat.le_of_ble_eq_true rfl) dX4_pairsWithin_25 h (fun r2 M1 h => ?_)
      refine gk_iload_n dX4_pairsWithin_28 rfl rfl ?_
      refine gk_icmp_gt (tgt := 35) dX4_pairsWithin_29 (by decide) h (fun h => ?_) (fun h => ?_)
      · exact gk_weak [some (gk_R 2 x0), some (gk_I x1), some (gk_I x2), some (gk_I x3), some (gk_I x4)] (And.intro rfl (And.intro rfl (And.intro rfl (And.intro rfl (And.intro rfl True.intro))))) (ok_X4_pairsWithin_j35 κ4 (X4_pairsWithin_l15 κ4 n) hκ4 ih x0 x1 x2 x3 x4 M1 h)
      · refine gk_iinc (v := (x2 + (1 : Int32))) (L' := [some (gk_R 2 x0), some (gk_I x1), some (gk_I (x2 + (1 : Int32))), some (gk_I x3), some (gk_I x4)]) dX4_pairsWithin_32 rfl rfl (by decide) rfl rfl ?_
        exact gk_weak [some (gk_R 2 x0), some (gk_I x1), some (gk_I (x2 + (1 : Int32))), some (gk_I x3), some (gk_I x4)] (And.intro rfl (And.intro rfl (And.intro rfl (And.intro rfl (And.intro rfl True.intro))))) (ok_X4_pairsWithin_j35 κ4 (X4_pairsWithin_l15 κ4 n) hκ4 ih x0 x1 ((x2 + (1 : Int32))) x3 x4 M1 h)
set_option maxRecDepth 100000 in
set_option maxHeartbeats 4000000 in
theorem ok_X4_pairsWithin_l4 {K : gk_V → gk_M → Prop} : ∀ (n : Nat) (x0 : Nat) (x1 : Int32) (x2 : Int32) (x3 : Int32) (M : gk_M), gk_Sat gk_I (X4_pairsWithin_l4 n x0 x1 x2 x3 M) K → gk_G RX4 cX4_pairsWithin 5 3 (some .int) none K 4 [some (gk_R 2 x0), some (gk_I x1), some (gk_I x2), some (gk_I x3), none] [] M := by
  intro n
  induction n with
  | zero => intro x0 x1 x2 x3 M h; exact h.no.elim
  | succ n ih =>
    intro x0 x1 x2 x3 M h
    have hgx0 := h.gd
    have h := hgx0.2
    have hx0 := gk_lt_of hgx0.1
    refine gk_iload_n dX4_pairsWithin_4 rfl rfl ?_
    refine gk_aload_n dX4_pairsWithin_5 rfl rfl ?_
    refine gk_getI fr_X4_32 si_2_3 hx0 dX4_pairsWithin_6 ?_
    refine gk_icmp_ge (tgt := 47) dX4_pairsWithin_9 (by decide) h (fun h => ?_) (fun h => ?_)
    · refine gk_iload_n dX4_pairsWithin_47 rfl rfl ?_
      exact gk_iret dX4_pairsWithin_48 rfl h
    · refine gk_iconst (v := (0 : Int32)) dX4_pairsWithin_12 (by decide) ?_
      refine gk_istore (L' := [some (gk_R 2 x0), some (gk_I x1), some (gk_I x2), some (gk_I x3), some (gk_I (0 : Int32))]) dX4_pairsWithin_13 (by decide) rfl rfl ?_
      exact gk_weak [some (gk_R 2 x0), some (gk_I x1), some (gk_I x2), some (gk_I x3), some (gk_I (0 : Int32))] (And.intro rfl (And.intro rfl (And.intro rfl (And.intro rfl (And.intro rfl True.intro))))) (ok_X4_pairsWithin_l15 (X4_pairsWithin_l4 n) ih 200 x0 x1 x2 x3 ((0 : Int32)) M h)
set_option maxRecDepth 100000 in
set_option maxHeartbeats 4000000 in
theorem ok_X4_pairsWithin (a0 : Nat) (a1 : Int32) (M : gk_M) (K : gk_V → gk_M → Prop) (h : gk_Sat gk_I (f_X4_pairsWithin a0 a1 M) K) : gk_MS 3 yX4_pairsWithin cX4_pairsWithin 5 (some .int) [gk_R 2 a0, gk_I a1] M K := by
  have hga0 := h.gd
  have h := hga0.2
  have ha0 := gk_lt_of hga0.1
  refine gk_MS_of [some (gk_R 2 a0), some (gk_I a1), none, none, none] (by decide +kernel) (Nat.le_of_ble_eq_true rfl) (And.intro rfl (And.intro rfl True.intro)) ?_
  show gk_G RX4 cX4_pairsWithin 5 3 (some .int) none K 0 [some (gk_R 2 a0), some (gk_I a1), none, none, none] [] M
  refine gk_iconst (v := (0 : Int32)) dX4_pairsWithin_0 (by decide) ?_
  refine gk_istore_n (L' := [some (gk_R 2 a0), some (gk_I a1), some (gk_I (0 : Int32)), none, none]) dX4_pairsWithin_1 rfl (by decide) rfl rfl ?_
  refine gk_iconst (v := (0 : Int32)) dX4_pairsWithin_2 (by decide) ?_
  refine gk_istore_n (L' := [some (gk_R 2 a0), some (gk_I a1), some (gk_I (0 : Int32)), some (gk_I (0 : Int32)), none]) dX4_pairsWithin_3 rfl (by decide) rfl rfl ?_
  exact gk_weak [some (gk_R 2 a0), some (gk_I a1), some (gk_I (0 : Int32)), some (gk_I (0 : Int32)), none] (And.intro rfl (And.intro rfl (And.intro rfl (And.intro rfl True.intro)))) (ok_X4_pairsWithin_l4 200 a0 a1 ((0 : Int32)) ((0 : Int32)) M h)
set_option maxRecDepth 100000 in
set_option maxHeartbeats 4000000 in
theorem ok_X4_isSeen_j30 {K : gk_V → gk_M → Prop} (κ2 : Nat → Int32 → Int32 → gk_M → Option (Int32 × gk_M)) (hκ2 : ∀ (x0 : Nat) (x1 : Int32) (x2 : Int32) (M : gk_M), gk_Sat gk_I (κ2 x0 x1 x2 M) K → gk_G RX4 cX4_isSeen 3 3 (some .boolean) none K 2 [some (gk_R 2 x0), some (gk_I x1), some (gk_I x2)] [] M) (x0 : Nat) (x1 : Int32) (x2 : Int32) (M : gk_M) (h : gk_Sat gk_I (X4_isSeen_j30 κ2 x0 x1 x2 M) K) : gk_G RX4 cX4_isSeen 3 3 (some .boolean) none K 30 [some (gk_R 2 x0), some (gk_I x1), some (gk_I x2)] [] M := by
  have hgx0 := h.gd
  have h := hgx0.2
  have hx0 := gk_lt_of hgx0.1
  refine gk_iinc (v := (x2 + (1 : Int32))) (L' := [some (gk_R 2 x0), some (gk_I x1), some (gk_I (x2 + (1 : Int32)))]) dX4_isSeen_30 rfl rfl (by decide) rfl rfl ?_
  refine gk_goto (tgt := 2) dX4_isSeen_33 (by decide) ?_
  exact gk_weak [some (gk_R 2 x0), some (gk_I x1), some (gk_I (x2 + (1 : Int32)))] (And.intro rfl (And.intro rfl (And.intro rfl True.intro))) (hκ2 x0 x1 ((x2 + (1 : Int32))) M h)
set_option maxRecDepth 100000 in
set_option maxHeartbeats 4000000 in
theorem ok_X4_isSeen_l2 {K : gk_V → gk_M → Prop} : ∀ (n : Nat) (x0 : Nat) (x1 : Int32) (x2 : Int32) (M : gk_M), gk_Sat gk_I (X4_isSeen_l2 n x0 x1 x2 M) K → gk_G RX4 cX4_isSeen 3 3 (some .boolean) none K 2 [some (gk_R 2 x0), some (gk_I x1), some (gk_I x2)] [] M := by
  intro n
  induction n with
  | zero => intro x0 x1 x2 M h; exact h.no.elim
  | succ n ih =>
    intro x0 x1 x2 M h
    have hgx0 := h.gd
    have h := hgx0.2
    have hx0 := gk_lt_of hgx0.1
    refine gk_iload_n dX4_isSeen_2 rfl rfl ?_
    refine gk_aload_n dX4_isSeen_3 rfl rfl ?_
    refine gk_getI fr_X4_32 si_2_3 hx0 dX4_isSeen_4 ?_
    refine gk_icmp_ge (tgt := 36) dX4_isSeen_7 (by decide) h (fun h => ?_) (fun h => ?_)
    · refine gk_iconst (v := (0 : Int32)) dX4_isSeen_36 (by decide) ?_
      exact gk_zret dX4_isSeen_37 rfl h
    · refine gk_iload_n dX4_isSeen_10 rfl rfl ?_
      refine gk_iload_n dX4_isSeen_11 rfl rfl ?_
      refine gk_icmp_eq (tgt := 30) dX4_isSeen_12 (by decide) h (fun h => ?_) (fun h => ?_)
      · exact gk_weak [some (gk_R 2 x0), some (gk_I x1), some (gk_I x2)] (And.intro rfl (And.intro rfl (And.intro rfl True.intro))) (ok_X4_isSeen_j30 (X4_isSeen_l2 n) ih x0 x1 x2 M h)
      · refine gk_aload_n dX4_isSeen_15 rfl rfl ?_
        refine gk_iload_n dX4_isSeen_16 rfl rfl ?_
        refine gk_iload_n dX4_isSeen_17 rfl rfl ?_
        refine gk_callI (As := [gk_R 2 x0, gk_I x2, gk_I x1]) (st := []) 2 (cr_X4_65 hx0 rfl) (fun K' h' => ok_X4_gap x0 x2 x1 M K' h') rfl (by decide) (by decide) (fun _ => Nat.le_of_ble_eq_true rfl) dX4_isSeen_18 h (fun r2 M1 h => ?_)
        refine gk_aload_n dX4_isSeen_21 rfl rfl ?_
        refine gk_getI fr_X4_28 si_2_6 hx0 dX4_isSeen_22 ?_
        refine gk_icmp_gt (tgt := 30) dX4_isSeen_25 (by decide) h (fun h => ?_) (fun h => ?_)
        · exact gk_weak [some (gk_R 2 x0), some (gk_I x1), some (gk_I x2)] (And.intro rfl (And.intro rfl (And.intro rfl True.intro))) (ok_X4_isSeen_j30 (X4_isSeen_l2 n) ih x0 x1 x2 M1 h)
        · refine gk_iconst (v := (1 : Int32)) dX4_isSeen_28 (by decide) ?_
          exact gk_zret dX4_isSeen_29 rfl h
set_option maxRecDepth 100000 in
set_option maxHeartbeats 4000000 in
theorem ok_X4_isSeen (a0 : Nat) (a1 : Int32) (M : gk_M) (K : gk_V → gk_M → Prop) (h : gk_Sat gk_I (f_X4_isSeen a0 a1 M) K) : gk_MS 3 yX4_isSeen cX4_isSeen 3 (some .boolean) [gk_R 2 a0, gk_I a1] M K := by
  have hga0 := h.gd
  have h := hga0.2
  have ha0 := gk_lt_of hga0.1
  refine gk_MS_of [some (gk_R 2 a0), some (gk_I a1), none] (by decide +kernel) (Nat.le_of_ble_eq_true rfl) (And.intro rfl (And.intro rfl True.intro)) ?_
  show gk_G RX4 cX4_isSeen 3 3 (some .boolean) none K 0 [some (gk_R 2 a0), some (gk_I a1), none] [] M
  refine gk_iconst (v := (0 : Int32)) dX4_isSeen_0 (by decide) ?_
  refine gk_istore_n (L' := [some (gk_R 2 a0), some (gk_I a1), some (gk_I (0 : Int32))]) dX4_isSeen_1 rfl (by decide) rfl rfl ?_
  exact gk_weak [some (gk_R 2 a0), some (gk_I a1), some (gk_I (0 : Int32))] (And.intro rfl (And.intro rfl (And.intro rfl True.intro))) (ok_X4_isSeen_l2 200 a0 a1 ((0 : Int32)) M h)
set_option maxRecDepth 100000 in
set_option maxHeartbeats 4000000 in
theorem ok_X4_oneLeadOn_j53 {K : gk_V → gk_M → Prop} (κ4 : Nat → Int32 → Int32 → Int32 → gk_M → Option (Int32 × gk_M)) (κ15 : Nat → Int32 → Int32 → Int32 → Int32 → gk_M → Option (Int32 × gk_M)) (hκ4 : ∀ (x0 : Nat) (x1 : Int32) (x2 : Int32) (x3 : Int32) (M : gk_M), gk_Sat gk_I (κ4 x0 x1 x2 x3 M) K → gk_G RX4 cX4_oneLeadOn 5 3 (some .int) none K 4 [some (gk_R 2 x0), some (gk_I x1), some (gk_I x2), some (gk_I x3), none] [] M) (hκ15 : ∀ (x0 : Nat) (x1 : Int32) (x2 : Int32) (x3 : Int32) (x4 : Int32) (M : gk_M), gk_Sat gk_I (κ15 x0 x1 x2 x3 x4 M) K → gk_G RX4 cX4_oneLeadOn 5 3 (some .int) none K 15 [some (gk_R 2 x0), some (gk_I x1), some (gk_I x2), some (gk_I x3), some (gk_I x4)] [] M) (x0 : Nat) (x1 : Int32) (x2 : Int32) (x3 : Int32) (x4 : Int32) (M : gk_M) (h : gk_Sat gk_I (X4_oneLeadOn_j53 κ4 κ15 x0 x1 x2 x3 x4 M) K) : gk_G RX4 cX4_oneLeadOn 5 3 (some .int) none K 53 [some (gk_R 2 x0), some (gk_I x1), some (gk_I x2), some (gk_I x3), some (gk_I x4)] [] M := by
  have hgx0 := h.gd
  have h := hgx0.2
  have hx0 := gk_lt_of hgx0.1
  refine gk_iinc (v := (x4 + (1 : Int32))) (L' := [some (gk_R 2 x0), some (gk_I x1), some (gk_I x2), some (gk_I x3), some (gk_I (x4 + (1 : Int32)))]) dX4_oneLeadOn_53 rfl rfl (by decide) rfl rfl ?_
  refine gk_goto (tgt := 15) dX4_oneLeadOn_56 (by decide) ?_
  exact gk_weak [some (gk_R 2 x0), some (gk_I x1), some (gk_I x2), some (gk_I x3), some (gk_I (x4 + (1 : Int32)))] (And.intro rfl (And.intro rfl (And.intro rfl (And.intro rfl (And.intro rfl True.intro))))) (hκ15 x0 x1 x2 x3 ((x4 + (1 : Int32))) M h)
set_option maxRecDepth 100000 in
set_option maxHeartbeats 4000000 in
theorem ok_X4_oneLeadOn_l15 {K : gk_V → gk_M → Prop} (κ4 : Nat → Int32 → Int32 → Int32 → gk_M → Option (Int32 × gk_M)) (hκ4 : ∀ (x0 : Nat) (x1 : Int32) (x2 : Int32) (x3 : Int32) (M : gk_M), gk_Sat gk_I (κ4 x0 x1 x2 x3 M) K → gk_G RX4 cX4_oneLeadOn 5 3 (some .int) none K 4 [some (gk_R 2 x0), some (gk_I x1), some (gk_I x2), some (gk_I x3), none] [] M) : ∀ (n : Nat) (x0 : Nat) (x1 : Int32) (x2 : Int32) (x3 : Int32) (x4 : Int32) (M : gk_M), gk_Sat gk_I (X4_oneLeadOn_l15 κ4 n x0 x1 x2 x3 x4 M) K → gk_G RX4 cX4_oneLeadOn 5 3 (some .int) none K 15 [some (gk_R 2 x0), some (gk_I x1), some (gk_I x2), some (gk_I x3), some (gk_I x4)] [] M := by
  intro n
  induction n with
  | zero => intro x0 x1 x2 x3 x4 M h; exact h.no.elim
  | succ n ih =>
    intro x0 x1 x2 x3 x4 M h
    have hgx0 := h.gd
    have h := hgx0.2
    have hx0 := gk_lt_of hgx0.1
    refine gk_iload dX4_oneLeadOn_15 rfl ?_
    refine gk_aload_n dX4_oneLeadOn_17 rfl rfl ?_
    refine gk_getI fr_X4_32 si_2_3 hx0 dX4_oneLeadOn_18 ?_
    refine gk_icmp_ge (tgt := 59) dX4_oneLeadOn_21 (by decide) h (fun h => ?_) (fun h => ?_)
    · refine gk_iinc (v := (x3 + (1 : Int32))) (L' := [some (gk_R 2 x0), some (gk_I x1), some (gk_I x2), some (gk_I (x3 + (1 : Int32))), some (gk_I x4)]) dX4_oneLeadOn_59 rfl rfl (by decide) rfl rfl ?_
      refine gk_goto (tgt := 4) dX4_oneLeadOn_62 (by decide) ?_
      exact gk_weak [some (gk_R 2 x0), some (gk_I x1), some (gk_I x2), some (gk_I (x3 + (1 : Int32))), none] (And.intro rfl (And.intro rfl (And.intro rfl (And.intro rfl True.intro)))) (hκ4 x0 x1 x2 ((x3 + (1 : Int32))) M h)
    · refine gk_iload_n dX4_oneLeadOn_24 rfl rfl ?_
      refine gk_iconst (v := (1 : Int32)) dX4_oneLeadOn_25 (by decide) ?_
      refine gk_iload_n dX4_oneLeadOn_26 rfl rfl ?_
      refine gk_ishl dX4_oneLeadOn_27 ?_
      refine gk_iand dX4_oneLeadOn_28 ?_
      refine gk_if_eq (tgt := 53) dX4_oneLeadOn_29 (by decide) h (fun h => ?_) (fun h => ?_)
      · exact gk_weak [some (gk_R 2 x0), some (gk_I x1), some (gk_I x2), some (gk_I x3), some (gk_I x4)] (And.intro rfl (And.intro rfl (And.intro rfl (And.intro rfl (And.intro rfl True.intro))))) (ok_X4_oneLeadOn_j53 κ4 (X4_oneLeadOn_l15 κ4 n) hκ4 ih x0 x1 x2 x3 x4 M h)
      · refine gk_aload_n dX4_oneLeadOn_32 rfl rfl ?_
        refine gk_iload_n dX4_oneLeadOn_33 rfl rfl ?_
        refine gk_iload dX4_oneLeadOn_34 rfl ?_
        refine gk_callI (As := [gk_R 2 x0, gk_I x3, gk_I x4]) (st := []) 2 (cr_X4_65 hx0 rfl) (fun K' h' => ok_X4_gap x0 x3 x4 M K' h') rfl (by decide) (by decide) (fun _ => Nat.le_of_ble_eq_true rfl) dX4_oneLeadOn_36 h (fun r2 M1 h => ?_)
        refine gk_aload_n dX4_oneLeadOn_39 rfl rfl ?_
        refine gk_getI fr_X4_24 si_2_5 hx0 dX4_oneLeadOn_40 ?_
        refine gk_icmp_gt (tgt := 53) dX4_oneLeadOn_43 (by decide) h (fun h => ?_) (fun h => ?_)
        · exact gk_weak [some (gk_R 2 x0), some (gk_I x1), some (gk_I x2), some (gk_I x3), some (gk_I x4)] (And.intro rfl (And.intro rfl (And.intro rfl (And.intro rfl (And.intro rfl True.intro))))) (ok_X4_oneLeadOn_j53 κ4 (X4_oneLeadOn_l15 κ4 n) hκ4 ih x0 x1 x2 x3 x4 M1 h)
        · refine gk_iload_n dX4_oneLeadOn_46 rfl rfl ?_
          refine gk_iconst (v := (1 : Int32)) dX4_oneLeadOn_47 (by decide) ?_
          refine gk_iload dX4_oneLeadOn_48 rfl ?_
          refine gk_ishl dX4_oneLeadOn_50 ?_
          refine gk_ior dX4_oneLeadOn_51 ?_
          refine gk_istore_n (L' := [some (gk_R 2 x0), some (gk_I x1), some (gk_I (x2 ||| ((1 : Int32) <<< (x4 &&& 31)))), some (gk_I x3), some (gk_I x4)]) dX4_oneLeadOn_52 rfl (by decide) rfl rfl ?_
          exact gk_weak [some (gk_R 2 x0), some (gk_I x1), some (gk_I (x2 ||| ((1 : Int32) <<< (x4 &&& 31)))), some (gk_I x3), some (gk_I x4)] (And.intro rfl (And.intro rfl (And.intro rfl (And.intro rfl (And.intro rfl True.intro))))) (ok_X4_oneLeadOn_j53 κ4 (X4_oneLeadOn_l15 κ4 n) hκ4 ih x0 x1 ((x2 ||| ((1 : Int32) <<< (x4 &&& 31)))) x3 x4 M1 h)
set_option maxRecDepth 100000 in
set_option maxHeartbeats 4000000 in
theorem ok_X4_oneLeadOn_l4 {K : gk_V → gk_M → Prop} : ∀ (n : Nat) (x0 : Nat) (x1 : Int32) (x2 : Int32) (x3 : Int32) (M : gk_M), gk_Sat gk_I (X4_oneLeadOn_l4 n x0 x1 x2 x3 M) K → gk_G RX4 cX4_oneLeadOn 5 3 (some .int) none K 4 [some (gk_R 2 x0), some (gk_I x1), some (gk_I x2), some (gk_I x3), none] [] M := by
  intro n
  induction n with
  | zero => intro x0 x1 x2 x3 M h; exact h.no.elim
  | succ n ih =>
    intro x0 x1 x2 x3 M h
    have hgx0 := h.gd
    have h := hgx0.2
    have hx0 := gk_lt_of hgx0.1
    refine gk_iload_n dX4_oneLeadOn_4 rfl rfl ?_
    refine gk_aload_n dX4_oneLeadOn_5 rfl rfl ?_
    refine gk_getI fr_X4_32 si_2_3 hx0 dX4_oneLeadOn_6 ?_
    refine gk_icmp_ge (tgt := 65) dX4_oneLeadOn_9 (by decide) h (fun h => ?_) (fun h => ?_)
    · refine gk_iload_n dX4_oneLeadOn_65 rfl rfl ?_
      exact gk_iret dX4_oneLeadOn_66 rfl h
    · refine gk_iconst (v := (0 : Int32)) dX4_oneLeadOn_12 (by decide) ?_
      refine gk_istore (L' := [some (gk_R 2 x0), some (gk_I x1), some (gk_I x2), some (gk_I x3), some (gk_I (0 : Int32))]) dX4_oneLeadOn_13 (by decide) rfl rfl ?_
      exact gk_weak [some (gk_R 2 x0), some (gk_I x1), some (gk_I x2), some (gk_I x3), some (gk_I (0 : Int32))] (And.intro rfl (And.intro rfl (And.intro rfl (And.intro rfl (And.intro rfl True.intro))))) (ok_X4_oneLeadOn_l15 (X4_oneLeadOn_l4 n) ih 200 x0 x1 x2 x3 ((0 : Int32)) M h)
set_option maxRecDepth 100000 in
set_option maxHeartbeats 4000000 in
theorem ok_X4_oneLeadOn (a0 : Nat) (a1 : Int32) (M : gk_M) (K : gk_V → gk_M → Prop) (h : gk_Sat gk_I (f_X4_oneLeadOn a0 a1 M) K) : gk_MS 3 yX4_oneLeadOn cX4_oneLeadOn 5 (some .int) [gk_R 2 a0, gk_I a1] M K := by
  have hga0 := h.gd
  have h := hga0.2
  have ha0 := gk_lt_of hga0.1
  refine gk_MS_of [some (gk_R 2 a0), some (gk_I a1), none, none, none] (by decide +kernel) (Nat.le_of_ble_eq_true rfl) (And.intro rfl (And.intro rfl True.intro)) ?_
  show gk_G RX4 cX4_oneLeadOn 5 3 (some .int) none K 0 [some (gk_R 2 a0), some (gk_I a1), none, none, none] [] M
  refine gk_iload_n dX4_oneLeadOn_0 rfl rfl ?_
  refine gk_istore_n (L' := [some (gk_R 2 a0), some (gk_I a1), some (gk_I a1), none, none]) dX4_oneLeadOn_1 rfl (by decide) rfl rfl ?_
  refine gk_iconst (v := (0 : Int32)) dX4_oneLeadOn_2 (by decide) ?_
  refine gk_istore_n (L' := [some (gk_R 2 a0), some (gk_I a1), some (gk_I a1), some (gk_I (0 : Int32)), none]) dX4_oneLeadOn_3 rfl (by decide) rfl rfl ?_
  exact gk_weak [some (gk_R 2 a0), some (gk_I a1), some (gk_I a1), some (gk_I (0 : Int32)), none] (And.intro rfl (And.intro rfl (And.intro rfl (And.intro rfl True.intro)))) (ok_X4_oneLeadOn_l4 200 a0 a1 a1 ((0 : Int32)) M h)
set_option maxRecDepth 100000 in
set_option maxHeartbeats 4000000 in
theorem ok_X4_groupOf_l6 {K : gk_V → gk_M → Prop} : ∀ (n : Nat) (x0 : Nat) (x2 : Int32) (x3 : Int32) (M : gk_M), gk_Sat gk_I (X4_groupOf_l6 n x0 x2 x3 M) K → gk_G RX4 cX4_groupOf 4 4 (some .int) none K 6 [some (gk_R 2 x0), none, some (gk_I x2), some (gk_I x3)] [] M := by
  intro n
  induction n with
  | zero => intro x0 x2 x3 M h; exact h.no.elim
  | succ n ih =>
    intro x0 x2 x3 M h
    have hgx0 := h.gd
    have h := hgx0.2
    have hx0 := gk_lt_of hgx0.1
    refine gk_iload_n dX4_groupOf_6 rfl rfl ?_
    refine gk_aload_n dX4_groupOf_7 rfl rfl ?_
    refine gk_getI fr_X4_32 si_2_3 hx0 dX4_groupOf_8 ?_
    refine gk_icmp_ge (tgt := 26) dX4_groupOf_11 (by decide) h (fun h => ?_) (fun h => ?_)
    · refine gk_iload_n dX4_groupOf_26 rfl rfl ?_
      exact gk_iret dX4_groupOf_27 rfl h
    · refine gk_aload_n dX4_groupOf_14 rfl rfl ?_
      refine gk_iload_n dX4_groupOf_15 rfl rfl ?_
      refine gk_callI (As := [gk_R 2 x0, gk_I x2]) (st := []) 3 (cr_X4_68 hx0 rfl) (fun K' h' => ok_X4_oneLeadOn x0 x2 M K' h') rfl (by decide) (by decide) (fun _ => Nat.le_of_ble_eq_true rfl) dX4_groupOf_16 h (fun r2 M1 h => ?_)
      refine gk_istore_n (L' := [some (gk_R 2 x0), none, some (gk_I r2), some (gk_I x3)]) dX4_groupOf_19 rfl (by decide) rfl rfl ?_
      refine gk_iinc (v := (x3 + (1 : Int32))) (L' := [some (gk_R 2 x0), none, some (gk_I r2), some (gk_I (x3 + (1 : Int32)))]) dX4_groupOf_20 rfl rfl (by decide) rfl rfl ?_
      refine gk_goto (tgt := 6) dX4_groupOf_23 (by decide) ?_
      exact gk_weak [some (gk_R 2 x0), none, some (gk_I r2), some (gk_I (x3 + (1 : Int32)))] (And.intro rfl (And.intro rfl (And.intro rfl True.intro))) (ih x0 r2 ((x3 + (1 : Int32))) M1 h)
set_option maxRecDepth 100000 in
set_option maxHeartbeats 4000000 in
theorem ok_X4_groupOf (a0 : Nat) (a1 : Int32) (M : gk_M) (K : gk_V → gk_M → Prop) (h : gk_Sat gk_I (f_X4_groupOf a0 a1 M) K) : gk_MS 4 yX4_groupOf cX4_groupOf 4 (some .int) [gk_R 2 a0, gk_I a1] M K := by
  have hga0 := h.gd
  have h := hga0.2
  have ha0 := gk_lt_of hga0.1
  refine gk_MS_of [some (gk_R 2 a0), some (gk_I a1), none, none] (by decide +kernel) (Nat.le_of_ble_eq_true rfl) (And.intro rfl (And.intro rfl True.intro)) ?_
  show gk_G RX4 cX4_groupOf 4 4 (some .int) none K 0 [some (gk_R 2 a0), some (gk_I a1), none, none] [] M
  refine gk_iconst (v := (1 : Int32)) dX4_groupOf_0 (by decide) ?_
  refine gk_iload_n dX4_groupOf_1 rfl rfl ?_
  refine gk_ishl dX4_groupOf_2 ?_
  refine gk_istore_n (L' := [some (gk_R 2 a0), some (gk_I a1), some (gk_I ((1 : Int32) <<< (a1 &&& 31))), none]) dX4_groupOf_3 rfl (by decide) rfl rfl ?_
  refine gk_iconst (v := (1 : Int32)) dX4_groupOf_4 (by decide) ?_
  refine gk_istore_n (L' := [some (gk_R 2 a0), some (gk_I a1), some (gk_I ((1 : Int32) <<< (a1 &&& 31))), some (gk_I (1 : Int32))]) dX4_groupOf_5 rfl (by decide) rfl rfl ?_
  exact gk_weak [some (gk_R 2 a0), none, some (gk_I ((1 : Int32) <<< (a1 &&& 31))), some (gk_I (1 : Int32))] (And.intro rfl (And.intro rfl (And.intro rfl True.intro))) (ok_X4_groupOf_l6 200 a0 (((1 : Int32) <<< (a1 &&& 31))) ((1 : Int32)) M h)
set_option maxRecDepth 100000 in
set_option maxHeartbeats 4000000 in
theorem ok_X4_nearestTo_j52 {K : gk_V → gk_M → Prop} (κ7 : Nat → Int32 → Int32 → Int32 → Int32 → Int32 → gk_M → Option (Int32 × gk_M)) (hκ7 : ∀ (x0 : Nat) (x1 : Int32) (x2 : Int32) (x3 : Int32) (x4 : Int32) (x5 : Int32) (M : gk_M), gk_Sat gk_I (κ7 x0 x1 x2 x3 x4 x5 M) K → gk_G RX4 cX4_nearestTo 6 2 (some .int) none K 7 [some (gk_R 2 x0), some (gk_I x1), some (gk_I x2), some (gk_I x3), some (gk_I x4), some (gk_I x5)] [] M) (x0 : Nat) (x1 : Int32) (x2 : Int32) (x3 : Int32) (x4 : Int32) (x5 : Int32) (M : gk_M) (h : gk_Sat gk_I (X4_nearestTo_j52 κ7 x0 x1 x2 x3 x4 x5 M) K) : gk_G RX4 cX4_nearestTo 6 2 (some .int) none K 52 [some (gk_R 2 x0), some (gk_I x1), some (gk_I x2), some (gk_I x3), some (gk_I x4), some (gk_I x5)] [] M := by
  have hgx0 := h.gd
  have h := hgx0.2
  have hx0 := gk_lt_of hgx0.1
  refine gk_iinc (v := (x5 + (1 : Int32))) (L' := [some (gk_R 2 x0), some (gk_I x1), some (gk_I x2), some (gk_I x3), some (gk_I x4), some (gk_I (x5 + (1 : Int32)))]) dX4_nearestTo_52 rfl rfl (by decide) rfl rfl ?_
  refine gk_goto (tgt := 7) dX4_nearestTo_55 (by decide) ?_
  exact gk_weak [some (gk_R 2 x0), some (gk_I x1), some (gk_I x2), some (gk_I x3), some (gk_I x4), some (gk_I (x5 + (1 : Int32)))] (And.intro rfl (And.intro rfl (And.intro rfl (And.intro rfl (And.intro rfl (And.intro rfl True.intro)))))) (hκ7 x0 x1 x2 x3 x4 ((x5 + (1 : Int32))) M h)
set_option maxRecDepth 100000 in
set_option maxHeartbeats 4000000 in
theorem ok_X4_nearestTo_j48 {K : gk_V → gk_M → Prop} (κ7 : Nat → Int32 → Int32 → Int32 → Int32 → Int32 → gk_M → Option (Int32 × gk_M)) (hκ7 : ∀ (x0 : Nat) (x1 : Int32) (x2 : Int32) (x3 : Int32) (x4 : Int32) (x5 : Int32) (M : gk_M), gk_Sat gk_I (κ7 x0 x1 x2 x3 x4 x5 M) K → gk_G RX4 cX4_nearestTo 6 2 (some .int) none K 7 [some (gk_R 2 x0), some (gk_I x1), some (gk_I x2), some (gk_I x3), some (gk_I x4), some (gk_I x5)] [] M) (x0 : Nat) (x1 : Int32) (x2 : Int32) (x3 : Int32) (x5 : Int32) (M : gk_M) (h : gk_Sat gk_I (X4_nearestTo_j48 κ7 x0 x1 x2 x3 x5 M) K) : gk_G RX4 cX4_nearestTo 6 2 (some .int) none K 48 [some (gk_R 2 x0), some (gk_I x1), some (gk_I x2), some (gk_I x3), none, some (gk_I x5)] [] M := by
  have hgx0 := h.gd
  have h := hgx0.2
  have hx0 := gk_lt_of hgx0.1
  refine gk_iload dX4_nearestTo_48 rfl ?_
  refine gk_istore (L' := [some (gk_R 2 x0), some (gk_I x1), some (gk_I x2), some (gk_I x3), some (gk_I x5), some (gk_I x5)]) dX4_nearestTo_50 (by decide) rfl rfl ?_
  exact gk_weak [some (gk_R 2 x0), some (gk_I x1), some (gk_I x2), some (gk_I x3), some (gk_I x5), some (gk_I x5)] (And.intro rfl (And.intro rfl (And.intro rfl (And.intro rfl (And.intro rfl (And.intro rfl True.intro)))))) (ok_X4_nearestTo_j52 κ7 hκ7 x0 x1 x2 x3 x5 x5 M h)
set_option maxRecDepth 100000 in
set_option maxHeartbeats 4000000 in
theorem ok_X4_nearestTo_l7 {K : gk_V → gk_M → Prop} : ∀ (n : Nat) (x0 : Nat) (x1 : Int32) (x2 : Int32) (x3 : Int32) (x4 : Int32) (x5 : Int32) (M : gk_M), gk_Sat gk_I (X4_nearestTo_l7 n x0 x1 x2 x3 x4 x5 M) K → gk_G RX4 cX4_nearestTo 6 2 (some .int) none K 7 [some (gk_R 2 x0), some (gk_I x1), some (gk_I x2), some (gk_I x3), some (gk_I x4), some (gk_I x5)] [] M := by
  intro n
  induction n with
  | zero => intro x0 x1 x2 x3 x4 x5 M h; exact h.no.elim
  | succ n ih =>
    intro x0 x1 x2 x3 x4 x5 M h
    have hgx0 := h.gd
    have h := hgx0.2
    have hx0 := gk_lt_of hgx0.1
    refine gk_iload dX4_nearestTo_7 rfl ?_
    refine gk_aload_n dX4_nearestTo_9 rfl rfl ?_
    refine gk_getI fr_X4_32 si_2_3 hx0 dX4_nearestTo_10 ?_
    refine gk_icmp_ge (tgt := 58) dX4_nearestTo_13 (by decide) h (fun h => ?_) (fun h => ?_)
    · refine gk_iload dX4_nearestTo_58 rfl ?_
      exact gk_iret dX4_nearestTo_60 rfl h
    · refine gk_iload dX4_nearestTo_16 rfl ?_
      refine gk_iload_n dX4_nearestTo_18 rfl rfl ?_
      refine gk_icmp_eq (tgt := 52) dX4_nearestTo_19 (by decide) h (fun h => ?_) (fun h => ?_)
      · exact gk_weak [some (gk_R 2 x0), some (gk_I x1), some (gk_I x2), some (gk_I x3), some (gk_I x4), some (gk_I x5)] (And.intro rfl (And.intro rfl (And.intro rfl (And.intro rfl (And.intro rfl (And.intro rfl True.intro)))))) (ok_X4_nearestTo_j52 (X4_nearestTo_l7 n) ih x0 x1 x2 x3 x4 x5 M h)
      · refine gk_iload dX4_nearestTo_22 rfl ?_
        refine gk_bipush (v := (-9 : Int32)) dX4_nearestTo_24 (by decide) ?_
        refine gk_icmp_eq (tgt := 48) dX4_nearestTo_26 (by decide) h (fun h => ?_) (fun h => ?_)
        · exact gk_weak [some (gk_R 2 x0), some (gk_I x1), some (gk_I x2), some (gk_I x3), none, some (gk_I x5)] (And.intro rfl (And.intro rfl (And.intro rfl (And.intro rfl (And.intro rfl True.intro))))) (ok_X4_nearestTo_j48 (X4_nearestTo_l7 n) ih x0 x1 x2 x3 x5 M h)
        · refine gk_aload_n dX4_nearestTo_29 rfl rfl ?_
          refine gk_iload dX4_nearestTo_30 rfl ?_
          refine gk_iload_n dX4_nearestTo_32 rfl rfl ?_
          refine gk_iload_n dX4_nearestTo_33 rfl rfl ?_
          refine gk_callI (As := [gk_R 2 x0, gk_I x5, gk_I x1, gk_I x2]) (st := []) 1 (cr_X4_61 hx0 rfl) (fun K' h' => ok_X4_gapToPlace x0 x5 x1 x2 M K' h') rfl (by decide) (by decide) (fun _ => Nat.le_of_ble_eq_true rfl) dX4_nearestTo_34 h (fun r2 M1 h => ?_)
          refine gk_aload_n dX4_nearestTo_37 rfl rfl ?_
          refine gk_iload dX4_nearestTo_38 rfl ?_
          refine gk_iload_n dX4_nearestTo_40 rfl rfl ?_
          refine gk_iload_n dX4_nearestTo_41 rfl rfl ?_
          refine gk_callI (As := [gk_R 2 x0, gk_I x4, gk_I x1, gk_I x2]) (st := [gk_I r2]) 1 (cr_X4_61 hx0 rfl) (fun K' h' => ok_X4_gapToPlace x0 x4 x1 x2 M1 K' h') rfl (by decide) (by decide) (fun _ => Nat.le_of_ble_eq_true rfl) dX4_nearestTo_42 h (fun r4 M3 h => ?_)
          refine gk_icmp_ge (tgt := 52) dX4_nearestTo_45 (by decide) h (fun h => ?_) (fun h => ?_)
          · exact gk_weak [some (gk_R 2 x0), some (gk_I x1), some (gk_I x2), some (gk_I x3), some (gk_I x4), some (gk_I x5)] (And.intro rfl (And.intro rfl (And.intro rfl (And.intro rfl (And.intro rfl (And.intro rfl True.intro)))))) (ok_X4_nearestTo_j52 (X4_nearestTo_l7 n) ih x0 x1 x2 x3 x4 x5 M3 h)
          · exact gk_weak [some (gk_R 2 x0), some (gk_I x1), some (gk_I x2), some (gk_I x3), none, some (gk_I x5)] (And.intro rfl (And.intro rfl (And.intro rfl (And.intro rfl (And.intro rfl True.intro))))) (ok_X4_nearestTo_j48 (X4_nearestTo_l7 n) ih x0 x1 x2 x3 x5 M3 h)
set_option maxRecDepth 100000 in
set_option maxHeartbeats 4000000 in
theorem ok_X4_nearestTo (a0 : Nat) (a1 : Int32) (a2 : Int32) (a3 : Int32) (M : gk_M) (K : gk_V → gk_M → Prop) (h : gk_Sat gk_I (f_X4_nearestTo a0 a1 a2 a3 M) K) : gk_MS 2 yX4_nearestTo cX4_nearestTo 6 (some .int) [gk_R 2 a0, gk_I a1, gk_I a2, gk_I a3] M K := by
  have hga0 := h.gd
  have h := hga0.2
  have ha0 := gk_lt_of hga0.1
  refine gk_MS_of [some (gk_R 2 a0), some (gk_I a1), some (gk_I a2), some (gk_I a3), none, none] (by decide +kernel) (Nat.le_of_ble_eq_true rfl) (And.intro rfl (And.intro rfl (And.intro rfl (And.intro rfl True.intro)))) ?_
  show gk_G RX4 cX4_nearestTo 6 2 (some .int) none K 0 [some (gk_R 2 a0), some (gk_I a1), some (gk_I a2), some (gk_I a3), none, none] [] M
  refine gk_bipush (v := (-9 : Int32)) dX4_nearestTo_0 (by decide) ?_
  refine gk_istore (L' := [some (gk_R 2 a0), some (gk_I a1), some (gk_I a2), some (gk_I a3), some (gk_I (-9 : Int32)), none]) dX4_nearestTo_2 (by decide) rfl rfl ?_
  refine gk_iconst (v := (0 : Int32)) dX4_nearestTo_4 (by decide) ?_
  refine gk_istore (L' := [some (gk_R 2 a0), some (gk_I a1), some (gk_I a2), some (gk_I a3), some (gk_I (-9 : Int32)), some (gk_I (0 : Int32))]) dX4_nearestTo_5 (by decide) rfl rfl ?_
  exact gk_weak [some (gk_R 2 a0), some (gk_I a1), some (gk_I a2), some (gk_I a3), some (gk_I (-9 : Int32)), some (gk_I (0 : Int32))] (And.intro rfl (And.intro rfl (And.intro rfl (And.intro rfl (And.intro rfl (And.intro rfl True.intro)))))) (ok_X4_nearestTo_l7 200 a0 a1 a2 a3 ((-9 : Int32)) ((0 : Int32)) M h)
set_option maxRecDepth 100000 in
set_option maxHeartbeats 4000000 in
theorem ok_J9_floorMod_7cf53_j18 {K : gk_V → gk_M → Prop} (x2 : Int32) (M : gk_M) (h : gk_Sat gk_I (J9_floorMod_7cf53_j18 x2 M) K) : gk_G RJ9 cJ9_floorMod_7cf53 3 0 (some .int) none K 18 [none, none, some (gk_I x2)] [] M := by
  refine gk_iload_n dJ9_floorMod_7cf53_18 rfl rfl ?_
  exact gk_iret dJ9_floorMod_7cf53_19 rfl h
set_option maxRecDepth 100000 in
set_option maxHeartbeats 4000000 in
theorem ok_J9_floorMod_7cf53 (a0 : Int32) (a1 : Int32) (M : gk_M) (K : gk_V → gk_M → Prop) (h : gk_Sat gk_I (f_J9_floorMod_7cf53 a0 a1 M) K) : gk_MS 0 yJ9_floorMod_7cf53 cJ9_floorMod_7cf53 3 (some .int) [gk_I a0, gk_I a1] M K := by

  refine gk_MS_of [some (gk_I a0), some (gk_I a1), none] (by decide +kernel) (Nat.le_of_ble_eq_true rfl) (And.intro rfl (And.intro rfl True.intro)) ?_
  show gk_G RJ9 cJ9_floorMod_7cf53 3 0 (some .int) none K 0 [some (gk_I a0), some (gk_I a1), none] [] M
  refine gk_iload_n dJ9_floorMod_7cf53_0 rfl rfl ?_
  refine gk_iload_n dJ9_floorMod_7cf53_1 rfl rfl ?_
  refine gk_irem_g dJ9_floorMod_7cf53_2 h (fun h => ?_)
  refine gk_istore_n (L' := [some (gk_I a0), some (gk_I a1), some (gk_I (a0 - a0 / a1 * a1))]) dJ9_floorMod_7cf53_3 rfl (by decide) rfl rfl ?_
  refine gk_iload_n dJ9_floorMod_7cf53_4 rfl rfl ?_
  refine gk_iload_n dJ9_floorMod_7cf53_5 rfl rfl ?_
  refine gk_ixor dJ9_floorMod_7cf53_6 ?_
  refine gk_if_ge (tgt := 18) dJ9_floorMod_7cf53_7 (by decide) h (fun h => ?_) (fun h => ?_)
  · exact gk_weak [none, none, some (gk_I (a0 - a0 / a1 * a1))] (And.intro rfl True.intro) (ok_J9_floorMod_7cf53_j18 ((a0 - a0 / a1 * a1)) M h)
  · refine gk_iload_n dJ9_floorMod_7cf53_10 rfl rfl ?_
    refine gk_if_eq (tgt := 18) dJ9_floorMod_7cf53_11 (by decide) h (fun h => ?_) (fun h => ?_)
    · exact gk_weak [none, none, some (gk_I (a0 - a0 / a1 * a1))] (And.intro rfl True.intro) (ok_J9_floorMod_7cf53_j18 ((a0 - a0 / a1 * a1)) M h)
    · refine gk_iload_n dJ9_floorMod_7cf53_14 rfl rfl ?_
      refine gk_iload_n dJ9_floorMod_7cf53_15 rfl rfl ?_
      refine gk_iadd dJ9_floorMod_7cf53_16 ?_
      exact gk_iret dJ9_floorMod_7cf53_17 rfl h
set_option maxRecDepth 100000 in
set_option maxHeartbeats 4000000 in
theorem ok_X4_airOf (a0 : Nat) (a1 : Int32) (M : gk_M) (K : gk_V → gk_M → Prop) (h : gk_Sat gk_U (f_X4_airOf a0 a1 M) K) : gk_MS 1 yX4_airOf cX4_airOf 5 none [gk_R 2 a0, gk_I a1, gk_R 0 0] M K := by
  have hga0 := h.gd
  have h := hga0.2
  have ha0 := gk_lt_of hga0.1
  refine gk_MS_of [some (gk_R 2 a0), some (gk_I a1), some (gk_R 0 0), none, none] (by decide +kernel) (Nat.le_of_ble_eq_true rfl) (And.intro rfl (And.intro rfl (And.intro rfl True.intro))) ?_
  show gk_G RX4 cX4_airOf 5 1 none none K 0 [some (gk_R 2 a0), some (gk_I a1), some (gk_R 0 0), none, none] [] M
  refine gk_iload_n dX4_airOf_0 rfl rfl ?_
  refine gk_bipush (v := (7 : Int32)) dX4_airOf_1 (by decide) ?_
  refine gk_callI (As := [gk_I a1, gk_I (7 : Int32)]) (st := []) 0 (cr_X4_71 rfl) (fun K' h' => ok_J9_floorMod_7cf53 a1 (7 : Int32) M K' h') rfl (by decide) (by decide) (fun _ => Nat.le_of_ble_eq_true rfl) dX4_airOf_3 h (fun r2 M1 h => ?_)
  refine gk_istore_n (L' := [some (gk_R 2 a0), some (gk_I a1), some (gk_R 0 0), some (gk_I r2), none]) dX4_airOf_6 rfl (by decide) rfl rfl ?_
  refine gk_iload_n dX4_airOf_7 rfl rfl ?_
  refine gk_iconst (v := (1 : Int32)) dX4_airOf_8 (by decide) ?_
  refine gk_isub dX4_airOf_9 ?_
  refine gk_bipush (v := (7 : Int32)) dX4_airOf_10 (by decide) ?_
  refine gk_callI (As := [gk_I (a1 - (1 : Int32)), gk_I (7 : Int32)]) (st := []) 0 (cr_X4_71 rfl) (fun K' h' => ok_J9_floorMod_7cf53 (a1 - (1 : Int32)) (7 : Int32) M1 K' h') rfl (by decide) (by decide) (fun _ => Nat.le_of_ble_eq_true rfl) dX4_airOf_12 h (fun r4 M3 h => ?_)
  refine gk_istore (L' := [some (gk_R 2 a0), some (gk_I a1), some (gk_R 0 0), some (gk_I r2), some (gk_I r4)]) dX4_airOf_15 (by decide) rfl rfl ?_
  refine gk_aload_n dX4_airOf_17 rfl rfl ?_
  refine gk_iload_n dX4_airOf_18 rfl rfl ?_
  refine gk_putI fr_X4_74 si_0_0 (by decide) dX4_airOf_19 h (fun M5 h => ?_)
  refine gk_aload_n dX4_airOf_22 rfl rfl ?_
  refine gk_aload_n dX4_airOf_23 rfl rfl ?_
  refine gk_get (v := gk_R 7 a0) fr_X4_9 pf_2_0 ha0 dX4_airOf_24 ?_
  refine gk_iload_n dX4_airOf_27 rfl rfl ?_
  refine gk_iald ga_7 ha0 dX4_airOf_28 h (fun h hb6 => ?_)
  refine gk_putI fr_X4_77 si_0_1 (by decide) dX4_airOf_29 h (fun M7 h => ?_)
  refine gk_aload_n dX4_airOf_32 rfl rfl ?_
  refine gk_aload_n dX4_airOf_33 rfl rfl ?_
  refine gk_get (v := gk_R 8 a0) fr_X4_15 pf_2_1 ha0 dX4_airOf_34 ?_
  refine gk_iload_n dX4_airOf_37 rfl rfl ?_
  refine gk_iald ga_8 ha0 dX4_airOf_38 h (fun h hb8 => ?_)
  refine gk_putI fr_X4_78 si_0_2 (by decide) dX4_airOf_39 h (fun M9 h => ?_)
  refine gk_aload_n dX4_airOf_42 rfl rfl ?_
  refine gk_aload_n dX4_airOf_43 rfl rfl ?_
  refine gk_get (v := gk_R 7 a0) fr_X4_9 pf_2_0 ha0 dX4_airOf_44 ?_
  refine gk_iload dX4_airOf_47 rfl ?_
  refine gk_iald ga_7 ha0 dX4_airOf_49 h (fun h hb10 => ?_)
  refine gk_putI fr_X4_79 si_0_3 (by decide) dX4_airOf_50 h (fun M11 h => ?_)
  refine gk_aload_n dX4_airOf_53 rfl rfl ?_
  refine gk_aload_n dX4_airOf_54 rfl rfl ?_
  refine gk_get (v := gk_R 8 a0) fr_X4_15 pf_2_1 ha0 dX4_airOf_55 ?_
  refine gk_iload dX4_airOf_58 rfl ?_
  refine gk_iald ga_8 ha0 dX4_airOf_60 h (fun h hb12 => ?_)
  refine gk_putI fr_X4_82 si_0_4 (by decide) dX4_airOf_61 h (fun M13 h => ?_)
  exact gk_vret dX4_airOf_64 rfl h
set_option maxRecDepth 100000 in
set_option maxHeartbeats 4000000 in
theorem ok_X10_eastward (a0 : Nat) (a2 : Int32) (M : gk_M) (K : gk_V → gk_M → Prop) (h : gk_Sat gk_I (f_X10_eastward a0 a2 M) K) : gk_MS 1 yX10_eastward cX10_eastward 3 (some .int) [gk_R 1 a0, gk_R 0 0, gk_I a2] M K := by
  have hga0 := h.gd
  have h := hga0.2
  have ha0 := gk_lt_of hga0.1
  refine gk_MS_of [some (gk_R 1 a0), some (gk_R 0 0), some (gk_I a2)] (by decide +kernel) (Nat.le_of_ble_eq_true rfl) (And.intro rfl (And.intro rfl (And.intro rfl True.intro))) ?_
  show gk_G RX10 cX10_eastward 3 1 (some .int) none K 0 [some (gk_R 1 a0), some (gk_R 0 0), some (gk_I a2)] [] M
  refine gk_aload_n dX10_eastward_0 rfl rfl ?_
  refine gk_aload_n dX10_eastward_1 rfl rfl ?_
  refine gk_iload_n dX10_eastward_2 rfl rfl ?_
  refine gk_callI (As := [gk_R 1 a0, gk_R 0 0, gk_I a2]) (st := []) 0 (cr_X10_7 ha0 rfl) (fun K' h' => ok_X1_northward a0 a2 M K' h') rfl (by decide) (by decide) (fun _ => Nat.le_of_ble_eq_true rfl) dX10_eastward_3 h (fun r2 M1 h => ?_)
  refine gk_ineg dX10_eastward_6 ?_
  exact gk_iret dX10_eastward_7 rfl h
set_option maxRecDepth 100000 in
set_option maxHeartbeats 4000000 in
theorem ok_X5_eastward (a0 : Nat) (a2 : Int32) (M : gk_M) (K : gk_V → gk_M → Prop) (h : gk_Sat gk_I (f_X5_eastward a0 a2 M) K) : gk_MS 0 yX5_eastward cX5_eastward 3 (some .int) [gk_R 1 a0, gk_R 0 0, gk_I a2] M K := by
  have hga0 := h.gd
  have h := hga0.2
  have ha0 := gk_lt_of hga0.1
  refine gk_MS_of [some (gk_R 1 a0), some (gk_R 0 0), some (gk_I a2)] (by decide +kernel) (Nat.le_of_ble_eq_true rfl) (And.intro rfl (And.intro rfl (And.intro rfl True.intro))) ?_
  show gk_G RX5 cX5_eastward 3 0 (some .int) none K 0 [some (gk_R 1 a0), some (gk_R 0 0), some (gk_I a2)] [] M
  refine gk_aload_n dX5_eastward_0 rfl rfl ?_
  refine gk_getI fr_X5_7 si_0_3 (by decide) dX5_eastward_1 ?_
  exact gk_iret dX5_eastward_4 rfl h
set_option maxRecDepth 100000 in
set_option maxHeartbeats 4000000 in
theorem ok_X9_way_j18 {K : gk_V → gk_M → Prop}  (M : gk_M) (h : gk_Sat gk_I (X9_way_j18  M) K) : gk_G RX9 cX9_way 3 0 (some .int) none K 18 [none, none, none] [] M := by
  refine gk_iconst (v := (1 : Int32)) dX9_way_18 (by decide) ?_
  exact gk_iret dX9_way_19 rfl h
set_option maxRecDepth 100000 in
set_option maxHeartbeats 4000000 in
theorem ok_X9_way (a0 : Int32) (a1 : Int32) (M : gk_M) (K : gk_V → gk_M → Prop) (h : gk_Sat gk_I (f_X9_way a0 a1 M) K) : gk_MS 0 yX9_way cX9_way 3 (some .int) [gk_I a0, gk_I a1] M K := by

  refine gk_MS_of [some (gk_I a0), some (gk_I a1), none] (by decide +kernel) (Nat.le_of_ble_eq_true rfl) (And.intro rfl (And.intro rfl True.intro)) ?_
  show gk_G RX9 cX9_way 3 0 (some .int) none K 0 [some (gk_I a0), some (gk_I a1), none] [] M
  refine gk_iload_n dX9_way_0 rfl rfl ?_
  refine gk_iconst (v := (2 : Int32)) dX9_way_1 (by decide) ?_
  refine gk_iadd dX9_way_2 ?_
  refine gk_istore_n (L' := [some (gk_I a0), some (gk_I a1), some (gk_I (a1 + (2 : Int32)))]) dX9_way_3 rfl (by decide) rfl rfl ?_
  refine gk_iload_n dX9_way_4 rfl rfl ?_
  refine gk_if_le (tgt := 18) dX9_way_5 (by decide) h (fun h => ?_) (fun h => ?_)
  · exact gk_weak [none, none, none] True.intro (ok_X9_way_j18 M h)
  · refine gk_iload_n dX9_way_8 rfl rfl ?_
    refine gk_iload_n dX9_way_9 rfl rfl ?_
    refine gk_irem_g dX9_way_10 h (fun h => ?_)
    refine gk_if_ne (tgt := 18) dX9_way_11 (by decide) h (fun h => ?_) (fun h => ?_)
    · exact gk_weak [none, none, none] True.intro (ok_X9_way_j18 M h)
    · refine gk_iconst (v := (-1 : Int32)) dX9_way_14 (by decide) ?_
      refine gk_goto (tgt := 19) dX9_way_15 (by decide) ?_
      exact gk_iret dX9_way_19 rfl h
set_option maxRecDepth 100000 in
set_option maxHeartbeats 4000000 in
theorem ok_X9_eastward (a0 : Nat) (a2 : Int32) (M : gk_M) (K : gk_V → gk_M → Prop) (h : gk_Sat gk_I (f_X9_eastward a0 a2 M) K) : gk_MS 2 yX9_eastward cX9_eastward 3 (some .int) [gk_R 1 a0, gk_R 0 0, gk_I a2] M K := by
  have hga0 := h.gd
  have h := hga0.2
  have ha0 := gk_lt_of hga0.1
  refine gk_MS_of [some (gk_R 1 a0), some (gk_R 0 0), some (gk_I a2)] (by decide +kernel) (Nat.le_of_ble_eq_true rfl) (And.intro rfl (And.intro rfl (And.intro rfl True.intro))) ?_
  show gk_G RX9 cX9_eastward 3 2 (some .int) none K 0 [some (gk_R 1 a0), some (gk_R 0 0), some (gk_I a2)] [] M
  refine gk_aload_n dX9_eastward_0 rfl rfl ?_
  refine gk_getI fr_X9_7 si_0_0 (by decide) dX9_eastward_1 ?_
  refine gk_iload_n dX9_eastward_4 rfl rfl ?_
  refine gk_callI (As := [gk_I (M 0 0 0), gk_I a2]) (st := []) 0 (cr_X9_13 rfl) (fun K' h' => ok_X9_way (M 0 0 0) a2 M K' h') rfl (by decide) (by decide) (fun _ => Nat.le_of_ble_eq_true rfl) dX9_eastward_5 h (fun r2 M1 h => ?_)
  refine gk_aload_n dX9_eastward_8 rfl rfl ?_
  refine gk_aload_n dX9_eastward_9 rfl rfl ?_
  refine gk_iload_n dX9_eastward_10 rfl rfl ?_
  refine gk_callI (As := [gk_R 1 a0, gk_R 0 0, gk_I a2]) (st := [gk_I r2]) 1 (cr_X9_19 ha0 rfl) (fun K' h' => ok_X10_eastward a0 a2 M1 K' h') rfl (by decide) (by decide) (fun _ => Nat.le_of_ble_eq_true rfl) dX9_eastward_11 h (fun r4 M3 h => ?_)
  refine gk_imul dX9_eastward_14 ?_
  exact gk_iret dX9_eastward_15 rfl h
set_option maxHeartbeats 4000000 in
theorem cd_X11_264 {cc : ByteArray} {nL d : Nat} {ret : Option FieldType} {SL : Option (Nat × (Nat → Int32))} {K : gk_V → gk_M → Prop} {pc : Nat} {L : List (Option gk_V)} {st : List gk_V} {M : gk_M} {α : Type} {ι : α → gk_V} {a0 : Nat} {a2 : Int32} {F : Int32 → gk_M → Option (α × gk_M)} (hdd : 3 ≤ d) (hst : ∀ ρ, ((st.map (gk_c ρ)).map fun v => v.category).sum ≤ 8) (hd : decode cc pc = .ok (.invokevirtual 264, 3)) (h : gk_Sat ι (gk_bnd (f_Dr_eastward a0 a2 M) F) K) (k : ∀ (r : Int32) (M' : gk_M), gk_Sat ι (F r M') K → gk_G RX11 cc nL d ret SL K (pc + 3) L (gk_I r :: st) M') : gk_G RX11 cc nL d ret SL K pc L (gk_I a2 :: gk_R 0 0 :: gk_R 1 a0 :: st) M := by
  match a0, h with
  | 0, h => exact gk_callI (As := [gk_R 1 0, gk_R 0 0, gk_I a2]) (o := f_X1_eastward 0 a2 M) 0 (cr_X11_264_0 rfl) (fun K' h' => ok_X1_eastward 0 a2 M K' h') rfl (by omega) (by decide) hst hd h k
  | 1, h => exact gk_callI (As := [gk_R 1 1, gk_R 0 0, gk_I a2]) (o := f_X3_eastward 1 a2 M) 1 (cr_X11_264_1 rfl) (fun K' h' => ok_X3_eastward 1 a2 M K' h') rfl (by omega) (by decide) hst hd h k
  | 2, h => exact gk_callI (As := [gk_R 1 2, gk_R 0 0, gk_I a2]) (o := f_X10_eastward 2 a2 M) 1 (cr_X11_264_2 rfl) (fun K' h' => ok_X10_eastward 2 a2 M K' h') rfl (by omega) (by decide) hst hd h k
  | 3, h => exact gk_callI (As := [gk_R 1 3, gk_R 0 0, gk_I a2]) (o := f_X5_eastward 3 a2 M) 0 (cr_X11_264_3 rfl) (fun K' h' => ok_X5_eastward 3 a2 M K' h') rfl (by omega) (by decide) hst hd h k
  | 4, h => exact gk_callI (As := [gk_R 1 4, gk_R 0 0, gk_I a2]) (o := f_X9_eastward 4 a2 M) 2 (cr_X11_264_4 rfl) (fun K' h' => ok_X9_eastward 4 a2 M K' h') rfl (by omega) (by decide) hst hd h k
  | 5, h => exact gk_callI (As := [gk_R 1 5, gk_R 0 0, gk_I a2]) (o := f_X2_eastward 5 a2 M) 2 (cr_X11_264_5 rfl) (fun K' h' => ok_X2_eastward 5 a2 M K' h') rfl (by omega) (by decide) hst hd h k
  | _ + 6, h => exact h.no.elim
set_option maxHeartbeats 4000000 in
theorem cd_X4_91 {cc : ByteArray} {nL d : Nat} {ret : Option FieldType} {SL : Option (Nat × (Nat → Int32))} {K : gk_V → gk_M → Prop} {pc : Nat} {L : List (Option gk_V)} {st : List gk_V} {M : gk_M} {α : Type} {ι : α → gk_V} {a0 : Nat} {a2 : Int32} {F : Int32 → gk_M → Option (α × gk_M)} (hdd : 3 ≤ d) (hst : ∀ ρ, ((st.map (gk_c ρ)).map fun v => v.category).sum ≤ 8) (hd : decode cc pc = .ok (.invokevirtual 91, 3)) (h : gk_Sat ι (gk_bnd (f_Dr_eastward a0 a2 M) F) K) (k : ∀ (r : Int32) (M' : gk_M), gk_Sat ι (F r M') K → gk_G RX4 cc nL d ret SL K (pc + 3) L (gk_I r :: st) M') : gk_G RX4 cc nL d ret SL K pc L (gk_I a2 :: gk_R 0 0 :: gk_R 1 a0 :: st) M := by
  match a0, h with
  | 0, h => exact gk_callI (As := [gk_R 1 0, gk_R 0 0, gk_I a2]) (o := f_X1_eastward 0 a2 M) 0 (cr_X4_91_0 rfl) (fun K' h' => ok_X1_eastward 0 a2 M K' h') rfl (by omega) (by decide) hst hd h k
  | 1, h => exact gk_callI (As := [gk_R 1 1, gk_R 0 0, gk_I a2]) (o := f_X3_eastward 1 a2 M) 1 (cr_X4_91_1 rfl) (fun K' h' => ok_X3_eastward 1 a2 M K' h') rfl (by omega) (by decide) hst hd h k
  | 2, h => exact gk_callI (As := [gk_R 1 2, gk_R 0 0, gk_I a2]) (o := f_X10_eastward 2 a2 M) 1 (cr_X4_91_2 rfl) (fun K' h' => ok_X10_eastward 2 a2 M K' h') rfl (by omega) (by decide) hst hd h k
  | 3, h => exact gk_callI (As := [gk_R 1 3, gk_R 0 0, gk_I a2]) (o := f_X5_eastward 3 a2 M) 0 (cr_X4_91_3 rfl) (fun K' h' => ok_X5_eastward 3 a2 M K' h') rfl (by omega) (by decide) hst hd h k
  | 4, h => exact gk_callI (As := [gk_R 1 4, gk_R 0 0, gk_I a2]) (o := f_X9_eastward 4 a2 M) 2 (cr_X4_91_4 rfl) (fun K' h' => ok_X9_eastward 4 a2 M K' h') rfl (by omega) (by decide) hst hd h k
  | 5, h => exact gk_callI (As := [gk_R 1 5, gk_R 0 0, gk_I a2]) (o := f_X2_eastward 5 a2 M) 2 (cr_X4_91_5 rfl) (fun K' h' => ok_X2_eastward 5 a2 M K' h') rfl (by omega) (by decide) hst hd h k
  | _ + 6, h => exact h.no.elim
set_option maxRecDepth 100000 in
set_option maxHeartbeats 4000000 in
theorem ok_X10_northward (a0 : Nat) (a2 : Int32) (M : gk_M) (K : gk_V → gk_M → Prop) (h : gk_Sat gk_I (f_X10_northward a0 a2 M) K) : gk_MS 1 yX10_northward cX10_northward 3 (some .int) [gk_R 1 a0, gk_R 0 0, gk_I a2] M K := by
  have hga0 := h.gd
  have h := hga0.2
  have ha0 := gk_lt_of hga0.1
  refine gk_MS_of [some (gk_R 1 a0), some (gk_R 0 0), some (gk_I a2)] (by decide +kernel) (Nat.le_of_ble_eq_true rfl) (And.intro rfl (And.intro rfl (And.intro rfl True.intro))) ?_
  show gk_G RX10 cX10_northward 3 1 (some .int) none K 0 [some (gk_R 1 a0), some (gk_R 0 0), some (gk_I a2)] [] M
  refine gk_aload_n dX10_northward_0 rfl rfl ?_
  refine gk_aload_n dX10_northward_1 rfl rfl ?_
  refine gk_iload_n dX10_northward_2 rfl rfl ?_
  refine gk_callI (As := [gk_R 1 a0, gk_R 0 0, gk_I a2]) (st := []) 0 (cr_X10_11 ha0 rfl) (fun K' h' => ok_X1_eastward a0 a2 M K' h') rfl (by decide) (by decide) (fun _ => Nat.le_of_ble_eq_true rfl) dX10_northward_3 h (fun r2 M1 h => ?_)
  exact gk_iret dX10_northward_6 rfl h
set_option maxRecDepth 100000 in
set_option maxHeartbeats 4000000 in
theorem ok_X5_northward (a0 : Nat) (a2 : Int32) (M : gk_M) (K : gk_V → gk_M → Prop) (h : gk_Sat gk_I (f_X5_northward a0 a2 M) K) : gk_MS 0 yX5_northward cX5_northward 3 (some .int) [gk_R 1 a0, gk_R 0 0, gk_I a2] M K := by
  have hga0 := h.gd
  have h := hga0.2
  have ha0 := gk_lt_of hga0.1
  refine gk_MS_of [some (gk_R 1 a0), some (gk_R 0 0), some (gk_I a2)] (by decide +kernel) (Nat.le_of_ble_eq_true rfl) (And.intro rfl (And.intro rfl (And.intro rfl True.intro))) ?_
  show gk_G RX5 cX5_northward 3 0 (some .int) none K 0 [some (gk_R 1 a0), some (gk_R 0 0), some (gk_I a2)] [] M
  refine gk_aload_n dX5_northward_0 rfl rfl ?_
  refine gk_getI fr_X5_13 si_0_4 (by decide) dX5_northward_1 ?_
  exact gk_iret dX5_northward_4 rfl h
set_option maxRecDepth 100000 in
set_option maxHeartbeats 4000000 in
theorem ok_X9_northward (a0 : Nat) (a2 : Int32) (M : gk_M) (K : gk_V → gk_M → Prop) (h : gk_Sat gk_I (f_X9_northward a0 a2 M) K) : gk_MS 2 yX9_northward cX9_northward 3 (some .int) [gk_R 1 a0, gk_R 0 0, gk_I a2] M K := by
  have hga0 := h.gd
  have h := hga0.2
  have ha0 := gk_lt_of hga0.1
  refine gk_MS_of [some (gk_R 1 a0), some (gk_R 0 0), some (gk_I a2)] (by decide +kernel) (Nat.le_of_ble_eq_true rfl) (And.intro rfl (And.intro rfl (And.intro rfl True.intro))) ?_
  show gk_G RX9 cX9_northward 3 2 (some .int) none K 0 [some (gk_R 1 a0), some (gk_R 0 0), some (gk_I a2)] [] M
  refine gk_aload_n dX9_northward_0 rfl rfl ?_
  refine gk_getI fr_X9_7 si_0_0 (by decide) dX9_northward_1 ?_
  refine gk_iload_n dX9_northward_4 rfl rfl ?_
  refine gk_callI (As := [gk_I (M 0 0 0), gk_I a2]) (st := []) 0 (cr_X9_13 rfl) (fun K' h' => ok_X9_way (M 0 0 0) a2 M K' h') rfl (by decide) (by decide) (fun _ => Nat.le_of_ble_eq_true rfl) dX9_northward_5 h (fun r2 M1 h => ?_)
  refine gk_aload_n dX9_northward_8 rfl rfl ?_
  refine gk_aload_n dX9_northward_9 rfl rfl ?_
  refine gk_iload_n dX9_northward_10 rfl rfl ?_
  refine gk_callI (As := [gk_R 1 a0, gk_R 0 0, gk_I a2]) (st := [gk_I r2]) 1 (cr_X9_23 ha0 rfl) (fun K' h' => ok_X10_northward a0 a2 M1 K' h') rfl (by decide) (by decide) (fun _ => Nat.le_of_ble_eq_true rfl) dX9_northward_11 h (fun r4 M3 h => ?_)
  refine gk_imul dX9_northward_14 ?_
  exact gk_iret dX9_northward_15 rfl h
set_option maxHeartbeats 4000000 in
theorem cd_X11_268 {cc : ByteArray} {nL d : Nat} {ret : Option FieldType} {SL : Option (Nat × (Nat → Int32))} {K : gk_V → gk_M → Prop} {pc : Nat} {L : List (Option gk_V)} {st : List gk_V} {M : gk_M} {α : Type} {ι : α → gk_V} {a0 : Nat} {a2 : Int32} {F : Int32 → gk_M → Option (α × gk_M)} (hdd : 3 ≤ d) (hst : ∀ ρ, ((st.map (gk_c ρ)).map fun v => v.category).sum ≤ 8) (hd : decode cc pc = .ok (.invokevirtual 268, 3)) (h : gk_Sat ι (gk_bnd (f_Dr_northward a0 a2 M) F) K) (k : ∀ (r : Int32) (M' : gk_M), gk_Sat ι (F r M') K → gk_G RX11 cc nL d ret SL K (pc + 3) L (gk_I r :: st) M') : gk_G RX11 cc nL d ret SL K pc L (gk_I a2 :: gk_R 0 0 :: gk_R 1 a0 :: st) M := by
  match a0, h with
  | 0, h => exact gk_callI (As := [gk_R 1 0, gk_R 0 0, gk_I a2]) (o := f_X1_northward 0 a2 M) 0 (cr_X11_268_0 rfl) (fun K' h' => ok_X1_northward 0 a2 M K' h') rfl (by omega) (by decide) hst hd h k
  | 1, h => exact gk_callI (As := [gk_R 1 1, gk_R 0 0, gk_I a2]) (o := f_X3_northward 1 a2 M) 1 (cr_X11_268_1 rfl) (fun K' h' => ok_X3_northward 1 a2 M K' h') rfl (by omega) (by decide) hst hd h k
  | 2, h => exact gk_callI (As := [gk_R 1 2, gk_R 0 0, gk_I a2]) (o := f_X10_northward 2 a2 M) 1 (cr_X11_268_2 rfl) (fun K' h' => ok_X10_northward 2 a2 M K' h') rfl (by omega) (by decide) hst hd h k
  | 3, h => exact gk_callI (As := [gk_R 1 3, gk_R 0 0, gk_I a2]) (o := f_X5_northward 3 a2 M) 0 (cr_X11_268_3 rfl) (fun K' h' => ok_X5_northward 3 a2 M K' h') rfl (by omega) (by decide) hst hd h k
  | 4, h => exact gk_callI (As := [gk_R 1 4, gk_R 0 0, gk_I a2]) (o := f_X9_northward 4 a2 M) 2 (cr_X11_268_4 rfl) (fun K' h' => ok_X9_northward 4 a2 M K' h') rfl (by omega) (by decide) hst hd h k
  | 5, h => exact gk_callI (As := [gk_R 1 5, gk_R 0 0, gk_I a2]) (o := f_X3_northward 5 a2 M) 1 (cr_X11_268_5 rfl) (fun K' h' => ok_X3_northward 5 a2 M K' h') rfl (by omega) (by decide) hst hd h k
  | _ + 6, h => exact h.no.elim
set_option maxHeartbeats 4000000 in
theorem cd_X4_97 {cc : ByteArray} {nL d : Nat} {ret : Option FieldType} {SL : Option (Nat × (Nat → Int32))} {K : gk_V → gk_M → Prop} {pc : Nat} {L : List (Option gk_V)} {st : List gk_V} {M : gk_M} {α : Type} {ι : α → gk_V} {a0 : Nat} {a2 : Int32} {F : Int32 → gk_M → Option (α × gk_M)} (hdd : 3 ≤ d) (hst : ∀ ρ, ((st.map (gk_c ρ)).map fun v => v.category).sum ≤ 8) (hd : decode cc pc = .ok (.invokevirtual 97, 3)) (h : gk_Sat ι (gk_bnd (f_Dr_northward a0 a2 M) F) K) (k : ∀ (r : Int32) (M' : gk_M), gk_Sat ι (F r M') K → gk_G RX4 cc nL d ret SL K (pc + 3) L (gk_I r :: st) M') : gk_G RX4 cc nL d ret SL K pc L (gk_I a2 :: gk_R 0 0 :: gk_R 1 a0 :: st) M := by
  match a0, h with
  | 0, h => exact gk_callI (As := [gk_R 1 0, gk_R 0 0, gk_I a2]) (o := f_X1_northward 0 a2 M) 0 (cr_X4_97_0 rfl) (fun K' h' => ok_X1_northward 0 a2 M K' h') rfl (by omega) (by decide) hst hd h k
  | 1, h => exact gk_callI (As := [gk_R 1 1, gk_R 0 0, gk_I a2]) (o := f_X3_northward 1 a2 M) 1 (cr_X4_97_1 rfl) (fun K' h' => ok_X3_northward 1 a2 M K' h') rfl (by omega) (by decide) hst hd h k
  | 2, h => exact gk_callI (As := [gk_R 1 2, gk_R 0 0, gk_I a2]) (o := f_X10_northward 2 a2 M) 1 (cr_X4_97_2 rfl) (fun K' h' => ok_X10_northward 2 a2 M K' h') rfl (by omega) (by decide) hst hd h k
  | 3, h => exact gk_callI (As := [gk_R 1 3, gk_R 0 0, gk_I a2]) (o := f_X5_northward 3 a2 M) 0 (cr_X4_97_3 rfl) (fun K' h' => ok_X5_northward 3 a2 M K' h') rfl (by omega) (by decide) hst hd h k
  | 4, h => exact gk_callI (As := [gk_R 1 4, gk_R 0 0, gk_I a2]) (o := f_X9_northward 4 a2 M) 2 (cr_X4_97_4 rfl) (fun K' h' => ok_X9_northward 4 a2 M K' h') rfl (by omega) (by decide) hst hd h k
  | 5, h => exact gk_callI (As := [gk_R 1 5, gk_R 0 0, gk_I a2]) (o := f_X3_northward 5 a2 M) 1 (cr_X4_97_5 rfl) (fun K' h' => ok_X3_northward 5 a2 M K' h') rfl (by omega) (by decide) hst hd h k
  | _ + 6, h => exact h.no.elim
set_option maxRecDepth 100000 in
set_option maxHeartbeats 4000000 in
theorem ok_J9_min_7cf53 (a0 : Int32) (a1 : Int32) (M : gk_M) (K : gk_V → gk_M → Prop) (h : gk_Sat gk_I (f_J9_min_7cf53 a0 a1 M) K) : gk_MS 0 yJ9_min_7cf53 cJ9_min_7cf53 2 (some .int) [gk_I a0, gk_I a1] M K := by

  refine gk_MS_of [some (gk_I a0), some (gk_I a1)] (by decide +kernel) (Nat.le_of_ble_eq_true rfl) (And.intro rfl (And.intro rfl True.intro)) ?_
  show gk_G RJ9 cJ9_min_7cf53 2 0 (some .int) none K 0 [some (gk_I a0), some (gk_I a1)] [] M
  refine gk_iload_n dJ9_min_7cf53_0 rfl rfl ?_
  refine gk_iload_n dJ9_min_7cf53_1 rfl rfl ?_
  refine gk_icmp_gt (tgt := 9) dJ9_min_7cf53_2 (by decide) h (fun h => ?_) (fun h => ?_)
  · refine gk_iload_n dJ9_min_7cf53_9 rfl rfl ?_
    exact gk_iret dJ9_min_7cf53_10 rfl h
  · refine gk_iload_n dJ9_min_7cf53_5 rfl rfl ?_
    refine gk_goto (tgt := 10) dJ9_min_7cf53_6 (by decide) ?_
    exact gk_iret dJ9_min_7cf53_10 rfl h
set_option maxRecDepth 100000 in
set_option maxHeartbeats 4000000 in
theorem ok_X8_eat (a0 : Nat) (M : gk_M) (K : gk_V → gk_M → Prop) (h : gk_Sat gk_I (f_X8_eat a0 M) K) : gk_MS 1 yX8_eat cX8_eat 2 (some .int) [gk_R 5 a0] M K := by
  have hga0 := h.gd
  have h := hga0.2
  have ha0 := gk_lt_of hga0.1
  refine gk_MS_of [some (gk_R 5 a0), none] (by decide +kernel) (Nat.le_of_ble_eq_true rfl) (And.intro rfl True.intro) ?_
  show gk_G RX8 cX8_eat 2 1 (some .int) none K 0 [some (gk_R 5 a0), none] [] M
  refine gk_aload_n dX8_eat_0 rfl rfl ?_
  refine gk_getI fr_X8_19 si_5_3 ha0 dX8_eat_1 ?_
  refine gk_aload_n dX8_eat_4 rfl rfl ?_
  refine gk_getI fr_X8_16 si_5_2 ha0 dX8_eat_5 ?_
  refine gk_callI (As := [gk_I (M 5 a0 3), gk_I (M 5 a0 2)]) (st := []) 0 (cr_X8_28 rfl) (fun K' h' => ok_J9_min_7cf53 (M 5 a0 3) (M 5 a0 2) M K' h') rfl (by decide) (by decide) (fun _ => Nat.le_of_ble_eq_true rfl) dX8_eat_8 h (fun r2 M1 h => ?_)
  refine gk_istore_n (L' := [some (gk_R 5 a0), some (gk_I r2)]) dX8_eat_11 rfl (by decide) rfl rfl ?_
  refine gk_aload_n dX8_eat_12 rfl rfl ?_
  refine gk_dup dX8_eat_13 rfl ?_
  refine gk_getI fr_X8_19 si_5_3 ha0 dX8_eat_14 ?_
  refine gk_iload_n dX8_eat_17 rfl rfl ?_
  refine gk_isub dX8_eat_18 ?_
  refine gk_putI fr_X8_19 si_5_3 ha0 dX8_eat_19 h (fun M3 h => ?_)
  refine gk_aload_n dX8_eat_22 rfl rfl ?_
  refine gk_getI fr_X8_16 si_5_2 ha0 dX8_eat_23 ?_
  refine gk_iload_n dX8_eat_26 rfl rfl ?_
  refine gk_isub dX8_eat_27 ?_
  exact gk_iret dX8_eat_28 rfl h
set_option maxRecDepth 100000 in
set_option maxHeartbeats 4000000 in
theorem ok_X4_passDay_l5 {K : gk_V → gk_M → Prop} : ∀ (n : Nat) (x0 : Nat) (x3 : Int32) (x4 : Int32) (M : gk_M), gk_Sat gk_I (X4_passDay_l5 n x0 x3 x4 M) K → gk_G RX4 cX4_passDay 7 3 (some .int) none K 5 [some (gk_R 2 x0), some (gk_R 0 0), some (gk_R 10 0), some (gk_I x3), some (gk_I x4), none, none] [] M := by
  intro n
  induction n with
  | zero => intro x0 x3 x4 M h; exact h.no.elim
  | succ n ih =>
    intro x0 x3 x4 M h
    have hgx0 := h.gd
    have h := hgx0.2
    have hx0 := gk_lt_of hgx0.1
    refine gk_iload dX4_passDay_5 rfl ?_
    refine gk_aload_n dX4_passDay_7 rfl rfl ?_
    refine gk_getI fr_X4_32 si_2_3 hx0 dX4_passDay_8 ?_
    refine gk_icmp_ge (tgt := 88) dX4_passDay_11 (by decide) h (fun h => ?_) (fun h => ?_)
    · refine gk_aload_n dX4_passDay_88 rfl rfl ?_
      refine gk_dup dX4_passDay_89 rfl ?_
      refine gk_getI fr_X4_39 si_2_4 hx0 dX4_passDay_90 ?_
      refine gk_iconst (v := (1 : Int32)) dX4_passDay_93 (by decide) ?_
      refine gk_iadd dX4_passDay_94 ?_
      refine gk_putI fr_X4_39 si_2_4 hx0 dX4_passDay_95 h (fun M1 h => ?_)
      refine gk_iload_n dX4_passDay_98 rfl rfl ?_
      exact gk_iret dX4_passDay_99 rfl h
    · refine gk_aload_n dX4_passDay_14 rfl rfl ?_
      refine gk_get (v := gk_R 9 x0) fr_X4_20 pf_2_2 hx0 dX4_passDay_15 ?_
      refine gk_iload dX4_passDay_18 rfl ?_
      refine gk_aald (f := fun i j => 6 * i + j) (t0 := 1) ga_9 (fun _ => rfl) hx0 dX4_passDay_20 h (fun h hb2 => ?_)
      have hc3 : (6 * x0 + (Int32.toNatClampNeg x4)) < 18 := by omega
      refine gk_astore (L' := [some (gk_R 2 x0), some (gk_R 0 0), some (gk_R 10 0), some (gk_I x3), some (gk_I x4), some (gk_R 5 (6 * x0 + (Int32.toNatClampNeg x4))), none]) dX4_passDay_21 (by decide) rfl rfl ?_
      refine gk_aload_n dX4_passDay_23 rfl rfl ?_
      refine gk_aload dX4_passDay_24 rfl ?_
      refine gk_getI fr_X4_85 si_5_0 hc3 dX4_passDay_26 ?_
      refine gk_aald (f := fun i j => j) (t0 := 2) ga_10 (fun _ => rfl) (by decide) dX4_passDay_29 h (fun h hb4 => ?_)
      refine gk_astore (L' := [some (gk_R 2 x0), some (gk_R 0 0), some (gk_R 10 0), some (gk_I x3), some (gk_I x4), some (gk_R 5 (6 * x0 + (Int32.toNatClampNeg x4))), some (gk_R 1 (Int32.toNatClampNeg (M 5 (6 * x0 + (Int32.toNatClampNeg x4)) 0)))]) dX4_passDay_30 (by decide) rfl rfl ?_
      refine gk_aload dX4_passDay_32 rfl ?_
      refine gk_dup dX4_passDay_34 rfl ?_
      refine gk_getI fr_X4_45 si_5_4 hc3 dX4_passDay_35 ?_
      refine gk_aload dX4_passDay_38 rfl ?_
      refine gk_aload_n dX4_passDay_40 rfl rfl ?_
      refine gk_aload dX4_passDay_41 rfl ?_
      refine gk_getI fr_X4_88 si_5_1 hc3 dX4_passDay_43 ?_
      refine cd_X4_91 (st := [gk_I (M 5 (6 * x0 + (Int32.toNatClampNeg x4)) 4), gk_R 5 (6 * x0 + (Int32.toNatClampNeg x4))]) (by decide) (fun _ => Nat.le_of_ble_eq_true rfl) dX4_passDay_46 h (fun r6 M5 h => ?_)
      refine gk_iadd dX4_passDay_49 ?_
      refine gk_putI fr_X4_45 si_5_4 hc3 dX4_passDay_50 h (fun M7 h => ?_)
      refine gk_aload dX4_passDay_53 rfl ?_
      refine gk_dup dX4_passDay_55 rfl ?_
      refine gk_getI fr_X4_54 si_5_5 hc3 dX4_passDay_56 ?_
      refine gk_aload dX4_passDay_59 rfl ?_
      refine gk_aload_n dX4_passDay_61 rfl rfl ?_
      refine gk_aload dX4_passDay_62 rfl ?_
      refine gk_getI fr_X4_88 si_5_1 hc3 dX4_passDay_64 ?_
      refine cd_X4_97 (st := [gk_I (M7 5 (6 * x0 + (Int32.toNatClampNeg x4)) 5), gk_R 5 (6 * x0 + (Int32.toNatClampNeg x4))]) (by decide) (fun _ => Nat.le_of_ble_eq_true rfl) dX4_passDay_67 h (fun r9 M8 h => ?_)
      refine gk_iadd dX4_passDay_70 ?_
      refine gk_putI fr_X4_54 si_5_5 hc3 dX4_passDay_71 h (fun M10 h => ?_)
      refine gk_iload_n dX4_passDay_74 rfl rfl ?_
      refine gk_aload dX4_passDay_75 rfl ?_
      refine gk_callI (As := [gk_R 5 (6 * x0 + (Int32.toNatClampNeg x4))]) (st := [gk_I x3]) 1 (cr_X4_100 hc3 rfl) (fun K' h' => ok_X8_eat ((6 * x0 + (Int32.toNatClampNeg x4))) M10 K' h') rfl (by decide) (by decide) (fun _ => Nat.le_of_ble_eq_true rfl) dX4_passDay_77 h (fun r12 M11 h => ?_)
      refine gk_iadd dX4_passDay_80 ?_
      refine gk_istore_n (L' := [some (gk_R 2 x0), some (gk_R 0 0), some (gk_R 10 0), some (gk_I (x3 + r12)), some (gk_I x4), some (gk_R 5 (6 * x0 + (Int32.toNatClampNeg x4))), some (gk_R 1 (Int32.toNatClampNeg (M 5 (6 * x0 + (Int32.toNatClampNeg x4)) 0)))]) dX4_passDay_81 rfl (by decide) rfl rfl ?_
      refine gk_iinc (v := (x4 + (1 : Int32))) (L' := [some (gk_R 2 x0), some (gk_R 0 0), some (gk_R 10 0), some (gk_I (x3 + r12)), some (gk_I (x4 + (1 : Int32))), some (gk_R 5 (6 * x0 + (Int32.toNatClampNeg x4))), some (gk_R 1 (Int32.toNatClampNeg (M 5 (6 * x0 + (Int32.toNatClampNeg x4)) 0)))]) dX4_passDay_82 rfl rfl (by decide) rfl rfl ?_
      refine gk_goto (tgt := 5) dX4_passDay_85 (by decide) ?_
      exact gk_weak [some (gk_R 2 x0), some (gk_R 0 0), some (gk_R 10 0), some (gk_I (x3 + r12)), some (gk_I (x4 + (1 : Int32))), none, none] (And.intro rfl (And.intro rfl (And.intro rfl (And.intro rfl (And.intro rfl True.intro))))) (ih x0 ((x3 + r12)) ((x4 + (1 : Int32))) M11 h)
set_option maxRecDepth 100000 in
set_option maxHeartbeats 4000000 in
theorem ok_X4_passDay (a0 : Nat) (M : gk_M) (K : gk_V → gk_M → Prop) (h : gk_Sat gk_I (f_X4_passDay a0 M) K) : gk_MS 3 yX4_passDay cX4_passDay 7 (some .int) [gk_R 2 a0, gk_R 0 0, gk_R 10 0] M K := by
  have hga0 := h.gd
  have h := hga0.2
  have ha0 := gk_lt_of hga0.1
  refine gk_MS_of [some (gk_R 2 a0), some (gk_R 0 0), some (gk_R 10 0), none, none, none, none] (by decide +kernel) (Nat.le_of_ble_eq_true rfl) (And.intro rfl (And.intro rfl (And.intro rfl True.intro))) ?_
  show gk_G RX4 cX4_passDay 7 3 (some .int) none K 0 [some (gk_R 2 a0), some (gk_R 0 0), some (gk_R 10 0), none, none, none, none] [] M
  refine gk_iconst (v := (0 : Int32)) dX4_passDay_0 (by decide) ?_
  refine gk_istore_n (L' := [some (gk_R 2 a0), some (gk_R 0 0), some (gk_R 10 0), some (gk_I (0 : Int32)), none, none, none]) dX4_passDay_1 rfl (by decide) rfl rfl ?_
  refine gk_iconst (v := (0 : Int32)) dX4_passDay_2 (by decide) ?_
  refine gk_istore (L' := [some (gk_R 2 a0), some (gk_R 0 0), some (gk_R 10 0), some (gk_I (0 : Int32)), some (gk_I (0 : Int32)), none, none]) dX4_passDay_3 (by decide) rfl rfl ?_
  exact gk_weak [some (gk_R 2 a0), some (gk_R 0 0), some (gk_R 10 0), some (gk_I (0 : Int32)), some (gk_I (0 : Int32)), none, none] (And.intro rfl (And.intro rfl (And.intro rfl (And.intro rfl (And.intro rfl True.intro))))) (ok_X4_passDay_l5 200 a0 ((0 : Int32)) ((0 : Int32)) M h)
set_option maxRecDepth 100000 in
set_option maxHeartbeats 4000000 in
theorem ok_X4_hungerToCome_l4 {K : gk_V → gk_M → Prop} : ∀ (n : Nat) (x0 : Nat) (x1 : Int32) (x2 : Int32) (x3 : Int32) (M : gk_M), gk_Sat gk_I (X4_hungerToCome_l4 n x0 x1 x2 x3 M) K → gk_G RX4 cX4_hungerToCome 4 1 (some .int) none K 4 [some (gk_R 2 x0), some (gk_I x1), some (gk_I x2), some (gk_I x3)] [] M := by
  intro n
  induction n with
  | zero => intro x0 x1 x2 x3 M h; exact h.no.elim
  | succ n ih =>
    intro x0 x1 x2 x3 M h
    have hgx0 := h.gd
    have h := hgx0.2
    have hx0 := gk_lt_of hgx0.1
    refine gk_iload_n dX4_hungerToCome_4 rfl rfl ?_
    refine gk_aload_n dX4_hungerToCome_5 rfl rfl ?_
    refine gk_getI fr_X4_32 si_2_3 hx0 dX4_hungerToCome_6 ?_
    refine gk_icmp_ge (tgt := 46) dX4_hungerToCome_9 (by decide) h (fun h => ?_) (fun h => ?_)
    · refine gk_iload_n dX4_hungerToCome_46 rfl rfl ?_
      exact gk_iret dX4_hungerToCome_47 rfl h
    · refine gk_iload_n dX4_hungerToCome_12 rfl rfl ?_
      refine gk_iconst (v := (0 : Int32)) dX4_hungerToCome_13 (by decide) ?_
      refine gk_iload_n dX4_hungerToCome_14 rfl rfl ?_
      refine gk_aload_n dX4_hungerToCome_15 rfl rfl ?_
      refine gk_get (v := gk_R 9 x0) fr_X4_20 pf_2_2 hx0 dX4_hungerToCome_16 ?_
      refine gk_iload_n dX4_hungerToCome_19 rfl rfl ?_
      refine gk_aald (f := fun i j => 6 * i + j) (t0 := 1) ga_9 (fun _ => rfl) hx0 dX4_hungerToCome_20 h (fun h hb1 => ?_)
      have hc2 : (6 * x0 + (Int32.toNatClampNeg x3)) < 18 := by omega
      refine gk_getI fr_X4_104 si_5_2 hc2 dX4_hungerToCome_21 ?_
      refine gk_imul dX4_hungerToCome_24 ?_
      refine gk_aload_n dX4_hungerToCome_25 rfl rfl ?_
      refine gk_get (v := gk_R 9 x0) fr_X4_20 pf_2_2 hx0 dX4_hungerToCome_26 ?_
      refine gk_iload_n dX4_hungerToCome_29 rfl rfl ?_
      refine gk_aald (f := fun i j => 6 * i + j) (t0 := 1) ga_9 (fun _ => rfl) hx0 dX4_hungerToCome_30 h (fun h hb3 => ?_)
      have hc4 : (6 * x0 + (Int32.toNatClampNeg x3)) < 18 := by omega
      refine gk_getI fr_X4_107 si_5_3 hc4 dX4_hungerToCome_31 ?_
      refine gk_isub dX4_hungerToCome_34 ?_
      refine gk_callI (As := [gk_I (0 : Int32), gk_I ((x1 * (M 5 (6 * x0 + (Int32.toNatClampNeg x3)) 2)) - (M 5 (6 * x0 + (Int32.toNatClampNeg x3)) 3))]) (st := [gk_I x2]) 0 (cr_X4_57 rfl) (fun K' h' => ok_J9_max_7cf53 (0 : Int32) ((x1 * (M 5 (6 * x0 + (Int32.toNatClampNeg x3)) 2)) - (M 5 (6 * x0 + (Int32.toNatClampNeg x3)) 3)) M K' h') rfl (by decide) (by decide) (fun _ => Nat.le_of_ble_eq_true rfl) dX4_hungerToCome_35 h (fun r6 M5 h => ?_)
      refine gk_iadd dX4_hungerToCome_38 ?_
      refine gk_istore_n (L' := [some (gk_R 2 x0), some (gk_I x1), some (gk_I (x2 + r6)), some (gk_I x3)]) dX4_hungerToCome_39 rfl (by decide) rfl rfl ?_
      refine gk_iinc (v := (x3 + (1 : Int32))) (L' := [some (gk_R 2 x0), some (gk_I x1), some (gk_I (x2 + r6)), some (gk_I (x3 + (1 : Int32)))]) dX4_hungerToCome_40 rfl rfl (by decide) rfl rfl ?_
      refine gk_goto (tgt := 4) dX4_hungerToCome_43 (by decide) ?_
      exact gk_weak [some (gk_R 2 x0), some (gk_I x1), some (gk_I (x2 + r6)), some (gk_I (x3 + (1 : Int32)))] (And.intro rfl (And.intro rfl (And.intro rfl (And.intro rfl True.intro)))) (ih x0 x1 ((x2 + r6)) ((x3 + (1 : Int32))) M5 h)
set_option maxRecDepth 100000 in
set_option maxHeartbeats 4000000 in
theorem ok_X4_hungerToCome (a0 : Nat) (a1 : Int32) (M : gk_M) (K : gk_V → gk_M → Prop) (h : gk_Sat gk_I (f_X4_hungerToCome a0 a1 M) K) : gk_MS 1 yX4_hungerToCome cX4_hungerToCome 4 (some .int) [gk_R 2 a0, gk_I a1] M K := by
  have hga0 := h.gd
  have h := hga0.2
  have ha0 := gk_lt_of hga0.1
  refine gk_MS_of [some (gk_R 2 a0), some (gk_I a1), none, none] (by decide +kernel) (Nat.le_of_ble_eq_true rfl) (And.intro rfl (And.intro rfl True.intro)) ?_
  show gk_G RX4 cX4_hungerToCome 4 1 (some .int) none K 0 [some (gk_R 2 a0), some (gk_I a1), none, none] [] M
  refine gk_iconst (v := (0 : Int32)) dX4_hungerToCome_0 (by decide) ?_
  refine gk_istore_n (L' := [some (gk_R 2 a0), some (gk_I a1), some (gk_I (0 : Int32)), none]) dX4_hungerToCome_1 rfl (by decide) rfl rfl ?_
  refine gk_iconst (v := (0 : Int32)) dX4_hungerToCome_2 (by decide) ?_
  refine gk_istore_n (L' := [some (gk_R 2 a0), some (gk_I a1), some (gk_I (0 : Int32)), some (gk_I (0 : Int32))]) dX4_hungerToCome_3 rfl (by decide) rfl rfl ?_
  exact gk_weak [some (gk_R 2 a0), some (gk_I a1), some (gk_I (0 : Int32)), some (gk_I (0 : Int32))] (And.intro rfl (And.intro rfl (And.intro rfl (And.intro rfl True.intro)))) (ok_X4_hungerToCome_l4 200 a0 a1 ((0 : Int32)) ((0 : Int32)) M h)
set_option maxRecDepth 100000 in
set_option maxHeartbeats 4000000 in
theorem ok_X4_giveUp_j78 {K : gk_V → gk_M → Prop} (x2 : Nat) (M : gk_M) (h : gk_Sat gk_U (X4_giveUp_j78 x2 M) K) : gk_G RX4 cX4_giveUp 5 3 none none K 78 [none, none, some (gk_R 5 x2), none, none] [] M := by
  have hgx2 := h.gd
  have h := hgx2.2
  have hx2 := gk_lt_of hgx2.1
  refine gk_aload_n dX4_giveUp_78 rfl rfl ?_
  refine gk_iconst (v := (0 : Int32)) dX4_giveUp_79 (by decide) ?_
  refine gk_putI fr_X4_104 si_5_2 hx2 dX4_giveUp_80 h (fun M7 h => ?_)
  refine gk_aload_n dX4_giveUp_83 rfl rfl ?_
  refine gk_iconst (v := (0 : Int32)) dX4_giveUp_84 (by decide) ?_
  refine gk_putI fr_X4_107 si_5_3 hx2 dX4_giveUp_85 h (fun M8 h => ?_)
  exact gk_vret dX4_giveUp_88 rfl h
set_option maxRecDepth 100000 in
set_option maxHeartbeats 4000000 in
theorem ok_X4_giveUp (a0 : Nat) (a1 : Int32) (M : gk_M) (K : gk_V → gk_M → Prop) (h : gk_Sat gk_U (f_X4_giveUp a0 a1 M) K) : gk_MS 3 yX4_giveUp cX4_giveUp 5 none [gk_R 2 a0, gk_I a1] M K := by
  have hga0 := h.gd
  have h := hga0.2
  have ha0 := gk_lt_of hga0.1
  refine gk_MS_of [some (gk_R 2 a0), some (gk_I a1), none, none, none] (by decide +kernel) (Nat.le_of_ble_eq_true rfl) (And.intro rfl (And.intro rfl True.intro)) ?_
  show gk_G RX4 cX4_giveUp 5 3 none none K 0 [some (gk_R 2 a0), some (gk_I a1), none, none, none] [] M
  refine gk_aload_n dX4_giveUp_0 rfl rfl ?_
  refine gk_get (v := gk_R 9 a0) fr_X4_20 pf_2_2 ha0 dX4_giveUp_1 ?_
  refine gk_iload_n dX4_giveUp_4 rfl rfl ?_
  refine gk_aald (f := fun i j => 6 * i + j) (t0 := 1) ga_9 (fun _ => rfl) ha0 dX4_giveUp_5 h (fun h hb1 => ?_)
  have hc2 : (6 * a0 + (Int32.toNatClampNeg a1)) < 18 := by omega
  refine gk_astore_n (L' := [some (gk_R 2 a0), some (gk_I a1), some (gk_R 5 (6 * a0 + (Int32.toNatClampNeg a1))), none, none]) dX4_giveUp_6 rfl (by decide) rfl rfl ?_
  refine gk_aload_n dX4_giveUp_7 rfl rfl ?_
  refine gk_aload_n dX4_giveUp_8 rfl rfl ?_
  refine gk_getI fr_X4_45 si_5_4 hc2 dX4_giveUp_9 ?_
  refine gk_aload_n dX4_giveUp_12 rfl rfl ?_
  refine gk_getI fr_X4_54 si_5_5 hc2 dX4_giveUp_13 ?_
  refine gk_iload_n dX4_giveUp_16 rfl rfl ?_
  refine gk_callI (As := [gk_R 2 a0, gk_I (M 5 (6 * a0 + (Int32.toNatClampNeg a1)) 4), gk_I (M 5 (6 * a0 + (Int32.toNatClampNeg a1)) 5), gk_I a1]) (st := []) 2 (cr_X4_110 ha0 rfl) (fun K' h' => ok_X4_nearestTo a0 (M 5 (6 * a0 + (Int32.toNatClampNeg a1)) 4) (M 5 (6 * a0 + (Int32.toNatClampNeg a1)) 5) a1 M K' h') rfl (by decide) (by decide) (fun _ => Nat.le_of_ble_eq_true rfl) dX4_giveUp_17 h (fun r4 M3 h => ?_)
  refine gk_istore_n (L' := [some (gk_R 2 a0), some (gk_I a1), some (gk_R 5 (6 * a0 + (Int32.toNatClampNeg a1))), some (gk_I r4), none]) dX4_giveUp_20 rfl (by decide) rfl rfl ?_
  refine gk_aload_n dX4_giveUp_21 rfl rfl ?_
  refine gk_iload_n dX4_giveUp_22 rfl rfl ?_
  refine gk_callI (As := [gk_R 2 a0, gk_I r4]) (st := []) 0 (cr_X4_113 ha0 rfl) (fun K' h' => ok_X4_has a0 r4 M3 K' h') rfl (by decide) (by decide) (fun _ => Nat.le_of_ble_eq_true rfl) dX4_giveUp_23 h (fun r6 M5 h => ?_)
  refine gk_if_eq (tgt := 78) dX4_giveUp_26 (by decide) h (fun h => ?_) (fun h => ?_)
  · exact gk_weak [none, none, some (gk_R 5 (6 * a0 + (Int32.toNatClampNeg a1))), none, none] (And.intro rfl True.intro) (ok_X4_giveUp_j78 ((6 * a0 + (Int32.toNatClampNeg a1))) M5 h)
  · refine gk_aload_n dX4_giveUp_29 rfl rfl ?_
    refine gk_get (v := gk_R 9 a0) fr_X4_20 pf_2_2 ha0 dX4_giveUp_30 ?_
    refine gk_iload_n dX4_giveUp_33 rfl rfl ?_
    refine gk_aald (f := fun i j => 6 * i + j) (t0 := 1) ga_9 (fun _ => rfl) ha0 dX4_giveUp_34 h (fun h hb9 => ?_)
    have hc10 : (6 * a0 + (Int32.toNatClampNeg r4)) < 18 := by omega
    refine gk_astore (L' := [some (gk_R 2 a0), some (gk_I a1), some (gk_R 5 (6 * a0 + (Int32.toNatClampNeg a1))), some (gk_I r4), some (gk_R 5 (6 * a0 + (Int32.toNatClampNeg r4)))]) dX4_giveUp_35 (by decide) rfl rfl ?_
    refine gk_aload dX4_giveUp_37 rfl ?_
    refine gk_bipush (v := (9 : Int32)) dX4_giveUp_39 (by decide) ?_
    refine gk_aload dX4_giveUp_41 rfl ?_
    refine gk_getI fr_X4_104 si_5_2 hc10 dX4_giveUp_43 ?_
    refine gk_aload_n dX4_giveUp_46 rfl rfl ?_
    refine gk_getI fr_X4_104 si_5_2 hc2 dX4_giveUp_47 ?_
    refine gk_iadd dX4_giveUp_50 ?_
    refine gk_callI (As := [gk_I (9 : Int32), gk_I ((M5 5 (6 * a0 + (Int32.toNatClampNeg r4)) 2) + (M5 5 (6 * a0 + (Int32.toNatClampNeg a1)) 2))]) (st := [gk_R 5 (6 * a0 + (Int32.toNatClampNeg r4))]) 0 (cr_X4_117 rfl) (fun K' h' => ok_J9_min_7cf53 (9 : Int32) ((M5 5 (6 * a0 + (Int32.toNatClampNeg r4)) 2) + (M5 5 (6 * a0 + (Int32.toNatClampNeg a1)) 2)) M5 K' h') rfl (by decide) (by decide) (fun _ => Nat.le_of_ble_eq_true rfl) dX4_giveUp_51 h (fun r12 M11 h => ?_)
    refine gk_putI fr_X4_104 si_5_2 hc10 dX4_giveUp_54 h (fun M13 h => ?_)
    refine gk_aload dX4_giveUp_57 rfl ?_
    refine gk_sipush (v := (999 : Int32)) dX4_giveUp_59 (by decide) ?_
    refine gk_aload dX4_giveUp_62 rfl ?_
    refine gk_getI fr_X4_107 si_5_3 hc10 dX4_giveUp_64 ?_
    refine gk_aload_n dX4_giveUp_67 rfl rfl ?_
    refine gk_getI fr_X4_107 si_5_3 hc2 dX4_giveUp_68 ?_
    refine gk_iadd dX4_giveUp_71 ?_
    refine gk_callI (As := [gk_I (999 : Int32), gk_I ((M13 5 (6 * a0 + (Int32.toNatClampNeg r4)) 3) + (M13 5 (6 * a0 + (Int32.toNatClampNeg a1)) 3))]) (st := [gk_R 5 (6 * a0 + (Int32.toNatClampNeg r4))]) 0 (cr_X4_117 rfl) (fun K' h' => ok_J9_min_7cf53 (999 : Int32) ((M13 5 (6 * a0 + (Int32.toNatClampNeg r4)) 3) + (M13 5 (6 * a0 + (Int32.toNatClampNeg a1)) 3)) M13 K' h') rfl (by decide) (by decide) (fun _ => Nat.le_of_ble_eq_true rfl) dX4_giveUp_72 h (fun r15 M14 h => ?_)
    refine gk_putI fr_X4_107 si_5_3 hc10 dX4_giveUp_75 h (fun M16 h => ?_)
    exact gk_weak [none, none, some (gk_R 5 (6 * a0 + (Int32.toNatClampNeg a1))), none, none] (And.intro rfl True.intro) (ok_X4_giveUp_j78 ((6 * a0 + (Int32.toNatClampNeg a1))) M16 h)
set_option maxRecDepth 100000 in
set_option maxHeartbeats 4000000 in
theorem ok_X4_allBread_l4 {K : gk_V → gk_M → Prop} : ∀ (n : Nat) (x0 : Nat) (x1 : Int32) (x2 : Int32) (M : gk_M), gk_Sat gk_I (X4_allBread_l4 n x0 x1 x2 M) K → gk_G RX4 cX4_allBread 3 0 (some .int) none K 4 [some (gk_R 2 x0), some (gk_I x1), some (gk_I x2)] [] M := by
  intro n
  induction n with
  | zero => intro x0 x1 x2 M h; exact h.no.elim
  | succ n ih =>
    intro x0 x1 x2 M h
    have hgx0 := h.gd
    have h := hgx0.2
    have hx0 := gk_lt_of hgx0.1
    refine gk_iload_n dX4_allBread_4 rfl rfl ?_
    refine gk_aload_n dX4_allBread_5 rfl rfl ?_
    refine gk_getI fr_X4_32 si_2_3 hx0 dX4_allBread_6 ?_
    refine gk_icmp_ge (tgt := 30) dX4_allBread_9 (by decide) h (fun h => ?_) (fun h => ?_)
    · refine gk_iload_n dX4_allBread_30 rfl rfl ?_
      exact gk_iret dX4_allBread_31 rfl h
    · refine gk_iload_n dX4_allBread_12 rfl rfl ?_
      refine gk_aload_n dX4_allBread_13 rfl rfl ?_
      refine gk_get (v := gk_R 9 x0) fr_X4_20 pf_2_2 hx0 dX4_allBread_14 ?_
      refine gk_iload_n dX4_allBread_17 rfl rfl ?_
      refine gk_aald (f := fun i j => 6 * i + j) (t0 := 1) ga_9 (fun _ => rfl) hx0 dX4_allBread_18 h (fun h hb1 => ?_)
      have hc2 : (6 * x0 + (Int32.toNatClampNeg x2)) < 18 := by omega
      refine gk_getI fr_X4_107 si_5_3 hc2 dX4_allBread_19 ?_
      refine gk_iadd dX4_allBread_22 ?_
      refine gk_istore_n (L' := [some (gk_R 2 x0), some (gk_I (x1 + (M 5 (6 * x0 + (Int32.toNatClampNeg x2)) 3))), some (gk_I x2)]) dX4_allBread_23 rfl (by decide) rfl rfl ?_
      refine gk_iinc (v := (x2 + (1 : Int32))) (L' := [some (gk_R 2 x0), some (gk_I (x1 + (M 5 (6 * x0 + (Int32.toNatClampNeg x2)) 3))), some (gk_I (x2 + (1 : Int32)))]) dX4_allBread_24 rfl rfl (by decide) rfl rfl ?_
      refine gk_goto (tgt := 4) dX4_allBread_27 (by decide) ?_
      exact gk_weak [some (gk_R 2 x0), some (gk_I (x1 + (M 5 (6 * x0 + (Int32.toNatClampNeg x2)) 3))), some (gk_I (x2 + (1 : Int32)))] (And.intro rfl (And.intro rfl (And.intro rfl True.intro))) (ih x0 ((x1 + (M 5 (6 * x0 + (Int32.toNatClampNeg x2)) 3))) ((x2 + (1 : Int32))) M h)
set_option maxRecDepth 100000 in
set_option maxHeartbeats 4000000 in
theorem ok_X4_allBread (a0 : Nat) (M : gk_M) (K : gk_V → gk_M → Prop) (h : gk_Sat gk_I (f_X4_allBread a0 M) K) : gk_MS 0 yX4_allBread cX4_allBread 3 (some .int) [gk_R 2 a0] M K := by
  have hga0 := h.gd
  have h := hga0.2
  have ha0 := gk_lt_of hga0.1
  refine gk_MS_of [some (gk_R 2 a0), none, none] (by decide +kernel) (Nat.le_of_ble_eq_true rfl) (And.intro rfl True.intro) ?_
  show gk_G RX4 cX4_allBread 3 0 (some .int) none K 0 [some (gk_R 2 a0), none, none] [] M
  refine gk_iconst (v := (0 : Int32)) dX4_allBread_0 (by decide) ?_
  refine gk_istore_n (L' := [some (gk_R 2 a0), some (gk_I (0 : Int32)), none]) dX4_allBread_1 rfl (by decide) rfl rfl ?_
  refine gk_iconst (v := (0 : Int32)) dX4_allBread_2 (by decide) ?_
  refine gk_istore_n (L' := [some (gk_R 2 a0), some (gk_I (0 : Int32)), some (gk_I (0 : Int32))]) dX4_allBread_3 rfl (by decide) rfl rfl ?_
  exact gk_weak [some (gk_R 2 a0), some (gk_I (0 : Int32)), some (gk_I (0 : Int32))] (And.intro rfl (And.intro rfl (And.intro rfl True.intro))) (ok_X4_allBread_l4 200 a0 ((0 : Int32)) ((0 : Int32)) M h)
set_option maxRecDepth 100000 in
set_option maxHeartbeats 4000000 in
theorem ok_X4_allCrews_l4 {K : gk_V → gk_M → Prop} : ∀ (n : Nat) (x0 : Nat) (x1 : Int32) (x2 : Int32) (M : gk_M), gk_Sat gk_I (X4_allCrews_l4 n x0 x1 x2 M) K → gk_G RX4 cX4_allCrews 3 0 (some .int) none K 4 [some (gk_R 2 x0), some (gk_I x1), some (gk_I x2)] [] M := by
  intro n
  induction n with
  | zero => intro x0 x1 x2 M h; exact h.no.elim
  | succ n ih =>
    intro x0 x1 x2 M h
    have hgx0 := h.gd
    have h := hgx0.2
    have hx0 := gk_lt_of hgx0.1
    refine gk_iload_n dX4_allCrews_4 rfl rfl ?_
    refine gk_aload_n dX4_allCrews_5 rfl rfl ?_
    refine gk_getI fr_X4_32 si_2_3 hx0 dX4_allCrews_6 ?_
    refine gk_icmp_ge (tgt := 30) dX4_allCrews_9 (by decide) h (fun h => ?_) (fun h => ?_)
    · refine gk_iload_n dX4_allCrews_30 rfl rfl ?_
      exact gk_iret dX4_allCrews_31 rfl h
    · refine gk_iload_n dX4_allCrews_12 rfl rfl ?_
      refine gk_aload_n dX4_allCrews_13 rfl rfl ?_
      refine gk_get (v := gk_R 9 x0) fr_X4_20 pf_2_2 hx0 dX4_allCrews_14 ?_
      refine gk_iload_n dX4_allCrews_17 rfl rfl ?_
      refine gk_aald (f := fun i j => 6 * i + j) (t0 := 1) ga_9 (fun _ => rfl) hx0 dX4_allCrews_18 h (fun h hb1 => ?_)
      have hc2 : (6 * x0 + (Int32.toNatClampNeg x2)) < 18 := by omega
      refine gk_getI fr_X4_104 si_5_2 hc2 dX4_allCrews_19 ?_
      refine gk_iadd dX4_allCrews_22 ?_
      refine gk_istore_n (L' := [some (gk_R 2 x0), some (gk_I (x1 + (M 5 (6 * x0 + (Int32.toNatClampNeg x2)) 2))), some (gk_I x2)]) dX4_allCrews_23 rfl (by decide) rfl rfl ?_
      refine gk_iinc (v := (x2 + (1 : Int32))) (L' := [some (gk_R 2 x0), some (gk_I (x1 + (M 5 (6 * x0 + (Int32.toNatClampNeg x2)) 2))), some (gk_I (x2 + (1 : Int32)))]) dX4_allCrews_24 rfl rfl (by decide) rfl rfl ?_
      refine gk_goto (tgt := 4) dX4_allCrews_27 (by decide) ?_
      exact gk_weak [some (gk_R 2 x0), some (gk_I (x1 + (M 5 (6 * x0 + (Int32.toNatClampNeg x2)) 2))), some (gk_I (x2 + (1 : Int32)))] (And.intro rfl (And.intro rfl (And.intro rfl True.intro))) (ih x0 ((x1 + (M 5 (6 * x0 + (Int32.toNatClampNeg x2)) 2))) ((x2 + (1 : Int32))) M h)
set_option maxRecDepth 100000 in
set_option maxHeartbeats 4000000 in
theorem ok_X4_allCrews (a0 : Nat) (M : gk_M) (K : gk_V → gk_M → Prop) (h : gk_Sat gk_I (f_X4_allCrews a0 M) K) : gk_MS 0 yX4_allCrews cX4_allCrews 3 (some .int) [gk_R 2 a0] M K := by
  have hga0 := h.gd
  have h := hga0.2
  have ha0 := gk_lt_of hga0.1
  refine gk_MS_of [some (gk_R 2 a0), none, none] (by decide +kernel) (Nat.le_of_ble_eq_true rfl) (And.intro rfl True.intro) ?_
  show gk_G RX4 cX4_allCrews 3 0 (some .int) none K 0 [some (gk_R 2 a0), none, none] [] M
  refine gk_iconst (v := (0 : Int32)) dX4_allCrews_0 (by decide) ?_
  refine gk_istore_n (L' := [some (gk_R 2 a0), some (gk_I (0 : Int32)), none]) dX4_allCrews_1 rfl (by decide) rfl rfl ?_
  refine gk_iconst (v := (0 : Int32)) dX4_allCrews_2 (by decide) ?_
  refine gk_istore_n (L' := [some (gk_R 2 a0), some (gk_I (0 : Int32)), some (gk_I (0 : Int32))]) dX4_allCrews_3 rfl (by decide) rfl rfl ?_
  exact gk_weak [some (gk_R 2 a0), some (gk_I (0 : Int32)), some (gk_I (0 : Int32))] (And.intro rfl (And.intro rfl (And.intro rfl True.intro))) (ok_X4_allCrews_l4 200 a0 ((0 : Int32)) ((0 : Int32)) M h)
set_option maxRecDepth 100000 in
set_option maxHeartbeats 4000000 in
theorem ok_X6_add (a1 : Int32) (M : gk_M) (K : gk_V → gk_M → Prop) (h : gk_Sat gk_U (f_X6_add a1 M) K) : gk_MS 0 yX6_add cX6_add 2 none [gk_R 3 0, gk_I a1] M K := by

  refine gk_MS_of [some (gk_R 3 0), some (gk_I a1)] (by decide +kernel) (Nat.le_of_ble_eq_true rfl) (And.intro rfl (And.intro rfl True.intro)) ?_
  show gk_G RX6 cX6_add 2 0 none none K 0 [some (gk_R 3 0), some (gk_I a1)] [] M
  refine gk_aload_n dX6_add_0 rfl rfl ?_
  refine gk_getI fr_X6_15 si_3_1 (by decide) dX6_add_1 ?_
  refine gk_bipush (v := (80 : Int32)) dX6_add_4 (by decide) ?_
  refine gk_icmp_ge (tgt := 29) dX6_add_6 (by decide) h (fun h => ?_) (fun h => ?_)
  · exact gk_vret dX6_add_29 rfl h
  · refine gk_aload_n dX6_add_9 rfl rfl ?_
    refine gk_get (v := gk_R 11 0) fr_X6_9 pf_3_0 (by decide) dX6_add_10 ?_
    refine gk_aload_n dX6_add_13 rfl rfl ?_
    refine gk_getI fr_X6_15 si_3_1 (by decide) dX6_add_14 ?_
    refine gk_iload_n dX6_add_17 rfl rfl ?_
    refine gk_iast ga_11 (by decide) dX6_add_18 h (fun M1 h => ?_)
    refine gk_aload_n dX6_add_19 rfl rfl ?_
    refine gk_dup dX6_add_20 rfl ?_
    refine gk_getI fr_X6_15 si_3_1 (by decide) dX6_add_21 ?_
    refine gk_iconst (v := (1 : Int32)) dX6_add_24 (by decide) ?_
    refine gk_iadd dX6_add_25 ?_
    refine gk_putI fr_X6_15 si_3_1 (by decide) dX6_add_26 h (fun M2 h => ?_)
    exact gk_vret dX6_add_29 rfl h
set_option maxRecDepth 100000 in
set_option maxHeartbeats 4000000 in
theorem ok_X6_take_j51 {K : gk_V → gk_M → Prop} (x2 : Int32) (M : gk_M) (h : gk_Sat gk_I (X6_take_j51 x2 M) K) : gk_G RX6 cX6_take 3 0 (some .boolean) none K 51 [none, none, some (gk_I x2)] [] M := by
  refine gk_iload_n dX6_take_51 rfl rfl ?_
  exact gk_zret dX6_take_52 rfl h
set_option maxRecDepth 100000 in
set_option maxHeartbeats 4000000 in
theorem ok_X6_take_j36 {K : gk_V → gk_M → Prop} (s0 : Int32) (M : gk_M) (h : gk_Sat gk_I (X6_take_j36 s0 M) K) : gk_G RX6 cX6_take 3 0 (some .boolean) none K 36 [some (gk_R 3 0), none, none] [gk_I s0] M := by
  refine gk_istore_n (L' := [some (gk_R 3 0), none, some (gk_I s0)]) dX6_take_36 rfl (by decide) rfl rfl ?_
  refine gk_iload_n dX6_take_37 rfl rfl ?_
  refine gk_if_eq (tgt := 51) dX6_take_38 (by decide) h (fun h => ?_) (fun h => ?_)
  · exact gk_weak [none, none, some (gk_I s0)] (And.intro rfl True.intro) (ok_X6_take_j51 s0 M h)
  · refine gk_aload_n dX6_take_41 rfl rfl ?_
    refine gk_dup dX6_take_42 rfl ?_
    refine gk_getI fr_X6_19 si_3_2 (by decide) dX6_take_43 ?_
    refine gk_iconst (v := (1 : Int32)) dX6_take_46 (by decide) ?_
    refine gk_iadd dX6_take_47 ?_
    refine gk_putI fr_X6_19 si_3_2 (by decide) dX6_take_48 h (fun M1 h => ?_)
    exact gk_weak [none, none, some (gk_I s0)] (And.intro rfl True.intro) (ok_X6_take_j51 s0 M1 h)
set_option maxRecDepth 100000 in
set_option maxHeartbeats 4000000 in
theorem ok_X6_take_j35 {K : gk_V → gk_M → Prop}  (M : gk_M) (h : gk_Sat gk_I (X6_take_j35  M) K) : gk_G RX6 cX6_take 3 0 (some .boolean) none K 35 [some (gk_R 3 0), none, none] [] M := by
  refine gk_iconst (v := (0 : Int32)) dX6_take_35 (by decide) ?_
  exact gk_weak [some (gk_R 3 0), none, none] (And.intro rfl True.intro) (ok_X6_take_j36 ((0 : Int32)) M h)
set_option maxRecDepth 100000 in
set_option maxHeartbeats 4000000 in
theorem ok_X6_take (a1 : Int32) (M : gk_M) (K : gk_V → gk_M → Prop) (h : gk_Sat gk_I (f_X6_take a1 M) K) : gk_MS 0 yX6_take cX6_take 3 (some .boolean) [gk_R 3 0, gk_I a1] M K := by

  refine gk_MS_of [some (gk_R 3 0), some (gk_I a1), none] (by decide +kernel) (Nat.le_of_ble_eq_true rfl) (And.intro rfl (And.intro rfl True.intro)) ?_
  show gk_G RX6 cX6_take 3 0 (some .boolean) none K 0 [some (gk_R 3 0), some (gk_I a1), none] [] M
  refine gk_aload_n dX6_take_0 rfl rfl ?_
  refine gk_getI fr_X6_22 si_3_3 (by decide) dX6_take_1 ?_
  refine gk_if_ne (tgt := 35) dX6_take_4 (by decide) h (fun h => ?_) (fun h => ?_)
  · exact gk_weak [some (gk_R 3 0), none, none] (And.intro rfl True.intro) (ok_X6_take_j35 M h)
  · refine gk_aload_n dX6_take_7 rfl rfl ?_
    refine gk_getI fr_X6_19 si_3_2 (by decide) dX6_take_8 ?_
    refine gk_aload_n dX6_take_11 rfl rfl ?_
    refine gk_getI fr_X6_15 si_3_1 (by decide) dX6_take_12 ?_
    refine gk_icmp_ge (tgt := 35) dX6_take_15 (by decide) h (fun h => ?_) (fun h => ?_)
    · exact gk_weak [some (gk_R 3 0), none, none] (And.intro rfl True.intro) (ok_X6_take_j35 M h)
    · refine gk_aload_n dX6_take_18 rfl rfl ?_
      refine gk_get (v := gk_R 11 0) fr_X6_9 pf_3_0 (by decide) dX6_take_19 ?_
      refine gk_aload_n dX6_take_22 rfl rfl ?_
      refine gk_getI fr_X6_19 si_3_2 (by decide) dX6_take_23 ?_
      refine gk_iald ga_11 (by decide) dX6_take_26 h (fun h hb2 => ?_)
      refine gk_iload_n dX6_take_27 rfl rfl ?_
      refine gk_icmp_ne (tgt := 35) dX6_take_28 (by decide) h (fun h => ?_) (fun h => ?_)
      · exact gk_weak [some (gk_R 3 0), none, none] (And.intro rfl True.intro) (ok_X6_take_j35 M h)
      · refine gk_iconst (v := (1 : Int32)) dX6_take_31 (by decide) ?_
        refine gk_goto (tgt := 36) dX6_take_32 (by decide) ?_
        exact gk_weak [some (gk_R 3 0), none, none] (And.intro rfl True.intro) (ok_X6_take_j36 ((1 : Int32)) M h)
set_option maxRecDepth 100000 in
set_option maxHeartbeats 4000000 in
theorem ok_X6_isDigitNext_j50 {K : gk_V → gk_M → Prop}  (M : gk_M) (h : gk_Sat gk_I (X6_isDigitNext_j50  M) K) : gk_G RX6 cX6_isDigitNext 1 0 (some .boolean) none K 50 [none] [] M := by
  refine gk_iconst (v := (0 : Int32)) dX6_isDigitNext_50 (by decide) ?_
  exact gk_zret dX6_isDigitNext_51 rfl h
set_option maxRecDepth 100000 in
set_option maxHeartbeats 4000000 in
theorem ok_X6_isDigitNext  (M : gk_M) (K : gk_V → gk_M → Prop) (h : gk_Sat gk_I (f_X6_isDigitNext  M) K) : gk_MS 0 yX6_isDigitNext cX6_isDigitNext 1 (some .boolean) [gk_R 3 0] M K := by

  refine gk_MS_of [some (gk_R 3 0)] (by decide +kernel) (Nat.le_of_ble_eq_true rfl) (And.intro rfl True.intro) ?_
  show gk_G RX6 cX6_isDigitNext 1 0 (some .boolean) none K 0 [some (gk_R 3 0)] [] M
  refine gk_aload_n dX6_isDigitNext_0 rfl rfl ?_
  refine gk_getI fr_X6_22 si_3_3 (by decide) dX6_isDigitNext_1 ?_
  refine gk_if_ne (tgt := 50) dX6_isDigitNext_4 (by decide) h (fun h => ?_) (fun h => ?_)
  · exact gk_weak [none] True.intro (ok_X6_isDigitNext_j50 M h)
  · refine gk_aload_n dX6_isDigitNext_7 rfl rfl ?_
    refine gk_getI fr_X6_19 si_3_2 (by decide) dX6_isDigitNext_8 ?_
    refine gk_aload_n dX6_isDigitNext_11 rfl rfl ?_
    refine gk_getI fr_X6_15 si_3_1 (by decide) dX6_isDigitNext_12 ?_
    refine gk_icmp_ge (tgt := 50) dX6_isDigitNext_15 (by decide) h (fun h => ?_) (fun h => ?_)
    · exact gk_weak [none] True.intro (ok_X6_isDigitNext_j50 M h)
    · refine gk_aload_n dX6_isDigitNext_18 rfl rfl ?_
      refine gk_get (v := gk_R 11 0) fr_X6_9 pf_3_0 (by decide) dX6_isDigitNext_19 ?_
      refine gk_aload_n dX6_isDigitNext_22 rfl rfl ?_
      refine gk_getI fr_X6_19 si_3_2 (by decide) dX6_isDigitNext_23 ?_
      refine gk_iald ga_11 (by decide) dX6_isDigitNext_26 h (fun h hb1 => ?_)
      refine gk_bipush (v := (48 : Int32)) dX6_isDigitNext_27 (by decide) ?_
      refine gk_icmp_lt (tgt := 50) dX6_isDigitNext_29 (by decide) h (fun h => ?_) (fun h => ?_)
      · exact gk_weak [none] True.intro (ok_X6_isDigitNext_j50 M h)
      · refine gk_aload_n dX6_isDigitNext_32 rfl rfl ?_
        refine gk_get (v := gk_R 11 0) fr_X6_9 pf_3_0 (by decide) dX6_isDigitNext_33 ?_
        refine gk_aload_n dX6_isDigitNext_36 rfl rfl ?_
        refine gk_getI fr_X6_19 si_3_2 (by decide) dX6_isDigitNext_37 ?_
        refine gk_iald ga_11 (by decide) dX6_isDigitNext_40 h (fun h hb2 => ?_)
        refine gk_bipush (v := (57 : Int32)) dX6_isDigitNext_41 (by decide) ?_
        refine gk_icmp_gt (tgt := 50) dX6_isDigitNext_43 (by decide) h (fun h => ?_) (fun h => ?_)
        · exact gk_weak [none] True.intro (ok_X6_isDigitNext_j50 M h)
        · refine gk_iconst (v := (1 : Int32)) dX6_isDigitNext_46 (by decide) ?_
          refine gk_goto (tgt := 51) dX6_isDigitNext_47 (by decide) ?_
          exact gk_zret dX6_isDigitNext_51 rfl h
set_option maxRecDepth 100000 in
set_option maxHeartbeats 4000000 in
theorem ok_X6_readNumber_j59 {K : gk_V → gk_M → Prop} (x2 : Int32) (M : gk_M) (h : gk_Sat gk_I (X6_readNumber_j59 x2 M) K) : gk_G RX6 cX6_readNumber 4 1 (some .int) none K 59 [none, none, some (gk_I x2), none] [] M := by
  refine gk_iload_n dX6_readNumber_59 rfl rfl ?_
  exact gk_iret dX6_readNumber_60 rfl h
set_option maxRecDepth 100000 in
set_option maxHeartbeats 4000000 in
theorem ok_X6_readNumber_j50 {K : gk_V → gk_M → Prop} (x2 : Int32) (x3 : Int32) (M : gk_M) (h : gk_Sat gk_I (X6_readNumber_j50 x2 x3 M) K) : gk_G RX6 cX6_readNumber 4 1 (some .int) none K 50 [some (gk_R 3 0), none, some (gk_I x2), some (gk_I x3)] [] M := by
  refine gk_iload_n dX6_readNumber_50 rfl rfl ?_
  refine gk_if_ne (tgt := 59) dX6_readNumber_51 (by decide) h (fun h => ?_) (fun h => ?_)
  · exact gk_weak [none, none, some (gk_I x2), none] (And.intro rfl True.intro) (ok_X6_readNumber_j59 x2 M h)
  · refine gk_aload_n dX6_readNumber_54 rfl rfl ?_
    refine gk_iconst (v := (1 : Int32)) dX6_readNumber_55 (by decide) ?_
    refine gk_putZ fr_X6_22 si_3_3 (by decide) dX6_readNumber_56 h (fun M1 h => ?_)
    exact gk_weak [none, none, some (gk_I x2), none] (And.intro rfl True.intro) (ok_X6_readNumber_j59 x2 M1 h)
set_option maxRecDepth 100000 in
set_option maxHeartbeats 4000000 in
theorem ok_X6_readNumber_l4 {K : gk_V → gk_M → Prop} : ∀ (n : Nat) (x1 : Int32) (x2 : Int32) (x3 : Int32) (M : gk_M), gk_Sat gk_I (X6_readNumber_l4 n x1 x2 x3 M) K → gk_G RX6 cX6_readNumber 4 1 (some .int) none K 4 [some (gk_R 3 0), some (gk_I x1), some (gk_I x2), some (gk_I x3)] [] M := by
  intro n
  induction n with
  | zero => intro x1 x2 x3 M h; exact h.no.elim
  | succ n ih =>
    intro x1 x2 x3 M h
    refine gk_iload_n dX6_readNumber_4 rfl rfl ?_
    refine gk_iload_n dX6_readNumber_5 rfl rfl ?_
    refine gk_icmp_ge (tgt := 50) dX6_readNumber_6 (by decide) h (fun h => ?_) (fun h => ?_)
    · exact gk_weak [some (gk_R 3 0), none, some (gk_I x2), some (gk_I x3)] (And.intro rfl (And.intro rfl (And.intro rfl True.intro))) (ok_X6_readNumber_j50 x2 x3 M h)
    · refine gk_aload_n dX6_readNumber_9 rfl rfl ?_
      refine gk_callI (As := [gk_R 3 0]) (st := []) 0 (cr_X6_103 (by decide) rfl) (fun K' h' => ok_X6_isDigitNext M K' h') rfl (by decide) (by decide) (fun _ => Nat.le_of_ble_eq_true rfl) dX6_readNumber_10 h (fun r3 M2 h => ?_)
      refine gk_if_eq (tgt := 50) dX6_readNumber_13 (by decide) h (fun h => ?_) (fun h => ?_)
      · exact gk_weak [some (gk_R 3 0), none, some (gk_I x2), some (gk_I x3)] (And.intro rfl (And.intro rfl (And.intro rfl True.intro))) (ok_X6_readNumber_j50 x2 x3 M2 h)
      · refine gk_bipush (v := (10 : Int32)) dX6_readNumber_16 (by decide) ?_
        refine gk_iload_n dX6_readNumber_18 rfl rfl ?_
        refine gk_imul dX6_readNumber_19 ?_
        refine gk_aload_n dX6_readNumber_20 rfl rfl ?_
        refine gk_get (v := gk_R 11 0) fr_X6_9 pf_3_0 (by decide) dX6_readNumber_21 ?_
        refine gk_aload_n dX6_readNumber_24 rfl rfl ?_
        refine gk_getI fr_X6_19 si_3_2 (by decide) dX6_readNumber_25 ?_
        refine gk_iald ga_11 (by decide) dX6_readNumber_28 h (fun h hb4 => ?_)
        refine gk_iadd dX6_readNumber_29 ?_
        refine gk_bipush (v := (48 : Int32)) dX6_readNumber_30 (by decide) ?_
        refine gk_isub dX6_readNumber_32 ?_
        refine gk_istore_n (L' := [some (gk_R 3 0), some (gk_I x1), some (gk_I ((((10 : Int32) * x2) + (M2 11 0 (Int32.toNatClampNeg (M2 3 0 2)))) - (48 : Int32))), some (gk_I x3)]) dX6_readNumber_33 rfl (by decide) rfl rfl ?_
        refine gk_aload_n dX6_readNumber_34 rfl rfl ?_
        refine gk_dup dX6_readNumber_35 rfl ?_
        refine gk_getI fr_X6_19 si_3_2 (by decide) dX6_readNumber_36 ?_
        refine gk_iconst (v := (1 : Int32)) dX6_readNumber_39 (by decide) ?_
        refine gk_iadd dX6_readNumber_40 ?_
        refine gk_putI fr_X6_19 si_3_2 (by decide) dX6_readNumber_41 h (fun M5 h => ?_)
        refine gk_iinc (v := (x3 + (1 : Int32))) (L' := [some (gk_R 3 0), some (gk_I x1), some (gk_I ((((10 : Int32) * x2) + (M2 11 0 (Int32.toNatClampNeg (M2 3 0 2)))) - (48 : Int32))), some (gk_I (x3 + (1 : Int32)))]) dX6_readNumber_44 rfl rfl (by decide) rfl rfl ?_
        refine gk_goto (tgt := 4) dX6_readNumber_47 (by decide) ?_
        exact gk_weak [some (gk_R 3 0), some (gk_I x1), some (gk_I ((((10 : Int32) * x2) + (M2 11 0 (Int32.toNatClampNeg (M2 3 0 2)))) - (48 : Int32))), some (gk_I (x3 + (1 : Int32)))] (And.intro rfl (And.intro rfl (And.intro rfl (And.intro rfl True.intro)))) (ih x1 (((((10 : Int32) * x2) + (M2 11 0 (Int32.toNatClampNeg (M2 3 0 2)))) - (48 : Int32))) ((x3 + (1 : Int32))) M5 h)
set_option maxRecDepth 100000 in
set_option maxHeartbeats 4000000 in
theorem ok_X6_readNumber (a1 : Int32) (M : gk_M) (K : gk_V → gk_M → Prop) (h : gk_Sat gk_I (f_X6_readNumber a1 M) K) : gk_MS 1 yX6_readNumber cX6_readNumber 4 (some .int) [gk_R 3 0, gk_I a1] M K := by

  refine gk_MS_of [some (gk_R 3 0), some (gk_I a1), none, none] (by decide +kernel) (Nat.le_of_ble_eq_true rfl) (And.intro rfl (And.intro rfl True.intro)) ?_
  show gk_G RX6 cX6_readNumber 4 1 (some .int) none K 0 [some (gk_R 3 0), some (gk_I a1), none, none] [] M
  refine gk_iconst (v := (0 : Int32)) dX6_readNumber_0 (by decide) ?_
  refine gk_istore_n (L' := [some (gk_R 3 0), some (gk_I a1), some (gk_I (0 : Int32)), none]) dX6_readNumber_1 rfl (by decide) rfl rfl ?_
  refine gk_iconst (v := (0 : Int32)) dX6_readNumber_2 (by decide) ?_
  refine gk_istore_n (L' := [some (gk_R 3 0), some (gk_I a1), some (gk_I (0 : Int32)), some (gk_I (0 : Int32))]) dX6_readNumber_3 rfl (by decide) rfl rfl ?_
  exact gk_weak [some (gk_R 3 0), some (gk_I a1), some (gk_I (0 : Int32)), some (gk_I (0 : Int32))] (And.intro rfl (And.intro rfl (And.intro rfl (And.intro rfl True.intro)))) (ok_X6_readNumber_l4 200 a1 ((0 : Int32)) ((0 : Int32)) M h)
set_option maxRecDepth 100000 in
set_option maxHeartbeats 4000000 in
theorem ok_X6_need (a1 : Int32) (M : gk_M) (K : gk_V → gk_M → Prop) (h : gk_Sat gk_U (f_X6_need a1 M) K) : gk_MS 1 yX6_need cX6_need 2 none [gk_R 3 0, gk_I a1] M K := by

  refine gk_MS_of [some (gk_R 3 0), some (gk_I a1)] (by decide +kernel) (Nat.le_of_ble_eq_true rfl) (And.intro rfl (And.intro rfl True.intro)) ?_
  show gk_G RX6 cX6_need 2 1 none none K 0 [some (gk_R 3 0), some (gk_I a1)] [] M
  refine gk_aload_n dX6_need_0 rfl rfl ?_
  refine gk_iload_n dX6_need_1 rfl rfl ?_
  refine gk_callI (As := [gk_R 3 0, gk_I a1]) (st := []) 0 (cr_X6_30 (by decide) rfl) (fun K' h' => ok_X6_take a1 M K' h') rfl (by decide) (by decide) (fun _ => Nat.le_of_ble_eq_true rfl) dX6_need_2 h (fun r2 M1 h => ?_)
  refine gk_if_ne (tgt := 13) dX6_need_5 (by decide) h (fun h => ?_) (fun h => ?_)
  · exact gk_vret dX6_need_13 rfl h
  · refine gk_aload_n dX6_need_8 rfl rfl ?_
    refine gk_iconst (v := (1 : Int32)) dX6_need_9 (by decide) ?_
    refine gk_putZ fr_X6_22 si_3_3 (by decide) dX6_need_10 h (fun M3 h => ?_)
    exact gk_vret dX6_need_13 rfl h
set_option maxRecDepth 100000 in
set_option maxHeartbeats 4000000 in
theorem ok_X6_readSigned (a1 : Int32) (M : gk_M) (K : gk_V → gk_M → Prop) (h : gk_Sat gk_I (f_X6_readSigned a1 M) K) : gk_MS 2 yX6_readSigned cX6_readSigned 2 (some .int) [gk_R 3 0, gk_I a1] M K := by

  refine gk_MS_of [some (gk_R 3 0), some (gk_I a1)] (by decide +kernel) (Nat.le_of_ble_eq_true rfl) (And.intro rfl (And.intro rfl True.intro)) ?_
  show gk_G RX6 cX6_readSigned 2 2 (some .int) none K 0 [some (gk_R 3 0), some (gk_I a1)] [] M
  refine gk_aload_n dX6_readSigned_0 rfl rfl ?_
  refine gk_bipush (v := (45 : Int32)) dX6_readSigned_1 (by decide) ?_
  refine gk_callI (As := [gk_R 3 0, gk_I (45 : Int32)]) (st := []) 0 (cr_X6_30 (by decide) rfl) (fun K' h' => ok_X6_take (45 : Int32) M K' h') rfl (by decide) (by decide) (fun _ => Nat.le_of_ble_eq_true rfl) dX6_readSigned_3 h (fun r2 M1 h => ?_)
  refine gk_if_eq (tgt := 18) dX6_readSigned_6 (by decide) h (fun h => ?_) (fun h => ?_)
  · refine gk_aload_n dX6_readSigned_18 rfl rfl ?_
    refine gk_iload_n dX6_readSigned_19 rfl rfl ?_
    refine gk_callI (As := [gk_R 3 0, gk_I a1]) (st := []) 1 (cr_X6_50 (by decide) rfl) (fun K' h' => ok_X6_readNumber a1 M1 K' h') rfl (by decide) (by decide) (fun _ => Nat.le_of_ble_eq_true rfl) dX6_readSigned_20 h (fun r4 M3 h => ?_)
    exact gk_iret dX6_readSigned_23 rfl h
  · refine gk_aload_n dX6_readSigned_9 rfl rfl ?_
    refine gk_iload_n dX6_readSigned_10 rfl rfl ?_
    refine gk_callI (As := [gk_R 3 0, gk_I a1]) (st := []) 1 (cr_X6_50 (by decide) rfl) (fun K' h' => ok_X6_readNumber a1 M1 K' h') rfl (by decide) (by decide) (fun _ => Nat.le_of_ble_eq_true rfl) dX6_readSigned_11 h (fun r6 M5 h => ?_)
    refine gk_ineg dX6_readSigned_14 ?_
    refine gk_goto (tgt := 23) dX6_readSigned_15 (by decide) ?_
    exact gk_iret dX6_readSigned_23 rfl h
set_option maxRecDepth 100000 in
set_option maxHeartbeats 4000000 in
theorem ok_X6_readShip_j67 {K : gk_V → gk_M → Prop}  (M : gk_M) (h : gk_Sat gk_I (X6_readShip_j67  M) K) : gk_G RX6 cX6_readShip 9 3 (some .boolean) none K 67 [none, none, none, none, none, none, none, none, none] [] M := by
  refine gk_iconst (v := (0 : Int32)) dX6_readShip_67 (by decide) ?_
  exact gk_zret dX6_readShip_68 rfl h
set_option maxRecDepth 100000 in
set_option maxHeartbeats 4000000 in
theorem ok_X6_readShip (a1 : Nat) (M : gk_M) (K : gk_V → gk_M → Prop) (h : gk_Sat gk_I (f_X6_readShip a1 M) K) : gk_MS 3 yX6_readShip cX6_readShip 9 (some .boolean) [gk_R 3 0, gk_R 2 a1] M K := by
  have hga1 := h.gd
  have h := hga1.2
  have ha1 := gk_lt_of hga1.1
  refine gk_MS_of [some (gk_R 3 0), some (gk_R 2 a1), none, none, none, none, none, none, none] (by decide +kernel) (Nat.le_of_ble_eq_true rfl) (And.intro rfl (And.intro rfl True.intro)) ?_
  show gk_G RX6 cX6_readShip 9 3 (some .boolean) none K 0 [some (gk_R 3 0), some (gk_R 2 a1), none, none, none, none, none, none, none] [] M
  refine gk_aload_n dX6_readShip_0 rfl rfl ?_
  refine gk_iconst (v := (1 : Int32)) dX6_readShip_1 (by decide) ?_
  refine gk_callI (As := [gk_R 3 0, gk_I (1 : Int32)]) (st := []) 1 (cr_X6_50 (by decide) rfl) (fun K' h' => ok_X6_readNumber (1 : Int32) M K' h') rfl (by decide) (by decide) (fun _ => Nat.le_of_ble_eq_true rfl) dX6_readShip_2 h (fun r2 M1 h => ?_)
  refine gk_istore_n (L' := [some (gk_R 3 0), some (gk_R 2 a1), some (gk_I r2), none, none, none, none, none, none]) dX6_readShip_5 rfl (by decide) rfl rfl ?_
  refine gk_aload_n dX6_readShip_6 rfl rfl ?_
  refine gk_iconst (v := (1 : Int32)) dX6_readShip_7 (by decide) ?_
  refine gk_callI (As := [gk_R 3 0, gk_I (1 : Int32)]) (st := []) 1 (cr_X6_50 (by decide) rfl) (fun K' h' => ok_X6_readNumber (1 : Int32) M1 K' h') rfl (by decide) (by decide) (fun _ => Nat.le_of_ble_eq_true rfl) dX6_readShip_8 h (fun r4 M3 h => ?_)
  refine gk_istore_n (L' := [some (gk_R 3 0), some (gk_R 2 a1), some (gk_I r2), some (gk_I r4), none, none, none, none, none]) dX6_readShip_11 rfl (by decide) rfl rfl ?_
  refine gk_aload_n dX6_readShip_12 rfl rfl ?_
  refine gk_iconst (v := (1 : Int32)) dX6_readShip_13 (by decide) ?_
  refine gk_callI (As := [gk_R 3 0, gk_I (1 : Int32)]) (st := []) 1 (cr_X6_50 (by decide) rfl) (fun K' h' => ok_X6_readNumber (1 : Int32) M3 K' h') rfl (by decide) (by decide) (fun _ => Nat.le_of_ble_eq_true rfl) dX6_readShip_14 h (fun r6 M5 h => ?_)
  refine gk_istore (L' := [some (gk_R 3 0), some (gk_R 2 a1), some (gk_I r2), some (gk_I r4), some (gk_I r6), none, none, none, none]) dX6_readShip_17 (by decide) rfl rfl ?_
  refine gk_aload_n dX6_readShip_19 rfl rfl ?_
  refine gk_iconst (v := (3 : Int32)) dX6_readShip_20 (by decide) ?_
  refine gk_callI (As := [gk_R 3 0, gk_I (3 : Int32)]) (st := []) 1 (cr_X6_50 (by decide) rfl) (fun K' h' => ok_X6_readNumber (3 : Int32) M5 K' h') rfl (by decide) (by decide) (fun _ => Nat.le_of_ble_eq_true rfl) dX6_readShip_21 h (fun r8 M7 h => ?_)
  refine gk_istore (L' := [some (gk_R 3 0), some (gk_R 2 a1), some (gk_I r2), some (gk_I r4), some (gk_I r6), some (gk_I r8), none, none, none]) dX6_readShip_24 (by decide) rfl rfl ?_
  refine gk_aload_n dX6_readShip_26 rfl rfl ?_
  refine gk_bipush (v := (44 : Int32)) dX6_readShip_27 (by decide) ?_
  refine gk_callV (As := [gk_R 3 0, gk_I (44 : Int32)]) (st := []) 1 (cr_X6_46 (by decide) rfl) (fun K' h' => ok_X6_need (44 : Int32) M7 K' h') rfl (by decide) (by decide) (fun _ => Nat.le_of_ble_eq_true rfl) dX6_readShip_29 h (fun _ M9 h => ?_)
  refine gk_aload_n dX6_readShip_32 rfl rfl ?_
  refine gk_iconst (v := (2 : Int32)) dX6_readShip_33 (by decide) ?_
  refine gk_callI (As := [gk_R 3 0, gk_I (2 : Int32)]) (st := []) 2 (cr_X6_54 (by decide) rfl) (fun K' h' => ok_X6_readSigned (2 : Int32) M9 K' h') rfl (by decide) (by decide) (fun _ => Nat.le_of_ble_eq_true rfl) dX6_readShip_34 h (fun r12 M11 h => ?_)
  refine gk_istore (L' := [some (gk_R 3 0), some (gk_R 2 a1), some (gk_I r2), some (gk_I r4), some (gk_I r6), some (gk_I r8), some (gk_I r12), none, none]) dX6_readShip_37 (by decide) rfl rfl ?_
  refine gk_aload_n dX6_readShip_39 rfl rfl ?_
  refine gk_bipush (v := (44 : Int32)) dX6_readShip_40 (by decide) ?_
  refine gk_callV (As := [gk_R 3 0, gk_I (44 : Int32)]) (st := []) 1 (cr_X6_46 (by decide) rfl) (fun K' h' => ok_X6_need (44 : Int32) M11 K' h') rfl (by decide) (by decide) (fun _ => Nat.le_of_ble_eq_true rfl) dX6_readShip_42 h (fun _ M13 h => ?_)
  refine gk_aload_n dX6_readShip_45 rfl rfl ?_
  refine gk_iconst (v := (2 : Int32)) dX6_readShip_46 (by decide) ?_
  refine gk_callI (As := [gk_R 3 0, gk_I (2 : Int32)]) (st := []) 2 (cr_X6_54 (by decide) rfl) (fun K' h' => ok_X6_readSigned (2 : Int32) M13 K' h') rfl (by decide) (by decide) (fun _ => Nat.le_of_ble_eq_true rfl) dX6_readShip_47 h (fun r16 M15 h => ?_)
  refine gk_istore (L' := [some (gk_R 3 0), some (gk_R 2 a1), some (gk_I r2), some (gk_I r4), some (gk_I r6), some (gk_I r8), some (gk_I r12), some (gk_I r16), none]) dX6_readShip_50 (by decide) rfl rfl ?_
  refine gk_iload_n dX6_readShip_52 rfl rfl ?_
  refine gk_bipush (v := (6 : Int32)) dX6_readShip_53 (by decide) ?_
  refine gk_icmp_ge (tgt := 67) dX6_readShip_55 (by decide) h (fun h => ?_) (fun h => ?_)
  · exact gk_weak [none, none, none, none, none, none, none, none, none] True.intro (ok_X6_readShip_j67 M15 h)
  · refine gk_aload_n dX6_readShip_58 rfl rfl ?_
    refine gk_getI fr_X6_57 si_2_3 ha1 dX6_readShip_59 ?_
    refine gk_bipush (v := (6 : Int32)) dX6_readShip_62 (by decide) ?_
    refine gk_icmp_lt (tgt := 69) dX6_readShip_64 (by decide) h (fun h => ?_) (fun h => ?_)
    · refine gk_aload_n dX6_readShip_69 rfl rfl ?_
      refine gk_get (v := gk_R 9 a1) fr_X6_62 pf_2_2 ha1 dX6_readShip_70 ?_
      refine gk_aload_n dX6_readShip_73 rfl rfl ?_
      refine gk_getI fr_X6_57 si_2_3 ha1 dX6_readShip_74 ?_
      refine gk_aald (f := fun i j => 6 * i + j) (t0 := 1) ga_9 (fun _ => rfl) ha1 dX6_readShip_77 h (fun h hb17 => ?_)
      have hc18 : (6 * a1 + (Int32.toNatClampNeg (M15 2 a1 3))) < 18 := by omega
      refine gk_astore (L' := [some (gk_R 3 0), some (gk_R 2 a1), some (gk_I r2), some (gk_I r4), some (gk_I r6), some (gk_I r8), some (gk_I r12), some (gk_I r16), some (gk_R 5 (6 * a1 + (Int32.toNatClampNeg (M15 2 a1 3))))]) dX6_readShip_78 (by decide) rfl rfl ?_
      refine gk_aload dX6_readShip_80 rfl ?_
      refine gk_iload_n dX6_readShip_82 rfl rfl ?_
      refine gk_putI fr_X6_66 si_5_0 hc18 dX6_readShip_83 h (fun M19 h => ?_)
      refine gk_aload dX6_readShip_86 rfl ?_
      refine gk_iload_n dX6_readShip_88 rfl rfl ?_
      refine gk_putI fr_X6_71 si_5_1 hc18 dX6_readShip_89 h (fun M20 h => ?_)
      refine gk_aload dX6_readShip_92 rfl ?_
      refine gk_iload dX6_readShip_94 rfl ?_
      refine gk_putI fr_X6_74 si_5_2 hc18 dX6_readShip_96 h (fun M21 h => ?_)
      refine gk_aload dX6_readShip_99 rfl ?_
      refine gk_iload dX6_readShip_101 rfl ?_
      refine gk_putI fr_X6_77 si_5_3 hc18 dX6_readShip_103 h (fun M22 h => ?_)
      refine gk_aload dX6_readShip_106 rfl ?_
      refine gk_iload dX6_readShip_108 rfl ?_
      refine gk_putI fr_X6_80 si_5_4 hc18 dX6_readShip_110 h (fun M23 h => ?_)
      refine gk_aload dX6_readShip_113 rfl ?_
      refine gk_iload dX6_readShip_115 rfl ?_
      refine gk_putI fr_X6_83 si_5_5 hc18 dX6_readShip_117 h (fun M24 h => ?_)
      refine gk_aload_n dX6_readShip_120 rfl rfl ?_
      refine gk_dup dX6_readShip_121 rfl ?_
      refine gk_getI fr_X6_57 si_2_3 ha1 dX6_readShip_122 ?_
      refine gk_iconst (v := (1 : Int32)) dX6_readShip_125 (by decide) ?_
      refine gk_iadd dX6_readShip_126 ?_
      refine gk_putI fr_X6_57 si_2_3 ha1 dX6_readShip_127 h (fun M25 h => ?_)
      refine gk_iconst (v := (1 : Int32)) dX6_readShip_130 (by decide) ?_
      exact gk_zret dX6_readShip_131 rfl h
    · exact gk_weak [none, none, none, none, none, none, none, none, none] True.intro (ok_X6_readShip_j67 M15 h)
set_option maxRecDepth 100000 in
set_option maxHeartbeats 4000000 in
theorem ok_X6_readWind_j42 {K : gk_V → gk_M → Prop}  (M : gk_M) (h : gk_Sat gk_I (X6_readWind_j42  M) K) : gk_G RX6 cX6_readWind 5 3 (some .boolean) none K 42 [none, none, none, none, none] [] M := by
  refine gk_iconst (v := (0 : Int32)) dX6_readWind_42 (by decide) ?_
  exact gk_zret dX6_readWind_43 rfl h
set_option maxRecDepth 100000 in
set_option maxHeartbeats 4000000 in
theorem ok_X6_readWind (a1 : Nat) (M : gk_M) (K : gk_V → gk_M → Prop) (h : gk_Sat gk_I (f_X6_readWind a1 M) K) : gk_MS 3 yX6_readWind cX6_readWind 5 (some .boolean) [gk_R 3 0, gk_R 2 a1] M K := by
  have hga1 := h.gd
  have h := hga1.2
  have ha1 := gk_lt_of hga1.1
  refine gk_MS_of [some (gk_R 3 0), some (gk_R 2 a1), none, none, none] (by decide +kernel) (Nat.le_of_ble_eq_true rfl) (And.intro rfl (And.intro rfl True.intro)) ?_
  show gk_G RX6 cX6_readWind 5 3 (some .boolean) none K 0 [some (gk_R 3 0), some (gk_R 2 a1), none, none, none] [] M
  refine gk_aload_n dX6_readWind_0 rfl rfl ?_
  refine gk_iconst (v := (1 : Int32)) dX6_readWind_1 (by decide) ?_
  refine gk_callI (As := [gk_R 3 0, gk_I (1 : Int32)]) (st := []) 1 (cr_X6_50 (by decide) rfl) (fun K' h' => ok_X6_readNumber (1 : Int32) M K' h') rfl (by decide) (by decide) (fun _ => Nat.le_of_ble_eq_true rfl) dX6_readWind_2 h (fun r2 M1 h => ?_)
  refine gk_istore_n (L' := [some (gk_R 3 0), some (gk_R 2 a1), some (gk_I r2), none, none]) dX6_readWind_5 rfl (by decide) rfl rfl ?_
  refine gk_aload_n dX6_readWind_6 rfl rfl ?_
  refine gk_iconst (v := (1 : Int32)) dX6_readWind_7 (by decide) ?_
  refine gk_callI (As := [gk_R 3 0, gk_I (1 : Int32)]) (st := []) 2 (cr_X6_54 (by decide) rfl) (fun K' h' => ok_X6_readSigned (1 : Int32) M1 K' h') rfl (by decide) (by decide) (fun _ => Nat.le_of_ble_eq_true rfl) dX6_readWind_8 h (fun r4 M3 h => ?_)
  refine gk_istore_n (L' := [some (gk_R 3 0), some (gk_R 2 a1), some (gk_I r2), some (gk_I r4), none]) dX6_readWind_11 rfl (by decide) rfl rfl ?_
  refine gk_aload_n dX6_readWind_12 rfl rfl ?_
  refine gk_iconst (v := (1 : Int32)) dX6_readWind_13 (by decide) ?_
  refine gk_callI (As := [gk_R 3 0, gk_I (1 : Int32)]) (st := []) 2 (cr_X6_54 (by decide) rfl) (fun K' h' => ok_X6_readSigned (1 : Int32) M3 K' h') rfl (by decide) (by decide) (fun _ => Nat.le_of_ble_eq_true rfl) dX6_readWind_14 h (fun r6 M5 h => ?_)
  refine gk_istore (L' := [some (gk_R 3 0), some (gk_R 2 a1), some (gk_I r2), some (gk_I r4), some (gk_I r6)]) dX6_readWind_17 (by decide) rfl rfl ?_
  refine gk_iload_n dX6_readWind_19 rfl rfl ?_
  refine gk_bipush (v := (7 : Int32)) dX6_readWind_20 (by decide) ?_
  refine gk_icmp_ge (tgt := 42) dX6_readWind_22 (by decide) h (fun h => ?_) (fun h => ?_)
  · exact gk_weak [none, none, none, none, none] True.intro (ok_X6_readWind_j42 M5 h)
  · refine gk_iload_n dX6_readWind_25 rfl rfl ?_
    refine gk_callI (As := [gk_I r4]) (st := []) 0 (cr_X6_86 rfl) (fun K' h' => ok_J9_abs_0f7a4 r4 M5 K' h') rfl (by decide) (by decide) (fun _ => Nat.le_of_ble_eq_true rfl) dX6_readWind_26 h (fun r8 M7 h => ?_)
    refine gk_iconst (v := (4 : Int32)) dX6_readWind_29 (by decide) ?_
    refine gk_icmp_gt (tgt := 42) dX6_readWind_30 (by decide) h (fun h => ?_) (fun h => ?_)
    · exact gk_weak [none, none, none, none, none] True.intro (ok_X6_readWind_j42 M7 h)
    · refine gk_iload dX6_readWind_33 rfl ?_
      refine gk_callI (As := [gk_I r6]) (st := []) 0 (cr_X6_86 rfl) (fun K' h' => ok_J9_abs_0f7a4 r6 M7 K' h') rfl (by decide) (by decide) (fun _ => Nat.le_of_ble_eq_true rfl) dX6_readWind_35 h (fun r10 M9 h => ?_)
      refine gk_iconst (v := (4 : Int32)) dX6_readWind_38 (by decide) ?_
      refine gk_icmp_le (tgt := 44) dX6_readWind_39 (by decide) h (fun h => ?_) (fun h => ?_)
      · refine gk_aload_n dX6_readWind_44 rfl rfl ?_
        refine gk_get (v := gk_R 7 a1) fr_X6_91 pf_2_0 ha1 dX6_readWind_45 ?_
        refine gk_iload_n dX6_readWind_48 rfl rfl ?_
        refine gk_iload_n dX6_readWind_49 rfl rfl ?_
        refine gk_iast ga_7 ha1 dX6_readWind_50 h (fun M11 h => ?_)
        refine gk_aload_n dX6_readWind_51 rfl rfl ?_
        refine gk_get (v := gk_R 8 a1) fr_X6_94 pf_2_1 ha1 dX6_readWind_52 ?_
        refine gk_iload_n dX6_readWind_55 rfl rfl ?_
        refine gk_iload dX6_readWind_56 rfl ?_
        refine gk_iast ga_8 ha1 dX6_readWind_58 h (fun M12 h => ?_)
        refine gk_iconst (v := (1 : Int32)) dX6_readWind_59 (by decide) ?_
        exact gk_zret dX6_readWind_60 rfl h
      · exact gk_weak [none, none, none, none, none] True.intro (ok_X6_readWind_j42 M9 h)
set_option maxRecDepth 100000 in
set_option maxHeartbeats 4000000 in
theorem ok_X6_readReach_j30 {K : gk_V → gk_M → Prop}  (M : gk_M) (h : gk_Sat gk_I (X6_readReach_j30  M) K) : gk_G RX6 cX6_readReach 2 2 (some .boolean) none K 30 [none, none] [] M := by
  refine gk_iconst (v := (0 : Int32)) dX6_readReach_30 (by decide) ?_
  exact gk_zret dX6_readReach_31 rfl h
set_option maxRecDepth 100000 in
set_option maxHeartbeats 4000000 in
theorem ok_X6_readReach (a1 : Nat) (M : gk_M) (K : gk_V → gk_M → Prop) (h : gk_Sat gk_I (f_X6_readReach a1 M) K) : gk_MS 2 yX6_readReach cX6_readReach 2 (some .boolean) [gk_R 3 0, gk_R 2 a1] M K := by
  have hga1 := h.gd
  have h := hga1.2
  have ha1 := gk_lt_of hga1.1
  refine gk_MS_of [some (gk_R 3 0), some (gk_R 2 a1)] (by decide +kernel) (Nat.le_of_ble_eq_true rfl) (And.intro rfl (And.intro rfl True.intro)) ?_
  show gk_G RX6 cX6_readReach 2 2 (some .boolean) none K 0 [some (gk_R 3 0), some (gk_R 2 a1)] [] M
  refine gk_aload_n dX6_readReach_0 rfl rfl ?_
  refine gk_aload_n dX6_readReach_1 rfl rfl ?_
  refine gk_iconst (v := (2 : Int32)) dX6_readReach_2 (by decide) ?_
  refine gk_callI (As := [gk_R 3 0, gk_I (2 : Int32)]) (st := [gk_R 2 a1]) 1 (cr_X6_50 (by decide) rfl) (fun K' h' => ok_X6_readNumber (2 : Int32) M K' h') rfl (by decide) (by decide) (fun _ => Nat.le_of_ble_eq_true rfl) dX6_readReach_3 h (fun r2 M1 h => ?_)
  refine gk_putI fr_X6_97 si_2_5 ha1 dX6_readReach_6 h (fun M3 h => ?_)
  refine gk_aload_n dX6_readReach_9 rfl rfl ?_
  refine gk_getI fr_X6_97 si_2_5 ha1 dX6_readReach_10 ?_
  refine gk_iconst (v := (1 : Int32)) dX6_readReach_13 (by decide) ?_
  refine gk_icmp_lt (tgt := 30) dX6_readReach_14 (by decide) h (fun h => ?_) (fun h => ?_)
  · exact gk_weak [none, none] True.intro (ok_X6_readReach_j30 M3 h)
  · refine gk_aload_n dX6_readReach_17 rfl rfl ?_
    refine gk_getI fr_X6_97 si_2_5 ha1 dX6_readReach_18 ?_
    refine gk_bipush (v := (40 : Int32)) dX6_readReach_21 (by decide) ?_
    refine gk_icmp_gt (tgt := 30) dX6_readReach_23 (by decide) h (fun h => ?_) (fun h => ?_)
    · exact gk_weak [none, none] True.intro (ok_X6_readReach_j30 M3 h)
    · refine gk_iconst (v := (1 : Int32)) dX6_readReach_26 (by decide) ?_
      refine gk_goto (tgt := 31) dX6_readReach_27 (by decide) ?_
      exact gk_zret dX6_readReach_31 rfl h
set_option maxRecDepth 100000 in
set_option maxHeartbeats 4000000 in
theorem ok_X6_readSight_j30 {K : gk_V → gk_M → Prop}  (M : gk_M) (h : gk_Sat gk_I (X6_readSight_j30  M) K) : gk_G RX6 cX6_readSight 2 2 (some .boolean) none K 30 [none, none] [] M := by
  refine gk_iconst (v := (0 : Int32)) dX6_readSight_30 (by decide) ?_
  exact gk_zret dX6_readSight_31 rfl h
set_option maxRecDepth 100000 in
set_option maxHeartbeats 4000000 in
theorem ok_X6_readSight (a1 : Nat) (M : gk_M) (K : gk_V → gk_M → Prop) (h : gk_Sat gk_I (f_X6_readSight a1 M) K) : gk_MS 2 yX6_readSight cX6_readSight 2 (some .boolean) [gk_R 3 0, gk_R 2 a1] M K := by
  have hga1 := h.gd
  have h := hga1.2
  have ha1 := gk_lt_of hga1.1
  refine gk_MS_of [some (gk_R 3 0), some (gk_R 2 a1)] (by decide +kernel) (Nat.le_of_ble_eq_true rfl) (And.intro rfl (And.intro rfl True.intro)) ?_
  show gk_G RX6 cX6_readSight 2 2 (some .boolean) none K 0 [some (gk_R 3 0), some (gk_R 2 a1)] [] M
  refine gk_aload_n dX6_readSight_0 rfl rfl ?_
  refine gk_aload_n dX6_readSight_1 rfl rfl ?_
  refine gk_iconst (v := (2 : Int32)) dX6_readSight_2 (by decide) ?_
  refine gk_callI (As := [gk_R 3 0, gk_I (2 : Int32)]) (st := [gk_R 2 a1]) 1 (cr_X6_50 (by decide) rfl) (fun K' h' => ok_X6_readNumber (2 : Int32) M K' h') rfl (by decide) (by decide) (fun _ => Nat.le_of_ble_eq_true rfl) dX6_readSight_3 h (fun r2 M1 h => ?_)
  refine gk_putI fr_X6_100 si_2_6 ha1 dX6_readSight_6 h (fun M3 h => ?_)
  refine gk_aload_n dX6_readSight_9 rfl rfl ?_
  refine gk_getI fr_X6_100 si_2_6 ha1 dX6_readSight_10 ?_
  refine gk_iconst (v := (1 : Int32)) dX6_readSight_13 (by decide) ?_
  refine gk_icmp_lt (tgt := 30) dX6_readSight_14 (by decide) h (fun h => ?_) (fun h => ?_)
  · exact gk_weak [none, none] True.intro (ok_X6_readSight_j30 M3 h)
  · refine gk_aload_n dX6_readSight_17 rfl rfl ?_
    refine gk_getI fr_X6_100 si_2_6 ha1 dX6_readSight_18 ?_
    refine gk_bipush (v := (99 : Int32)) dX6_readSight_21 (by decide) ?_
    refine gk_icmp_gt (tgt := 30) dX6_readSight_23 (by decide) h (fun h => ?_) (fun h => ?_)
    · exact gk_weak [none, none] True.intro (ok_X6_readSight_j30 M3 h)
    · refine gk_iconst (v := (1 : Int32)) dX6_readSight_26 (by decide) ?_
      refine gk_goto (tgt := 31) dX6_readSight_27 (by decide) ?_
      exact gk_zret dX6_readSight_31 rfl h
set_option maxRecDepth 100000 in
set_option maxHeartbeats 4000000 in
theorem ok_X6_readStatement_j79 {K : gk_V → gk_M → Prop} (x2 : Int32) (M : gk_M) (h : gk_Sat gk_I (X6_readStatement_j79 x2 M) K) : gk_G RX6 cX6_readStatement 3 4 (some .boolean) none K 79 [some (gk_R 3 0), none, some (gk_I x2)] [] M := by
  refine gk_aload_n dX6_readStatement_79 rfl rfl ?_
  refine gk_bipush (v := (59 : Int32)) dX6_readStatement_80 (by decide) ?_
  refine gk_callV (As := [gk_R 3 0, gk_I (59 : Int32)]) (st := []) 1 (cr_X6_46 (by decide) rfl) (fun K' h' => ok_X6_need (59 : Int32) M K' h') rfl (by decide) (by decide) (fun _ => Nat.le_of_ble_eq_true rfl) dX6_readStatement_82 h (fun _ M10 h => ?_)
  refine gk_iload_n dX6_readStatement_85 rfl rfl ?_
  exact gk_zret dX6_readStatement_86 rfl h
set_option maxRecDepth 100000 in
set_option maxHeartbeats 4000000 in
theorem ok_X6_readStatement (a1 : Nat) (M : gk_M) (K : gk_V → gk_M → Prop) (h : gk_Sat gk_I (f_X6_readStatement a1 M) K) : gk_MS 4 yX6_readStatement cX6_readStatement 3 (some .boolean) [gk_R 3 0, gk_R 2 a1] M K := by
  have hga1 := h.gd
  have h := hga1.2
  have ha1 := gk_lt_of hga1.1
  refine gk_MS_of [some (gk_R 3 0), some (gk_R 2 a1), none] (by decide +kernel) (Nat.le_of_ble_eq_true rfl) (And.intro rfl (And.intro rfl True.intro)) ?_
  show gk_G RX6 cX6_readStatement 3 4 (some .boolean) none K 0 [some (gk_R 3 0), some (gk_R 2 a1), none] [] M
  refine gk_iconst (v := (0 : Int32)) dX6_readStatement_0 (by decide) ?_
  refine gk_istore_n (L' := [some (gk_R 3 0), some (gk_R 2 a1), some (gk_I (0 : Int32))]) dX6_readStatement_1 rfl (by decide) rfl rfl ?_
  refine gk_aload_n dX6_readStatement_2 rfl rfl ?_
  refine gk_bipush (v := (115 : Int32)) dX6_readStatement_3 (by decide) ?_
  refine gk_callI (As := [gk_R 3 0, gk_I (115 : Int32)]) (st := []) 0 (cr_X6_30 (by decide) rfl) (fun K' h' => ok_X6_take (115 : Int32) M K' h') rfl (by decide) (by decide) (fun _ => Nat.le_of_ble_eq_true rfl) dX6_readStatement_5 h (fun r2 M1 h => ?_)
  refine gk_if_eq (tgt := 20) dX6_readStatement_8 (by decide) h (fun h => ?_) (fun h => ?_)
  · refine gk_aload_n dX6_readStatement_20 rfl rfl ?_
    refine gk_bipush (v := (119 : Int32)) dX6_readStatement_21 (by decide) ?_
    refine gk_callI (As := [gk_R 3 0, gk_I (119 : Int32)]) (st := []) 0 (cr_X6_30 (by decide) rfl) (fun K' h' => ok_X6_take (119 : Int32) M1 K' h') rfl (by decide) (by decide) (fun _ => Nat.le_of_ble_eq_true rfl) dX6_readStatement_23 h (fun r4 M3 h => ?_)
    refine gk_if_eq (tgt := 38) dX6_readStatement_26 (by decide) h (fun h => ?_) (fun h => ?_)
    · refine gk_aload_n dX6_readStatement_38 rfl rfl ?_
      refine gk_bipush (v := (114 : Int32)) dX6_readStatement_39 (by decide) ?_
      refine gk_callI (As := [gk_R 3 0, gk_I (114 : Int32)]) (st := []) 0 (cr_X6_30 (by decide) rfl) (fun K' h' => ok_X6_take (114 : Int32) M3 K' h') rfl (by decide) (by decide) (fun _ => Nat.le_of_ble_eq_true rfl) dX6_readStatement_41 h (fun r6 M5 h => ?_)
      refine gk_if_eq (tgt := 56) dX6_readStatement_44 (by decide) h (fun h => ?_) (fun h => ?_)
      · refine gk_aload_n dX6_readStatement_56 rfl rfl ?_
        refine gk_bipush (v := (118 : Int32)) dX6_readStatement_57 (by decide) ?_
        refine gk_callI (As := [gk_R 3 0, gk_I (118 : Int32)]) (st := []) 0 (cr_X6_30 (by decide) rfl) (fun K' h' => ok_X6_take (118 : Int32) M5 K' h') rfl (by decide) (by decide) (fun _ => Nat.le_of_ble_eq_true rfl) dX6_readStatement_59 h (fun r8 M7 h => ?_)
        refine gk_if_eq (tgt := 74) dX6_readStatement_62 (by decide) h (fun h => ?_) (fun h => ?_)
        · refine gk_aload_n dX6_readStatement_74 rfl rfl ?_
          refine gk_iconst (v := (1 : Int32)) dX6_readStatement_75 (by decide) ?_
          refine gk_putZ fr_X6_22 si_3_3 (by decide) dX6_readStatement_76 h (fun M9 h => ?_)
          exact gk_weak [some (gk_R 3 0), none, some (gk_I (0 : Int32))] (And.intro rfl (And.intro rfl True.intro)) (ok_X6_readStatement_j79 ((0 : Int32)) M9 h)
        · refine gk_aload_n dX6_readStatement_65 rfl rfl ?_
          refine gk_aload_n dX6_readStatement_66 rfl rfl ?_
          refine gk_callI (As := [gk_R 3 0, gk_R 2 a1]) (st := []) 2 (cr_X6_43 (by decide) rfl) (fun K' h' => ok_X6_readSight a1 M7 K' h') rfl (by decide) (by decide) (fun _ => Nat.le_of_ble_eq_true rfl) dX6_readStatement_67 h (fun r13 M12 h => ?_)
          refine gk_istore_n (L' := [some (gk_R 3 0), some (gk_R 2 a1), some (gk_I r13)]) dX6_readStatement_70 rfl (by decide) rfl rfl ?_
          refine gk_goto (tgt := 79) dX6_readStatement_71 (by decide) ?_
          exact gk_weak [some (gk_R 3 0), none, some (gk_I r13)] (And.intro rfl (And.intro rfl True.intro)) (ok_X6_readStatement_j79 r13 M12 h)
      · refine gk_aload_n dX6_readStatement_47 rfl rfl ?_
        refine gk_aload_n dX6_readStatement_48 rfl rfl ?_
        refine gk_callI (As := [gk_R 3 0, gk_R 2 a1]) (st := []) 2 (cr_X6_40 (by decide) rfl) (fun K' h' => ok_X6_readReach a1 M5 K' h') rfl (by decide) (by decide) (fun _ => Nat.le_of_ble_eq_true rfl) dX6_readStatement_49 h (fun r15 M14 h => ?_)
        refine gk_istore_n (L' := [some (gk_R 3 0), some (gk_R 2 a1), some (gk_I r15)]) dX6_readStatement_52 rfl (by decide) rfl rfl ?_
        refine gk_goto (tgt := 79) dX6_readStatement_53 (by decide) ?_
        exact gk_weak [some (gk_R 3 0), none, some (gk_I r15)] (And.intro rfl (And.intro rfl True.intro)) (ok_X6_readStatement_j79 r15 M14 h)
    · refine gk_aload_n dX6_readStatement_29 rfl rfl ?_
      refine gk_aload_n dX6_readStatement_30 rfl rfl ?_
      refine gk_callI (As := [gk_R 3 0, gk_R 2 a1]) (st := []) 3 (cr_X6_37 (by decide) rfl) (fun K' h' => ok_X6_readWind a1 M3 K' h') rfl (by decide) (by decide) (fun _ => Nat.le_of_ble_eq_true rfl) dX6_readStatement_31 h (fun r17 M16 h => ?_)
      refine gk_istore_n (L' := [some (gk_R 3 0), some (gk_R 2 a1), some (gk_I r17)]) dX6_readStatement_34 rfl (by decide) rfl rfl ?_
      refine gk_goto (tgt := 79) dX6_readStatement_35 (by decide) ?_
      exact gk_weak [some (gk_R 3 0), none, some (gk_I r17)] (And.intro rfl (And.intro rfl True.intro)) (ok_X6_readStatement_j79 r17 M16 h)
  · refine gk_aload_n dX6_readStatement_11 rfl rfl ?_
    refine gk_aload_n dX6_readStatement_12 rfl rfl ?_
    refine gk_callI (As := [gk_R 3 0, gk_R 2 a1]) (st := []) 3 (cr_X6_34 (by decide) rfl) (fun K' h' => ok_X6_readShip a1 M1 K' h') rfl (by decide) (by decide) (fun _ => Nat.le_of_ble_eq_true rfl) dX6_readStatement_13 h (fun r19 M18 h => ?_)
    refine gk_istore_n (L' := [some (gk_R 3 0), some (gk_R 2 a1), some (gk_I r19)]) dX6_readStatement_16 rfl (by decide) rfl rfl ?_
    refine gk_goto (tgt := 79) dX6_readStatement_17 (by decide) ?_
    exact gk_weak [some (gk_R 3 0), none, some (gk_I r19)] (And.intro rfl (And.intro rfl True.intro)) (ok_X6_readStatement_j79 r19 M18 h)
set_option maxRecDepth 100000 in
set_option maxHeartbeats 4000000 in
theorem ok_X6_readInto_j74 {K : gk_V → gk_M → Prop} (x2 : Int32) (x3 : Int32) (M : gk_M) (h : gk_Sat gk_I (X6_readInto_j74 x2 x3 M) K) : gk_G RX6 cX6_readInto 6 5 (some .int) none K 74 [some (gk_R 3 0), none, some (gk_I x2), some (gk_I x3), none, none] [] M := by
  refine gk_aload_n dX6_readInto_74 rfl rfl ?_
  refine gk_iconst (v := (0 : Int32)) dX6_readInto_75 (by decide) ?_
  refine gk_putI fr_X6_15 si_3_1 (by decide) dX6_readInto_76 h (fun M3 h => ?_)
  refine gk_aload_n dX6_readInto_79 rfl rfl ?_
  refine gk_getI fr_X6_22 si_3_3 (by decide) dX6_readInto_80 ?_
  refine gk_if_eq (tgt := 95) dX6_readInto_83 (by decide) h (fun h => ?_) (fun h => ?_)
  · refine gk_iload_n dX6_readInto_95 rfl rfl ?_
    refine gk_iconst (v := (-1 : Int32)) dX6_readInto_96 (by decide) ?_
    refine gk_icmp_eq (tgt := 108) dX6_readInto_97 (by decide) h (fun h => ?_) (fun h => ?_)
    · refine gk_iload_n dX6_readInto_108 rfl rfl ?_
      exact gk_iret dX6_readInto_109 rfl h
    · refine gk_sipush (v := (-2000 : Int32)) dX6_readInto_100 (by decide) ?_
      refine gk_iload_n dX6_readInto_103 rfl rfl ?_
      refine gk_isub dX6_readInto_104 ?_
      refine gk_goto (tgt := 109) dX6_readInto_105 (by decide) ?_
      exact gk_iret dX6_readInto_109 rfl h
  · refine gk_sipush (v := (-1000 : Int32)) dX6_readInto_86 (by decide) ?_
    refine gk_aload_n dX6_readInto_89 rfl rfl ?_
    refine gk_getI fr_X6_19 si_3_2 (by decide) dX6_readInto_90 ?_
    refine gk_isub dX6_readInto_93 ?_
    exact gk_iret dX6_readInto_94 rfl h
set_option maxRecDepth 100000 in
set_option maxHeartbeats 4000000 in
theorem ok_X6_readInto_j68 {K : gk_V → gk_M → Prop} (κ14 : Nat → Int32 → Int32 → gk_M → Option (Int32 × gk_M)) (hκ14 : ∀ (x1 : Nat) (x2 : Int32) (x3 : Int32) (M : gk_M), gk_Sat gk_I (κ14 x1 x2 x3 M) K → gk_G RX6 cX6_readInto 6 5 (some .int) none K 14 [some (gk_R 3 0), some (gk_R 2 x1), some (gk_I x2), some (gk_I x3), none, none] [] M) (x1 : Nat) (x2 : Int32) (x3 : Int32) (M : gk_M) (h : gk_Sat gk_I (X6_readInto_j68 κ14 x1 x2 x3 M) K) : gk_G RX6 cX6_readInto 6 5 (some .int) none K 68 [some (gk_R 3 0), some (gk_R 2 x1), some (gk_I x2), some (gk_I x3), none, none] [] M := by
  have hgx1 := h.gd
  have h := hgx1.2
  have hx1 := gk_lt_of hgx1.1
  refine gk_iinc (v := (x3 + (1 : Int32))) (L' := [some (gk_R 3 0), some (gk_R 2 x1), some (gk_I x2), some (gk_I (x3 + (1 : Int32))), none, none]) dX6_readInto_68 rfl rfl (by decide) rfl rfl ?_
  refine gk_goto (tgt := 14) dX6_readInto_71 (by decide) ?_
  exact gk_weak [some (gk_R 3 0), some (gk_R 2 x1), some (gk_I x2), some (gk_I (x3 + (1 : Int32))), none, none] (And.intro rfl (And.intro rfl (And.intro rfl (And.intro rfl True.intro)))) (hκ14 x1 x2 ((x3 + (1 : Int32))) M h)
set_option maxRecDepth 100000 in
set_option maxHeartbeats 4000000 in
theorem ok_X6_readInto_j42 {K : gk_V → gk_M → Prop} (κ14 : Nat → Int32 → Int32 → gk_M → Option (Int32 × gk_M)) (hκ14 : ∀ (x1 : Nat) (x2 : Int32) (x3 : Int32) (M : gk_M), gk_Sat gk_I (κ14 x1 x2 x3 M) K → gk_G RX6 cX6_readInto 6 5 (some .int) none K 14 [some (gk_R 3 0), some (gk_R 2 x1), some (gk_I x2), some (gk_I x3), none, none] [] M) (x1 : Nat) (x2 : Int32) (x3 : Int32) (M : gk_M) (h : gk_Sat gk_I (X6_readInto_j42 κ14 x1 x2 x3 M) K) : gk_G RX6 cX6_readInto 6 5 (some .int) none K 42 [some (gk_R 3 0), some (gk_R 2 x1), some (gk_I x2), some (gk_I x3), none, none] [] M := by
  have hgx1 := h.gd
  have h := hgx1.2
  have hx1 := gk_lt_of hgx1.1
  refine gk_aload_n dX6_readInto_42 rfl rfl ?_
  refine gk_getI fr_X6_19 si_3_2 (by decide) dX6_readInto_43 ?_
  refine gk_istore (L' := [some (gk_R 3 0), some (gk_R 2 x1), some (gk_I x2), some (gk_I x3), some (gk_I (M 3 0 2)), none]) dX6_readInto_46 (by decide) rfl rfl ?_
  refine gk_aload_n dX6_readInto_48 rfl rfl ?_
  refine gk_aload_n dX6_readInto_49 rfl rfl ?_
  refine gk_callI (As := [gk_R 3 0, gk_R 2 x1]) (st := []) 4 (cr_X6_26 (by decide) rfl) (fun K' h' => ok_X6_readStatement x1 M K' h') rfl (by decide) (by decide) (fun _ => Nat.le_of_ble_eq_true rfl) dX6_readInto_50 h (fun r5 M4 h => ?_)
  refine gk_istore (L' := [some (gk_R 3 0), some (gk_R 2 x1), some (gk_I x2), some (gk_I x3), some (gk_I (M 3 0 2)), some (gk_I r5)]) dX6_readInto_53 (by decide) rfl rfl ?_
  refine gk_iload dX6_readInto_55 rfl ?_
  refine gk_if_ne (tgt := 68) dX6_readInto_57 (by decide) h (fun h => ?_) (fun h => ?_)
  · exact gk_weak [some (gk_R 3 0), some (gk_R 2 x1), some (gk_I x2), some (gk_I x3), none, none] (And.intro rfl (And.intro rfl (And.intro rfl (And.intro rfl True.intro)))) (ok_X6_readInto_j68 κ14 hκ14 x1 x2 x3 M4 h)
  · refine gk_iload_n dX6_readInto_60 rfl rfl ?_
    refine gk_iconst (v := (-1 : Int32)) dX6_readInto_61 (by decide) ?_
    refine gk_icmp_ne (tgt := 68) dX6_readInto_62 (by decide) h (fun h => ?_) (fun h => ?_)
    · exact gk_weak [some (gk_R 3 0), some (gk_R 2 x1), some (gk_I x2), some (gk_I x3), none, none] (And.intro rfl (And.intro rfl (And.intro rfl (And.intro rfl True.intro)))) (ok_X6_readInto_j68 κ14 hκ14 x1 x2 x3 M4 h)
    · refine gk_iload dX6_readInto_65 rfl ?_
      refine gk_istore_n (L' := [some (gk_R 3 0), some (gk_R 2 x1), some (gk_I (M 3 0 2)), some (gk_I x3), some (gk_I (M 3 0 2)), some (gk_I r5)]) dX6_readInto_67 rfl (by decide) rfl rfl ?_
      exact gk_weak [some (gk_R 3 0), some (gk_R 2 x1), some (gk_I (M 3 0 2)), some (gk_I x3), none, none] (And.intro rfl (And.intro rfl (And.intro rfl (And.intro rfl True.intro)))) (ok_X6_readInto_j68 κ14 hκ14 x1 ((M 3 0 2)) x3 M4 h)
set_option maxRecDepth 100000 in
set_option maxHeartbeats 4000000 in
theorem ok_X6_readInto_l14 {K : gk_V → gk_M → Prop} : ∀ (n : Nat) (x1 : Nat) (x2 : Int32) (x3 : Int32) (M : gk_M), gk_Sat gk_I (X6_readInto_l14 n x1 x2 x3 M) K → gk_G RX6 cX6_readInto 6 5 (some .int) none K 14 [some (gk_R 3 0), some (gk_R 2 x1), some (gk_I x2), some (gk_I x3), none, none] [] M := by
  intro n
  induction n with
  | zero => intro x1 x2 x3 M h; exact h.no.elim
  | succ n ih =>
    intro x1 x2 x3 M h
    have hgx1 := h.gd
    have h := hgx1.2
    have hx1 := gk_lt_of hgx1.1
    refine gk_iload_n dX6_readInto_14 rfl rfl ?_
    refine gk_bipush (v := (80 : Int32)) dX6_readInto_15 (by decide) ?_
    refine gk_icmp_gt (tgt := 74) dX6_readInto_17 (by decide) h (fun h => ?_) (fun h => ?_)
    · exact gk_weak [some (gk_R 3 0), none, some (gk_I x2), some (gk_I x3), none, none] (And.intro rfl (And.intro rfl (And.intro rfl True.intro))) (ok_X6_readInto_j74 x2 x3 M h)
    · refine gk_aload_n dX6_readInto_20 rfl rfl ?_
      refine gk_getI fr_X6_22 si_3_3 (by decide) dX6_readInto_21 ?_
      refine gk_if_ne (tgt := 74) dX6_readInto_24 (by decide) h (fun h => ?_) (fun h => ?_)
      · exact gk_weak [some (gk_R 3 0), none, some (gk_I x2), some (gk_I x3), none, none] (And.intro rfl (And.intro rfl (And.intro rfl True.intro))) (ok_X6_readInto_j74 x2 x3 M h)
      · refine gk_iload_n dX6_readInto_27 rfl rfl ?_
        refine gk_if_eq (tgt := 42) dX6_readInto_28 (by decide) h (fun h => ?_) (fun h => ?_)
        · exact gk_weak [some (gk_R 3 0), some (gk_R 2 x1), some (gk_I x2), some (gk_I x3), none, none] (And.intro rfl (And.intro rfl (And.intro rfl (And.intro rfl True.intro)))) (ok_X6_readInto_j42 (X6_readInto_l14 n) ih x1 x2 x3 M h)
        · refine gk_aload_n dX6_readInto_31 rfl rfl ?_
          refine gk_getI fr_X6_19 si_3_2 (by decide) dX6_readInto_32 ?_
          refine gk_aload_n dX6_readInto_35 rfl rfl ?_
          refine gk_getI fr_X6_15 si_3_1 (by decide) dX6_readInto_36 ?_
          refine gk_icmp_ge (tgt := 74) dX6_readInto_39 (by decide) h (fun h => ?_) (fun h => ?_)
          · exact gk_weak [some (gk_R 3 0), none, some (gk_I x2), some (gk_I x3), none, none] (And.intro rfl (And.intro rfl (And.intro rfl True.intro))) (ok_X6_readInto_j74 x2 x3 M h)
          · exact gk_weak [some (gk_R 3 0), some (gk_R 2 x1), some (gk_I x2), some (gk_I x3), none, none] (And.intro rfl (And.intro rfl (And.intro rfl (And.intro rfl True.intro)))) (ok_X6_readInto_j42 (X6_readInto_l14 n) ih x1 x2 x3 M h)
set_option maxRecDepth 100000 in
set_option maxHeartbeats 4000000 in
theorem ok_X6_readInto (a1 : Nat) (M : gk_M) (K : gk_V → gk_M → Prop) (h : gk_Sat gk_I (f_X6_readInto a1 M) K) : gk_MS 5 yX6_readInto cX6_readInto 6 (some .int) [gk_R 3 0, gk_R 2 a1] M K := by
  have hga1 := h.gd
  have h := hga1.2
  have ha1 := gk_lt_of hga1.1
  refine gk_MS_of [some (gk_R 3 0), some (gk_R 2 a1), none, none, none, none] (by decide +kernel) (Nat.le_of_ble_eq_true rfl) (And.intro rfl (And.intro rfl True.intro)) ?_
  show gk_G RX6 cX6_readInto 6 5 (some .int) none K 0 [some (gk_R 3 0), some (gk_R 2 a1), none, none, none, none] [] M
  refine gk_aload_n dX6_readInto_0 rfl rfl ?_
  refine gk_iconst (v := (0 : Int32)) dX6_readInto_1 (by decide) ?_
  refine gk_putI fr_X6_19 si_3_2 (by decide) dX6_readInto_2 h (fun M1 h => ?_)
  refine gk_aload_n dX6_readInto_5 rfl rfl ?_
  refine gk_iconst (v := (0 : Int32)) dX6_readInto_6 (by decide) ?_
  refine gk_putZ fr_X6_22 si_3_3 (by decide) dX6_readInto_7 h (fun M2 h => ?_)
  refine gk_iconst (v := (-1 : Int32)) dX6_readInto_10 (by decide) ?_
  refine gk_istore_n (L' := [some (gk_R 3 0), some (gk_R 2 a1), some (gk_I (-1 : Int32)), none, none, none]) dX6_readInto_11 rfl (by decide) rfl rfl ?_
  refine gk_iconst (v := (0 : Int32)) dX6_readInto_12 (by decide) ?_
  refine gk_istore_n (L' := [some (gk_R 3 0), some (gk_R 2 a1), some (gk_I (-1 : Int32)), some (gk_I (0 : Int32)), none, none]) dX6_readInto_13 rfl (by decide) rfl rfl ?_
  exact gk_weak [some (gk_R 3 0), some (gk_R 2 a1), some (gk_I (-1 : Int32)), some (gk_I (0 : Int32)), none, none] (And.intro rfl (And.intro rfl (And.intro rfl (And.intro rfl True.intro)))) (ok_X6_readInto_l14 200 a1 ((-1 : Int32)) ((0 : Int32)) M2 h)
