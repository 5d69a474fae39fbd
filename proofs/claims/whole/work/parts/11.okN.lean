set_option maxRecDepth 100000 in
set_option maxHeartbeats 4000000 in
theorem ok_X11_refuse_j26 {K : gk_V → gk_M → Prop} (x1 : Int32) (M : gk_M) (h : gk_Sat gk_I (X11_refuse_j26 x1 M) K) : gk_G RX11 cX11_refuse 3 0 (some .int) none K 26 [none, some (gk_I x1), none] [] M := by
  refine gk_iload_n dX11_refuse_26 rfl rfl ?_
  exact gk_iret dX11_refuse_27 rfl h
set_option maxRecDepth 100000 in
set_option maxHeartbeats 4000000 in
theorem ok_X11_refuse (a1 : Int32) (M : gk_M) (K : gk_V → gk_M → Prop) (h : gk_Sat gk_I (f_X11_refuse a1 M) K) : gk_MS 0 yX11_refuse cX11_refuse 3 (some .int) [gk_R 6 0, gk_I a1] M K := by

  refine gk_MS_of [some (gk_R 6 0), some (gk_I a1), none] (by decide +kernel) (Nat.le_of_ble_eq_true rfl) (And.intro rfl (And.intro rfl True.intro)) ?_
  show gk_G RX11 cX11_refuse 3 0 (some .int) none K 0 [some (gk_R 6 0), some (gk_I a1), none] [] M
  refine gk_iload_n dX11_refuse_0 rfl rfl ?_
  refine gk_ineg dX11_refuse_1 ?_
  refine gk_istore_n (L' := [some (gk_R 6 0), some (gk_I a1), some (gk_I (-a1))]) dX11_refuse_2 rfl (by decide) rfl rfl ?_
  refine gk_iload_n dX11_refuse_3 rfl rfl ?_
  refine gk_if_le (tgt := 26) dX11_refuse_4 (by decide) h (fun h => ?_) (fun h => ?_)
  · exact gk_weak [none, some (gk_I a1), none] (And.intro rfl True.intro) (ok_X11_refuse_j26 a1 M h)
  · refine gk_iload_n dX11_refuse_7 rfl rfl ?_
    refine gk_aload_n dX11_refuse_8 rfl rfl ?_
    refine gk_get (v := gk_R 13 0) fr_X11_69 pf_6_10 (by decide) dX11_refuse_9 ?_
    refine gk_alen (v := (7 : Int32)) ga_13 (by decide) rfl dX11_refuse_12 ?_
    refine gk_icmp_ge (tgt := 26) dX11_refuse_13 (by decide) h (fun h => ?_) (fun h => ?_)
    · exact gk_weak [none, some (gk_I a1), none] (And.intro rfl True.intro) (ok_X11_refuse_j26 a1 M h)
    · refine gk_aload_n dX11_refuse_16 rfl rfl ?_
      refine gk_get (v := gk_R 13 0) fr_X11_69 pf_6_10 (by decide) dX11_refuse_17 ?_
      refine gk_iload_n dX11_refuse_20 rfl rfl ?_
      refine gk_dup2 dX11_refuse_21 rfl rfl ?_
      refine gk_iald ga_13 (by decide) dX11_refuse_22 h (fun h hb1 => ?_)
      refine gk_iconst (v := (1 : Int32)) dX11_refuse_23 (by decide) ?_
      refine gk_iadd dX11_refuse_24 ?_
      refine gk_iast ga_13 (by decide) dX11_refuse_25 h (fun M2 h => ?_)
      exact gk_weak [none, some (gk_I a1), none] (And.intro rfl True.intro) (ok_X11_refuse_j26 a1 M2 h)
set_option maxRecDepth 100000 in
set_option maxHeartbeats 4000000 in
theorem ok_X11_feed_j30 {K : gk_V → gk_M → Prop}  (M : gk_M) (h : gk_Sat gk_I (X11_feed_j30  M) K) : gk_G RX11 cX11_feed 2 1 (some .int) none K 30 [some (gk_R 6 0), none] [] M := by
  refine gk_aload_n dX11_feed_30 rfl rfl ?_
  refine gk_bipush (v := (-6 : Int32)) dX11_feed_31 (by decide) ?_
  refine gk_callI (As := [gk_R 6 0, gk_I (-6 : Int32)]) (st := []) 0 (cr_X11_72 (by decide) rfl) (fun K' h' => ok_X11_refuse (-6 : Int32) M K' h') rfl (by decide) (by decide) (fun _ => Nat.le_of_ble_eq_true rfl) dX11_feed_33 h (fun r2 M1 h => ?_)
  exact gk_iret dX11_feed_36 rfl h
set_option maxRecDepth 100000 in
set_option maxHeartbeats 4000000 in
theorem ok_X11_feed (a1 : Int32) (M : gk_M) (K : gk_V → gk_M → Prop) (h : gk_Sat gk_I (f_X11_feed a1 M) K) : gk_MS 1 yX11_feed cX11_feed 2 (some .int) [gk_R 6 0, gk_I a1] M K := by

  refine gk_MS_of [some (gk_R 6 0), some (gk_I a1)] (by decide +kernel) (Nat.le_of_ble_eq_true rfl) (And.intro rfl (And.intro rfl True.intro)) ?_
  show gk_G RX11 cX11_feed 2 1 (some .int) none K 0 [some (gk_R 6 0), some (gk_I a1)] [] M
  refine gk_iload_n dX11_feed_0 rfl rfl ?_
  refine gk_if_ge (tgt := 11) dX11_feed_1 (by decide) h (fun h => ?_) (fun h => ?_)
  · refine gk_iload_n dX11_feed_11 rfl rfl ?_
    refine gk_sipush (v := (255 : Int32)) dX11_feed_12 (by decide) ?_
    refine gk_icmp_gt (tgt := 30) dX11_feed_15 (by decide) h (fun h => ?_) (fun h => ?_)
    · exact gk_weak [some (gk_R 6 0), none] (And.intro rfl True.intro) (ok_X11_feed_j30 M h)
    · refine gk_aload_n dX11_feed_18 rfl rfl ?_
      refine gk_get (v := gk_R 3 0) fr_X11_61 pf_6_7 (by decide) dX11_feed_19 ?_
      refine gk_getI fr_X11_76 si_3_1 (by decide) dX11_feed_22 ?_
      refine gk_bipush (v := (80 : Int32)) dX11_feed_25 (by decide) ?_
      refine gk_icmp_lt (tgt := 37) dX11_feed_27 (by decide) h (fun h => ?_) (fun h => ?_)
      · refine gk_aload_n dX11_feed_37 rfl rfl ?_
        refine gk_get (v := gk_R 3 0) fr_X11_61 pf_6_7 (by decide) dX11_feed_38 ?_
        refine gk_iload_n dX11_feed_41 rfl rfl ?_
        refine gk_callV (As := [gk_R 3 0, gk_I a1]) (st := []) 0 (cr_X11_80 (by decide) rfl) (fun K' h' => ok_X6_add a1 M K' h') rfl (by decide) (by decide) (fun _ => Nat.le_of_ble_eq_true rfl) dX11_feed_42 h (fun _ M3 h => ?_)
        refine gk_aload_n dX11_feed_45 rfl rfl ?_
        refine gk_get (v := gk_R 3 0) fr_X11_61 pf_6_7 (by decide) dX11_feed_46 ?_
        refine gk_getI fr_X11_76 si_3_1 (by decide) dX11_feed_49 ?_
        exact gk_iret dX11_feed_52 rfl h
      · exact gk_weak [some (gk_R 6 0), none] (And.intro rfl True.intro) (ok_X11_feed_j30 M h)
  · refine gk_aload_n dX11_feed_4 rfl rfl ?_
    refine gk_bipush (v := (-4 : Int32)) dX11_feed_5 (by decide) ?_
    refine gk_callI (As := [gk_R 6 0, gk_I (-4 : Int32)]) (st := []) 0 (cr_X11_72 (by decide) rfl) (fun K' h' => ok_X11_refuse (-4 : Int32) M K' h') rfl (by decide) (by decide) (fun _ => Nat.le_of_ble_eq_true rfl) dX11_feed_7 h (fun r6 M5 h => ?_)
    exact gk_iret dX11_feed_10 rfl h
set_option maxRecDepth 100000 in
set_option maxHeartbeats 4000000 in
theorem ok_X11_pack_j38 {K : gk_V → gk_M → Prop} (x1 : Int32) (M : gk_M) (h : gk_Sat gk_I (X11_pack_j38 x1 M) K) : gk_G RX11 cX11_pack 2 6 (some .int) none K 38 [none, some (gk_I x1)] [] M := by
  refine gk_iload_n dX11_pack_38 rfl rfl ?_
  exact gk_iret dX11_pack_39 rfl h
set_option maxRecDepth 100000 in
set_option maxHeartbeats 4000000 in
theorem ok_X11_pack  (M : gk_M) (K : gk_V → gk_M → Prop) (h : gk_Sat gk_I (f_X11_pack  M) K) : gk_MS 6 yX11_pack cX11_pack 2 (some .int) [gk_R 6 0] M K := by

  refine gk_MS_of [some (gk_R 6 0), none] (by decide +kernel) (Nat.le_of_ble_eq_true rfl) (And.intro rfl True.intro) ?_
  show gk_G RX11 cX11_pack 2 6 (some .int) none K 0 [some (gk_R 6 0), none] [] M
  refine gk_aload_n dX11_pack_0 rfl rfl ?_
  refine gk_get (v := gk_R 2 1) fr_X11_52 pf_6_4 (by decide) dX11_pack_1 ?_
  refine gk_aload_n dX11_pack_4 rfl rfl ?_
  refine gk_get (v := gk_R 2 0) fr_X11_48 pf_6_3 (by decide) dX11_pack_5 ?_
  refine gk_callV (As := [gk_R 2 1, gk_R 2 0]) (st := []) 1 (cr_X11_84 (by decide) rfl) (fun K' h' => ok_X4_copyFrom 1 0 M K' h') rfl (by decide) (by decide) (fun _ => Nat.le_of_ble_eq_true rfl) dX11_pack_8 h (fun _ M1 h => ?_)
  refine gk_aload_n dX11_pack_11 rfl rfl ?_
  refine gk_get (v := gk_R 3 0) fr_X11_61 pf_6_7 (by decide) dX11_pack_12 ?_
  refine gk_aload_n dX11_pack_15 rfl rfl ?_
  refine gk_get (v := gk_R 2 1) fr_X11_52 pf_6_4 (by decide) dX11_pack_16 ?_
  refine gk_callI (As := [gk_R 3 0, gk_R 2 1]) (st := []) 5 (cr_X11_88 (by decide) rfl) (fun K' h' => ok_X6_readInto 1 M1 K' h') rfl (by decide) (by decide) (fun _ => Nat.le_of_ble_eq_true rfl) dX11_pack_19 h (fun r4 M3 h => ?_)
  refine gk_istore_n (L' := [some (gk_R 6 0), some (gk_I r4)]) dX11_pack_22 rfl (by decide) rfl rfl ?_
  refine gk_iload_n dX11_pack_23 rfl rfl ?_
  refine gk_if_le (tgt := 38) dX11_pack_24 (by decide) h (fun h => ?_) (fun h => ?_)
  · exact gk_weak [none, some (gk_I r4)] (And.intro rfl True.intro) (ok_X11_pack_j38 r4 M3 h)
  · refine gk_aload_n dX11_pack_27 rfl rfl ?_
    refine gk_get (v := gk_R 2 0) fr_X11_48 pf_6_3 (by decide) dX11_pack_28 ?_
    refine gk_aload_n dX11_pack_31 rfl rfl ?_
    refine gk_get (v := gk_R 2 1) fr_X11_52 pf_6_4 (by decide) dX11_pack_32 ?_
    refine gk_callV (As := [gk_R 2 0, gk_R 2 1]) (st := []) 1 (cr_X11_84 (by decide) rfl) (fun K' h' => ok_X4_copyFrom 0 1 M3 K' h') rfl (by decide) (by decide) (fun _ => Nat.le_of_ble_eq_true rfl) dX11_pack_35 h (fun _ M5 h => ?_)
    exact gk_weak [none, some (gk_I r4)] (And.intro rfl True.intro) (ok_X11_pack_j38 r4 M5 h)
set_option maxRecDepth 100000 in
set_option maxHeartbeats 4000000 in
theorem ok_X11_nobody (a1 : Int32) (M : gk_M) (K : gk_V → gk_M → Prop) (h : gk_Sat gk_I (f_X11_nobody a1 M) K) : gk_MS 1 yX11_nobody cX11_nobody 2 (some .int) [gk_R 6 0, gk_I a1] M K := by

  refine gk_MS_of [some (gk_R 6 0), some (gk_I a1)] (by decide +kernel) (Nat.le_of_ble_eq_true rfl) (And.intro rfl (And.intro rfl True.intro)) ?_
  show gk_G RX11 cX11_nobody 2 1 (some .int) none K 0 [some (gk_R 6 0), some (gk_I a1)] [] M
  refine gk_aload_n dX11_nobody_0 rfl rfl ?_
  refine gk_get (v := gk_R 2 0) fr_X11_48 pf_6_3 (by decide) dX11_nobody_1 ?_
  refine gk_iload_n dX11_nobody_4 rfl rfl ?_
  refine gk_callI (As := [gk_R 2 0, gk_I a1]) (st := []) 0 (cr_X11_257 (by decide) rfl) (fun K' h' => ok_X4_has 0 a1 M K' h') rfl (by decide) (by decide) (fun _ => Nat.le_of_ble_eq_true rfl) dX11_nobody_5 h (fun r2 M1 h => ?_)
  refine gk_if_eq (tgt := 15) dX11_nobody_8 (by decide) h (fun h => ?_) (fun h => ?_)
  · refine gk_iconst (v := (-1 : Int32)) dX11_nobody_15 (by decide) ?_
    exact gk_iret dX11_nobody_16 rfl h
  · refine gk_iconst (v := (0 : Int32)) dX11_nobody_11 (by decide) ?_
    refine gk_goto (tgt := 16) dX11_nobody_12 (by decide) ?_
    exact gk_iret dX11_nobody_16 rfl h
set_option maxRecDepth 100000 in
set_option maxHeartbeats 4000000 in
theorem ok_X11_otherThan_j13 {K : gk_V → gk_M → Prop}  (M : gk_M) (h : gk_Sat gk_I (X11_otherThan_j13  M) K) : gk_G RX11 cX11_otherThan 2 0 (some .int) none K 13 [none, none] [] M := by
  refine gk_bipush (v := (-2 : Int32)) dX11_otherThan_13 (by decide) ?_
  exact gk_iret dX11_otherThan_15 rfl h
set_option maxRecDepth 100000 in
set_option maxHeartbeats 4000000 in
theorem ok_X11_otherThan (a0 : Int32) (a1 : Int32) (M : gk_M) (K : gk_V → gk_M → Prop) (h : gk_Sat gk_I (f_X11_otherThan a0 a1 M) K) : gk_MS 0 yX11_otherThan cX11_otherThan 2 (some .int) [gk_I a0, gk_I a1] M K := by

  refine gk_MS_of [some (gk_I a0), some (gk_I a1)] (by decide +kernel) (Nat.le_of_ble_eq_true rfl) (And.intro rfl (And.intro rfl True.intro)) ?_
  show gk_G RX11 cX11_otherThan 2 0 (some .int) none K 0 [some (gk_I a0), some (gk_I a1)] [] M
  refine gk_iload_n dX11_otherThan_0 rfl rfl ?_
  refine gk_if_lt (tgt := 13) dX11_otherThan_1 (by decide) h (fun h => ?_) (fun h => ?_)
  · exact gk_weak [none, none] True.intro (ok_X11_otherThan_j13 M h)
  · refine gk_iload_n dX11_otherThan_4 rfl rfl ?_
    refine gk_iload_n dX11_otherThan_5 rfl rfl ?_
    refine gk_icmp_gt (tgt := 13) dX11_otherThan_6 (by decide) h (fun h => ?_) (fun h => ?_)
    · exact gk_weak [none, none] True.intro (ok_X11_otherThan_j13 M h)
    · refine gk_iconst (v := (0 : Int32)) dX11_otherThan_9 (by decide) ?_
      refine gk_goto (tgt := 15) dX11_otherThan_10 (by decide) ?_
      exact gk_iret dX11_otherThan_15 rfl h
set_option maxRecDepth 100000 in
set_option maxHeartbeats 4000000 in
theorem ok_X11_first (a0 : Int32) (a1 : Int32) (M : gk_M) (K : gk_V → gk_M → Prop) (h : gk_Sat gk_I (f_X11_first a0 a1 M) K) : gk_MS 0 yX11_first cX11_first 2 (some .int) [gk_I a0, gk_I a1] M K := by

  refine gk_MS_of [some (gk_I a0), some (gk_I a1)] (by decide +kernel) (Nat.le_of_ble_eq_true rfl) (And.intro rfl (And.intro rfl True.intro)) ?_
  show gk_G RX11 cX11_first 2 0 (some .int) none K 0 [some (gk_I a0), some (gk_I a1)] [] M
  refine gk_iload_n dX11_first_0 rfl rfl ?_
  refine gk_if_eq (tgt := 8) dX11_first_1 (by decide) h (fun h => ?_) (fun h => ?_)
  · refine gk_iload_n dX11_first_8 rfl rfl ?_
    exact gk_iret dX11_first_9 rfl h
  · refine gk_iload_n dX11_first_4 rfl rfl ?_
    refine gk_goto (tgt := 9) dX11_first_5 (by decide) ?_
    exact gk_iret dX11_first_9 rfl h
set_option maxRecDepth 100000 in
set_option maxHeartbeats 4000000 in
theorem ok_X11_driftToday (a1 : Nat) (a2 : Int32) (M : gk_M) (K : gk_V → gk_M → Prop) (h : gk_Sat gk_I (f_X11_driftToday a1 a2 M) K) : gk_MS 3 yX11_driftToday cX11_driftToday 4 (some .int) [gk_R 6 0, gk_R 5 a1, gk_I a2] M K := by
  have hga1 := h.gd
  have h := hga1.2
  have ha1 := gk_lt_of hga1.1
  refine gk_MS_of [some (gk_R 6 0), some (gk_R 5 a1), some (gk_I a2), none] (by decide +kernel) (Nat.le_of_ble_eq_true rfl) (And.intro rfl (And.intro rfl (And.intro rfl True.intro))) ?_
  show gk_G RX11 cX11_driftToday 4 3 (some .int) none K 0 [some (gk_R 6 0), some (gk_R 5 a1), some (gk_I a2), none] [] M
  refine gk_aload_n dX11_driftToday_0 rfl rfl ?_
  refine gk_get (v := gk_R 2 0) fr_X11_48 pf_6_3 (by decide) dX11_driftToday_1 ?_
  refine gk_aload_n dX11_driftToday_4 rfl rfl ?_
  refine gk_get (v := gk_R 2 0) fr_X11_48 pf_6_3 (by decide) dX11_driftToday_5 ?_
  refine gk_getI fr_X11_158 si_2_4 (by decide) dX11_driftToday_8 ?_
  refine gk_aload_n dX11_driftToday_11 rfl rfl ?_
  refine gk_get (v := gk_R 0 0) fr_X11_34 pf_6_1 (by decide) dX11_driftToday_12 ?_
  refine gk_callV (As := [gk_R 2 0, gk_I (M 2 0 4), gk_R 0 0]) (st := []) 1 (cr_X11_260 (by decide) rfl) (fun K' h' => ok_X4_airOf 0 (M 2 0 4) M K' h') rfl (by decide) (by decide) (fun _ => Nat.le_of_ble_eq_true rfl) dX11_driftToday_15 h (fun _ M1 h => ?_)
  refine gk_aload_n dX11_driftToday_18 rfl rfl ?_
  refine gk_get (v := gk_R 10 0) fr_X11_25 pf_6_0 (by decide) dX11_driftToday_19 ?_
  refine gk_aload_n dX11_driftToday_22 rfl rfl ?_
  refine gk_getI fr_X11_106 si_5_0 ha1 dX11_driftToday_23 ?_
  refine gk_aald (f := fun i j => j) (t0 := 2) ga_10 (fun _ => rfl) (by decide) dX11_driftToday_26 h (fun h hb3 => ?_)
  refine gk_astore_n (L' := [some (gk_R 6 0), some (gk_R 5 a1), some (gk_I a2), some (gk_R 1 (Int32.toNatClampNeg (M1 5 a1 0)))]) dX11_driftToday_27 rfl (by decide) rfl rfl ?_
  refine gk_iload_n dX11_driftToday_28 rfl rfl ?_
  refine gk_if_eq (tgt := 47) dX11_driftToday_29 (by decide) h (fun h => ?_) (fun h => ?_)
  · refine gk_aload_n dX11_driftToday_47 rfl rfl ?_
    refine gk_aload_n dX11_driftToday_48 rfl rfl ?_
    refine gk_get (v := gk_R 0 0) fr_X11_34 pf_6_1 (by decide) dX11_driftToday_49 ?_
    refine gk_aload_n dX11_driftToday_52 rfl rfl ?_
    refine gk_getI fr_X11_111 si_5_1 ha1 dX11_driftToday_53 ?_
    refine cd_X11_268 (st := []) (by decide) (fun _ => Nat.le_of_ble_eq_true rfl) dX11_driftToday_56 h (fun r5 M4 h => ?_)
    exact gk_iret dX11_driftToday_59 rfl h
  · refine gk_aload_n dX11_driftToday_32 rfl rfl ?_
    refine gk_aload_n dX11_driftToday_33 rfl rfl ?_
    refine gk_get (v := gk_R 0 0) fr_X11_34 pf_6_1 (by decide) dX11_driftToday_34 ?_
    refine gk_aload_n dX11_driftToday_37 rfl rfl ?_
    refine gk_getI fr_X11_111 si_5_1 ha1 dX11_driftToday_38 ?_
    refine cd_X11_264 (st := []) (by decide) (fun _ => Nat.le_of_ble_eq_true rfl) dX11_driftToday_41 h (fun r7 M6 h => ?_)
    refine gk_goto (tgt := 59) dX11_driftToday_44 (by decide) ?_
    exact gk_iret dX11_driftToday_59 rfl h
set_option maxRecDepth 100000 in
set_option maxHeartbeats 4000000 in
theorem ok_X11_ship_j134 {K : gk_V → gk_M → Prop} (s0 : Int32) (s1 : Nat) (s3 : Int32) (M : gk_M) (h : gk_Sat gk_I (X11_ship_j134 s0 s1 s3 M) K) : gk_G RX11 cX11_ship 5 4 (some .int) none K 134 [none, none, none, none, none] [gk_I s0, gk_R 5 s1, gk_R 6 0, gk_I s3] M := by
  have hgs1 := h.gd
  have h := hgs1.2
  have hs1 := gk_lt_of hgs1.1
  refine gk_callI (As := [gk_R 6 0, gk_R 5 s1, gk_I s0]) (st := [gk_I s3]) 3 (cr_X11_127 (by decide) rfl) (fun K' h' => ok_X11_driftToday s1 s0 M K' h') rfl (by decide) (by decide) (fun _ => Nat.le_of_ble_eq_true rfl) dX11_ship_134 h (fun r10 M9 h => ?_)
  refine gk_iadd dX11_ship_137 ?_
  exact gk_iret dX11_ship_138 rfl h
set_option maxRecDepth 100000 in
set_option maxHeartbeats 4000000 in
theorem ok_X11_ship (a1 : Int32) (a2 : Int32) (M : gk_M) (K : gk_V → gk_M → Prop) (h : gk_Sat gk_I (f_X11_ship a1 a2 M) K) : gk_MS 4 yX11_ship cX11_ship 5 (some .int) [gk_R 6 0, gk_I a1, gk_I a2] M K := by

  refine gk_MS_of [some (gk_R 6 0), some (gk_I a1), some (gk_I a2), none, none] (by decide +kernel) (Nat.le_of_ble_eq_true rfl) (And.intro rfl (And.intro rfl (And.intro rfl True.intro))) ?_
  show gk_G RX11 cX11_ship 5 4 (some .int) none K 0 [some (gk_R 6 0), some (gk_I a1), some (gk_I a2), none, none] [] M
  refine gk_aload_n dX11_ship_0 rfl rfl ?_
  refine gk_iload_n dX11_ship_1 rfl rfl ?_
  refine gk_callI (As := [gk_R 6 0, gk_I a1]) (st := []) 1 (cr_X11_92 (by decide) rfl) (fun K' h' => ok_X11_nobody a1 M K' h') rfl (by decide) (by decide) (fun _ => Nat.le_of_ble_eq_true rfl) dX11_ship_2 h (fun r2 M1 h => ?_)
  refine gk_iload_n dX11_ship_5 rfl rfl ?_
  refine gk_bipush (v := (7 : Int32)) dX11_ship_6 (by decide) ?_
  refine gk_callI (As := [gk_I a2, gk_I (7 : Int32)]) (st := [gk_I r2]) 0 (cr_X11_95 rfl) (fun K' h' => ok_X11_otherThan a2 (7 : Int32) M1 K' h') rfl (by decide) (by decide) (fun _ => Nat.le_of_ble_eq_true rfl) dX11_ship_8 h (fun r4 M3 h => ?_)
  refine gk_callI (As := [gk_I r2, gk_I r4]) (st := []) 0 (cr_X11_99 rfl) (fun K' h' => ok_X11_first r2 r4 M3 K' h') rfl (by decide) (by decide) (fun _ => Nat.le_of_ble_eq_true rfl) dX11_ship_11 h (fun r6 M5 h => ?_)
  refine gk_istore_n (L' := [some (gk_R 6 0), some (gk_I a1), some (gk_I a2), some (gk_I r6), none]) dX11_ship_14 rfl (by decide) rfl rfl ?_
  refine gk_iload_n dX11_ship_15 rfl rfl ?_
  refine gk_if_eq (tgt := 25) dX11_ship_16 (by decide) h (fun h => ?_) (fun h => ?_)
  · refine gk_aload_n dX11_ship_25 rfl rfl ?_
    refine gk_get (v := gk_R 2 0) fr_X11_48 pf_6_3 (by decide) dX11_ship_26 ?_
    refine gk_get (v := gk_R 9 0) fr_X11_102 pf_2_2 (by decide) dX11_ship_29 ?_
    refine gk_iload_n dX11_ship_32 rfl rfl ?_
    refine gk_aald (f := fun i j => 6 * i + j) (t0 := 1) ga_9 (fun _ => rfl) (by decide) dX11_ship_33 h (fun h hb7 => ?_)
    have hc8 : (6 * 0 + (Int32.toNatClampNeg a1)) < 18 := by omega
    refine gk_astore (L' := [some (gk_R 6 0), some (gk_I a1), some (gk_I a2), some (gk_I r6), some (gk_R 5 (6 * 0 + (Int32.toNatClampNeg a1)))]) dX11_ship_34 (by decide) rfl rfl ?_
    refine gk_iload_n dX11_ship_36 rfl rfl ?_
    rcases Decidable.em (a2 = (0 : Int32)) with e0 | e0
    · refine gk_tabIn (tgt := 76) dX11_ship_37 (0 : Int32) e0 (by decide) (by decide) rfl (by decide) ?_
      have h := h.ite.1 e0
      refine gk_aload dX11_ship_76 rfl ?_
      refine gk_getI fr_X11_106 si_5_0 hc8 dX11_ship_78 ?_
      exact gk_iret dX11_ship_81 rfl h
    · have h := h.ite.2 e0
      rcases Decidable.em (a2 = (1 : Int32)) with e1 | e1
      · refine gk_tabIn (tgt := 82) dX11_ship_37 (1 : Int32) e1 (by decide) (by decide) rfl (by decide) ?_
        have h := h.ite.1 e1
        refine gk_aload dX11_ship_82 rfl ?_
        refine gk_getI fr_X11_111 si_5_1 hc8 dX11_ship_84 ?_
        exact gk_iret dX11_ship_87 rfl h
      · have h := h.ite.2 e1
        rcases Decidable.em (a2 = (2 : Int32)) with e2 | e2
        · refine gk_tabIn (tgt := 88) dX11_ship_37 (2 : Int32) e2 (by decide) (by decide) rfl (by decide) ?_
          have h := h.ite.1 e2
          refine gk_aload dX11_ship_88 rfl ?_
          refine gk_getI fr_X11_114 si_5_2 hc8 dX11_ship_90 ?_
          exact gk_iret dX11_ship_93 rfl h
        · have h := h.ite.2 e2
          rcases Decidable.em (a2 = (3 : Int32)) with e3 | e3
          · refine gk_tabIn (tgt := 94) dX11_ship_37 (3 : Int32) e3 (by decide) (by decide) rfl (by decide) ?_
            have h := h.ite.1 e3
            refine gk_aload dX11_ship_94 rfl ?_
            refine gk_getI fr_X11_117 si_5_3 hc8 dX11_ship_96 ?_
            exact gk_iret dX11_ship_99 rfl h
          · have h := h.ite.2 e3
            rcases Decidable.em (a2 = (4 : Int32)) with e4 | e4
            · refine gk_tabIn (tgt := 100) dX11_ship_37 (4 : Int32) e4 (by decide) (by decide) rfl (by decide) ?_
              have h := h.ite.1 e4
              refine gk_ldc dX11_ship_100 kc_X11_120 ?_
              refine gk_aload dX11_ship_102 rfl ?_
              refine gk_getI fr_X11_121 si_5_4 hc8 dX11_ship_104 ?_
              refine gk_iadd dX11_ship_107 ?_
              exact gk_iret dX11_ship_108 rfl h
            · have h := h.ite.2 e4
              rcases Decidable.em (a2 = (5 : Int32)) with e5 | e5
              · refine gk_tabIn (tgt := 109) dX11_ship_37 (5 : Int32) e5 (by decide) (by decide) rfl (by decide) ?_
                have h := h.ite.1 e5
                refine gk_ldc dX11_ship_109 kc_X11_120 ?_
                refine gk_aload dX11_ship_111 rfl ?_
                refine gk_getI fr_X11_124 si_5_5 hc8 dX11_ship_113 ?_
                refine gk_iadd dX11_ship_116 ?_
                exact gk_iret dX11_ship_117 rfl h
              · have h := h.ite.2 e5
                have q0 : (a2).toInt ≠ 0 := gk_ne_toInt e0
                have q1 : (a2).toInt ≠ 1 := gk_ne_toInt e1
                have q2 : (a2).toInt ≠ 2 := gk_ne_toInt e2
                have q3 : (a2).toInt ≠ 3 := gk_ne_toInt e3
                have q4 : (a2).toInt ≠ 4 := gk_ne_toInt e4
                have q5 : (a2).toInt ≠ 5 := gk_ne_toInt e5
                refine gk_tabOut (tgt := 118) dX11_ship_37 (by omega) (by decide) ?_
                refine gk_ldc dX11_ship_118 kc_X11_120 ?_
                refine gk_aload_n dX11_ship_120 rfl rfl ?_
                refine gk_aload dX11_ship_121 rfl ?_
                refine gk_iload_n dX11_ship_123 rfl rfl ?_
                refine gk_bipush (v := (6 : Int32)) dX11_ship_124 (by decide) ?_
                refine gk_icmp_ne (tgt := 133) dX11_ship_126 (by decide) h (fun h => ?_) (fun h => ?_)
                · refine gk_iconst (v := (0 : Int32)) dX11_ship_133 (by decide) ?_
                  exact gk_weak [none, none, none, none, none] True.intro (ok_X11_ship_j134 ((0 : Int32)) ((6 * 0 + (Int32.toNatClampNeg a1))) ((1000000 : Int32)) M5 h)
                · refine gk_iconst (v := (1 : Int32)) dX11_ship_129 (by decide) ?_
                  refine gk_goto (tgt := 134) dX11_ship_130 (by decide) ?_
                  exact gk_weak [none, none, none, none, none] True.intro (ok_X11_ship_j134 ((1 : Int32)) ((6 * 0 + (Int32.toNatClampNeg a1))) ((1000000 : Int32)) M5 h)
  · refine gk_aload_n dX11_ship_19 rfl rfl ?_
    refine gk_iload_n dX11_ship_20 rfl rfl ?_
    refine gk_callI (As := [gk_R 6 0, gk_I r6]) (st := []) 0 (cr_X11_72 (by decide) rfl) (fun K' h' => ok_X11_refuse r6 M5 K' h') rfl (by decide) (by decide) (fun _ => Nat.le_of_ble_eq_true rfl) dX11_ship_21 h (fun r12 M11 h => ?_)
    exact gk_iret dX11_ship_24 rfl h
set_option maxRecDepth 100000 in
set_option maxHeartbeats 4000000 in
theorem ok_X11_isOfWeek_j14 {K : gk_V → gk_M → Prop}  (M : gk_M) (h : gk_Sat gk_I (X11_isOfWeek_j14  M) K) : gk_G RX11 cX11_isOfWeek 1 0 (some .boolean) none K 14 [none] [] M := by
  refine gk_iconst (v := (0 : Int32)) dX11_isOfWeek_14 (by decide) ?_
  exact gk_zret dX11_isOfWeek_15 rfl h
set_option maxRecDepth 100000 in
set_option maxHeartbeats 4000000 in
theorem ok_X11_isOfWeek (a0 : Int32) (M : gk_M) (K : gk_V → gk_M → Prop) (h : gk_Sat gk_I (f_X11_isOfWeek a0 M) K) : gk_MS 0 yX11_isOfWeek cX11_isOfWeek 1 (some .boolean) [gk_I a0] M K := by

  refine gk_MS_of [some (gk_I a0)] (by decide +kernel) (Nat.le_of_ble_eq_true rfl) (And.intro rfl True.intro) ?_
  show gk_G RX11 cX11_isOfWeek 1 0 (some .boolean) none K 0 [some (gk_I a0)] [] M
  refine gk_iload_n dX11_isOfWeek_0 rfl rfl ?_
  refine gk_if_lt (tgt := 14) dX11_isOfWeek_1 (by decide) h (fun h => ?_) (fun h => ?_)
  · exact gk_weak [none] True.intro (ok_X11_isOfWeek_j14 M h)
  · refine gk_iload_n dX11_isOfWeek_4 rfl rfl ?_
    refine gk_bipush (v := (7 : Int32)) dX11_isOfWeek_5 (by decide) ?_
    refine gk_icmp_ge (tgt := 14) dX11_isOfWeek_7 (by decide) h (fun h => ?_) (fun h => ?_)
    · exact gk_weak [none] True.intro (ok_X11_isOfWeek_j14 M h)
    · refine gk_iconst (v := (1 : Int32)) dX11_isOfWeek_10 (by decide) ?_
      refine gk_goto (tgt := 15) dX11_isOfWeek_11 (by decide) ?_
      exact gk_zret dX11_isOfWeek_15 rfl h
set_option maxRecDepth 100000 in
set_option maxHeartbeats 4000000 in
theorem ok_X11_toldWind (a1 : Int32) (M : gk_M) (K : gk_V → gk_M → Prop) (h : gk_Sat gk_I (f_X11_toldWind a1 M) K) : gk_MS 0 yX11_toldWind cX11_toldWind 2 (some .int) [gk_R 6 0, gk_I a1] M K := by

  refine gk_MS_of [some (gk_R 6 0), some (gk_I a1)] (by decide +kernel) (Nat.le_of_ble_eq_true rfl) (And.intro rfl (And.intro rfl True.intro)) ?_
  show gk_G RX11 cX11_toldWind 2 0 (some .int) none K 0 [some (gk_R 6 0), some (gk_I a1)] [] M
  refine gk_bipush (v := (10 : Int32)) dX11_toldWind_0 (by decide) ?_
  refine gk_iconst (v := (4 : Int32)) dX11_toldWind_2 (by decide) ?_
  refine gk_aload_n dX11_toldWind_3 rfl rfl ?_
  refine gk_get (v := gk_R 2 0) fr_X11_48 pf_6_3 (by decide) dX11_toldWind_4 ?_
  refine gk_get (v := gk_R 7 0) fr_X11_142 pf_2_0 (by decide) dX11_toldWind_7 ?_
  refine gk_iload_n dX11_toldWind_10 rfl rfl ?_
  refine gk_iald ga_7 (by decide) dX11_toldWind_11 h (fun h hb1 => ?_)
  refine gk_iadd dX11_toldWind_12 ?_
  refine gk_imul dX11_toldWind_13 ?_
  refine gk_iconst (v := (4 : Int32)) dX11_toldWind_14 (by decide) ?_
  refine gk_iadd dX11_toldWind_15 ?_
  refine gk_aload_n dX11_toldWind_16 rfl rfl ?_
  refine gk_get (v := gk_R 2 0) fr_X11_48 pf_6_3 (by decide) dX11_toldWind_17 ?_
  refine gk_get (v := gk_R 8 0) fr_X11_145 pf_2_1 (by decide) dX11_toldWind_20 ?_
  refine gk_iload_n dX11_toldWind_23 rfl rfl ?_
  refine gk_iald ga_8 (by decide) dX11_toldWind_24 h (fun h hb2 => ?_)
  refine gk_iadd dX11_toldWind_25 ?_
  exact gk_iret dX11_toldWind_26 rfl h
set_option maxRecDepth 100000 in
set_option maxHeartbeats 4000000 in
theorem ok_X11_wind (a1 : Int32) (M : gk_M) (K : gk_V → gk_M → Prop) (h : gk_Sat gk_I (f_X11_wind a1 M) K) : gk_MS 1 yX11_wind cX11_wind 2 (some .int) [gk_R 6 0, gk_I a1] M K := by

  refine gk_MS_of [some (gk_R 6 0), some (gk_I a1)] (by decide +kernel) (Nat.le_of_ble_eq_true rfl) (And.intro rfl (And.intro rfl True.intro)) ?_
  show gk_G RX11 cX11_wind 2 1 (some .int) none K 0 [some (gk_R 6 0), some (gk_I a1)] [] M
  refine gk_iload_n dX11_wind_0 rfl rfl ?_
  refine gk_callI (As := [gk_I a1]) (st := []) 0 (cr_X11_131 rfl) (fun K' h' => ok_X11_isOfWeek a1 M K' h') rfl (by decide) (by decide) (fun _ => Nat.le_of_ble_eq_true rfl) dX11_wind_1 h (fun r2 M1 h => ?_)
  refine gk_if_eq (tgt := 15) dX11_wind_4 (by decide) h (fun h => ?_) (fun h => ?_)
  · refine gk_aload_n dX11_wind_15 rfl rfl ?_
    refine gk_iconst (v := (-1 : Int32)) dX11_wind_16 (by decide) ?_
    refine gk_callI (As := [gk_R 6 0, gk_I (-1 : Int32)]) (st := []) 0 (cr_X11_72 (by decide) rfl) (fun K' h' => ok_X11_refuse (-1 : Int32) M1 K' h') rfl (by decide) (by decide) (fun _ => Nat.le_of_ble_eq_true rfl) dX11_wind_17 h (fun r4 M3 h => ?_)
    exact gk_iret dX11_wind_20 rfl h
  · refine gk_aload_n dX11_wind_7 rfl rfl ?_
    refine gk_iload_n dX11_wind_8 rfl rfl ?_
    refine gk_callI (As := [gk_R 6 0, gk_I a1]) (st := []) 0 (cr_X11_135 (by decide) rfl) (fun K' h' => ok_X11_toldWind a1 M1 K' h') rfl (by decide) (by decide) (fun _ => Nat.le_of_ble_eq_true rfl) dX11_wind_9 h (fun r6 M5 h => ?_)
    refine gk_goto (tgt := 20) dX11_wind_12 (by decide) ?_
    exact gk_iret dX11_wind_20 rfl h
set_option maxRecDepth 100000 in
set_option maxHeartbeats 4000000 in
theorem ok_X11_range (a0 : Int32) (a1 : Int32) (a2 : Int32) (M : gk_M) (K : gk_V → gk_M → Prop) (h : gk_Sat gk_I (f_X11_range a0 a1 a2 M) K) : gk_MS 0 yX11_range cX11_range 3 (some .int) [gk_I a0, gk_I a1, gk_I a2] M K := by

  refine gk_MS_of [some (gk_I a0), some (gk_I a1), some (gk_I a2)] (by decide +kernel) (Nat.le_of_ble_eq_true rfl) (And.intro rfl (And.intro rfl (And.intro rfl True.intro))) ?_
  show gk_G RX11 cX11_range 3 0 (some .int) none K 0 [some (gk_I a0), some (gk_I a1), some (gk_I a2)] [] M
  refine gk_iload_n dX11_range_0 rfl rfl ?_
  refine gk_iload_n dX11_range_1 rfl rfl ?_
  refine gk_icmp_ge (tgt := 10) dX11_range_2 (by decide) h (fun h => ?_) (fun h => ?_)
  · refine gk_iload_n dX11_range_10 rfl rfl ?_
    refine gk_iload_n dX11_range_11 rfl rfl ?_
    refine gk_icmp_le (tgt := 20) dX11_range_12 (by decide) h (fun h => ?_) (fun h => ?_)
    · refine gk_iconst (v := (0 : Int32)) dX11_range_20 (by decide) ?_
      exact gk_iret dX11_range_21 rfl h
    · refine gk_bipush (v := (-6 : Int32)) dX11_range_15 (by decide) ?_
      refine gk_goto (tgt := 21) dX11_range_17 (by decide) ?_
      exact gk_iret dX11_range_21 rfl h
  · refine gk_bipush (v := (-4 : Int32)) dX11_range_5 (by decide) ?_
    refine gk_goto (tgt := 21) dX11_range_7 (by decide) ?_
    exact gk_iret dX11_range_21 rfl h
set_option maxRecDepth 100000 in
set_option maxHeartbeats 4000000 in
theorem ok_X11_belowFirst (a0 : Int32) (a1 : Int32) (M : gk_M) (K : gk_V → gk_M → Prop) (h : gk_Sat gk_I (f_X11_belowFirst a0 a1 M) K) : gk_MS 1 yX11_belowFirst cX11_belowFirst 2 (some .int) [gk_I a0, gk_I a1] M K := by

  refine gk_MS_of [some (gk_I a0), some (gk_I a1)] (by decide +kernel) (Nat.le_of_ble_eq_true rfl) (And.intro rfl (And.intro rfl True.intro)) ?_
  show gk_G RX11 cX11_belowFirst 2 1 (some .int) none K 0 [some (gk_I a0), some (gk_I a1)] [] M
  refine gk_iload_n dX11_belowFirst_0 rfl rfl ?_
  refine gk_bipush (v := (-4 : Int32)) dX11_belowFirst_1 (by decide) ?_
  refine gk_icmp_ne (tgt := 11) dX11_belowFirst_3 (by decide) h (fun h => ?_) (fun h => ?_)
  · refine gk_iload_n dX11_belowFirst_11 rfl rfl ?_
    refine gk_iload_n dX11_belowFirst_12 rfl rfl ?_
    refine gk_callI (As := [gk_I a0, gk_I a1]) (st := []) 0 (cr_X11_99 rfl) (fun K' h' => ok_X11_first a0 a1 M K' h') rfl (by decide) (by decide) (fun _ => Nat.le_of_ble_eq_true rfl) dX11_belowFirst_13 h (fun r2 M1 h => ?_)
    exact gk_iret dX11_belowFirst_16 rfl h
  · refine gk_bipush (v := (-4 : Int32)) dX11_belowFirst_6 (by decide) ?_
    refine gk_goto (tgt := 16) dX11_belowFirst_8 (by decide) ?_
    exact gk_iret dX11_belowFirst_16 rfl h
set_option maxRecDepth 100000 in
set_option maxHeartbeats 4000000 in
theorem ok_X11_rangeOfTwo (a0 : Int32) (a1 : Int32) (a2 : Int32) (a3 : Int32) (M : gk_M) (K : gk_V → gk_M → Prop) (h : gk_Sat gk_I (f_X11_rangeOfTwo a0 a1 a2 a3 M) K) : gk_MS 2 yX11_rangeOfTwo cX11_rangeOfTwo 4 (some .int) [gk_I a0, gk_I a1, gk_I a2, gk_I a3] M K := by

  refine gk_MS_of [some (gk_I a0), some (gk_I a1), some (gk_I a2), some (gk_I a3)] (by decide +kernel) (Nat.le_of_ble_eq_true rfl) (And.intro rfl (And.intro rfl (And.intro rfl (And.intro rfl True.intro)))) ?_
  show gk_G RX11 cX11_rangeOfTwo 4 2 (some .int) none K 0 [some (gk_I a0), some (gk_I a1), some (gk_I a2), some (gk_I a3)] [] M
  refine gk_iload_n dX11_rangeOfTwo_0 rfl rfl ?_
  refine gk_iload_n dX11_rangeOfTwo_1 rfl rfl ?_
  refine gk_iload_n dX11_rangeOfTwo_2 rfl rfl ?_
  refine gk_callI (As := [gk_I a0, gk_I a2, gk_I a3]) (st := []) 0 (cr_X11_148 rfl) (fun K' h' => ok_X11_range a0 a2 a3 M K' h') rfl (by decide) (by decide) (fun _ => Nat.le_of_ble_eq_true rfl) dX11_rangeOfTwo_3 h (fun r2 M1 h => ?_)
  refine gk_iload_n dX11_rangeOfTwo_6 rfl rfl ?_
  refine gk_iload_n dX11_rangeOfTwo_7 rfl rfl ?_
  refine gk_iload_n dX11_rangeOfTwo_8 rfl rfl ?_
  refine gk_callI (As := [gk_I a1, gk_I a2, gk_I a3]) (st := [gk_I r2]) 0 (cr_X11_148 rfl) (fun K' h' => ok_X11_range a1 a2 a3 M1 K' h') rfl (by decide) (by decide) (fun _ => Nat.le_of_ble_eq_true rfl) dX11_rangeOfTwo_9 h (fun r4 M3 h => ?_)
  refine gk_callI (As := [gk_I r2, gk_I r4]) (st := []) 1 (cr_X11_211 rfl) (fun K' h' => ok_X11_belowFirst r2 r4 M3 K' h') rfl (by decide) (by decide) (fun _ => Nat.le_of_ble_eq_true rfl) dX11_rangeOfTwo_12 h (fun r6 M5 h => ?_)
  exact gk_iret dX11_rangeOfTwo_15 rfl h
set_option maxRecDepth 100000 in
set_option maxHeartbeats 4000000 in
theorem ok_X11_blow (a1 : Int32) (a2 : Int32) (a3 : Int32) (M : gk_M) (K : gk_V → gk_M → Prop) (h : gk_Sat gk_I (f_X11_blow a1 a2 a3 M) K) : gk_MS 3 yX11_blow cX11_blow 6 (some .int) [gk_R 6 0, gk_I a1, gk_I a2, gk_I a3] M K := by

  refine gk_MS_of [some (gk_R 6 0), some (gk_I a1), some (gk_I a2), some (gk_I a3), none, none] (by decide +kernel) (Nat.le_of_ble_eq_true rfl) (And.intro rfl (And.intro rfl (And.intro rfl (And.intro rfl True.intro)))) ?_
  show gk_G RX11 cX11_blow 6 3 (some .int) none K 0 [some (gk_R 6 0), some (gk_I a1), some (gk_I a2), some (gk_I a3), none, none] [] M
  refine gk_iload_n dX11_blow_0 rfl rfl ?_
  refine gk_callI (As := [gk_I a1]) (st := []) 0 (cr_X11_131 rfl) (fun K' h' => ok_X11_isOfWeek a1 M K' h') rfl (by decide) (by decide) (fun _ => Nat.le_of_ble_eq_true rfl) dX11_blow_1 h (fun r2 M1 h => ?_)
  refine gk_if_ne (tgt := 13) dX11_blow_4 (by decide) h (fun h => ?_) (fun h => ?_)
  · refine gk_iload_n dX11_blow_13 rfl rfl ?_
    refine gk_iload_n dX11_blow_14 rfl rfl ?_
    refine gk_bipush (v := (-4 : Int32)) dX11_blow_15 (by decide) ?_
    refine gk_iconst (v := (4 : Int32)) dX11_blow_17 (by decide) ?_
    refine gk_callI (As := [gk_I a2, gk_I a3, gk_I (-4 : Int32), gk_I (4 : Int32)]) (st := []) 2 (cr_X11_138 rfl) (fun K' h' => ok_X11_rangeOfTwo a2 a3 (-4 : Int32) (4 : Int32) M1 K' h') rfl (by decide) (by decide) (fun _ => Nat.le_of_ble_eq_true rfl) dX11_blow_18 h (fun r4 M3 h => ?_)
    refine gk_istore (L' := [some (gk_R 6 0), some (gk_I a1), some (gk_I a2), some (gk_I a3), some (gk_I r4), none]) dX11_blow_21 (by decide) rfl rfl ?_
    refine gk_iload dX11_blow_23 rfl ?_
    refine gk_if_eq (tgt := 35) dX11_blow_25 (by decide) h (fun h => ?_) (fun h => ?_)
    · refine gk_aload_n dX11_blow_35 rfl rfl ?_
      refine gk_iload_n dX11_blow_36 rfl rfl ?_
      refine gk_callI (As := [gk_R 6 0, gk_I a1]) (st := []) 0 (cr_X11_135 (by decide) rfl) (fun K' h' => ok_X11_toldWind a1 M3 K' h') rfl (by decide) (by decide) (fun _ => Nat.le_of_ble_eq_true rfl) dX11_blow_37 h (fun r6 M5 h => ?_)
      refine gk_istore (L' := [some (gk_R 6 0), some (gk_I a1), some (gk_I a2), some (gk_I a3), some (gk_I r4), some (gk_I r6)]) dX11_blow_40 (by decide) rfl rfl ?_
      refine gk_aload_n dX11_blow_42 rfl rfl ?_
      refine gk_get (v := gk_R 2 0) fr_X11_48 pf_6_3 (by decide) dX11_blow_43 ?_
      refine gk_get (v := gk_R 7 0) fr_X11_142 pf_2_0 (by decide) dX11_blow_46 ?_
      refine gk_iload_n dX11_blow_49 rfl rfl ?_
      refine gk_iload_n dX11_blow_50 rfl rfl ?_
      refine gk_iast ga_7 (by decide) dX11_blow_51 h (fun M7 h => ?_)
      refine gk_aload_n dX11_blow_52 rfl rfl ?_
      refine gk_get (v := gk_R 2 0) fr_X11_48 pf_6_3 (by decide) dX11_blow_53 ?_
      refine gk_get (v := gk_R 8 0) fr_X11_145 pf_2_1 (by decide) dX11_blow_56 ?_
      refine gk_iload_n dX11_blow_59 rfl rfl ?_
      refine gk_iload_n dX11_blow_60 rfl rfl ?_
      refine gk_iast ga_8 (by decide) dX11_blow_61 h (fun M8 h => ?_)
      refine gk_iload dX11_blow_62 rfl ?_
      exact gk_iret dX11_blow_64 rfl h
    · refine gk_aload_n dX11_blow_28 rfl rfl ?_
      refine gk_iload dX11_blow_29 rfl ?_
      refine gk_callI (As := [gk_R 6 0, gk_I r4]) (st := []) 0 (cr_X11_72 (by decide) rfl) (fun K' h' => ok_X11_refuse r4 M3 K' h') rfl (by decide) (by decide) (fun _ => Nat.le_of_ble_eq_true rfl) dX11_blow_31 h (fun r10 M9 h => ?_)
      exact gk_iret dX11_blow_34 rfl h
  · refine gk_aload_n dX11_blow_7 rfl rfl ?_
    refine gk_iconst (v := (-1 : Int32)) dX11_blow_8 (by decide) ?_
    refine gk_callI (As := [gk_R 6 0, gk_I (-1 : Int32)]) (st := []) 0 (cr_X11_72 (by decide) rfl) (fun K' h' => ok_X11_refuse (-1 : Int32) M1 K' h') rfl (by decide) (by decide) (fun _ => Nat.le_of_ble_eq_true rfl) dX11_blow_9 h (fun r12 M11 h => ?_)
    exact gk_iret dX11_blow_12 rfl h
set_option maxRecDepth 100000 in
set_option maxHeartbeats 4000000 in
theorem ok_X11_set_j86 {K : gk_V → gk_M → Prop} (x5 : Int32) (M : gk_M) (h : gk_Sat gk_I (X11_set_j86 x5 M) K) : gk_G RX11 cX11_set 6 1 (some .int) none K 86 [none, none, none, none, none, some (gk_I x5)] [] M := by
  refine gk_iload dX11_set_86 rfl ?_
  exact gk_iret dX11_set_88 rfl h
set_option maxRecDepth 100000 in
set_option maxHeartbeats 4000000 in
theorem ok_X11_set_j61 {K : gk_V → gk_M → Prop} (x1 : Int32) (x2 : Int32) (s0 : Int32) (M : gk_M) (h : gk_Sat gk_I (X11_set_j61 x1 x2 s0 M) K) : gk_G RX11 cX11_set 6 1 (some .int) none K 61 [some (gk_R 6 0), some (gk_I x1), some (gk_I x2), none, none, none] [gk_I s0] M := by
  refine gk_istore (L' := [some (gk_R 6 0), some (gk_I x1), some (gk_I x2), none, none, some (gk_I s0)]) dX11_set_61 (by decide) rfl rfl ?_
  refine gk_iload_n dX11_set_63 rfl rfl ?_
  refine gk_if_ne (tgt := 78) dX11_set_64 (by decide) h (fun h => ?_) (fun h => ?_)
  · refine gk_aload_n dX11_set_78 rfl rfl ?_
    refine gk_get (v := gk_R 2 0) fr_X11_48 pf_6_3 (by decide) dX11_set_79 ?_
    refine gk_iload_n dX11_set_82 rfl rfl ?_
    refine gk_putI fr_X11_155 si_2_6 (by decide) dX11_set_83 h (fun M7 h => ?_)
    exact gk_weak [none, none, none, none, none, some (gk_I s0)] (And.intro rfl True.intro) (ok_X11_set_j86 s0 M7 h)
  · refine gk_aload_n dX11_set_67 rfl rfl ?_
    refine gk_get (v := gk_R 2 0) fr_X11_48 pf_6_3 (by decide) dX11_set_68 ?_
    refine gk_iload_n dX11_set_71 rfl rfl ?_
    refine gk_putI fr_X11_152 si_2_5 (by decide) dX11_set_72 h (fun M8 h => ?_)
    refine gk_goto (tgt := 86) dX11_set_75 (by decide) ?_
    exact gk_weak [none, none, none, none, none, some (gk_I s0)] (And.intro rfl True.intro) (ok_X11_set_j86 s0 M8 h)
set_option maxRecDepth 100000 in
set_option maxHeartbeats 4000000 in
theorem ok_X11_set_j11 {K : gk_V → gk_M → Prop} (x1 : Int32) (x2 : Int32) (s0 : Int32) (M : gk_M) (h : gk_Sat gk_I (X11_set_j11 x1 x2 s0 M) K) : gk_G RX11 cX11_set 6 1 (some .int) none K 11 [some (gk_R 6 0), some (gk_I x1), some (gk_I x2), none, none, none] [gk_I s0] M := by
  refine gk_istore_n (L' := [some (gk_R 6 0), some (gk_I x1), some (gk_I x2), some (gk_I s0), none, none]) dX11_set_11 rfl (by decide) rfl rfl ?_
  refine gk_iload_n dX11_set_12 rfl rfl ?_
  refine gk_iconst (v := (1 : Int32)) dX11_set_13 (by decide) ?_
  refine gk_callI (As := [gk_I x1, gk_I (1 : Int32)]) (st := []) 0 (cr_X11_95 rfl) (fun K' h' => ok_X11_otherThan x1 (1 : Int32) M K' h') rfl (by decide) (by decide) (fun _ => Nat.le_of_ble_eq_true rfl) dX11_set_14 h (fun r2 M1 h => ?_)
  refine gk_iload_n dX11_set_17 rfl rfl ?_
  refine gk_iconst (v := (1 : Int32)) dX11_set_18 (by decide) ?_
  refine gk_iload_n dX11_set_19 rfl rfl ?_
  refine gk_callI (As := [gk_I x2, gk_I (1 : Int32), gk_I s0]) (st := [gk_I r2]) 0 (cr_X11_148 rfl) (fun K' h' => ok_X11_range x2 (1 : Int32) s0 M1 K' h') rfl (by decide) (by decide) (fun _ => Nat.le_of_ble_eq_true rfl) dX11_set_20 h (fun r4 M3 h => ?_)
  refine gk_callI (As := [gk_I r2, gk_I r4]) (st := []) 0 (cr_X11_99 rfl) (fun K' h' => ok_X11_first r2 r4 M3 K' h') rfl (by decide) (by decide) (fun _ => Nat.le_of_ble_eq_true rfl) dX11_set_23 h (fun r6 M5 h => ?_)
  refine gk_istore (L' := [some (gk_R 6 0), some (gk_I x1), some (gk_I x2), some (gk_I s0), some (gk_I r6), none]) dX11_set_26 (by decide) rfl rfl ?_
  refine gk_iload dX11_set_28 rfl ?_
  refine gk_if_eq (tgt := 40) dX11_set_30 (by decide) h (fun h => ?_) (fun h => ?_)
  · refine gk_iload_n dX11_set_40 rfl rfl ?_
    refine gk_if_ne (tgt := 54) dX11_set_41 (by decide) h (fun h => ?_) (fun h => ?_)
    · refine gk_aload_n dX11_set_54 rfl rfl ?_
      refine gk_get (v := gk_R 2 0) fr_X11_48 pf_6_3 (by decide) dX11_set_55 ?_
      refine gk_getI fr_X11_155 si_2_6 (by decide) dX11_set_58 ?_
      exact gk_weak [some (gk_R 6 0), some (gk_I x1), some (gk_I x2), none, none, none] (And.intro rfl (And.intro rfl (And.intro rfl True.intro))) (ok_X11_set_j61 x1 x2 ((M5 2 0 6)) M5 h)
    · refine gk_aload_n dX11_set_44 rfl rfl ?_
      refine gk_get (v := gk_R 2 0) fr_X11_48 pf_6_3 (by decide) dX11_set_45 ?_
      refine gk_getI fr_X11_152 si_2_5 (by decide) dX11_set_48 ?_
      refine gk_goto (tgt := 61) dX11_set_51 (by decide) ?_
      exact gk_weak [some (gk_R 6 0), some (gk_I x1), some (gk_I x2), none, none, none] (And.intro rfl (And.intro rfl (And.intro rfl True.intro))) (ok_X11_set_j61 x1 x2 ((M5 2 0 5)) M5 h)
  · refine gk_aload_n dX11_set_33 rfl rfl ?_
    refine gk_iload dX11_set_34 rfl ?_
    refine gk_callI (As := [gk_R 6 0, gk_I r6]) (st := []) 0 (cr_X11_72 (by decide) rfl) (fun K' h' => ok_X11_refuse r6 M5 K' h') rfl (by decide) (by decide) (fun _ => Nat.le_of_ble_eq_true rfl) dX11_set_36 h (fun r10 M9 h => ?_)
    exact gk_iret dX11_set_39 rfl h
set_option maxRecDepth 100000 in
set_option maxHeartbeats 4000000 in
theorem ok_X11_set (a1 : Int32) (a2 : Int32) (M : gk_M) (K : gk_V → gk_M → Prop) (h : gk_Sat gk_I (f_X11_set a1 a2 M) K) : gk_MS 1 yX11_set cX11_set 6 (some .int) [gk_R 6 0, gk_I a1, gk_I a2] M K := by

  refine gk_MS_of [some (gk_R 6 0), some (gk_I a1), some (gk_I a2), none, none, none] (by decide +kernel) (Nat.le_of_ble_eq_true rfl) (And.intro rfl (And.intro rfl (And.intro rfl True.intro))) ?_
  show gk_G RX11 cX11_set 6 1 (some .int) none K 0 [some (gk_R 6 0), some (gk_I a1), some (gk_I a2), none, none, none] [] M
  refine gk_iload_n dX11_set_0 rfl rfl ?_
  refine gk_if_ne (tgt := 9) dX11_set_1 (by decide) h (fun h => ?_) (fun h => ?_)
  · refine gk_bipush (v := (99 : Int32)) dX11_set_9 (by decide) ?_
    exact gk_weak [some (gk_R 6 0), some (gk_I a1), some (gk_I a2), none, none, none] (And.intro rfl (And.intro rfl (And.intro rfl True.intro))) (ok_X11_set_j11 a1 a2 ((99 : Int32)) M h)
  · refine gk_bipush (v := (40 : Int32)) dX11_set_4 (by decide) ?_
    refine gk_goto (tgt := 11) dX11_set_6 (by decide) ?_
    exact gk_weak [some (gk_R 6 0), some (gk_I a1), some (gk_I a2), none, none, none] (And.intro rfl (And.intro rfl (And.intro rfl True.intro))) (ok_X11_set_j11 a1 a2 ((40 : Int32)) M h)
set_option maxRecDepth 100000 in
set_option maxHeartbeats 4000000 in
theorem ok_X11_dayOf (a1 : Nat) (M : gk_M) (K : gk_V → gk_M → Prop) (h : gk_Sat gk_I (f_X11_dayOf a1 M) K) : gk_MS 4 yX11_dayOf cX11_dayOf 2 (some .int) [gk_R 6 0, gk_R 2 a1] M K := by
  have hga1 := h.gd
  have h := hga1.2
  have ha1 := gk_lt_of hga1.1
  refine gk_MS_of [some (gk_R 6 0), some (gk_R 2 a1)] (by decide +kernel) (Nat.le_of_ble_eq_true rfl) (And.intro rfl (And.intro rfl True.intro)) ?_
  show gk_G RX11 cX11_dayOf 2 4 (some .int) none K 0 [some (gk_R 6 0), some (gk_R 2 a1)] [] M
  refine gk_aload_n dX11_dayOf_0 rfl rfl ?_
  refine gk_aload_n dX11_dayOf_1 rfl rfl ?_
  refine gk_getI fr_X11_158 si_2_4 ha1 dX11_dayOf_2 ?_
  refine gk_aload_n dX11_dayOf_5 rfl rfl ?_
  refine gk_get (v := gk_R 0 0) fr_X11_34 pf_6_1 (by decide) dX11_dayOf_6 ?_
  refine gk_callV (As := [gk_R 2 a1, gk_I (M 2 a1 4), gk_R 0 0]) (st := []) 1 (cr_X11_260 ha1 rfl) (fun K' h' => ok_X4_airOf a1 (M 2 a1 4) M K' h') rfl (by decide) (by decide) (fun _ => Nat.le_of_ble_eq_true rfl) dX11_dayOf_9 h (fun _ M1 h => ?_)
  refine gk_aload_n dX11_dayOf_12 rfl rfl ?_
  refine gk_aload_n dX11_dayOf_13 rfl rfl ?_
  refine gk_get (v := gk_R 0 0) fr_X11_34 pf_6_1 (by decide) dX11_dayOf_14 ?_
  refine gk_aload_n dX11_dayOf_17 rfl rfl ?_
  refine gk_get (v := gk_R 10 0) fr_X11_25 pf_6_0 (by decide) dX11_dayOf_18 ?_
  refine gk_callI (As := [gk_R 2 a1, gk_R 0 0, gk_R 10 0]) (st := []) 3 (cr_X11_240 ha1 rfl) (fun K' h' => ok_X4_passDay a1 M1 K' h') rfl (by decide) (by decide) (fun _ => Nat.le_of_ble_eq_true rfl) dX11_dayOf_21 h (fun r4 M3 h => ?_)
  exact gk_iret dX11_dayOf_24 rfl h
set_option maxRecDepth 100000 in
set_option maxHeartbeats 4000000 in
theorem ok_X11_go_l37 {K : gk_V → gk_M → Prop} : ∀ (n : Nat) (x1 : Int32) (x3 : Int32) (x4 : Int32) (M : gk_M), gk_Sat gk_I (X11_go_l37 n x1 x3 x4 M) K → gk_G RX11 cX11_go 5 5 (some .int) none K 37 [some (gk_R 6 0), some (gk_I x1), none, some (gk_I x3), some (gk_I x4)] [] M := by
  intro n
  induction n with
  | zero => intro x1 x3 x4 M h; exact h.no.elim
  | succ n ih =>
    intro x1 x3 x4 M h
    refine gk_iload dX11_go_37 rfl ?_
    refine gk_iload_n dX11_go_39 rfl rfl ?_
    refine gk_icmp_ge (tgt := 60) dX11_go_40 (by decide) h (fun h => ?_) (fun h => ?_)
    · refine gk_aload_n dX11_go_60 rfl rfl ?_
      refine gk_get (v := gk_R 2 0) fr_X11_48 pf_6_3 (by decide) dX11_go_61 ?_
      refine gk_dup dX11_go_64 rfl ?_
      refine gk_getI fr_X11_169 si_2_7 (by decide) dX11_go_65 ?_
      refine gk_iload_n dX11_go_68 rfl rfl ?_
      refine gk_iadd dX11_go_69 ?_
      refine gk_putI fr_X11_169 si_2_7 (by decide) dX11_go_70 h (fun M5 h => ?_)
      refine gk_iload_n dX11_go_73 rfl rfl ?_
      exact gk_iret dX11_go_74 rfl h
    · refine gk_iload_n dX11_go_43 rfl rfl ?_
      refine gk_aload_n dX11_go_44 rfl rfl ?_
      refine gk_aload_n dX11_go_45 rfl rfl ?_
      refine gk_get (v := gk_R 2 0) fr_X11_48 pf_6_3 (by decide) dX11_go_46 ?_
      refine gk_callI (As := [gk_R 6 0, gk_R 2 0]) (st := [gk_I x3]) 4 (cr_X11_166 (by decide) rfl) (fun K' h' => ok_X11_dayOf 0 M K' h') rfl (by decide) (by decide) (fun _ => Nat.le_of_ble_eq_true rfl) dX11_go_49 h (fun r7 M6 h => ?_)
      refine gk_iadd dX11_go_52 ?_
      refine gk_istore_n (L' := [some (gk_R 6 0), some (gk_I x1), none, some (gk_I (x3 + r7)), some (gk_I x4)]) dX11_go_53 rfl (by decide) rfl rfl ?_
      refine gk_iinc (v := (x4 + (1 : Int32))) (L' := [some (gk_R 6 0), some (gk_I x1), none, some (gk_I (x3 + r7)), some (gk_I (x4 + (1 : Int32)))]) dX11_go_54 rfl rfl (by decide) rfl rfl ?_
      refine gk_goto (tgt := 37) dX11_go_57 (by decide) ?_
      exact gk_weak [some (gk_R 6 0), some (gk_I x1), none, some (gk_I (x3 + r7)), some (gk_I (x4 + (1 : Int32)))] (And.intro rfl (And.intro rfl (And.intro rfl (And.intro rfl True.intro)))) (ih x1 ((x3 + r7)) ((x4 + (1 : Int32))) M6 h)
set_option maxRecDepth 100000 in
set_option maxHeartbeats 4000000 in
theorem ok_X11_go (a1 : Int32) (M : gk_M) (K : gk_V → gk_M → Prop) (h : gk_Sat gk_I (f_X11_go a1 M) K) : gk_MS 5 yX11_go cX11_go 5 (some .int) [gk_R 6 0, gk_I a1] M K := by

  refine gk_MS_of [some (gk_R 6 0), some (gk_I a1), none, none, none] (by decide +kernel) (Nat.le_of_ble_eq_true rfl) (And.intro rfl (And.intro rfl True.intro)) ?_
  show gk_G RX11 cX11_go 5 5 (some .int) none K 0 [some (gk_R 6 0), some (gk_I a1), none, none, none] [] M
  refine gk_iload_n dX11_go_0 rfl rfl ?_
  refine gk_iconst (v := (1 : Int32)) dX11_go_1 (by decide) ?_
  refine gk_bipush (v := (60 : Int32)) dX11_go_2 (by decide) ?_
  refine gk_sipush (v := (9999 : Int32)) dX11_go_4 (by decide) ?_
  refine gk_aload_n dX11_go_7 rfl rfl ?_
  refine gk_get (v := gk_R 2 0) fr_X11_48 pf_6_3 (by decide) dX11_go_8 ?_
  refine gk_getI fr_X11_158 si_2_4 (by decide) dX11_go_11 ?_
  refine gk_isub dX11_go_14 ?_
  refine gk_callI (As := [gk_I (60 : Int32), gk_I ((9999 : Int32) - (M 2 0 4))]) (st := [gk_I (1 : Int32), gk_I a1]) 0 (cr_X11_161 rfl) (fun K' h' => ok_J9_min_7cf53 (60 : Int32) ((9999 : Int32) - (M 2 0 4)) M K' h') rfl (by decide) (by decide) (fun _ => Nat.le_of_ble_eq_true rfl) dX11_go_15 h (fun r2 M1 h => ?_)
  refine gk_callI (As := [gk_I a1, gk_I (1 : Int32), gk_I r2]) (st := []) 0 (cr_X11_148 rfl) (fun K' h' => ok_X11_range a1 (1 : Int32) r2 M1 K' h') rfl (by decide) (by decide) (fun _ => Nat.le_of_ble_eq_true rfl) dX11_go_18 h (fun r4 M3 h => ?_)
  refine gk_istore_n (L' := [some (gk_R 6 0), some (gk_I a1), some (gk_I r4), none, none]) dX11_go_21 rfl (by decide) rfl rfl ?_
  refine gk_iload_n dX11_go_22 rfl rfl ?_
  refine gk_if_eq (tgt := 32) dX11_go_23 (by decide) h (fun h => ?_) (fun h => ?_)
  · refine gk_iconst (v := (0 : Int32)) dX11_go_32 (by decide) ?_
    refine gk_istore_n (L' := [some (gk_R 6 0), some (gk_I a1), some (gk_I r4), some (gk_I (0 : Int32)), none]) dX11_go_33 rfl (by decide) rfl rfl ?_
    refine gk_iconst (v := (0 : Int32)) dX11_go_34 (by decide) ?_
    refine gk_istore (L' := [some (gk_R 6 0), some (gk_I a1), some (gk_I r4), some (gk_I (0 : Int32)), some (gk_I (0 : Int32))]) dX11_go_35 (by decide) rfl rfl ?_
    exact gk_weak [some (gk_R 6 0), some (gk_I a1), none, some (gk_I (0 : Int32)), some (gk_I (0 : Int32))] (And.intro rfl (And.intro rfl (And.intro rfl (And.intro rfl True.intro)))) (ok_X11_go_l37 200 a1 ((0 : Int32)) ((0 : Int32)) M3 h)
  · refine gk_aload_n dX11_go_26 rfl rfl ?_
    refine gk_iload_n dX11_go_27 rfl rfl ?_
    refine gk_callI (As := [gk_R 6 0, gk_I r4]) (st := []) 0 (cr_X11_72 (by decide) rfl) (fun K' h' => ok_X11_refuse r4 M3 K' h') rfl (by decide) (by decide) (fun _ => Nat.le_of_ble_eq_true rfl) dX11_go_28 h (fun r9 M8 h => ?_)
    exact gk_iret dX11_go_31 rfl h
set_option maxRecDepth 100000 in
set_option maxHeartbeats 4000000 in
theorem ok_X11_notTwo_j31 {K : gk_V → gk_M → Prop}  (M : gk_M) (h : gk_Sat gk_I (X11_notTwo_j31  M) K) : gk_G RX11 cX11_notTwo 3 1 (some .int) none K 31 [none, none, none] [] M := by
  refine gk_iconst (v := (-1 : Int32)) dX11_notTwo_31 (by decide) ?_
  exact gk_iret dX11_notTwo_32 rfl h
set_option maxRecDepth 100000 in
set_option maxHeartbeats 4000000 in
theorem ok_X11_notTwo (a1 : Int32) (a2 : Int32) (M : gk_M) (K : gk_V → gk_M → Prop) (h : gk_Sat gk_I (f_X11_notTwo a1 a2 M) K) : gk_MS 1 yX11_notTwo cX11_notTwo 3 (some .int) [gk_R 6 0, gk_I a1, gk_I a2] M K := by

  refine gk_MS_of [some (gk_R 6 0), some (gk_I a1), some (gk_I a2)] (by decide +kernel) (Nat.le_of_ble_eq_true rfl) (And.intro rfl (And.intro rfl (And.intro rfl True.intro))) ?_
  show gk_G RX11 cX11_notTwo 3 1 (some .int) none K 0 [some (gk_R 6 0), some (gk_I a1), some (gk_I a2)] [] M
  refine gk_aload_n dX11_notTwo_0 rfl rfl ?_
  refine gk_get (v := gk_R 2 0) fr_X11_48 pf_6_3 (by decide) dX11_notTwo_1 ?_
  refine gk_iload_n dX11_notTwo_4 rfl rfl ?_
  refine gk_callI (As := [gk_R 2 0, gk_I a1]) (st := []) 0 (cr_X11_257 (by decide) rfl) (fun K' h' => ok_X4_has 0 a1 M K' h') rfl (by decide) (by decide) (fun _ => Nat.le_of_ble_eq_true rfl) dX11_notTwo_5 h (fun r2 M1 h => ?_)
  refine gk_if_eq (tgt := 31) dX11_notTwo_8 (by decide) h (fun h => ?_) (fun h => ?_)
  · exact gk_weak [none, none, none] True.intro (ok_X11_notTwo_j31 M1 h)
  · refine gk_aload_n dX11_notTwo_11 rfl rfl ?_
    refine gk_get (v := gk_R 2 0) fr_X11_48 pf_6_3 (by decide) dX11_notTwo_12 ?_
    refine gk_iload_n dX11_notTwo_15 rfl rfl ?_
    refine gk_callI (As := [gk_R 2 0, gk_I a2]) (st := []) 0 (cr_X11_257 (by decide) rfl) (fun K' h' => ok_X4_has 0 a2 M1 K' h') rfl (by decide) (by decide) (fun _ => Nat.le_of_ble_eq_true rfl) dX11_notTwo_16 h (fun r4 M3 h => ?_)
    refine gk_if_eq (tgt := 31) dX11_notTwo_19 (by decide) h (fun h => ?_) (fun h => ?_)
    · exact gk_weak [none, none, none] True.intro (ok_X11_notTwo_j31 M3 h)
    · refine gk_iload_n dX11_notTwo_22 rfl rfl ?_
      refine gk_iload_n dX11_notTwo_23 rfl rfl ?_
      refine gk_icmp_eq (tgt := 31) dX11_notTwo_24 (by decide) h (fun h => ?_) (fun h => ?_)
      · exact gk_weak [none, none, none] True.intro (ok_X11_notTwo_j31 M3 h)
      · refine gk_iconst (v := (0 : Int32)) dX11_notTwo_27 (by decide) ?_
        refine gk_goto (tgt := 32) dX11_notTwo_28 (by decide) ?_
        exact gk_iret dX11_notTwo_32 rfl h
set_option maxRecDepth 100000 in
set_option maxHeartbeats 4000000 in
theorem ok_X11_far (a1 : Int32) (a2 : Int32) (M : gk_M) (K : gk_V → gk_M → Prop) (h : gk_Sat gk_I (f_X11_far a1 a2 M) K) : gk_MS 3 yX11_far cX11_far 4 (some .int) [gk_R 6 0, gk_I a1, gk_I a2] M K := by

  refine gk_MS_of [some (gk_R 6 0), some (gk_I a1), some (gk_I a2), none] (by decide +kernel) (Nat.le_of_ble_eq_true rfl) (And.intro rfl (And.intro rfl (And.intro rfl True.intro))) ?_
  show gk_G RX11 cX11_far 4 3 (some .int) none K 0 [some (gk_R 6 0), some (gk_I a1), some (gk_I a2), none] [] M
  refine gk_aload_n dX11_far_0 rfl rfl ?_
  refine gk_iload_n dX11_far_1 rfl rfl ?_
  refine gk_iload_n dX11_far_2 rfl rfl ?_
  refine gk_callI (As := [gk_R 6 0, gk_I a1, gk_I a2]) (st := []) 1 (cr_X11_172 (by decide) rfl) (fun K' h' => ok_X11_notTwo a1 a2 M K' h') rfl (by decide) (by decide) (fun _ => Nat.le_of_ble_eq_true rfl) dX11_far_3 h (fun r2 M1 h => ?_)
  refine gk_istore_n (L' := [some (gk_R 6 0), some (gk_I a1), some (gk_I a2), some (gk_I r2)]) dX11_far_6 rfl (by decide) rfl rfl ?_
  refine gk_iload_n dX11_far_7 rfl rfl ?_
  refine gk_if_eq (tgt := 19) dX11_far_8 (by decide) h (fun h => ?_) (fun h => ?_)
  · refine gk_aload_n dX11_far_19 rfl rfl ?_
    refine gk_get (v := gk_R 2 0) fr_X11_48 pf_6_3 (by decide) dX11_far_20 ?_
    refine gk_iload_n dX11_far_23 rfl rfl ?_
    refine gk_iload_n dX11_far_24 rfl rfl ?_
    refine gk_callI (As := [gk_R 2 0, gk_I a1, gk_I a2]) (st := []) 2 (cr_X11_175 (by decide) rfl) (fun K' h' => ok_X4_gap 0 a1 a2 M1 K' h') rfl (by decide) (by decide) (fun _ => Nat.le_of_ble_eq_true rfl) dX11_far_25 h (fun r4 M3 h => ?_)
    exact gk_iret dX11_far_28 rfl h
  · refine gk_aload_n dX11_far_11 rfl rfl ?_
    refine gk_iload_n dX11_far_12 rfl rfl ?_
    refine gk_callI (As := [gk_R 6 0, gk_I r2]) (st := []) 0 (cr_X11_72 (by decide) rfl) (fun K' h' => ok_X11_refuse r2 M1 K' h') rfl (by decide) (by decide) (fun _ => Nat.le_of_ble_eq_true rfl) dX11_far_13 h (fun r6 M5 h => ?_)
    refine gk_goto (tgt := 28) dX11_far_16 (by decide) ?_
    exact gk_iret dX11_far_28 rfl h
set_option maxRecDepth 100000 in
set_option maxHeartbeats 4000000 in
theorem ok_X11_open_j58 {K : gk_V → gk_M → Prop} (x1 : Int32) (x2 : Int32) (s0 : Int32) (M : gk_M) (h : gk_Sat gk_I (X11_open_j58 x1 x2 s0 M) K) : gk_G RX11 cX11_open 6 3 (some .int) none K 58 [some (gk_R 6 0), some (gk_I x1), some (gk_I x2), none, none, none] [gk_I s0] M := by
  refine gk_istore (L' := [some (gk_R 6 0), some (gk_I x1), some (gk_I x2), none, none, some (gk_I s0)]) dX11_open_58 (by decide) rfl rfl ?_
  refine gk_aload_n dX11_open_60 rfl rfl ?_
  refine gk_get (v := gk_R 2 0) fr_X11_48 pf_6_3 (by decide) dX11_open_61 ?_
  refine gk_iload_n dX11_open_64 rfl rfl ?_
  refine gk_iload_n dX11_open_65 rfl rfl ?_
  refine gk_callI (As := [gk_R 2 0, gk_I x1, gk_I x2]) (st := []) 2 (cr_X11_175 (by decide) rfl) (fun K' h' => ok_X4_gap 0 x1 x2 M K' h') rfl (by decide) (by decide) (fun _ => Nat.le_of_ble_eq_true rfl) dX11_open_66 h (fun r8 M7 h => ?_)
  refine gk_iload dX11_open_69 rfl ?_
  refine gk_icmp_gt (tgt := 78) dX11_open_71 (by decide) h (fun h => ?_) (fun h => ?_)
  · refine gk_iconst (v := (0 : Int32)) dX11_open_78 (by decide) ?_
    exact gk_iret dX11_open_79 rfl h
  · refine gk_iconst (v := (1 : Int32)) dX11_open_74 (by decide) ?_
    refine gk_goto (tgt := 79) dX11_open_75 (by decide) ?_
    exact gk_iret dX11_open_79 rfl h
set_option maxRecDepth 100000 in
set_option maxHeartbeats 4000000 in
theorem ok_X11_open (a1 : Int32) (a2 : Int32) (a3 : Int32) (M : gk_M) (K : gk_V → gk_M → Prop) (h : gk_Sat gk_I (f_X11_open a1 a2 a3 M) K) : gk_MS 3 yX11_open cX11_open 6 (some .int) [gk_R 6 0, gk_I a1, gk_I a2, gk_I a3] M K := by

  refine gk_MS_of [some (gk_R 6 0), some (gk_I a1), some (gk_I a2), some (gk_I a3), none, none] (by decide +kernel) (Nat.le_of_ble_eq_true rfl) (And.intro rfl (And.intro rfl (And.intro rfl (And.intro rfl True.intro)))) ?_
  show gk_G RX11 cX11_open 6 3 (some .int) none K 0 [some (gk_R 6 0), some (gk_I a1), some (gk_I a2), some (gk_I a3), none, none] [] M
  refine gk_aload_n dX11_open_0 rfl rfl ?_
  refine gk_iload_n dX11_open_1 rfl rfl ?_
  refine gk_iload_n dX11_open_2 rfl rfl ?_
  refine gk_callI (As := [gk_R 6 0, gk_I a1, gk_I a2]) (st := []) 1 (cr_X11_172 (by decide) rfl) (fun K' h' => ok_X11_notTwo a1 a2 M K' h') rfl (by decide) (by decide) (fun _ => Nat.le_of_ble_eq_true rfl) dX11_open_3 h (fun r2 M1 h => ?_)
  refine gk_iload_n dX11_open_6 rfl rfl ?_
  refine gk_iconst (v := (2 : Int32)) dX11_open_7 (by decide) ?_
  refine gk_callI (As := [gk_I a3, gk_I (2 : Int32)]) (st := [gk_I r2]) 0 (cr_X11_95 rfl) (fun K' h' => ok_X11_otherThan a3 (2 : Int32) M1 K' h') rfl (by decide) (by decide) (fun _ => Nat.le_of_ble_eq_true rfl) dX11_open_8 h (fun r4 M3 h => ?_)
  refine gk_callI (As := [gk_I r2, gk_I r4]) (st := []) 0 (cr_X11_99 rfl) (fun K' h' => ok_X11_first r2 r4 M3 K' h') rfl (by decide) (by decide) (fun _ => Nat.le_of_ble_eq_true rfl) dX11_open_11 h (fun r6 M5 h => ?_)
  refine gk_istore (L' := [some (gk_R 6 0), some (gk_I a1), some (gk_I a2), some (gk_I a3), some (gk_I r6), none]) dX11_open_14 (by decide) rfl rfl ?_
  refine gk_iload dX11_open_16 rfl ?_
  refine gk_if_eq (tgt := 28) dX11_open_18 (by decide) h (fun h => ?_) (fun h => ?_)
  · refine gk_iload_n dX11_open_28 rfl rfl ?_
    refine gk_if_ne (tgt := 42) dX11_open_29 (by decide) h (fun h => ?_) (fun h => ?_)
    · refine gk_iload_n dX11_open_42 rfl rfl ?_
      refine gk_iconst (v := (1 : Int32)) dX11_open_43 (by decide) ?_
      refine gk_icmp_ne (tgt := 51) dX11_open_44 (by decide) h (fun h => ?_) (fun h => ?_)
      · refine gk_aload_n dX11_open_51 rfl rfl ?_
        refine gk_get (v := gk_R 2 0) fr_X11_48 pf_6_3 (by decide) dX11_open_52 ?_
        refine gk_getI fr_X11_155 si_2_6 (by decide) dX11_open_55 ?_
        exact gk_weak [some (gk_R 6 0), some (gk_I a1), some (gk_I a2), none, none, none] (And.intro rfl (And.intro rfl (And.intro rfl True.intro))) (ok_X11_open_j58 a1 a2 ((M5 2 0 6)) M5 h)
      · refine gk_iconst (v := (1 : Int32)) dX11_open_47 (by decide) ?_
        refine gk_goto (tgt := 58) dX11_open_48 (by decide) ?_
        exact gk_weak [some (gk_R 6 0), some (gk_I a1), some (gk_I a2), none, none, none] (And.intro rfl (And.intro rfl (And.intro rfl True.intro))) (ok_X11_open_j58 a1 a2 ((1 : Int32)) M5 h)
    · refine gk_aload_n dX11_open_32 rfl rfl ?_
      refine gk_get (v := gk_R 2 0) fr_X11_48 pf_6_3 (by decide) dX11_open_33 ?_
      refine gk_getI fr_X11_152 si_2_5 (by decide) dX11_open_36 ?_
      refine gk_goto (tgt := 58) dX11_open_39 (by decide) ?_
      exact gk_weak [some (gk_R 6 0), some (gk_I a1), some (gk_I a2), none, none, none] (And.intro rfl (And.intro rfl (And.intro rfl True.intro))) (ok_X11_open_j58 a1 a2 ((M5 2 0 5)) M5 h)
  · refine gk_aload_n dX11_open_21 rfl rfl ?_
    refine gk_iload dX11_open_22 rfl ?_
    refine gk_callI (As := [gk_R 6 0, gk_I r6]) (st := []) 0 (cr_X11_72 (by decide) rfl) (fun K' h' => ok_X11_refuse r6 M5 K' h') rfl (by decide) (by decide) (fun _ => Nat.le_of_ble_eq_true rfl) dX11_open_24 h (fun r10 M9 h => ?_)
    exact gk_iret dX11_open_27 rfl h
set_option maxRecDepth 100000 in
set_option maxHeartbeats 4000000 in
theorem ok_X11_behind_l45 {K : gk_V → gk_M → Prop} : ∀ (n : Nat) (x1 : Int32) (x2 : Int32) (x4 : Int32) (M : gk_M), gk_Sat gk_L (X11_behind_l45 n x1 x2 x4 M) K → gk_G RX11 cX11_behind 8 5 (some .long) none K 45 [some (gk_R 6 0), some (gk_I x1), some (gk_I x2), none, some (gk_I x4), none, none, none] [] M := by
  intro n
  induction n with
  | zero => intro x1 x2 x4 M h; exact h.no.elim
  | succ n ih =>
    intro x1 x2 x4 M h
    refine gk_iload dX11_behind_45 rfl ?_
    refine gk_iload_n dX11_behind_47 rfl rfl ?_
    refine gk_icmp_ge (tgt := 66) dX11_behind_48 (by decide) h (fun h => ?_) (fun h => ?_)
    · refine gk_aload_n dX11_behind_66 rfl rfl ?_
      refine gk_get (v := gk_R 2 1) fr_X11_52 pf_6_4 (by decide) dX11_behind_67 ?_
      refine gk_get (v := gk_R 9 1) fr_X11_102 pf_2_2 (by decide) dX11_behind_70 ?_
      refine gk_iload_n dX11_behind_73 rfl rfl ?_
      refine gk_aald (f := fun i j => 6 * i + j) (t0 := 1) ga_9 (fun _ => rfl) (by decide) dX11_behind_74 h (fun h hb9 => ?_)
      have hc10 : (6 * 1 + (Int32.toNatClampNeg x1)) < 18 := by omega
      refine gk_getI fr_X11_121 si_5_4 hc10 dX11_behind_75 ?_
      refine gk_aload_n dX11_behind_78 rfl rfl ?_
      refine gk_get (v := gk_R 2 0) fr_X11_48 pf_6_3 (by decide) dX11_behind_79 ?_
      refine gk_get (v := gk_R 9 0) fr_X11_102 pf_2_2 (by decide) dX11_behind_82 ?_
      refine gk_iload_n dX11_behind_85 rfl rfl ?_
      refine gk_aald (f := fun i j => 6 * i + j) (t0 := 1) ga_9 (fun _ => rfl) (by decide) dX11_behind_86 h (fun h hb11 => ?_)
      have hc12 : (6 * 0 + (Int32.toNatClampNeg x1)) < 18 := by omega
      refine gk_getI fr_X11_121 si_5_4 hc12 dX11_behind_87 ?_
      refine gk_isub dX11_behind_90 ?_
      refine gk_i2l dX11_behind_91 ?_
      refine gk_lstore (L' := [some (gk_R 6 0), some (gk_I x1), some (gk_I x2), none, some (gk_L (Int32.toInt64 ((M 5 (6 * 1 + (Int32.toNatClampNeg x1)) 4) - (M 5 (6 * 0 + (Int32.toNatClampNeg x1)) 4)))), none, none, none]) dX11_behind_92 (by decide) rfl rfl ?_
      refine gk_aload_n dX11_behind_94 rfl rfl ?_
      refine gk_get (v := gk_R 2 1) fr_X11_52 pf_6_4 (by decide) dX11_behind_95 ?_
      refine gk_get (v := gk_R 9 1) fr_X11_102 pf_2_2 (by decide) dX11_behind_98 ?_
      refine gk_iload_n dX11_behind_101 rfl rfl ?_
      refine gk_aald (f := fun i j => 6 * i + j) (t0 := 1) ga_9 (fun _ => rfl) (by decide) dX11_behind_102 h (fun h hb13 => ?_)
      have hc14 : (6 * 1 + (Int32.toNatClampNeg x1)) < 18 := by omega
      refine gk_getI fr_X11_124 si_5_5 hc14 dX11_behind_103 ?_
      refine gk_aload_n dX11_behind_106 rfl rfl ?_
      refine gk_get (v := gk_R 2 0) fr_X11_48 pf_6_3 (by decide) dX11_behind_107 ?_
      refine gk_get (v := gk_R 9 0) fr_X11_102 pf_2_2 (by decide) dX11_behind_110 ?_
      refine gk_iload_n dX11_behind_113 rfl rfl ?_
      refine gk_aald (f := fun i j => 6 * i + j) (t0 := 1) ga_9 (fun _ => rfl) (by decide) dX11_behind_114 h (fun h hb15 => ?_)
      have hc16 : (6 * 0 + (Int32.toNatClampNeg x1)) < 18 := by omega
      refine gk_getI fr_X11_124 si_5_5 hc16 dX11_behind_115 ?_
      refine gk_isub dX11_behind_118 ?_
      refine gk_i2l dX11_behind_119 ?_
      refine gk_lstore (L' := [some (gk_R 6 0), some (gk_I x1), some (gk_I x2), none, some (gk_L (Int32.toInt64 ((M 5 (6 * 1 + (Int32.toNatClampNeg x1)) 4) - (M 5 (6 * 0 + (Int32.toNatClampNeg x1)) 4)))), none, some (gk_L (Int32.toInt64 ((M 5 (6 * 1 + (Int32.toNatClampNeg x1)) 5) - (M 5 (6 * 0 + (Int32.toNatClampNeg x1)) 5)))), none]) dX11_behind_120 (by decide) rfl rfl ?_
      refine gk_ldc2 dX11_behind_122 kc_X11_180 ?_
      refine gk_lload dX11_behind_125 rfl ?_
      refine gk_lmul dX11_behind_127 ?_
      refine gk_lload dX11_behind_128 rfl ?_
      refine gk_ladd dX11_behind_130 ?_
      exact gk_lret dX11_behind_131 rfl h
    · refine gk_aload_n dX11_behind_51 rfl rfl ?_
      refine gk_aload_n dX11_behind_52 rfl rfl ?_
      refine gk_get (v := gk_R 2 1) fr_X11_52 pf_6_4 (by decide) dX11_behind_53 ?_
      refine gk_callI (As := [gk_R 6 0, gk_R 2 1]) (st := []) 4 (cr_X11_166 (by decide) rfl) (fun K' h' => ok_X11_dayOf 1 M K' h') rfl (by decide) (by decide) (fun _ => Nat.le_of_ble_eq_true rfl) dX11_behind_56 h (fun r18 M17 h => ?_)
      refine gk_pop dX11_behind_59 rfl ?_
      refine gk_iinc (v := (x4 + (1 : Int32))) (L' := [some (gk_R 6 0), some (gk_I x1), some (gk_I x2), none, some (gk_I (x4 + (1 : Int32))), none, none, none]) dX11_behind_60 rfl rfl (by decide) rfl rfl ?_
      refine gk_goto (tgt := 45) dX11_behind_63 (by decide) ?_
      exact gk_weak [some (gk_R 6 0), some (gk_I x1), some (gk_I x2), none, some (gk_I (x4 + (1 : Int32))), none, none, none] (And.intro rfl (And.intro rfl (And.intro rfl (And.intro rfl True.intro)))) (ih x1 x2 ((x4 + (1 : Int32))) M17 h)
set_option maxRecDepth 100000 in
set_option maxHeartbeats 4000000 in
theorem ok_X11_behind (a1 : Int32) (a2 : Int32) (M : gk_M) (K : gk_V → gk_M → Prop) (h : gk_Sat gk_L (f_X11_behind a1 a2 M) K) : gk_MS 5 yX11_behind cX11_behind 8 (some .long) [gk_R 6 0, gk_I a1, gk_I a2] M K := by

  refine gk_MS_of [some (gk_R 6 0), some (gk_I a1), some (gk_I a2), none, none, none, none, none] (by decide +kernel) (Nat.le_of_ble_eq_true rfl) (And.intro rfl (And.intro rfl (And.intro rfl True.intro))) ?_
  show gk_G RX11 cX11_behind 8 5 (some .long) none K 0 [some (gk_R 6 0), some (gk_I a1), some (gk_I a2), none, none, none, none, none] [] M
  refine gk_aload_n dX11_behind_0 rfl rfl ?_
  refine gk_iload_n dX11_behind_1 rfl rfl ?_
  refine gk_callI (As := [gk_R 6 0, gk_I a1]) (st := []) 1 (cr_X11_92 (by decide) rfl) (fun K' h' => ok_X11_nobody a1 M K' h') rfl (by decide) (by decide) (fun _ => Nat.le_of_ble_eq_true rfl) dX11_behind_2 h (fun r2 M1 h => ?_)
  refine gk_iload_n dX11_behind_5 rfl rfl ?_
  refine gk_iconst (v := (0 : Int32)) dX11_behind_6 (by decide) ?_
  refine gk_bipush (v := (60 : Int32)) dX11_behind_7 (by decide) ?_
  refine gk_callI (As := [gk_I a2, gk_I (0 : Int32), gk_I (60 : Int32)]) (st := [gk_I r2]) 0 (cr_X11_148 rfl) (fun K' h' => ok_X11_range a2 (0 : Int32) (60 : Int32) M1 K' h') rfl (by decide) (by decide) (fun _ => Nat.le_of_ble_eq_true rfl) dX11_behind_9 h (fun r4 M3 h => ?_)
  refine gk_callI (As := [gk_I r2, gk_I r4]) (st := []) 0 (cr_X11_99 rfl) (fun K' h' => ok_X11_first r2 r4 M3 K' h') rfl (by decide) (by decide) (fun _ => Nat.le_of_ble_eq_true rfl) dX11_behind_12 h (fun r6 M5 h => ?_)
  refine gk_istore_n (L' := [some (gk_R 6 0), some (gk_I a1), some (gk_I a2), some (gk_I r6), none, none, none, none]) dX11_behind_15 rfl (by decide) rfl rfl ?_
  refine gk_iload_n dX11_behind_16 rfl rfl ?_
  refine gk_if_eq (tgt := 31) dX11_behind_17 (by decide) h (fun h => ?_) (fun h => ?_)
  · refine gk_aload_n dX11_behind_31 rfl rfl ?_
    refine gk_get (v := gk_R 2 1) fr_X11_52 pf_6_4 (by decide) dX11_behind_32 ?_
    refine gk_aload_n dX11_behind_35 rfl rfl ?_
    refine gk_get (v := gk_R 2 0) fr_X11_48 pf_6_3 (by decide) dX11_behind_36 ?_
    refine gk_callV (As := [gk_R 2 1, gk_R 2 0]) (st := []) 1 (cr_X11_84 (by decide) rfl) (fun K' h' => ok_X4_copyFrom 1 0 M5 K' h') rfl (by decide) (by decide) (fun _ => Nat.le_of_ble_eq_true rfl) dX11_behind_39 h (fun _ M7 h => ?_)
    refine gk_iconst (v := (0 : Int32)) dX11_behind_42 (by decide) ?_
    refine gk_istore (L' := [some (gk_R 6 0), some (gk_I a1), some (gk_I a2), some (gk_I r6), some (gk_I (0 : Int32)), none, none, none]) dX11_behind_43 (by decide) rfl rfl ?_
    exact gk_weak [some (gk_R 6 0), some (gk_I a1), some (gk_I a2), none, some (gk_I (0 : Int32)), none, none, none] (And.intro rfl (And.intro rfl (And.intro rfl (And.intro rfl True.intro)))) (ok_X11_behind_l45 200 a1 a2 ((0 : Int32)) M7 h)
  · refine gk_ldc2 dX11_behind_20 kc_X11_178 ?_
    refine gk_aload_n dX11_behind_23 rfl rfl ?_
    refine gk_iload_n dX11_behind_24 rfl rfl ?_
    refine gk_callI (As := [gk_R 6 0, gk_I r6]) (st := [gk_L (4000000000000000000 : Int64)]) 0 (cr_X11_72 (by decide) rfl) (fun K' h' => ok_X11_refuse r6 M5 K' h') rfl (by decide) (by decide) (fun _ => Nat.le_of_ble_eq_true rfl) dX11_behind_25 h (fun r20 M19 h => ?_)
    refine gk_i2l dX11_behind_28 ?_
    refine gk_lsub dX11_behind_29 ?_
    exact gk_lret dX11_behind_30 rfl h
set_option maxRecDepth 100000 in
set_option maxHeartbeats 4000000 in
theorem ok_X11_meet_l31 {K : gk_V → gk_M → Prop} : ∀ (n : Nat) (x1 : Int32) (x2 : Int32) (x4 : Int32) (M : gk_M), gk_Sat gk_I (X11_meet_l31 n x1 x2 x4 M) K → gk_G RX11 cX11_meet 5 5 (some .int) none K 31 [some (gk_R 6 0), some (gk_I x1), some (gk_I x2), none, some (gk_I x4)] [] M := by
  intro n
  induction n with
  | zero => intro x1 x2 x4 M h; exact h.no.elim
  | succ n ih =>
    intro x1 x2 x4 M h
    refine gk_iload dX11_meet_31 rfl ?_
    refine gk_bipush (v := (60 : Int32)) dX11_meet_33 (by decide) ?_
    refine gk_icmp_gt (tgt := 69) dX11_meet_35 (by decide) h (fun h => ?_) (fun h => ?_)
    · refine gk_bipush (v := (-9 : Int32)) dX11_meet_69 (by decide) ?_
      exact gk_iret dX11_meet_71 rfl h
    · refine gk_aload_n dX11_meet_38 rfl rfl ?_
      refine gk_get (v := gk_R 2 1) fr_X11_52 pf_6_4 (by decide) dX11_meet_39 ?_
      refine gk_iload_n dX11_meet_42 rfl rfl ?_
      refine gk_iload_n dX11_meet_43 rfl rfl ?_
      refine gk_callI (As := [gk_R 2 1, gk_I x1, gk_I x2]) (st := []) 2 (cr_X11_175 (by decide) rfl) (fun K' h' => ok_X4_gap 1 x1 x2 M K' h') rfl (by decide) (by decide) (fun _ => Nat.le_of_ble_eq_true rfl) dX11_meet_44 h (fun r6 M5 h => ?_)
      refine gk_iconst (v := (1 : Int32)) dX11_meet_47 (by decide) ?_
      refine gk_icmp_gt (tgt := 54) dX11_meet_48 (by decide) h (fun h => ?_) (fun h => ?_)
      · refine gk_aload_n dX11_meet_54 rfl rfl ?_
        refine gk_aload_n dX11_meet_55 rfl rfl ?_
        refine gk_get (v := gk_R 2 1) fr_X11_52 pf_6_4 (by decide) dX11_meet_56 ?_
        refine gk_callI (As := [gk_R 6 0, gk_R 2 1]) (st := []) 4 (cr_X11_166 (by decide) rfl) (fun K' h' => ok_X11_dayOf 1 M5 K' h') rfl (by decide) (by decide) (fun _ => Nat.le_of_ble_eq_true rfl) dX11_meet_59 h (fun r8 M7 h => ?_)
        refine gk_pop dX11_meet_62 rfl ?_
        refine gk_iinc (v := (x4 + (1 : Int32))) (L' := [some (gk_R 6 0), some (gk_I x1), some (gk_I x2), none, some (gk_I (x4 + (1 : Int32)))]) dX11_meet_63 rfl rfl (by decide) rfl rfl ?_
        refine gk_goto (tgt := 31) dX11_meet_66 (by decide) ?_
        exact gk_weak [some (gk_R 6 0), some (gk_I x1), some (gk_I x2), none, some (gk_I (x4 + (1 : Int32)))] (And.intro rfl (And.intro rfl (And.intro rfl (And.intro rfl True.intro)))) (ih x1 x2 ((x4 + (1 : Int32))) M7 h)
      · refine gk_iload dX11_meet_51 rfl ?_
        exact gk_iret dX11_meet_53 rfl h
set_option maxRecDepth 100000 in
set_option maxHeartbeats 4000000 in
theorem ok_X11_meet (a1 : Int32) (a2 : Int32) (M : gk_M) (K : gk_V → gk_M → Prop) (h : gk_Sat gk_I (f_X11_meet a1 a2 M) K) : gk_MS 5 yX11_meet cX11_meet 5 (some .int) [gk_R 6 0, gk_I a1, gk_I a2] M K := by

  refine gk_MS_of [some (gk_R 6 0), some (gk_I a1), some (gk_I a2), none, none] (by decide +kernel) (Nat.le_of_ble_eq_true rfl) (And.intro rfl (And.intro rfl (And.intro rfl True.intro))) ?_
  show gk_G RX11 cX11_meet 5 5 (some .int) none K 0 [some (gk_R 6 0), some (gk_I a1), some (gk_I a2), none, none] [] M
  refine gk_aload_n dX11_meet_0 rfl rfl ?_
  refine gk_iload_n dX11_meet_1 rfl rfl ?_
  refine gk_iload_n dX11_meet_2 rfl rfl ?_
  refine gk_callI (As := [gk_R 6 0, gk_I a1, gk_I a2]) (st := []) 1 (cr_X11_172 (by decide) rfl) (fun K' h' => ok_X11_notTwo a1 a2 M K' h') rfl (by decide) (by decide) (fun _ => Nat.le_of_ble_eq_true rfl) dX11_meet_3 h (fun r2 M1 h => ?_)
  refine gk_istore_n (L' := [some (gk_R 6 0), some (gk_I a1), some (gk_I a2), some (gk_I r2), none]) dX11_meet_6 rfl (by decide) rfl rfl ?_
  refine gk_iload_n dX11_meet_7 rfl rfl ?_
  refine gk_if_eq (tgt := 17) dX11_meet_8 (by decide) h (fun h => ?_) (fun h => ?_)
  · refine gk_aload_n dX11_meet_17 rfl rfl ?_
    refine gk_get (v := gk_R 2 1) fr_X11_52 pf_6_4 (by decide) dX11_meet_18 ?_
    refine gk_aload_n dX11_meet_21 rfl rfl ?_
    refine gk_get (v := gk_R 2 0) fr_X11_48 pf_6_3 (by decide) dX11_meet_22 ?_
    refine gk_callV (As := [gk_R 2 1, gk_R 2 0]) (st := []) 1 (cr_X11_84 (by decide) rfl) (fun K' h' => ok_X4_copyFrom 1 0 M1 K' h') rfl (by decide) (by decide) (fun _ => Nat.le_of_ble_eq_true rfl) dX11_meet_25 h (fun _ M3 h => ?_)
    refine gk_iconst (v := (0 : Int32)) dX11_meet_28 (by decide) ?_
    refine gk_istore (L' := [some (gk_R 6 0), some (gk_I a1), some (gk_I a2), some (gk_I r2), some (gk_I (0 : Int32))]) dX11_meet_29 (by decide) rfl rfl ?_
    exact gk_weak [some (gk_R 6 0), some (gk_I a1), some (gk_I a2), none, some (gk_I (0 : Int32))] (And.intro rfl (And.intro rfl (And.intro rfl (And.intro rfl True.intro)))) (ok_X11_meet_l31 200 a1 a2 ((0 : Int32)) M3 h)
  · refine gk_aload_n dX11_meet_11 rfl rfl ?_
    refine gk_iload_n dX11_meet_12 rfl rfl ?_
    refine gk_callI (As := [gk_R 6 0, gk_I r2]) (st := []) 0 (cr_X11_72 (by decide) rfl) (fun K' h' => ok_X11_refuse r2 M1 K' h') rfl (by decide) (by decide) (fun _ => Nat.le_of_ble_eq_true rfl) dX11_meet_13 h (fun r10 M9 h => ?_)
    exact gk_iret dX11_meet_16 rfl h
set_option maxRecDepth 100000 in
set_option maxHeartbeats 4000000 in
theorem ok_X11_nearest_j108 {K : gk_V → gk_M → Prop} (κ67 : Int32 → Int32 → Int32 → Int32 → Int32 → Int32 → Int32 → gk_M → Option (Int32 × gk_M)) (hκ67 : ∀ (x1 : Int32) (x2 : Int32) (x3 : Int32) (x4 : Int32) (x6 : Int32) (x7 : Int32) (x8 : Int32) (M : gk_M), gk_Sat gk_I (κ67 x1 x2 x3 x4 x6 x7 x8 M) K → gk_G RX11 cX11_nearest 10 5 (some .int) none K 67 [some (gk_R 6 0), some (gk_I x1), some (gk_I x2), some (gk_I x3), some (gk_I x4), none, some (gk_I x6), some (gk_I x7), some (gk_I x8), none] [] M) (x1 : Int32) (x2 : Int32) (x3 : Int32) (x4 : Int32) (x6 : Int32) (x7 : Int32) (x8 : Int32) (M : gk_M) (h : gk_Sat gk_I (X11_nearest_j108 κ67 x1 x2 x3 x4 x6 x7 x8 M) K) : gk_G RX11 cX11_nearest 10 5 (some .int) none K 108 [some (gk_R 6 0), some (gk_I x1), some (gk_I x2), some (gk_I x3), some (gk_I x4), none, some (gk_I x6), some (gk_I x7), some (gk_I x8), none] [] M := by
  refine gk_iinc (v := (x8 + (1 : Int32))) (L' := [some (gk_R 6 0), some (gk_I x1), some (gk_I x2), some (gk_I x3), some (gk_I x4), none, some (gk_I x6), some (gk_I x7), some (gk_I (x8 + (1 : Int32))), none]) dX11_nearest_108 rfl rfl (by decide) rfl rfl ?_
  refine gk_goto (tgt := 67) dX11_nearest_111 (by decide) ?_
  exact gk_weak [some (gk_R 6 0), some (gk_I x1), some (gk_I x2), some (gk_I x3), some (gk_I x4), none, some (gk_I x6), some (gk_I x7), some (gk_I (x8 + (1 : Int32))), none] (And.intro rfl (And.intro rfl (And.intro rfl (And.intro rfl (And.intro rfl (And.intro rfl (And.intro rfl (And.intro rfl True.intro)))))))) (hκ67 x1 x2 x3 x4 x6 x7 ((x8 + (1 : Int32))) M h)
set_option maxRecDepth 100000 in
set_option maxHeartbeats 4000000 in
theorem ok_X11_nearest_l67 {K : gk_V → gk_M → Prop} : ∀ (n : Nat) (x1 : Int32) (x2 : Int32) (x3 : Int32) (x4 : Int32) (x6 : Int32) (x7 : Int32) (x8 : Int32) (M : gk_M), gk_Sat gk_I (X11_nearest_l67 n x1 x2 x3 x4 x6 x7 x8 M) K → gk_G RX11 cX11_nearest 10 5 (some .int) none K 67 [some (gk_R 6 0), some (gk_I x1), some (gk_I x2), some (gk_I x3), some (gk_I x4), none, some (gk_I x6), some (gk_I x7), some (gk_I x8), none] [] M := by
  intro n
  induction n with
  | zero => intro x1 x2 x3 x4 x6 x7 x8 M h; exact h.no.elim
  | succ n ih =>
    intro x1 x2 x3 x4 x6 x7 x8 M h
    refine gk_iload dX11_nearest_67 rfl ?_
    refine gk_iload_n dX11_nearest_69 rfl rfl ?_
    refine gk_icmp_gt (tgt := 114) dX11_nearest_70 (by decide) h (fun h => ?_) (fun h => ?_)
    · refine gk_iload dX11_nearest_114 rfl ?_
      refine gk_if_ne (tgt := 124) dX11_nearest_116 (by decide) h (fun h => ?_) (fun h => ?_)
      · refine gk_iload dX11_nearest_124 rfl ?_
        exact gk_iret dX11_nearest_126 rfl h
      · refine gk_iload dX11_nearest_119 rfl ?_
        refine gk_goto (tgt := 126) dX11_nearest_121 (by decide) ?_
        exact gk_iret dX11_nearest_126 rfl h
    · refine gk_aload_n dX11_nearest_73 rfl rfl ?_
      refine gk_aload_n dX11_nearest_74 rfl rfl ?_
      refine gk_get (v := gk_R 2 1) fr_X11_52 pf_6_4 (by decide) dX11_nearest_75 ?_
      refine gk_callI (As := [gk_R 6 0, gk_R 2 1]) (st := []) 4 (cr_X11_166 (by decide) rfl) (fun K' h' => ok_X11_dayOf 1 M K' h') rfl (by decide) (by decide) (fun _ => Nat.le_of_ble_eq_true rfl) dX11_nearest_78 h (fun r16 M15 h => ?_)
      refine gk_pop dX11_nearest_81 rfl ?_
      refine gk_aload_n dX11_nearest_82 rfl rfl ?_
      refine gk_get (v := gk_R 2 1) fr_X11_52 pf_6_4 (by decide) dX11_nearest_83 ?_
      refine gk_iload_n dX11_nearest_86 rfl rfl ?_
      refine gk_iload_n dX11_nearest_87 rfl rfl ?_
      refine gk_callI (As := [gk_R 2 1, gk_I x1, gk_I x2]) (st := []) 2 (cr_X11_175 (by decide) rfl) (fun K' h' => ok_X4_gap 1 x1 x2 M15 K' h') rfl (by decide) (by decide) (fun _ => Nat.le_of_ble_eq_true rfl) dX11_nearest_88 h (fun r18 M17 h => ?_)
      refine gk_istore (L' := [some (gk_R 6 0), some (gk_I x1), some (gk_I x2), some (gk_I x3), some (gk_I x4), none, some (gk_I x6), some (gk_I x7), some (gk_I x8), some (gk_I r18)]) dX11_nearest_91 (by decide) rfl rfl ?_
      refine gk_iload dX11_nearest_93 rfl ?_
      refine gk_iload dX11_nearest_95 rfl ?_
      refine gk_icmp_ge (tgt := 108) dX11_nearest_97 (by decide) h (fun h => ?_) (fun h => ?_)
      · exact gk_weak [some (gk_R 6 0), some (gk_I x1), some (gk_I x2), some (gk_I x3), some (gk_I x4), none, some (gk_I x6), some (gk_I x7), some (gk_I x8), none] (And.intro rfl (And.intro rfl (And.intro rfl (And.intro rfl (And.intro rfl (And.intro rfl (And.intro rfl (And.intro rfl True.intro)))))))) (ok_X11_nearest_j108 (X11_nearest_l67 n) ih x1 x2 x3 x4 x6 x7 x8 M17 h)
      · refine gk_iload dX11_nearest_100 rfl ?_
        refine gk_istore (L' := [some (gk_R 6 0), some (gk_I x1), some (gk_I x2), some (gk_I x3), some (gk_I x4), none, some (gk_I x6), some (gk_I r18), some (gk_I x8), some (gk_I r18)]) dX11_nearest_102 (by decide) rfl rfl ?_
        refine gk_iload dX11_nearest_104 rfl ?_
        refine gk_istore (L' := [some (gk_R 6 0), some (gk_I x1), some (gk_I x2), some (gk_I x3), some (gk_I x4), none, some (gk_I x8), some (gk_I r18), some (gk_I x8), some (gk_I r18)]) dX11_nearest_106 (by decide) rfl rfl ?_
        exact gk_weak [some (gk_R 6 0), some (gk_I x1), some (gk_I x2), some (gk_I x3), some (gk_I x4), none, some (gk_I x8), some (gk_I r18), some (gk_I x8), none] (And.intro rfl (And.intro rfl (And.intro rfl (And.intro rfl (And.intro rfl (And.intro rfl (And.intro rfl (And.intro rfl True.intro)))))))) (ok_X11_nearest_j108 (X11_nearest_l67 n) ih x1 x2 x3 x4 x8 r18 x8 M17 h)
set_option maxRecDepth 100000 in
set_option maxHeartbeats 4000000 in
theorem ok_X11_nearest (a1 : Int32) (a2 : Int32) (a3 : Int32) (a4 : Int32) (M : gk_M) (K : gk_V → gk_M → Prop) (h : gk_Sat gk_I (f_X11_nearest a1 a2 a3 a4 M) K) : gk_MS 5 yX11_nearest cX11_nearest 10 (some .int) [gk_R 6 0, gk_I a1, gk_I a2, gk_I a3, gk_I a4] M K := by

  refine gk_MS_of [some (gk_R 6 0), some (gk_I a1), some (gk_I a2), some (gk_I a3), some (gk_I a4), none, none, none, none, none] (by decide +kernel) (Nat.le_of_ble_eq_true rfl) (And.intro rfl (And.intro rfl (And.intro rfl (And.intro rfl (And.intro rfl True.intro))))) ?_
  show gk_G RX11 cX11_nearest 10 5 (some .int) none K 0 [some (gk_R 6 0), some (gk_I a1), some (gk_I a2), some (gk_I a3), some (gk_I a4), none, none, none, none, none] [] M
  refine gk_aload_n dX11_nearest_0 rfl rfl ?_
  refine gk_iload_n dX11_nearest_1 rfl rfl ?_
  refine gk_iload_n dX11_nearest_2 rfl rfl ?_
  refine gk_callI (As := [gk_R 6 0, gk_I a1, gk_I a2]) (st := []) 1 (cr_X11_172 (by decide) rfl) (fun K' h' => ok_X11_notTwo a1 a2 M K' h') rfl (by decide) (by decide) (fun _ => Nat.le_of_ble_eq_true rfl) dX11_nearest_3 h (fun r2 M1 h => ?_)
  refine gk_iload_n dX11_nearest_6 rfl rfl ?_
  refine gk_iconst (v := (0 : Int32)) dX11_nearest_7 (by decide) ?_
  refine gk_bipush (v := (60 : Int32)) dX11_nearest_8 (by decide) ?_
  refine gk_callI (As := [gk_I a3, gk_I (0 : Int32), gk_I (60 : Int32)]) (st := [gk_I r2]) 0 (cr_X11_148 rfl) (fun K' h' => ok_X11_range a3 (0 : Int32) (60 : Int32) M1 K' h') rfl (by decide) (by decide) (fun _ => Nat.le_of_ble_eq_true rfl) dX11_nearest_10 h (fun r4 M3 h => ?_)
  refine gk_iload dX11_nearest_13 rfl ?_
  refine gk_iconst (v := (1 : Int32)) dX11_nearest_15 (by decide) ?_
  refine gk_callI (As := [gk_I a4, gk_I (1 : Int32)]) (st := [gk_I r4, gk_I r2]) 0 (cr_X11_95 rfl) (fun K' h' => ok_X11_otherThan a4 (1 : Int32) M3 K' h') rfl (by decide) (by decide) (fun _ => Nat.le_of_ble_eq_true rfl) dX11_nearest_16 h (fun r6 M5 h => ?_)
  refine gk_callI (As := [gk_I r4, gk_I r6]) (st := [gk_I r2]) 0 (cr_X11_99 rfl) (fun K' h' => ok_X11_first r4 r6 M5 K' h') rfl (by decide) (by decide) (fun _ => Nat.le_of_ble_eq_true rfl) dX11_nearest_19 h (fun r8 M7 h => ?_)
  refine gk_callI (As := [gk_I r2, gk_I r8]) (st := []) 0 (cr_X11_99 rfl) (fun K' h' => ok_X11_first r2 r8 M7 K' h') rfl (by decide) (by decide) (fun _ => Nat.le_of_ble_eq_true rfl) dX11_nearest_22 h (fun r10 M9 h => ?_)
  refine gk_istore (L' := [some (gk_R 6 0), some (gk_I a1), some (gk_I a2), some (gk_I a3), some (gk_I a4), some (gk_I r10), none, none, none, none]) dX11_nearest_25 (by decide) rfl rfl ?_
  refine gk_iload dX11_nearest_27 rfl ?_
  refine gk_if_eq (tgt := 39) dX11_nearest_29 (by decide) h (fun h => ?_) (fun h => ?_)
  · refine gk_aload_n dX11_nearest_39 rfl rfl ?_
    refine gk_get (v := gk_R 2 1) fr_X11_52 pf_6_4 (by decide) dX11_nearest_40 ?_
    refine gk_aload_n dX11_nearest_43 rfl rfl ?_
    refine gk_get (v := gk_R 2 0) fr_X11_48 pf_6_3 (by decide) dX11_nearest_44 ?_
    refine gk_callV (As := [gk_R 2 1, gk_R 2 0]) (st := []) 1 (cr_X11_84 (by decide) rfl) (fun K' h' => ok_X4_copyFrom 1 0 M9 K' h') rfl (by decide) (by decide) (fun _ => Nat.le_of_ble_eq_true rfl) dX11_nearest_47 h (fun _ M11 h => ?_)
    refine gk_iconst (v := (0 : Int32)) dX11_nearest_50 (by decide) ?_
    refine gk_istore (L' := [some (gk_R 6 0), some (gk_I a1), some (gk_I a2), some (gk_I a3), some (gk_I a4), some (gk_I r10), some (gk_I (0 : Int32)), none, none, none]) dX11_nearest_51 (by decide) rfl rfl ?_
    refine gk_aload_n dX11_nearest_53 rfl rfl ?_
    refine gk_get (v := gk_R 2 0) fr_X11_48 pf_6_3 (by decide) dX11_nearest_54 ?_
    refine gk_iload_n dX11_nearest_57 rfl rfl ?_
    refine gk_iload_n dX11_nearest_58 rfl rfl ?_
    refine gk_callI (As := [gk_R 2 0, gk_I a1, gk_I a2]) (st := []) 2 (cr_X11_175 (by decide) rfl) (fun K' h' => ok_X4_gap 0 a1 a2 M11 K' h') rfl (by decide) (by decide) (fun _ => Nat.le_of_ble_eq_true rfl) dX11_nearest_59 h (fun r14 M13 h => ?_)
    refine gk_istore (L' := [some (gk_R 6 0), some (gk_I a1), some (gk_I a2), some (gk_I a3), some (gk_I a4), some (gk_I r10), some (gk_I (0 : Int32)), some (gk_I r14), none, none]) dX11_nearest_62 (by decide) rfl rfl ?_
    refine gk_iconst (v := (1 : Int32)) dX11_nearest_64 (by decide) ?_
    refine gk_istore (L' := [some (gk_R 6 0), some (gk_I a1), some (gk_I a2), some (gk_I a3), some (gk_I a4), some (gk_I r10), some (gk_I (0 : Int32)), some (gk_I r14), some (gk_I (1 : Int32)), none]) dX11_nearest_65 (by decide) rfl rfl ?_
    exact gk_weak [some (gk_R 6 0), some (gk_I a1), some (gk_I a2), some (gk_I a3), some (gk_I a4), none, some (gk_I (0 : Int32)), some (gk_I r14), some (gk_I (1 : Int32)), none] (And.intro rfl (And.intro rfl (And.intro rfl (And.intro rfl (And.intro rfl (And.intro rfl (And.intro rfl (And.intro rfl True.intro)))))))) (ok_X11_nearest_l67 200 a1 a2 a3 a4 ((0 : Int32)) r14 ((1 : Int32)) M13 h)
  · refine gk_aload_n dX11_nearest_32 rfl rfl ?_
    refine gk_iload dX11_nearest_33 rfl ?_
    refine gk_callI (As := [gk_R 6 0, gk_I r10]) (st := []) 0 (cr_X11_72 (by decide) rfl) (fun K' h' => ok_X11_refuse r10 M9 K' h') rfl (by decide) (by decide) (fun _ => Nat.le_of_ble_eq_true rfl) dX11_nearest_35 h (fun r20 M19 h => ?_)
    exact gk_iret dX11_nearest_38 rfl h
set_option maxRecDepth 100000 in
set_option maxHeartbeats 4000000 in
theorem ok_X11_daysUntil_l6 {K : gk_V → gk_M → Prop} : ∀ (n : Nat) (x2 : Int32) (x3 : Int32) (x4 : Int32) (x5 : Int32) (M : gk_M), gk_Sat gk_I (X11_daysUntil_l6 n x2 x3 x4 x5 M) K → gk_G RX11 cX11_daysUntil 6 5 (some .int) none K 6 [some (gk_R 6 0), none, some (gk_I x2), some (gk_I x3), some (gk_I x4), some (gk_I x5)] [] M := by
  intro n
  induction n with
  | zero => intro x2 x3 x4 x5 M h; exact h.no.elim
  | succ n ih =>
    intro x2 x3 x4 x5 M h
    refine gk_iload dX11_daysUntil_6 rfl ?_
    refine gk_iload_n dX11_daysUntil_8 rfl rfl ?_
    refine gk_icmp_gt (tgt := 49) dX11_daysUntil_9 (by decide) h (fun h => ?_) (fun h => ?_)
    · refine gk_bipush (v := (-9 : Int32)) dX11_daysUntil_49 (by decide) ?_
      exact gk_iret dX11_daysUntil_51 rfl h
    · refine gk_iload dX11_daysUntil_12 rfl ?_
      refine gk_iload_n dX11_daysUntil_14 rfl rfl ?_
      refine gk_iand dX11_daysUntil_15 ?_
      refine gk_iload_n dX11_daysUntil_16 rfl rfl ?_
      refine gk_icmp_ne (tgt := 23) dX11_daysUntil_17 (by decide) h (fun h => ?_) (fun h => ?_)
      · refine gk_aload_n dX11_daysUntil_23 rfl rfl ?_
        refine gk_get (v := gk_R 2 1) fr_X11_52 pf_6_4 (by decide) dX11_daysUntil_24 ?_
        refine gk_iload dX11_daysUntil_27 rfl ?_
        refine gk_callI (As := [gk_R 2 1, gk_I x4]) (st := []) 3 (cr_X11_189 (by decide) rfl) (fun K' h' => ok_X4_oneLeadOn 1 x4 M K' h') rfl (by decide) (by decide) (fun _ => Nat.le_of_ble_eq_true rfl) dX11_daysUntil_29 h (fun r2 M1 h => ?_)
        refine gk_istore (L' := [some (gk_R 6 0), none, some (gk_I x2), some (gk_I x3), some (gk_I r2), some (gk_I x5)]) dX11_daysUntil_32 (by decide) rfl rfl ?_
        refine gk_aload_n dX11_daysUntil_34 rfl rfl ?_
        refine gk_aload_n dX11_daysUntil_35 rfl rfl ?_
        refine gk_get (v := gk_R 2 1) fr_X11_52 pf_6_4 (by decide) dX11_daysUntil_36 ?_
        refine gk_callI (As := [gk_R 6 0, gk_R 2 1]) (st := []) 4 (cr_X11_166 (by decide) rfl) (fun K' h' => ok_X11_dayOf 1 M1 K' h') rfl (by decide) (by decide) (fun _ => Nat.le_of_ble_eq_true rfl) dX11_daysUntil_39 h (fun r4 M3 h => ?_)
        refine gk_pop dX11_daysUntil_42 rfl ?_
        refine gk_iinc (v := (x5 + (1 : Int32))) (L' := [some (gk_R 6 0), none, some (gk_I x2), some (gk_I x3), some (gk_I r2), some (gk_I (x5 + (1 : Int32)))]) dX11_daysUntil_43 rfl rfl (by decide) rfl rfl ?_
        refine gk_goto (tgt := 6) dX11_daysUntil_46 (by decide) ?_
        exact gk_weak [some (gk_R 6 0), none, some (gk_I x2), some (gk_I x3), some (gk_I r2), some (gk_I (x5 + (1 : Int32)))] (And.intro rfl (And.intro rfl (And.intro rfl (And.intro rfl (And.intro rfl True.intro))))) (ih x2 x3 r2 ((x5 + (1 : Int32))) M3 h)
      · refine gk_iload dX11_daysUntil_20 rfl ?_
        exact gk_iret dX11_daysUntil_22 rfl h
set_option maxRecDepth 100000 in
set_option maxHeartbeats 4000000 in
theorem ok_X11_daysUntil (a1 : Int32) (a2 : Int32) (a3 : Int32) (M : gk_M) (K : gk_V → gk_M → Prop) (h : gk_Sat gk_I (f_X11_daysUntil a1 a2 a3 M) K) : gk_MS 5 yX11_daysUntil cX11_daysUntil 6 (some .int) [gk_R 6 0, gk_I a1, gk_I a2, gk_I a3] M K := by

  refine gk_MS_of [some (gk_R 6 0), some (gk_I a1), some (gk_I a2), some (gk_I a3), none, none] (by decide +kernel) (Nat.le_of_ble_eq_true rfl) (And.intro rfl (And.intro rfl (And.intro rfl (And.intro rfl True.intro)))) ?_
  show gk_G RX11 cX11_daysUntil 6 5 (some .int) none K 0 [some (gk_R 6 0), some (gk_I a1), some (gk_I a2), some (gk_I a3), none, none] [] M
  refine gk_iload_n dX11_daysUntil_0 rfl rfl ?_
  refine gk_istore (L' := [some (gk_R 6 0), some (gk_I a1), some (gk_I a2), some (gk_I a3), some (gk_I a1), none]) dX11_daysUntil_1 (by decide) rfl rfl ?_
  refine gk_iconst (v := (0 : Int32)) dX11_daysUntil_3 (by decide) ?_
  refine gk_istore (L' := [some (gk_R 6 0), some (gk_I a1), some (gk_I a2), some (gk_I a3), some (gk_I a1), some (gk_I (0 : Int32))]) dX11_daysUntil_4 (by decide) rfl rfl ?_
  exact gk_weak [some (gk_R 6 0), none, some (gk_I a2), some (gk_I a3), some (gk_I a1), some (gk_I (0 : Int32))] (And.intro rfl (And.intro rfl (And.intro rfl (And.intro rfl (And.intro rfl True.intro))))) (ok_X11_daysUntil_l6 200 a2 a3 a1 ((0 : Int32)) M h)
set_option maxRecDepth 100000 in
set_option maxHeartbeats 4000000 in
theorem ok_X11_there (a1 : Int32) (a2 : Int32) (M : gk_M) (K : gk_V → gk_M → Prop) (h : gk_Sat gk_I (f_X11_there a1 a2 M) K) : gk_MS 6 yX11_there cX11_there 4 (some .int) [gk_R 6 0, gk_I a1, gk_I a2] M K := by

  refine gk_MS_of [some (gk_R 6 0), some (gk_I a1), some (gk_I a2), none] (by decide +kernel) (Nat.le_of_ble_eq_true rfl) (And.intro rfl (And.intro rfl (And.intro rfl True.intro))) ?_
  show gk_G RX11 cX11_there 4 6 (some .int) none K 0 [some (gk_R 6 0), some (gk_I a1), some (gk_I a2), none] [] M
  refine gk_aload_n dX11_there_0 rfl rfl ?_
  refine gk_iload_n dX11_there_1 rfl rfl ?_
  refine gk_callI (As := [gk_R 6 0, gk_I a1]) (st := []) 1 (cr_X11_92 (by decide) rfl) (fun K' h' => ok_X11_nobody a1 M K' h') rfl (by decide) (by decide) (fun _ => Nat.le_of_ble_eq_true rfl) dX11_there_2 h (fun r2 M1 h => ?_)
  refine gk_aload_n dX11_there_5 rfl rfl ?_
  refine gk_iload_n dX11_there_6 rfl rfl ?_
  refine gk_callI (As := [gk_R 6 0, gk_I a2]) (st := [gk_I r2]) 1 (cr_X11_92 (by decide) rfl) (fun K' h' => ok_X11_nobody a2 M1 K' h') rfl (by decide) (by decide) (fun _ => Nat.le_of_ble_eq_true rfl) dX11_there_7 h (fun r4 M3 h => ?_)
  refine gk_callI (As := [gk_I r2, gk_I r4]) (st := []) 0 (cr_X11_99 rfl) (fun K' h' => ok_X11_first r2 r4 M3 K' h') rfl (by decide) (by decide) (fun _ => Nat.le_of_ble_eq_true rfl) dX11_there_10 h (fun r6 M5 h => ?_)
  refine gk_istore_n (L' := [some (gk_R 6 0), some (gk_I a1), some (gk_I a2), some (gk_I r6)]) dX11_there_13 rfl (by decide) rfl rfl ?_
  refine gk_iload_n dX11_there_14 rfl rfl ?_
  refine gk_if_eq (tgt := 24) dX11_there_15 (by decide) h (fun h => ?_) (fun h => ?_)
  · refine gk_aload_n dX11_there_24 rfl rfl ?_
    refine gk_get (v := gk_R 2 1) fr_X11_52 pf_6_4 (by decide) dX11_there_25 ?_
    refine gk_aload_n dX11_there_28 rfl rfl ?_
    refine gk_get (v := gk_R 2 0) fr_X11_48 pf_6_3 (by decide) dX11_there_29 ?_
    refine gk_callV (As := [gk_R 2 1, gk_R 2 0]) (st := []) 1 (cr_X11_84 (by decide) rfl) (fun K' h' => ok_X4_copyFrom 1 0 M5 K' h') rfl (by decide) (by decide) (fun _ => Nat.le_of_ble_eq_true rfl) dX11_there_32 h (fun _ M7 h => ?_)
    refine gk_aload_n dX11_there_35 rfl rfl ?_
    refine gk_iconst (v := (1 : Int32)) dX11_there_36 (by decide) ?_
    refine gk_iload_n dX11_there_37 rfl rfl ?_
    refine gk_ishl dX11_there_38 ?_
    refine gk_iconst (v := (1 : Int32)) dX11_there_39 (by decide) ?_
    refine gk_iload_n dX11_there_40 rfl rfl ?_
    refine gk_ishl dX11_there_41 ?_
    refine gk_bipush (v := (40 : Int32)) dX11_there_42 (by decide) ?_
    refine gk_callI (As := [gk_R 6 0, gk_I ((1 : Int32) <<< (a1 &&& 31)), gk_I ((1 : Int32) <<< (a2 &&& 31)), gk_I (40 : Int32)]) (st := []) 5 (cr_X11_182 (by decide) rfl) (fun K' h' => ok_X11_daysUntil ((1 : Int32) <<< (a1 &&& 31)) ((1 : Int32) <<< (a2 &&& 31)) (40 : Int32) M7 K' h') rfl (by decide) (by decide) (fun _ => Nat.le_of_ble_eq_true rfl) dX11_there_44 h (fun r10 M9 h => ?_)
    exact gk_iret dX11_there_47 rfl h
  · refine gk_aload_n dX11_there_18 rfl rfl ?_
    refine gk_iload_n dX11_there_19 rfl rfl ?_
    refine gk_callI (As := [gk_R 6 0, gk_I r6]) (st := []) 0 (cr_X11_72 (by decide) rfl) (fun K' h' => ok_X11_refuse r6 M5 K' h') rfl (by decide) (by decide) (fun _ => Nat.le_of_ble_eq_true rfl) dX11_there_20 h (fun r12 M11 h => ?_)
    exact gk_iret dX11_there_23 rfl h
set_option maxRecDepth 100000 in
set_option maxHeartbeats 4000000 in
theorem ok_X11_back (a1 : Int32) (a2 : Int32) (M : gk_M) (K : gk_V → gk_M → Prop) (h : gk_Sat gk_I (f_X11_back a1 a2 M) K) : gk_MS 6 yX11_back cX11_back 6 (some .int) [gk_R 6 0, gk_I a1, gk_I a2] M K := by

  refine gk_MS_of [some (gk_R 6 0), some (gk_I a1), some (gk_I a2), none, none, none] (by decide +kernel) (Nat.le_of_ble_eq_true rfl) (And.intro rfl (And.intro rfl (And.intro rfl True.intro))) ?_
  show gk_G RX11 cX11_back 6 6 (some .int) none K 0 [some (gk_R 6 0), some (gk_I a1), some (gk_I a2), none, none, none] [] M
  refine gk_aload_n dX11_back_0 rfl rfl ?_
  refine gk_iload_n dX11_back_1 rfl rfl ?_
  refine gk_iload_n dX11_back_2 rfl rfl ?_
  refine gk_callI (As := [gk_R 6 0, gk_I a1, gk_I a2]) (st := []) 1 (cr_X11_172 (by decide) rfl) (fun K' h' => ok_X11_notTwo a1 a2 M K' h') rfl (by decide) (by decide) (fun _ => Nat.le_of_ble_eq_true rfl) dX11_back_3 h (fun r2 M1 h => ?_)
  refine gk_istore_n (L' := [some (gk_R 6 0), some (gk_I a1), some (gk_I a2), some (gk_I r2), none, none]) dX11_back_6 rfl (by decide) rfl rfl ?_
  refine gk_iload_n dX11_back_7 rfl rfl ?_
  refine gk_if_eq (tgt := 17) dX11_back_8 (by decide) h (fun h => ?_) (fun h => ?_)
  · refine gk_aload_n dX11_back_17 rfl rfl ?_
    refine gk_get (v := gk_R 2 1) fr_X11_52 pf_6_4 (by decide) dX11_back_18 ?_
    refine gk_aload_n dX11_back_21 rfl rfl ?_
    refine gk_get (v := gk_R 2 0) fr_X11_48 pf_6_3 (by decide) dX11_back_22 ?_
    refine gk_callV (As := [gk_R 2 1, gk_R 2 0]) (st := []) 1 (cr_X11_84 (by decide) rfl) (fun K' h' => ok_X4_copyFrom 1 0 M1 K' h') rfl (by decide) (by decide) (fun _ => Nat.le_of_ble_eq_true rfl) dX11_back_25 h (fun _ M3 h => ?_)
    refine gk_aload_n dX11_back_28 rfl rfl ?_
    refine gk_iconst (v := (1 : Int32)) dX11_back_29 (by decide) ?_
    refine gk_iload_n dX11_back_30 rfl rfl ?_
    refine gk_ishl dX11_back_31 ?_
    refine gk_iconst (v := (1 : Int32)) dX11_back_32 (by decide) ?_
    refine gk_iload_n dX11_back_33 rfl rfl ?_
    refine gk_ishl dX11_back_34 ?_
    refine gk_bipush (v := (40 : Int32)) dX11_back_35 (by decide) ?_
    refine gk_callI (As := [gk_R 6 0, gk_I ((1 : Int32) <<< (a1 &&& 31)), gk_I ((1 : Int32) <<< (a2 &&& 31)), gk_I (40 : Int32)]) (st := []) 5 (cr_X11_182 (by decide) rfl) (fun K' h' => ok_X11_daysUntil ((1 : Int32) <<< (a1 &&& 31)) ((1 : Int32) <<< (a2 &&& 31)) (40 : Int32) M3 K' h') rfl (by decide) (by decide) (fun _ => Nat.le_of_ble_eq_true rfl) dX11_back_37 h (fun r6 M5 h => ?_)
    refine gk_istore (L' := [some (gk_R 6 0), some (gk_I a1), some (gk_I a2), some (gk_I r2), some (gk_I r6), none]) dX11_back_40 (by decide) rfl rfl ?_
    refine gk_iload dX11_back_42 rfl ?_
    refine gk_bipush (v := (-9 : Int32)) dX11_back_44 (by decide) ?_
    refine gk_icmp_ne (tgt := 52) dX11_back_46 (by decide) h (fun h => ?_) (fun h => ?_)
    · refine gk_aload_n dX11_back_52 rfl rfl ?_
      refine gk_iconst (v := (1 : Int32)) dX11_back_53 (by decide) ?_
      refine gk_iload_n dX11_back_54 rfl rfl ?_
      refine gk_ishl dX11_back_55 ?_
      refine gk_iconst (v := (1 : Int32)) dX11_back_56 (by decide) ?_
      refine gk_iload_n dX11_back_57 rfl rfl ?_
      refine gk_ishl dX11_back_58 ?_
      refine gk_bipush (v := (40 : Int32)) dX11_back_59 (by decide) ?_
      refine gk_iload dX11_back_61 rfl ?_
      refine gk_isub dX11_back_63 ?_
      refine gk_callI (As := [gk_R 6 0, gk_I ((1 : Int32) <<< (a2 &&& 31)), gk_I ((1 : Int32) <<< (a1 &&& 31)), gk_I ((40 : Int32) - r6)]) (st := []) 5 (cr_X11_182 (by decide) rfl) (fun K' h' => ok_X11_daysUntil ((1 : Int32) <<< (a2 &&& 31)) ((1 : Int32) <<< (a1 &&& 31)) ((40 : Int32) - r6) M5 K' h') rfl (by decide) (by decide) (fun _ => Nat.le_of_ble_eq_true rfl) dX11_back_64 h (fun r8 M7 h => ?_)
      refine gk_istore (L' := [some (gk_R 6 0), some (gk_I a1), some (gk_I a2), some (gk_I r2), some (gk_I r6), some (gk_I r8)]) dX11_back_67 (by decide) rfl rfl ?_
      refine gk_iload dX11_back_69 rfl ?_
      refine gk_bipush (v := (-9 : Int32)) dX11_back_71 (by decide) ?_
      refine gk_icmp_ne (tgt := 81) dX11_back_73 (by decide) h (fun h => ?_) (fun h => ?_)
      · refine gk_iload dX11_back_81 rfl ?_
        refine gk_iload dX11_back_83 rfl ?_
        refine gk_iadd dX11_back_85 ?_
        exact gk_iret dX11_back_86 rfl h
      · refine gk_bipush (v := (-9 : Int32)) dX11_back_76 (by decide) ?_
        refine gk_goto (tgt := 86) dX11_back_78 (by decide) ?_
        exact gk_iret dX11_back_86 rfl h
    · refine gk_bipush (v := (-9 : Int32)) dX11_back_49 (by decide) ?_
      exact gk_iret dX11_back_51 rfl h
  · refine gk_aload_n dX11_back_11 rfl rfl ?_
    refine gk_iload_n dX11_back_12 rfl rfl ?_
    refine gk_callI (As := [gk_R 6 0, gk_I r2]) (st := []) 0 (cr_X11_72 (by decide) rfl) (fun K' h' => ok_X11_refuse r2 M1 K' h') rfl (by decide) (by decide) (fun _ => Nat.le_of_ble_eq_true rfl) dX11_back_13 h (fun r10 M9 h => ?_)
    exact gk_iret dX11_back_16 rfl h
set_option maxRecDepth 100000 in
set_option maxHeartbeats 4000000 in
theorem ok_X11_news (a1 : Int32) (M : gk_M) (K : gk_V → gk_M → Prop) (h : gk_Sat gk_I (f_X11_news a1 M) K) : gk_MS 6 yX11_news cX11_news 3 (some .int) [gk_R 6 0, gk_I a1] M K := by

  refine gk_MS_of [some (gk_R 6 0), some (gk_I a1), none] (by decide +kernel) (Nat.le_of_ble_eq_true rfl) (And.intro rfl (And.intro rfl True.intro)) ?_
  show gk_G RX11 cX11_news 3 6 (some .int) none K 0 [some (gk_R 6 0), some (gk_I a1), none] [] M
  refine gk_aload_n dX11_news_0 rfl rfl ?_
  refine gk_iload_n dX11_news_1 rfl rfl ?_
  refine gk_callI (As := [gk_R 6 0, gk_I a1]) (st := []) 1 (cr_X11_92 (by decide) rfl) (fun K' h' => ok_X11_nobody a1 M K' h') rfl (by decide) (by decide) (fun _ => Nat.le_of_ble_eq_true rfl) dX11_news_2 h (fun r2 M1 h => ?_)
  refine gk_istore_n (L' := [some (gk_R 6 0), some (gk_I a1), some (gk_I r2)]) dX11_news_5 rfl (by decide) rfl rfl ?_
  refine gk_iload_n dX11_news_6 rfl rfl ?_
  refine gk_if_eq (tgt := 16) dX11_news_7 (by decide) h (fun h => ?_) (fun h => ?_)
  · refine gk_aload_n dX11_news_16 rfl rfl ?_
    refine gk_get (v := gk_R 2 1) fr_X11_52 pf_6_4 (by decide) dX11_news_17 ?_
    refine gk_aload_n dX11_news_20 rfl rfl ?_
    refine gk_get (v := gk_R 2 0) fr_X11_48 pf_6_3 (by decide) dX11_news_21 ?_
    refine gk_callV (As := [gk_R 2 1, gk_R 2 0]) (st := []) 1 (cr_X11_84 (by decide) rfl) (fun K' h' => ok_X4_copyFrom 1 0 M1 K' h') rfl (by decide) (by decide) (fun _ => Nat.le_of_ble_eq_true rfl) dX11_news_24 h (fun _ M3 h => ?_)
    refine gk_aload_n dX11_news_27 rfl rfl ?_
    refine gk_iconst (v := (1 : Int32)) dX11_news_28 (by decide) ?_
    refine gk_iload_n dX11_news_29 rfl rfl ?_
    refine gk_ishl dX11_news_30 ?_
    refine gk_aload_n dX11_news_31 rfl rfl ?_
    refine gk_get (v := gk_R 2 0) fr_X11_48 pf_6_3 (by decide) dX11_news_32 ?_
    refine gk_callI (As := [gk_R 2 0]) (st := [gk_I ((1 : Int32) <<< (a1 &&& 31)), gk_R 6 0]) 0 (cr_X11_185 (by decide) rfl) (fun K' h' => ok_X4_allShips 0 M3 K' h') rfl (by decide) (by decide) (fun _ => Nat.le_of_ble_eq_true rfl) dX11_news_35 h (fun r6 M5 h => ?_)
    refine gk_bipush (v := (40 : Int32)) dX11_news_38 (by decide) ?_
    refine gk_callI (As := [gk_R 6 0, gk_I ((1 : Int32) <<< (a1 &&& 31)), gk_I r6, gk_I (40 : Int32)]) (st := []) 5 (cr_X11_182 (by decide) rfl) (fun K' h' => ok_X11_daysUntil ((1 : Int32) <<< (a1 &&& 31)) r6 (40 : Int32) M5 K' h') rfl (by decide) (by decide) (fun _ => Nat.le_of_ble_eq_true rfl) dX11_news_40 h (fun r8 M7 h => ?_)
    exact gk_iret dX11_news_43 rfl h
  · refine gk_aload_n dX11_news_10 rfl rfl ?_
    refine gk_iload_n dX11_news_11 rfl rfl ?_
    refine gk_callI (As := [gk_R 6 0, gk_I r2]) (st := []) 0 (cr_X11_72 (by decide) rfl) (fun K' h' => ok_X11_refuse r2 M1 K' h') rfl (by decide) (by decide) (fun _ => Nat.le_of_ble_eq_true rfl) dX11_news_12 h (fun r10 M9 h => ?_)
    exact gk_iret dX11_news_15 rfl h
set_option maxRecDepth 100000 in
set_option maxHeartbeats 4000000 in
theorem ok_X11_know_l45 {K : gk_V → gk_M → Prop} : ∀ (n : Nat) (x2 : Int32) (x4 : Int32) (x5 : Int32) (M : gk_M), gk_Sat gk_I (X11_know_l45 n x2 x4 x5 M) K → gk_G RX11 cX11_know 6 5 (some .int) none K 45 [some (gk_R 6 0), none, some (gk_I x2), none, some (gk_I x4), some (gk_I x5)] [] M := by
  intro n
  induction n with
  | zero => intro x2 x4 x5 M h; exact h.no.elim
  | succ n ih =>
    intro x2 x4 x5 M h
    refine gk_iload dX11_know_45 rfl ?_
    refine gk_iload_n dX11_know_47 rfl rfl ?_
    refine gk_icmp_ge (tgt := 77) dX11_know_48 (by decide) h (fun h => ?_) (fun h => ?_)
    · refine gk_iload dX11_know_77 rfl ?_
      exact gk_iret dX11_know_79 rfl h
    · refine gk_aload_n dX11_know_51 rfl rfl ?_
      refine gk_get (v := gk_R 2 1) fr_X11_52 pf_6_4 (by decide) dX11_know_52 ?_
      refine gk_iload dX11_know_55 rfl ?_
      refine gk_callI (As := [gk_R 2 1, gk_I x4]) (st := []) 3 (cr_X11_189 (by decide) rfl) (fun K' h' => ok_X4_oneLeadOn 1 x4 M K' h') rfl (by decide) (by decide) (fun _ => Nat.le_of_ble_eq_true rfl) dX11_know_57 h (fun r10 M9 h => ?_)
      refine gk_istore (L' := [some (gk_R 6 0), none, some (gk_I x2), none, some (gk_I r10), some (gk_I x5)]) dX11_know_60 (by decide) rfl rfl ?_
      refine gk_aload_n dX11_know_62 rfl rfl ?_
      refine gk_aload_n dX11_know_63 rfl rfl ?_
      refine gk_get (v := gk_R 2 1) fr_X11_52 pf_6_4 (by decide) dX11_know_64 ?_
      refine gk_callI (As := [gk_R 6 0, gk_R 2 1]) (st := []) 4 (cr_X11_166 (by decide) rfl) (fun K' h' => ok_X11_dayOf 1 M9 K' h') rfl (by decide) (by decide) (fun _ => Nat.le_of_ble_eq_true rfl) dX11_know_67 h (fun r12 M11 h => ?_)
      refine gk_pop dX11_know_70 rfl ?_
      refine gk_iinc (v := (x5 + (1 : Int32))) (L' := [some (gk_R 6 0), none, some (gk_I x2), none, some (gk_I r10), some (gk_I (x5 + (1 : Int32)))]) dX11_know_71 rfl rfl (by decide) rfl rfl ?_
      refine gk_goto (tgt := 45) dX11_know_74 (by decide) ?_
      exact gk_weak [some (gk_R 6 0), none, some (gk_I x2), none, some (gk_I r10), some (gk_I (x5 + (1 : Int32)))] (And.intro rfl (And.intro rfl (And.intro rfl (And.intro rfl True.intro)))) (ih x2 r10 ((x5 + (1 : Int32))) M11 h)
set_option maxRecDepth 100000 in
set_option maxHeartbeats 4000000 in
theorem ok_X11_know (a1 : Int32) (a2 : Int32) (M : gk_M) (K : gk_V → gk_M → Prop) (h : gk_Sat gk_I (f_X11_know a1 a2 M) K) : gk_MS 5 yX11_know cX11_know 6 (some .int) [gk_R 6 0, gk_I a1, gk_I a2] M K := by

  refine gk_MS_of [some (gk_R 6 0), some (gk_I a1), some (gk_I a2), none, none, none] (by decide +kernel) (Nat.le_of_ble_eq_true rfl) (And.intro rfl (And.intro rfl (And.intro rfl True.intro))) ?_
  show gk_G RX11 cX11_know 6 5 (some .int) none K 0 [some (gk_R 6 0), some (gk_I a1), some (gk_I a2), none, none, none] [] M
  refine gk_aload_n dX11_know_0 rfl rfl ?_
  refine gk_iload_n dX11_know_1 rfl rfl ?_
  refine gk_callI (As := [gk_R 6 0, gk_I a1]) (st := []) 1 (cr_X11_92 (by decide) rfl) (fun K' h' => ok_X11_nobody a1 M K' h') rfl (by decide) (by decide) (fun _ => Nat.le_of_ble_eq_true rfl) dX11_know_2 h (fun r2 M1 h => ?_)
  refine gk_iload_n dX11_know_5 rfl rfl ?_
  refine gk_iconst (v := (0 : Int32)) dX11_know_6 (by decide) ?_
  refine gk_bipush (v := (40 : Int32)) dX11_know_7 (by decide) ?_
  refine gk_callI (As := [gk_I a2, gk_I (0 : Int32), gk_I (40 : Int32)]) (st := [gk_I r2]) 0 (cr_X11_148 rfl) (fun K' h' => ok_X11_range a2 (0 : Int32) (40 : Int32) M1 K' h') rfl (by decide) (by decide) (fun _ => Nat.le_of_ble_eq_true rfl) dX11_know_9 h (fun r4 M3 h => ?_)
  refine gk_callI (As := [gk_I r2, gk_I r4]) (st := []) 0 (cr_X11_99 rfl) (fun K' h' => ok_X11_first r2 r4 M3 K' h') rfl (by decide) (by decide) (fun _ => Nat.le_of_ble_eq_true rfl) dX11_know_12 h (fun r6 M5 h => ?_)
  refine gk_istore_n (L' := [some (gk_R 6 0), some (gk_I a1), some (gk_I a2), some (gk_I r6), none, none]) dX11_know_15 rfl (by decide) rfl rfl ?_
  refine gk_iload_n dX11_know_16 rfl rfl ?_
  refine gk_if_eq (tgt := 26) dX11_know_17 (by decide) h (fun h => ?_) (fun h => ?_)
  · refine gk_aload_n dX11_know_26 rfl rfl ?_
    refine gk_get (v := gk_R 2 1) fr_X11_52 pf_6_4 (by decide) dX11_know_27 ?_
    refine gk_aload_n dX11_know_30 rfl rfl ?_
    refine gk_get (v := gk_R 2 0) fr_X11_48 pf_6_3 (by decide) dX11_know_31 ?_
    refine gk_callV (As := [gk_R 2 1, gk_R 2 0]) (st := []) 1 (cr_X11_84 (by decide) rfl) (fun K' h' => ok_X4_copyFrom 1 0 M5 K' h') rfl (by decide) (by decide) (fun _ => Nat.le_of_ble_eq_true rfl) dX11_know_34 h (fun _ M7 h => ?_)
    refine gk_iconst (v := (1 : Int32)) dX11_know_37 (by decide) ?_
    refine gk_iload_n dX11_know_38 rfl rfl ?_
    refine gk_ishl dX11_know_39 ?_
    refine gk_istore (L' := [some (gk_R 6 0), some (gk_I a1), some (gk_I a2), some (gk_I r6), some (gk_I ((1 : Int32) <<< (a1 &&& 31))), none]) dX11_know_40 (by decide) rfl rfl ?_
    refine gk_iconst (v := (0 : Int32)) dX11_know_42 (by decide) ?_
    refine gk_istore (L' := [some (gk_R 6 0), some (gk_I a1), some (gk_I a2), some (gk_I r6), some (gk_I ((1 : Int32) <<< (a1 &&& 31))), some (gk_I (0 : Int32))]) dX11_know_43 (by decide) rfl rfl ?_
    exact gk_weak [some (gk_R 6 0), none, some (gk_I a2), none, some (gk_I ((1 : Int32) <<< (a1 &&& 31))), some (gk_I (0 : Int32))] (And.intro rfl (And.intro rfl (And.intro rfl (And.intro rfl True.intro)))) (ok_X11_know_l45 200 a2 (((1 : Int32) <<< (a1 &&& 31))) ((0 : Int32)) M7 h)
  · refine gk_aload_n dX11_know_20 rfl rfl ?_
    refine gk_iload_n dX11_know_21 rfl rfl ?_
    refine gk_callI (As := [gk_R 6 0, gk_I r6]) (st := []) 0 (cr_X11_72 (by decide) rfl) (fun K' h' => ok_X11_refuse r6 M5 K' h') rfl (by decide) (by decide) (fun _ => Nat.le_of_ble_eq_true rfl) dX11_know_22 h (fun r14 M13 h => ?_)
    exact gk_iret dX11_know_25 rfl h
set_option maxRecDepth 100000 in
set_option maxHeartbeats 4000000 in
theorem ok_X11_lost_j32 {K : gk_V → gk_M → Prop} (κ4 : Int32 → Int32 → gk_M → Option (Int32 × gk_M)) (hκ4 : ∀ (x1 : Int32) (x2 : Int32) (M : gk_M), gk_Sat gk_I (κ4 x1 x2 M) K → gk_G RX11 cX11_lost 3 4 (some .int) none K 4 [some (gk_R 6 0), some (gk_I x1), some (gk_I x2)] [] M) (x1 : Int32) (x2 : Int32) (M : gk_M) (h : gk_Sat gk_I (X11_lost_j32 κ4 x1 x2 M) K) : gk_G RX11 cX11_lost 3 4 (some .int) none K 32 [some (gk_R 6 0), some (gk_I x1), some (gk_I x2)] [] M := by
  refine gk_iinc (v := (x2 + (1 : Int32))) (L' := [some (gk_R 6 0), some (gk_I x1), some (gk_I (x2 + (1 : Int32)))]) dX11_lost_32 rfl rfl (by decide) rfl rfl ?_
  refine gk_goto (tgt := 4) dX11_lost_35 (by decide) ?_
  exact gk_weak [some (gk_R 6 0), some (gk_I x1), some (gk_I (x2 + (1 : Int32)))] (And.intro rfl (And.intro rfl (And.intro rfl True.intro))) (hκ4 x1 ((x2 + (1 : Int32))) M h)
set_option maxRecDepth 100000 in
set_option maxHeartbeats 4000000 in
theorem ok_X11_lost_l4 {K : gk_V → gk_M → Prop} : ∀ (n : Nat) (x1 : Int32) (x2 : Int32) (M : gk_M), gk_Sat gk_I (X11_lost_l4 n x1 x2 M) K → gk_G RX11 cX11_lost 3 4 (some .int) none K 4 [some (gk_R 6 0), some (gk_I x1), some (gk_I x2)] [] M := by
  intro n
  induction n with
  | zero => intro x1 x2 M h; exact h.no.elim
  | succ n ih =>
    intro x1 x2 M h
    refine gk_iload_n dX11_lost_4 rfl rfl ?_
    refine gk_aload_n dX11_lost_5 rfl rfl ?_
    refine gk_get (v := gk_R 2 0) fr_X11_48 pf_6_3 (by decide) dX11_lost_6 ?_
    refine gk_getI fr_X11_192 si_2_3 (by decide) dX11_lost_9 ?_
    refine gk_icmp_ge (tgt := 38) dX11_lost_12 (by decide) h (fun h => ?_) (fun h => ?_)
    · refine gk_iload_n dX11_lost_38 rfl rfl ?_
      exact gk_iret dX11_lost_39 rfl h
    · refine gk_aload_n dX11_lost_15 rfl rfl ?_
      refine gk_get (v := gk_R 2 0) fr_X11_48 pf_6_3 (by decide) dX11_lost_16 ?_
      refine gk_iload_n dX11_lost_19 rfl rfl ?_
      refine gk_callI (As := [gk_R 2 0, gk_I x2]) (st := []) 3 (cr_X11_195 (by decide) rfl) (fun K' h' => ok_X4_isSeen 0 x2 M K' h') rfl (by decide) (by decide) (fun _ => Nat.le_of_ble_eq_true rfl) dX11_lost_20 h (fun r2 M1 h => ?_)
      refine gk_if_ne (tgt := 32) dX11_lost_23 (by decide) h (fun h => ?_) (fun h => ?_)
      · exact gk_weak [some (gk_R 6 0), some (gk_I x1), some (gk_I x2)] (And.intro rfl (And.intro rfl (And.intro rfl True.intro))) (ok_X11_lost_j32 (X11_lost_l4 n) ih x1 x2 M1 h)
      · refine gk_iload_n dX11_lost_26 rfl rfl ?_
        refine gk_iconst (v := (1 : Int32)) dX11_lost_27 (by decide) ?_
        refine gk_iload_n dX11_lost_28 rfl rfl ?_
        refine gk_ishl dX11_lost_29 ?_
        refine gk_ior dX11_lost_30 ?_
        refine gk_istore_n (L' := [some (gk_R 6 0), some (gk_I (x1 ||| ((1 : Int32) <<< (x2 &&& 31)))), some (gk_I x2)]) dX11_lost_31 rfl (by decide) rfl rfl ?_
        exact gk_weak [some (gk_R 6 0), some (gk_I (x1 ||| ((1 : Int32) <<< (x2 &&& 31)))), some (gk_I x2)] (And.intro rfl (And.intro rfl (And.intro rfl True.intro))) (ok_X11_lost_j32 (X11_lost_l4 n) ih ((x1 ||| ((1 : Int32) <<< (x2 &&& 31)))) x2 M1 h)
set_option maxRecDepth 100000 in
set_option maxHeartbeats 4000000 in
theorem ok_X11_lost  (M : gk_M) (K : gk_V → gk_M → Prop) (h : gk_Sat gk_I (f_X11_lost  M) K) : gk_MS 4 yX11_lost cX11_lost 3 (some .int) [gk_R 6 0] M K := by

  refine gk_MS_of [some (gk_R 6 0), none, none] (by decide +kernel) (Nat.le_of_ble_eq_true rfl) (And.intro rfl True.intro) ?_
  show gk_G RX11 cX11_lost 3 4 (some .int) none K 0 [some (gk_R 6 0), none, none] [] M
  refine gk_iconst (v := (0 : Int32)) dX11_lost_0 (by decide) ?_
  refine gk_istore_n (L' := [some (gk_R 6 0), some (gk_I (0 : Int32)), none]) dX11_lost_1 rfl (by decide) rfl rfl ?_
  refine gk_iconst (v := (0 : Int32)) dX11_lost_2 (by decide) ?_
  refine gk_istore_n (L' := [some (gk_R 6 0), some (gk_I (0 : Int32)), some (gk_I (0 : Int32))]) dX11_lost_3 rfl (by decide) rfl rfl ?_
  exact gk_weak [some (gk_R 6 0), some (gk_I (0 : Int32)), some (gk_I (0 : Int32))] (And.intro rfl (And.intro rfl (And.intro rfl True.intro))) (ok_X11_lost_l4 200 ((0 : Int32)) ((0 : Int32)) M h)
set_option maxRecDepth 100000 in
set_option maxHeartbeats 4000000 in
theorem ok_X11_groups_j39 {K : gk_V → gk_M → Prop} (κ6 : Int32 → Int32 → Int32 → gk_M → Option (Int32 × gk_M)) (hκ6 : ∀ (x1 : Int32) (x2 : Int32) (x3 : Int32) (M : gk_M), gk_Sat gk_I (κ6 x1 x2 x3 M) K → gk_G RX11 cX11_groups 4 5 (some .int) none K 6 [some (gk_R 6 0), some (gk_I x1), some (gk_I x2), some (gk_I x3)] [] M) (x1 : Int32) (x2 : Int32) (x3 : Int32) (M : gk_M) (h : gk_Sat gk_I (X11_groups_j39 κ6 x1 x2 x3 M) K) : gk_G RX11 cX11_groups 4 5 (some .int) none K 39 [some (gk_R 6 0), some (gk_I x1), some (gk_I x2), some (gk_I x3)] [] M := by
  refine gk_iinc (v := (x3 + (1 : Int32))) (L' := [some (gk_R 6 0), some (gk_I x1), some (gk_I x2), some (gk_I (x3 + (1 : Int32)))]) dX11_groups_39 rfl rfl (by decide) rfl rfl ?_
  refine gk_goto (tgt := 6) dX11_groups_42 (by decide) ?_
  exact gk_weak [some (gk_R 6 0), some (gk_I x1), some (gk_I x2), some (gk_I (x3 + (1 : Int32)))] (And.intro rfl (And.intro rfl (And.intro rfl (And.intro rfl True.intro)))) (hκ6 x1 x2 ((x3 + (1 : Int32))) M h)
set_option maxRecDepth 100000 in
set_option maxHeartbeats 4000000 in
theorem ok_X11_groups_l6 {K : gk_V → gk_M → Prop} : ∀ (n : Nat) (x1 : Int32) (x2 : Int32) (x3 : Int32) (M : gk_M), gk_Sat gk_I (X11_groups_l6 n x1 x2 x3 M) K → gk_G RX11 cX11_groups 4 5 (some .int) none K 6 [some (gk_R 6 0), some (gk_I x1), some (gk_I x2), some (gk_I x3)] [] M := by
  intro n
  induction n with
  | zero => intro x1 x2 x3 M h; exact h.no.elim
  | succ n ih =>
    intro x1 x2 x3 M h
    refine gk_iload_n dX11_groups_6 rfl rfl ?_
    refine gk_aload_n dX11_groups_7 rfl rfl ?_
    refine gk_get (v := gk_R 2 0) fr_X11_48 pf_6_3 (by decide) dX11_groups_8 ?_
    refine gk_getI fr_X11_192 si_2_3 (by decide) dX11_groups_11 ?_
    refine gk_icmp_ge (tgt := 45) dX11_groups_14 (by decide) h (fun h => ?_) (fun h => ?_)
    · refine gk_iload_n dX11_groups_45 rfl rfl ?_
      exact gk_iret dX11_groups_46 rfl h
    · refine gk_iload_n dX11_groups_17 rfl rfl ?_
      refine gk_iconst (v := (1 : Int32)) dX11_groups_18 (by decide) ?_
      refine gk_iload_n dX11_groups_19 rfl rfl ?_
      refine gk_ishl dX11_groups_20 ?_
      refine gk_iand dX11_groups_21 ?_
      refine gk_if_ne (tgt := 39) dX11_groups_22 (by decide) h (fun h => ?_) (fun h => ?_)
      · exact gk_weak [some (gk_R 6 0), some (gk_I x1), some (gk_I x2), some (gk_I x3)] (And.intro rfl (And.intro rfl (And.intro rfl (And.intro rfl True.intro)))) (ok_X11_groups_j39 (X11_groups_l6 n) ih x1 x2 x3 M h)
      · refine gk_iload_n dX11_groups_25 rfl rfl ?_
        refine gk_aload_n dX11_groups_26 rfl rfl ?_
        refine gk_get (v := gk_R 2 0) fr_X11_48 pf_6_3 (by decide) dX11_groups_27 ?_
        refine gk_iload_n dX11_groups_30 rfl rfl ?_
        refine gk_callI (As := [gk_R 2 0, gk_I x3]) (st := [gk_I x1]) 4 (cr_X11_198 (by decide) rfl) (fun K' h' => ok_X4_groupOf 0 x3 M K' h') rfl (by decide) (by decide) (fun _ => Nat.le_of_ble_eq_true rfl) dX11_groups_31 h (fun r2 M1 h => ?_)
        refine gk_ior dX11_groups_34 ?_
        refine gk_istore_n (L' := [some (gk_R 6 0), some (gk_I (x1 ||| r2)), some (gk_I x2), some (gk_I x3)]) dX11_groups_35 rfl (by decide) rfl rfl ?_
        refine gk_iinc (v := (x2 + (1 : Int32))) (L' := [some (gk_R 6 0), some (gk_I (x1 ||| r2)), some (gk_I (x2 + (1 : Int32))), some (gk_I x3)]) dX11_groups_36 rfl rfl (by decide) rfl rfl ?_
        exact gk_weak [some (gk_R 6 0), some (gk_I (x1 ||| r2)), some (gk_I (x2 + (1 : Int32))), some (gk_I x3)] (And.intro rfl (And.intro rfl (And.intro rfl (And.intro rfl True.intro)))) (ok_X11_groups_j39 (X11_groups_l6 n) ih ((x1 ||| r2)) ((x2 + (1 : Int32))) x3 M1 h)
set_option maxRecDepth 100000 in
set_option maxHeartbeats 4000000 in
theorem ok_X11_groups  (M : gk_M) (K : gk_V → gk_M → Prop) (h : gk_Sat gk_I (f_X11_groups  M) K) : gk_MS 5 yX11_groups cX11_groups 4 (some .int) [gk_R 6 0] M K := by

  refine gk_MS_of [some (gk_R 6 0), none, none, none] (by decide +kernel) (Nat.le_of_ble_eq_true rfl) (And.intro rfl True.intro) ?_
  show gk_G RX11 cX11_groups 4 5 (some .int) none K 0 [some (gk_R 6 0), none, none, none] [] M
  refine gk_iconst (v := (0 : Int32)) dX11_groups_0 (by decide) ?_
  refine gk_istore_n (L' := [some (gk_R 6 0), some (gk_I (0 : Int32)), none, none]) dX11_groups_1 rfl (by decide) rfl rfl ?_
  refine gk_iconst (v := (0 : Int32)) dX11_groups_2 (by decide) ?_
  refine gk_istore_n (L' := [some (gk_R 6 0), some (gk_I (0 : Int32)), some (gk_I (0 : Int32)), none]) dX11_groups_3 rfl (by decide) rfl rfl ?_
  refine gk_iconst (v := (0 : Int32)) dX11_groups_4 (by decide) ?_
  refine gk_istore_n (L' := [some (gk_R 6 0), some (gk_I (0 : Int32)), some (gk_I (0 : Int32)), some (gk_I (0 : Int32))]) dX11_groups_5 rfl (by decide) rfl rfl ?_
  exact gk_weak [some (gk_R 6 0), some (gk_I (0 : Int32)), some (gk_I (0 : Int32)), some (gk_I (0 : Int32))] (And.intro rfl (And.intro rfl (And.intro rfl (And.intro rfl True.intro)))) (ok_X11_groups_l6 200 ((0 : Int32)) ((0 : Int32)) ((0 : Int32)) M h)
set_option maxRecDepth 100000 in
set_option maxHeartbeats 4000000 in
theorem ok_X11_hungry (a1 : Int32) (M : gk_M) (K : gk_V → gk_M → Prop) (h : gk_Sat gk_I (f_X11_hungry a1 M) K) : gk_MS 2 yX11_hungry cX11_hungry 3 (some .int) [gk_R 6 0, gk_I a1] M K := by

  refine gk_MS_of [some (gk_R 6 0), some (gk_I a1), none] (by decide +kernel) (Nat.le_of_ble_eq_true rfl) (And.intro rfl (And.intro rfl True.intro)) ?_
  show gk_G RX11 cX11_hungry 3 2 (some .int) none K 0 [some (gk_R 6 0), some (gk_I a1), none] [] M
  refine gk_iload_n dX11_hungry_0 rfl rfl ?_
  refine gk_iconst (v := (0 : Int32)) dX11_hungry_1 (by decide) ?_
  refine gk_bipush (v := (60 : Int32)) dX11_hungry_2 (by decide) ?_
  refine gk_callI (As := [gk_I a1, gk_I (0 : Int32), gk_I (60 : Int32)]) (st := []) 0 (cr_X11_148 rfl) (fun K' h' => ok_X11_range a1 (0 : Int32) (60 : Int32) M K' h') rfl (by decide) (by decide) (fun _ => Nat.le_of_ble_eq_true rfl) dX11_hungry_4 h (fun r2 M1 h => ?_)
  refine gk_istore_n (L' := [some (gk_R 6 0), some (gk_I a1), some (gk_I r2)]) dX11_hungry_7 rfl (by decide) rfl rfl ?_
  refine gk_iload_n dX11_hungry_8 rfl rfl ?_
  refine gk_if_eq (tgt := 20) dX11_hungry_9 (by decide) h (fun h => ?_) (fun h => ?_)
  · refine gk_aload_n dX11_hungry_20 rfl rfl ?_
    refine gk_get (v := gk_R 2 0) fr_X11_48 pf_6_3 (by decide) dX11_hungry_21 ?_
    refine gk_iload_n dX11_hungry_24 rfl rfl ?_
    refine gk_callI (As := [gk_R 2 0, gk_I a1]) (st := []) 1 (cr_X11_201 (by decide) rfl) (fun K' h' => ok_X4_hungerToCome 0 a1 M1 K' h') rfl (by decide) (by decide) (fun _ => Nat.le_of_ble_eq_true rfl) dX11_hungry_25 h (fun r4 M3 h => ?_)
    exact gk_iret dX11_hungry_28 rfl h
  · refine gk_aload_n dX11_hungry_12 rfl rfl ?_
    refine gk_iload_n dX11_hungry_13 rfl rfl ?_
    refine gk_callI (As := [gk_R 6 0, gk_I r2]) (st := []) 0 (cr_X11_72 (by decide) rfl) (fun K' h' => ok_X11_refuse r2 M1 K' h') rfl (by decide) (by decide) (fun _ => Nat.le_of_ble_eq_true rfl) dX11_hungry_14 h (fun r6 M5 h => ?_)
    refine gk_goto (tgt := 28) dX11_hungry_17 (by decide) ?_
    exact gk_iret dX11_hungry_28 rfl h
set_option maxRecDepth 100000 in
set_option maxHeartbeats 4000000 in
theorem ok_X11_lasts (a1 : Int32) (M : gk_M) (K : gk_V → gk_M → Prop) (h : gk_Sat gk_I (f_X11_lasts a1 M) K) : gk_MS 2 yX11_lasts cX11_lasts 4 (some .int) [gk_R 6 0, gk_I a1] M K := by

  refine gk_MS_of [some (gk_R 6 0), some (gk_I a1), none, none] (by decide +kernel) (Nat.le_of_ble_eq_true rfl) (And.intro rfl (And.intro rfl True.intro)) ?_
  show gk_G RX11 cX11_lasts 4 2 (some .int) none K 0 [some (gk_R 6 0), some (gk_I a1), none, none] [] M
  refine gk_aload_n dX11_lasts_0 rfl rfl ?_
  refine gk_iload_n dX11_lasts_1 rfl rfl ?_
  refine gk_callI (As := [gk_R 6 0, gk_I a1]) (st := []) 1 (cr_X11_92 (by decide) rfl) (fun K' h' => ok_X11_nobody a1 M K' h') rfl (by decide) (by decide) (fun _ => Nat.le_of_ble_eq_true rfl) dX11_lasts_2 h (fun r2 M1 h => ?_)
  refine gk_istore_n (L' := [some (gk_R 6 0), some (gk_I a1), some (gk_I r2), none]) dX11_lasts_5 rfl (by decide) rfl rfl ?_
  refine gk_iload_n dX11_lasts_6 rfl rfl ?_
  refine gk_if_eq (tgt := 16) dX11_lasts_7 (by decide) h (fun h => ?_) (fun h => ?_)
  · refine gk_aload_n dX11_lasts_16 rfl rfl ?_
    refine gk_get (v := gk_R 2 0) fr_X11_48 pf_6_3 (by decide) dX11_lasts_17 ?_
    refine gk_get (v := gk_R 9 0) fr_X11_102 pf_2_2 (by decide) dX11_lasts_20 ?_
    refine gk_iload_n dX11_lasts_23 rfl rfl ?_
    refine gk_aald (f := fun i j => 6 * i + j) (t0 := 1) ga_9 (fun _ => rfl) (by decide) dX11_lasts_24 h (fun h hb3 => ?_)
    have hc4 : (6 * 0 + (Int32.toNatClampNeg a1)) < 18 := by omega
    refine gk_astore_n (L' := [some (gk_R 6 0), some (gk_I a1), some (gk_I r2), some (gk_R 5 (6 * 0 + (Int32.toNatClampNeg a1)))]) dX11_lasts_25 rfl (by decide) rfl rfl ?_
    refine gk_aload_n dX11_lasts_26 rfl rfl ?_
    refine gk_getI fr_X11_114 si_5_2 hc4 dX11_lasts_27 ?_
    refine gk_if_gt (tgt := 38) dX11_lasts_30 (by decide) h (fun h => ?_) (fun h => ?_)
    · refine gk_bipush (v := (99 : Int32)) dX11_lasts_38 (by decide) ?_
      refine gk_aload_n dX11_lasts_40 rfl rfl ?_
      refine gk_getI fr_X11_117 si_5_3 hc4 dX11_lasts_41 ?_
      refine gk_aload_n dX11_lasts_44 rfl rfl ?_
      refine gk_getI fr_X11_114 si_5_2 hc4 dX11_lasts_45 ?_
      refine gk_idiv_g dX11_lasts_48 h (fun h => ?_)
      refine gk_callI (As := [gk_I (99 : Int32), gk_I ((M1 5 (6 * 0 + (Int32.toNatClampNeg a1)) 3) / (M1 5 (6 * 0 + (Int32.toNatClampNeg a1)) 2))]) (st := []) 0 (cr_X11_161 rfl) (fun K' h' => ok_J9_min_7cf53 (99 : Int32) ((M1 5 (6 * 0 + (Int32.toNatClampNeg a1)) 3) / (M1 5 (6 * 0 + (Int32.toNatClampNeg a1)) 2)) M1 K' h') rfl (by decide) (by decide) (fun _ => Nat.le_of_ble_eq_true rfl) dX11_lasts_49 h (fun r6 M5 h => ?_)
      exact gk_iret dX11_lasts_52 rfl h
    · refine gk_bipush (v := (99 : Int32)) dX11_lasts_33 (by decide) ?_
      refine gk_goto (tgt := 52) dX11_lasts_35 (by decide) ?_
      exact gk_iret dX11_lasts_52 rfl h
  · refine gk_aload_n dX11_lasts_10 rfl rfl ?_
    refine gk_iload_n dX11_lasts_11 rfl rfl ?_
    refine gk_callI (As := [gk_R 6 0, gk_I r2]) (st := []) 0 (cr_X11_72 (by decide) rfl) (fun K' h' => ok_X11_refuse r2 M1 K' h') rfl (by decide) (by decide) (fun _ => Nat.le_of_ble_eq_true rfl) dX11_lasts_12 h (fun r8 M7 h => ?_)
    exact gk_iret dX11_lasts_15 rfl h
set_option maxRecDepth 100000 in
set_option maxHeartbeats 4000000 in
theorem ok_X11_deal_j38 {K : gk_V → gk_M → Prop} (x0 : Nat) (x1 : Nat) (x2 : Int32) (s0 : Int32) (M : gk_M) (h : gk_Sat gk_U (X11_deal_j38 x0 x1 x2 s0 M) K) : gk_G RX11 cX11_deal 5 1 none none K 38 [some (gk_R 5 x0), some (gk_R 5 x1), some (gk_I x2), none, none] [gk_I s0] M := by
  have hgx0 := h.gd
  have h := hgx0.2
  have hx0 := gk_lt_of hgx0.1
  have hgx1 := h.gd
  have h := hgx1.2
  have hx1 := gk_lt_of hgx1.1
  refine gk_istore (L' := [some (gk_R 5 x0), some (gk_R 5 x1), some (gk_I x2), none, some (gk_I s0)]) dX11_deal_38 (by decide) rfl rfl ?_
  refine gk_aload_n dX11_deal_40 rfl rfl ?_
  refine gk_sipush (v := (999 : Int32)) dX11_deal_41 (by decide) ?_
  refine gk_iload_n dX11_deal_44 rfl rfl ?_
  refine gk_iload dX11_deal_45 rfl ?_
  refine gk_isub dX11_deal_47 ?_
  refine gk_callI (As := [gk_I (999 : Int32), gk_I (x2 - s0)]) (st := [gk_R 5 x0]) 0 (cr_X11_161 rfl) (fun K' h' => ok_J9_min_7cf53 (999 : Int32) (x2 - s0) M K' h') rfl (by decide) (by decide) (fun _ => Nat.le_of_ble_eq_true rfl) dX11_deal_48 h (fun r2 M1 h => ?_)
  refine gk_putI fr_X11_117 si_5_3 hx0 dX11_deal_51 h (fun M3 h => ?_)
  refine gk_aload_n dX11_deal_54 rfl rfl ?_
  refine gk_sipush (v := (999 : Int32)) dX11_deal_55 (by decide) ?_
  refine gk_iload dX11_deal_58 rfl ?_
  refine gk_callI (As := [gk_I (999 : Int32), gk_I s0]) (st := [gk_R 5 x1]) 0 (cr_X11_161 rfl) (fun K' h' => ok_J9_min_7cf53 (999 : Int32) s0 M3 K' h') rfl (by decide) (by decide) (fun _ => Nat.le_of_ble_eq_true rfl) dX11_deal_60 h (fun r5 M4 h => ?_)
  refine gk_putI fr_X11_117 si_5_3 hx1 dX11_deal_63 h (fun M6 h => ?_)
  exact gk_vret dX11_deal_66 rfl h
set_option maxRecDepth 100000 in
set_option maxHeartbeats 4000000 in
theorem ok_X11_deal (a0 : Nat) (a1 : Nat) (M : gk_M) (K : gk_V → gk_M → Prop) (h : gk_Sat gk_U (f_X11_deal a0 a1 M) K) : gk_MS 1 yX11_deal cX11_deal 5 none [gk_R 5 a0, gk_R 5 a1] M K := by
  have hga0 := h.gd
  have h := hga0.2
  have ha0 := gk_lt_of hga0.1
  have hga1 := h.gd
  have h := hga1.2
  have ha1 := gk_lt_of hga1.1
  refine gk_MS_of [some (gk_R 5 a0), some (gk_R 5 a1), none, none, none] (by decide +kernel) (Nat.le_of_ble_eq_true rfl) (And.intro rfl (And.intro rfl True.intro)) ?_
  show gk_G RX11 cX11_deal 5 1 none none K 0 [some (gk_R 5 a0), some (gk_R 5 a1), none, none, none] [] M
  refine gk_aload_n dX11_deal_0 rfl rfl ?_
  refine gk_getI fr_X11_117 si_5_3 ha0 dX11_deal_1 ?_
  refine gk_aload_n dX11_deal_4 rfl rfl ?_
  refine gk_getI fr_X11_117 si_5_3 ha1 dX11_deal_5 ?_
  refine gk_iadd dX11_deal_8 ?_
  refine gk_istore_n (L' := [some (gk_R 5 a0), some (gk_R 5 a1), some (gk_I ((M 5 a0 3) + (M 5 a1 3))), none, none]) dX11_deal_9 rfl (by decide) rfl rfl ?_
  refine gk_aload_n dX11_deal_10 rfl rfl ?_
  refine gk_getI fr_X11_114 si_5_2 ha0 dX11_deal_11 ?_
  refine gk_aload_n dX11_deal_14 rfl rfl ?_
  refine gk_getI fr_X11_114 si_5_2 ha1 dX11_deal_15 ?_
  refine gk_iadd dX11_deal_18 ?_
  refine gk_istore_n (L' := [some (gk_R 5 a0), some (gk_R 5 a1), some (gk_I ((M 5 a0 3) + (M 5 a1 3))), some (gk_I ((M 5 a0 2) + (M 5 a1 2))), none]) dX11_deal_19 rfl (by decide) rfl rfl ?_
  refine gk_iload_n dX11_deal_20 rfl rfl ?_
  refine gk_if_le (tgt := 35) dX11_deal_21 (by decide) h (fun h => ?_) (fun h => ?_)
  · refine gk_iload_n dX11_deal_35 rfl rfl ?_
    refine gk_iconst (v := (2 : Int32)) dX11_deal_36 (by decide) ?_
    refine gk_idiv dX11_deal_37 (by decide) ?_
    exact gk_weak [some (gk_R 5 a0), some (gk_R 5 a1), some (gk_I ((M 5 a0 3) + (M 5 a1 3))), none, none] (And.intro rfl (And.intro rfl (And.intro rfl True.intro))) (ok_X11_deal_j38 a0 a1 (((M 5 a0 3) + (M 5 a1 3))) ((((M 5 a0 3) + (M 5 a1 3)) / (2 : Int32))) M h)
  · refine gk_iload_n dX11_deal_24 rfl rfl ?_
    refine gk_aload_n dX11_deal_25 rfl rfl ?_
    refine gk_getI fr_X11_114 si_5_2 ha1 dX11_deal_26 ?_
    refine gk_imul dX11_deal_29 ?_
    refine gk_iload_n dX11_deal_30 rfl rfl ?_
    refine gk_idiv_g dX11_deal_31 h (fun h => ?_)
    refine gk_goto (tgt := 38) dX11_deal_32 (by decide) ?_
    exact gk_weak [some (gk_R 5 a0), some (gk_R 5 a1), some (gk_I ((M 5 a0 3) + (M 5 a1 3))), none, none] (And.intro rfl (And.intro rfl (And.intro rfl True.intro))) (ok_X11_deal_j38 a0 a1 (((M 5 a0 3) + (M 5 a1 3))) (((((M 5 a0 3) + (M 5 a1 3)) * (M 5 a1 2)) / ((M 5 a0 2) + (M 5 a1 2)))) M h)
set_option maxRecDepth 100000 in
set_option maxHeartbeats 4000000 in
theorem ok_X11_share (a1 : Int32) (a2 : Int32) (M : gk_M) (K : gk_V → gk_M → Prop) (h : gk_Sat gk_I (f_X11_share a1 a2 M) K) : gk_MS 3 yX11_share cX11_share 4 (some .int) [gk_R 6 0, gk_I a1, gk_I a2] M K := by

  refine gk_MS_of [some (gk_R 6 0), some (gk_I a1), some (gk_I a2), none] (by decide +kernel) (Nat.le_of_ble_eq_true rfl) (And.intro rfl (And.intro rfl (And.intro rfl True.intro))) ?_
  show gk_G RX11 cX11_share 4 3 (some .int) none K 0 [some (gk_R 6 0), some (gk_I a1), some (gk_I a2), none] [] M
  refine gk_aload_n dX11_share_0 rfl rfl ?_
  refine gk_iload_n dX11_share_1 rfl rfl ?_
  refine gk_iload_n dX11_share_2 rfl rfl ?_
  refine gk_callI (As := [gk_R 6 0, gk_I a1, gk_I a2]) (st := []) 1 (cr_X11_172 (by decide) rfl) (fun K' h' => ok_X11_notTwo a1 a2 M K' h') rfl (by decide) (by decide) (fun _ => Nat.le_of_ble_eq_true rfl) dX11_share_3 h (fun r2 M1 h => ?_)
  refine gk_istore_n (L' := [some (gk_R 6 0), some (gk_I a1), some (gk_I a2), some (gk_I r2)]) dX11_share_6 rfl (by decide) rfl rfl ?_
  refine gk_iload_n dX11_share_7 rfl rfl ?_
  refine gk_if_eq (tgt := 17) dX11_share_8 (by decide) h (fun h => ?_) (fun h => ?_)
  · refine gk_aload_n dX11_share_17 rfl rfl ?_
    refine gk_get (v := gk_R 2 0) fr_X11_48 pf_6_3 (by decide) dX11_share_18 ?_
    refine gk_iload_n dX11_share_21 rfl rfl ?_
    refine gk_iload_n dX11_share_22 rfl rfl ?_
    refine gk_callI (As := [gk_R 2 0, gk_I a1, gk_I a2]) (st := []) 2 (cr_X11_175 (by decide) rfl) (fun K' h' => ok_X4_gap 0 a1 a2 M1 K' h') rfl (by decide) (by decide) (fun _ => Nat.le_of_ble_eq_true rfl) dX11_share_23 h (fun r4 M3 h => ?_)
    refine gk_iconst (v := (1 : Int32)) dX11_share_26 (by decide) ?_
    refine gk_icmp_le (tgt := 37) dX11_share_27 (by decide) h (fun h => ?_) (fun h => ?_)
    · refine gk_aload_n dX11_share_37 rfl rfl ?_
      refine gk_get (v := gk_R 2 0) fr_X11_48 pf_6_3 (by decide) dX11_share_38 ?_
      refine gk_get (v := gk_R 9 0) fr_X11_102 pf_2_2 (by decide) dX11_share_41 ?_
      refine gk_iload_n dX11_share_44 rfl rfl ?_
      refine gk_aald (f := fun i j => 6 * i + j) (t0 := 1) ga_9 (fun _ => rfl) (by decide) dX11_share_45 h (fun h hb5 => ?_)
      have hc6 : (6 * 0 + (Int32.toNatClampNeg a1)) < 18 := by omega
      refine gk_aload_n dX11_share_46 rfl rfl ?_
      refine gk_get (v := gk_R 2 0) fr_X11_48 pf_6_3 (by decide) dX11_share_47 ?_
      refine gk_get (v := gk_R 9 0) fr_X11_102 pf_2_2 (by decide) dX11_share_50 ?_
      refine gk_iload_n dX11_share_53 rfl rfl ?_
      refine gk_aald (f := fun i j => 6 * i + j) (t0 := 1) ga_9 (fun _ => rfl) (by decide) dX11_share_54 h (fun h hb7 => ?_)
      have hc8 : (6 * 0 + (Int32.toNatClampNeg a2)) < 18 := by omega
      refine gk_callV (As := [gk_R 5 (6 * 0 + (Int32.toNatClampNeg a1)), gk_R 5 (6 * 0 + (Int32.toNatClampNeg a2))]) (st := []) 1 (cr_X11_204 rfl) (fun K' h' => ok_X11_deal ((6 * 0 + (Int32.toNatClampNeg a1))) ((6 * 0 + (Int32.toNatClampNeg a2))) M3 K' h') rfl (by decide) (by decide) (fun _ => Nat.le_of_ble_eq_true rfl) dX11_share_55 h (fun _ M9 h => ?_)
      refine gk_aload_n dX11_share_58 rfl rfl ?_
      refine gk_get (v := gk_R 2 0) fr_X11_48 pf_6_3 (by decide) dX11_share_59 ?_
      refine gk_get (v := gk_R 9 0) fr_X11_102 pf_2_2 (by decide) dX11_share_62 ?_
      refine gk_iload_n dX11_share_65 rfl rfl ?_
      refine gk_aald (f := fun i j => 6 * i + j) (t0 := 1) ga_9 (fun _ => rfl) (by decide) dX11_share_66 h (fun h hb11 => ?_)
      have hc12 : (6 * 0 + (Int32.toNatClampNeg a1)) < 18 := by omega
      refine gk_getI fr_X11_117 si_5_3 hc12 dX11_share_67 ?_
      exact gk_iret dX11_share_70 rfl h
    · refine gk_aload_n dX11_share_30 rfl rfl ?_
      refine gk_bipush (v := (-3 : Int32)) dX11_share_31 (by decide) ?_
      refine gk_callI (As := [gk_R 6 0, gk_I (-3 : Int32)]) (st := []) 0 (cr_X11_72 (by decide) rfl) (fun K' h' => ok_X11_refuse (-3 : Int32) M3 K' h') rfl (by decide) (by decide) (fun _ => Nat.le_of_ble_eq_true rfl) dX11_share_33 h (fun r14 M13 h => ?_)
      exact gk_iret dX11_share_36 rfl h
  · refine gk_aload_n dX11_share_11 rfl rfl ?_
    refine gk_iload_n dX11_share_12 rfl rfl ?_
    refine gk_callI (As := [gk_R 6 0, gk_I r2]) (st := []) 0 (cr_X11_72 (by decide) rfl) (fun K' h' => ok_X11_refuse r2 M1 K' h') rfl (by decide) (by decide) (fun _ => Nat.le_of_ble_eq_true rfl) dX11_share_13 h (fun r16 M15 h => ?_)
    exact gk_iret dX11_share_16 rfl h
set_option maxRecDepth 100000 in
set_option maxHeartbeats 4000000 in
theorem ok_X11_hungerWithout (a1 : Int32) (a2 : Int32) (M : gk_M) (K : gk_V → gk_M → Prop) (h : gk_Sat gk_I (f_X11_hungerWithout a1 a2 M) K) : gk_MS 4 yX11_hungerWithout cX11_hungerWithout 3 (some .int) [gk_R 6 0, gk_I a1, gk_I a2] M K := by

  refine gk_MS_of [some (gk_R 6 0), some (gk_I a1), some (gk_I a2)] (by decide +kernel) (Nat.le_of_ble_eq_true rfl) (And.intro rfl (And.intro rfl (And.intro rfl True.intro))) ?_
  show gk_G RX11 cX11_hungerWithout 3 4 (some .int) none K 0 [some (gk_R 6 0), some (gk_I a1), some (gk_I a2)] [] M
  refine gk_aload_n dX11_hungerWithout_0 rfl rfl ?_
  refine gk_get (v := gk_R 2 1) fr_X11_52 pf_6_4 (by decide) dX11_hungerWithout_1 ?_
  refine gk_aload_n dX11_hungerWithout_4 rfl rfl ?_
  refine gk_get (v := gk_R 2 0) fr_X11_48 pf_6_3 (by decide) dX11_hungerWithout_5 ?_
  refine gk_callV (As := [gk_R 2 1, gk_R 2 0]) (st := []) 1 (cr_X11_84 (by decide) rfl) (fun K' h' => ok_X4_copyFrom 1 0 M K' h') rfl (by decide) (by decide) (fun _ => Nat.le_of_ble_eq_true rfl) dX11_hungerWithout_8 h (fun _ M1 h => ?_)
  refine gk_aload_n dX11_hungerWithout_11 rfl rfl ?_
  refine gk_get (v := gk_R 2 1) fr_X11_52 pf_6_4 (by decide) dX11_hungerWithout_12 ?_
  refine gk_iload_n dX11_hungerWithout_15 rfl rfl ?_
  refine gk_callV (As := [gk_R 2 1, gk_I a1]) (st := []) 3 (cr_X11_271 (by decide) rfl) (fun K' h' => ok_X4_giveUp 1 a1 M1 K' h') rfl (by decide) (by decide) (fun _ => Nat.le_of_ble_eq_true rfl) dX11_hungerWithout_16 h (fun _ M3 h => ?_)
  refine gk_aload_n dX11_hungerWithout_19 rfl rfl ?_
  refine gk_get (v := gk_R 2 1) fr_X11_52 pf_6_4 (by decide) dX11_hungerWithout_20 ?_
  refine gk_iload_n dX11_hungerWithout_23 rfl rfl ?_
  refine gk_callI (As := [gk_R 2 1, gk_I a2]) (st := []) 1 (cr_X11_201 (by decide) rfl) (fun K' h' => ok_X4_hungerToCome 1 a2 M3 K' h') rfl (by decide) (by decide) (fun _ => Nat.le_of_ble_eq_true rfl) dX11_hungerWithout_24 h (fun r6 M5 h => ?_)
  exact gk_iret dX11_hungerWithout_27 rfl h
set_option maxRecDepth 100000 in
set_option maxHeartbeats 4000000 in
theorem ok_X11_givenUp_j90 {K : gk_V → gk_M → Prop} (κ54 : Int32 → Int32 → Int32 → Int32 → Int32 → gk_M → Option (Int32 × gk_M)) (hκ54 : ∀ (x1 : Int32) (x2 : Int32) (x4 : Int32) (x5 : Int32) (x6 : Int32) (M : gk_M), gk_Sat gk_I (κ54 x1 x2 x4 x5 x6 M) K → gk_G RX11 cX11_givenUp 8 5 (some .int) none K 54 [some (gk_R 6 0), some (gk_I x1), some (gk_I x2), none, some (gk_I x4), some (gk_I x5), some (gk_I x6), none] [] M) (x1 : Int32) (x2 : Int32) (x4 : Int32) (x5 : Int32) (x6 : Int32) (M : gk_M) (h : gk_Sat gk_I (X11_givenUp_j90 κ54 x1 x2 x4 x5 x6 M) K) : gk_G RX11 cX11_givenUp 8 5 (some .int) none K 90 [some (gk_R 6 0), some (gk_I x1), some (gk_I x2), none, some (gk_I x4), some (gk_I x5), some (gk_I x6), none] [] M := by
  refine gk_iinc (v := (x6 + (1 : Int32))) (L' := [some (gk_R 6 0), some (gk_I x1), some (gk_I x2), none, some (gk_I x4), some (gk_I x5), some (gk_I (x6 + (1 : Int32))), none]) dX11_givenUp_90 rfl rfl (by decide) rfl rfl ?_
  refine gk_goto (tgt := 54) dX11_givenUp_93 (by decide) ?_
  exact gk_weak [some (gk_R 6 0), some (gk_I x1), some (gk_I x2), none, some (gk_I x4), some (gk_I x5), some (gk_I (x6 + (1 : Int32))), none] (And.intro rfl (And.intro rfl (And.intro rfl (And.intro rfl (And.intro rfl (And.intro rfl True.intro)))))) (hκ54 x1 x2 x4 x5 ((x6 + (1 : Int32))) M h)
set_option maxRecDepth 100000 in
set_option maxHeartbeats 4000000 in
theorem ok_X11_givenUp_l54 {K : gk_V → gk_M → Prop} : ∀ (n : Nat) (x1 : Int32) (x2 : Int32) (x4 : Int32) (x5 : Int32) (x6 : Int32) (M : gk_M), gk_Sat gk_I (X11_givenUp_l54 n x1 x2 x4 x5 x6 M) K → gk_G RX11 cX11_givenUp 8 5 (some .int) none K 54 [some (gk_R 6 0), some (gk_I x1), some (gk_I x2), none, some (gk_I x4), some (gk_I x5), some (gk_I x6), none] [] M := by
  intro n
  induction n with
  | zero => intro x1 x2 x4 x5 x6 M h; exact h.no.elim
  | succ n ih =>
    intro x1 x2 x4 x5 x6 M h
    refine gk_iload dX11_givenUp_54 rfl ?_
    refine gk_aload_n dX11_givenUp_56 rfl rfl ?_
    refine gk_get (v := gk_R 2 0) fr_X11_48 pf_6_3 (by decide) dX11_givenUp_57 ?_
    refine gk_getI fr_X11_192 si_2_3 (by decide) dX11_givenUp_60 ?_
    refine gk_icmp_ge (tgt := 96) dX11_givenUp_63 (by decide) h (fun h => ?_) (fun h => ?_)
    · refine gk_iload_n dX11_givenUp_96 rfl rfl ?_
      refine gk_if_ne (tgt := 105) dX11_givenUp_97 (by decide) h (fun h => ?_) (fun h => ?_)
      · refine gk_iload dX11_givenUp_105 rfl ?_
        exact gk_iret dX11_givenUp_107 rfl h
      · refine gk_iload dX11_givenUp_100 rfl ?_
        refine gk_goto (tgt := 107) dX11_givenUp_102 (by decide) ?_
        exact gk_iret dX11_givenUp_107 rfl h
    · refine gk_aload_n dX11_givenUp_66 rfl rfl ?_
      refine gk_iload dX11_givenUp_67 rfl ?_
      refine gk_iload_n dX11_givenUp_69 rfl rfl ?_
      refine gk_callI (As := [gk_R 6 0, gk_I x6, gk_I x1]) (st := []) 4 (cr_X11_208 (by decide) rfl) (fun K' h' => ok_X11_hungerWithout x6 x1 M K' h') rfl (by decide) (by decide) (fun _ => Nat.le_of_ble_eq_true rfl) dX11_givenUp_70 h (fun r10 M9 h => ?_)
      refine gk_istore (L' := [some (gk_R 6 0), some (gk_I x1), some (gk_I x2), none, some (gk_I x4), some (gk_I x5), some (gk_I x6), some (gk_I r10)]) dX11_givenUp_73 (by decide) rfl rfl ?_
      refine gk_iload dX11_givenUp_75 rfl ?_
      refine gk_iload dX11_givenUp_77 rfl ?_
      refine gk_icmp_ge (tgt := 90) dX11_givenUp_79 (by decide) h (fun h => ?_) (fun h => ?_)
      · exact gk_weak [some (gk_R 6 0), some (gk_I x1), some (gk_I x2), none, some (gk_I x4), some (gk_I x5), some (gk_I x6), none] (And.intro rfl (And.intro rfl (And.intro rfl (And.intro rfl (And.intro rfl (And.intro rfl True.intro)))))) (ok_X11_givenUp_j90 (X11_givenUp_l54 n) ih x1 x2 x4 x5 x6 M9 h)
      · refine gk_iload dX11_givenUp_82 rfl ?_
        refine gk_istore (L' := [some (gk_R 6 0), some (gk_I x1), some (gk_I x2), none, some (gk_I x4), some (gk_I r10), some (gk_I x6), some (gk_I r10)]) dX11_givenUp_84 (by decide) rfl rfl ?_
        refine gk_iload dX11_givenUp_86 rfl ?_
        refine gk_istore (L' := [some (gk_R 6 0), some (gk_I x1), some (gk_I x2), none, some (gk_I x6), some (gk_I r10), some (gk_I x6), some (gk_I r10)]) dX11_givenUp_88 (by decide) rfl rfl ?_
        exact gk_weak [some (gk_R 6 0), some (gk_I x1), some (gk_I x2), none, some (gk_I x6), some (gk_I r10), some (gk_I x6), none] (And.intro rfl (And.intro rfl (And.intro rfl (And.intro rfl (And.intro rfl (And.intro rfl True.intro)))))) (ok_X11_givenUp_j90 (X11_givenUp_l54 n) ih x1 x2 x6 r10 x6 M9 h)
set_option maxRecDepth 100000 in
set_option maxHeartbeats 4000000 in
theorem ok_X11_givenUp (a1 : Int32) (a2 : Int32) (M : gk_M) (K : gk_V → gk_M → Prop) (h : gk_Sat gk_I (f_X11_givenUp a1 a2 M) K) : gk_MS 5 yX11_givenUp cX11_givenUp 8 (some .int) [gk_R 6 0, gk_I a1, gk_I a2] M K := by

  refine gk_MS_of [some (gk_R 6 0), some (gk_I a1), some (gk_I a2), none, none, none, none, none] (by decide +kernel) (Nat.le_of_ble_eq_true rfl) (And.intro rfl (And.intro rfl (And.intro rfl True.intro))) ?_
  show gk_G RX11 cX11_givenUp 8 5 (some .int) none K 0 [some (gk_R 6 0), some (gk_I a1), some (gk_I a2), none, none, none, none, none] [] M
  refine gk_iload_n dX11_givenUp_0 rfl rfl ?_
  refine gk_iconst (v := (0 : Int32)) dX11_givenUp_1 (by decide) ?_
  refine gk_bipush (v := (60 : Int32)) dX11_givenUp_2 (by decide) ?_
  refine gk_callI (As := [gk_I a1, gk_I (0 : Int32), gk_I (60 : Int32)]) (st := []) 0 (cr_X11_148 rfl) (fun K' h' => ok_X11_range a1 (0 : Int32) (60 : Int32) M K' h') rfl (by decide) (by decide) (fun _ => Nat.le_of_ble_eq_true rfl) dX11_givenUp_4 h (fun r2 M1 h => ?_)
  refine gk_iload_n dX11_givenUp_7 rfl rfl ?_
  refine gk_iconst (v := (1 : Int32)) dX11_givenUp_8 (by decide) ?_
  refine gk_callI (As := [gk_I a2, gk_I (1 : Int32)]) (st := [gk_I r2]) 0 (cr_X11_95 rfl) (fun K' h' => ok_X11_otherThan a2 (1 : Int32) M1 K' h') rfl (by decide) (by decide) (fun _ => Nat.le_of_ble_eq_true rfl) dX11_givenUp_9 h (fun r4 M3 h => ?_)
  refine gk_callI (As := [gk_I r2, gk_I r4]) (st := []) 0 (cr_X11_99 rfl) (fun K' h' => ok_X11_first r2 r4 M3 K' h') rfl (by decide) (by decide) (fun _ => Nat.le_of_ble_eq_true rfl) dX11_givenUp_12 h (fun r6 M5 h => ?_)
  refine gk_istore_n (L' := [some (gk_R 6 0), some (gk_I a1), some (gk_I a2), some (gk_I r6), none, none, none, none]) dX11_givenUp_15 rfl (by decide) rfl rfl ?_
  refine gk_iload_n dX11_givenUp_16 rfl rfl ?_
  refine gk_if_eq (tgt := 26) dX11_givenUp_17 (by decide) h (fun h => ?_) (fun h => ?_)
  · refine gk_aload_n dX11_givenUp_26 rfl rfl ?_
    refine gk_get (v := gk_R 2 0) fr_X11_48 pf_6_3 (by decide) dX11_givenUp_27 ?_
    refine gk_getI fr_X11_192 si_2_3 (by decide) dX11_givenUp_30 ?_
    refine gk_iconst (v := (2 : Int32)) dX11_givenUp_33 (by decide) ?_
    refine gk_icmp_ge (tgt := 40) dX11_givenUp_34 (by decide) h (fun h => ?_) (fun h => ?_)
    · refine gk_iconst (v := (0 : Int32)) dX11_givenUp_40 (by decide) ?_
      refine gk_istore (L' := [some (gk_R 6 0), some (gk_I a1), some (gk_I a2), some (gk_I r6), some (gk_I (0 : Int32)), none, none, none]) dX11_givenUp_41 (by decide) rfl rfl ?_
      refine gk_aload_n dX11_givenUp_43 rfl rfl ?_
      refine gk_iconst (v := (0 : Int32)) dX11_givenUp_44 (by decide) ?_
      refine gk_iload_n dX11_givenUp_45 rfl rfl ?_
      refine gk_callI (As := [gk_R 6 0, gk_I (0 : Int32), gk_I a1]) (st := []) 4 (cr_X11_208 (by decide) rfl) (fun K' h' => ok_X11_hungerWithout (0 : Int32) a1 M5 K' h') rfl (by decide) (by decide) (fun _ => Nat.le_of_ble_eq_true rfl) dX11_givenUp_46 h (fun r8 M7 h => ?_)
      refine gk_istore (L' := [some (gk_R 6 0), some (gk_I a1), some (gk_I a2), some (gk_I r6), some (gk_I (0 : Int32)), some (gk_I r8), none, none]) dX11_givenUp_49 (by decide) rfl rfl ?_
      refine gk_iconst (v := (1 : Int32)) dX11_givenUp_51 (by decide) ?_
      refine gk_istore (L' := [some (gk_R 6 0), some (gk_I a1), some (gk_I a2), some (gk_I r6), some (gk_I (0 : Int32)), some (gk_I r8), some (gk_I (1 : Int32)), none]) dX11_givenUp_52 (by decide) rfl rfl ?_
      exact gk_weak [some (gk_R 6 0), some (gk_I a1), some (gk_I a2), none, some (gk_I (0 : Int32)), some (gk_I r8), some (gk_I (1 : Int32)), none] (And.intro rfl (And.intro rfl (And.intro rfl (And.intro rfl (And.intro rfl (And.intro rfl True.intro)))))) (ok_X11_givenUp_l54 200 a1 a2 ((0 : Int32)) r8 ((1 : Int32)) M7 h)
    · refine gk_bipush (v := (-9 : Int32)) dX11_givenUp_37 (by decide) ?_
      exact gk_iret dX11_givenUp_39 rfl h
  · refine gk_aload_n dX11_givenUp_20 rfl rfl ?_
    refine gk_iload_n dX11_givenUp_21 rfl rfl ?_
    refine gk_callI (As := [gk_R 6 0, gk_I r6]) (st := []) 0 (cr_X11_72 (by decide) rfl) (fun K' h' => ok_X11_refuse r6 M5 K' h') rfl (by decide) (by decide) (fun _ => Nat.le_of_ble_eq_true rfl) dX11_givenUp_22 h (fun r12 M11 h => ?_)
    exact gk_iret dX11_givenUp_25 rfl h
set_option maxRecDepth 100000 in
set_option maxHeartbeats 4000000 in
theorem ok_X11_home_j164 {K : gk_V → gk_M → Prop} (κ104 : Int32 → Int32 → Int32 → Int32 → Int32 → Int32 → Int32 → Int32 → gk_M → Option (Int32 × gk_M)) (hκ104 : ∀ (x1 : Int32) (x2 : Int32) (x3 : Int32) (x4 : Int32) (x7 : Int32) (x8 : Int32) (x9 : Int32) (x10 : Int32) (M : gk_M), gk_Sat gk_I (κ104 x1 x2 x3 x4 x7 x8 x9 x10 M) K → gk_G RX11 cX11_home 13 5 (some .int) none K 104 [some (gk_R 6 0), some (gk_I x1), some (gk_I x2), some (gk_I x3), some (gk_I x4), none, none, some (gk_I x7), some (gk_I x8), some (gk_I x9), some (gk_I x10), none, none] [] M) (x1 : Int32) (x2 : Int32) (x3 : Int32) (x4 : Int32) (x7 : Int32) (x8 : Int32) (x9 : Int32) (x10 : Int32) (M : gk_M) (h : gk_Sat gk_I (X11_home_j164 κ104 x1 x2 x3 x4 x7 x8 x9 x10 M) K) : gk_G RX11 cX11_home 13 5 (some .int) none K 164 [some (gk_R 6 0), some (gk_I x1), some (gk_I x2), some (gk_I x3), some (gk_I x4), none, none, some (gk_I x7), some (gk_I x8), some (gk_I x9), some (gk_I x10), none, none] [] M := by
  refine gk_iinc (v := (x10 + (1 : Int32))) (L' := [some (gk_R 6 0), some (gk_I x1), some (gk_I x2), some (gk_I x3), some (gk_I x4), none, none, some (gk_I x7), some (gk_I x8), some (gk_I x9), some (gk_I (x10 + (1 : Int32))), none, none]) dX11_home_164 rfl rfl (by decide) rfl rfl ?_
  refine gk_goto (tgt := 104) dX11_home_167 (by decide) ?_
  exact gk_weak [some (gk_R 6 0), some (gk_I x1), some (gk_I x2), some (gk_I x3), some (gk_I x4), none, none, some (gk_I x7), some (gk_I x8), some (gk_I x9), some (gk_I (x10 + (1 : Int32))), none, none] (And.intro rfl (And.intro rfl (And.intro rfl (And.intro rfl (And.intro rfl (And.intro rfl (And.intro rfl (And.intro rfl (And.intro rfl True.intro))))))))) (hκ104 x1 x2 x3 x4 x7 x8 x9 ((x10 + (1 : Int32))) M h)
set_option maxRecDepth 100000 in
set_option maxHeartbeats 4000000 in
theorem ok_X11_home_l104 {K : gk_V → gk_M → Prop} : ∀ (n : Nat) (x1 : Int32) (x2 : Int32) (x3 : Int32) (x4 : Int32) (x7 : Int32) (x8 : Int32) (x9 : Int32) (x10 : Int32) (M : gk_M), gk_Sat gk_I (X11_home_l104 n x1 x2 x3 x4 x7 x8 x9 x10 M) K → gk_G RX11 cX11_home 13 5 (some .int) none K 104 [some (gk_R 6 0), some (gk_I x1), some (gk_I x2), some (gk_I x3), some (gk_I x4), none, none, some (gk_I x7), some (gk_I x8), some (gk_I x9), some (gk_I x10), none, none] [] M := by
  intro n
  induction n with
  | zero => intro x1 x2 x3 x4 x7 x8 x9 x10 M h; exact h.no.elim
  | succ n ih =>
    intro x1 x2 x3 x4 x7 x8 x9 x10 M h
    refine gk_iload dX11_home_104 rfl ?_
    refine gk_iload_n dX11_home_106 rfl rfl ?_
    refine gk_icmp_gt (tgt := 170) dX11_home_107 (by decide) h (fun h => ?_) (fun h => ?_)
    · refine gk_iload dX11_home_170 rfl ?_
      refine gk_if_ne (tgt := 180) dX11_home_172 (by decide) h (fun h => ?_) (fun h => ?_)
      · refine gk_iload dX11_home_180 rfl ?_
        refine gk_iconst (v := (1 : Int32)) dX11_home_182 (by decide) ?_
        refine gk_icmp_ne (tgt := 191) dX11_home_183 (by decide) h (fun h => ?_) (fun h => ?_)
        · refine gk_iload dX11_home_191 rfl ?_
          exact gk_iret dX11_home_193 rfl h
        · refine gk_iload dX11_home_186 rfl ?_
          refine gk_goto (tgt := 193) dX11_home_188 (by decide) ?_
          exact gk_iret dX11_home_193 rfl h
      · refine gk_iload dX11_home_175 rfl ?_
        refine gk_goto (tgt := 193) dX11_home_177 (by decide) ?_
        exact gk_iret dX11_home_193 rfl h
    · refine gk_aload_n dX11_home_110 rfl rfl ?_
      refine gk_aload_n dX11_home_111 rfl rfl ?_
      refine gk_get (v := gk_R 2 1) fr_X11_52 pf_6_4 (by decide) dX11_home_112 ?_
      refine gk_callI (As := [gk_R 6 0, gk_R 2 1]) (st := []) 4 (cr_X11_166 (by decide) rfl) (fun K' h' => ok_X11_dayOf 1 M K' h') rfl (by decide) (by decide) (fun _ => Nat.le_of_ble_eq_true rfl) dX11_home_115 h (fun r18 M17 h => ?_)
      refine gk_pop dX11_home_118 rfl ?_
      refine gk_aload_n dX11_home_119 rfl rfl ?_
      refine gk_get (v := gk_R 2 1) fr_X11_52 pf_6_4 (by decide) dX11_home_120 ?_
      refine gk_iload_n dX11_home_123 rfl rfl ?_
      refine gk_iload_n dX11_home_124 rfl rfl ?_
      refine gk_bipush (v := (-9 : Int32)) dX11_home_125 (by decide) ?_
      refine gk_callI (As := [gk_R 2 1, gk_I x1, gk_I x2, gk_I (-9 : Int32)]) (st := []) 2 (cr_X11_214 (by decide) rfl) (fun K' h' => ok_X4_nearestTo 1 x1 x2 (-9 : Int32) M17 K' h') rfl (by decide) (by decide) (fun _ => Nat.le_of_ble_eq_true rfl) dX11_home_127 h (fun r20 M19 h => ?_)
      refine gk_istore (L' := [some (gk_R 6 0), some (gk_I x1), some (gk_I x2), some (gk_I x3), some (gk_I x4), none, none, some (gk_I x7), some (gk_I x8), some (gk_I x9), some (gk_I x10), some (gk_I r20), none]) dX11_home_130 (by decide) rfl rfl ?_
      refine gk_aload_n dX11_home_132 rfl rfl ?_
      refine gk_get (v := gk_R 2 1) fr_X11_52 pf_6_4 (by decide) dX11_home_133 ?_
      refine gk_iload dX11_home_136 rfl ?_
      refine gk_iload_n dX11_home_138 rfl rfl ?_
      refine gk_iload_n dX11_home_139 rfl rfl ?_
      refine gk_callI (As := [gk_R 2 1, gk_I r20, gk_I x1, gk_I x2]) (st := []) 1 (cr_X11_217 (by decide) rfl) (fun K' h' => ok_X4_gapToPlace 1 r20 x1 x2 M19 K' h') rfl (by decide) (by decide) (fun _ => Nat.le_of_ble_eq_true rfl) dX11_home_140 h (fun r22 M21 h => ?_)
      refine gk_istore (L' := [some (gk_R 6 0), some (gk_I x1), some (gk_I x2), some (gk_I x3), some (gk_I x4), none, none, some (gk_I x7), some (gk_I x8), some (gk_I x9), some (gk_I x10), some (gk_I r20), some (gk_I r22)]) dX11_home_143 (by decide) rfl rfl ?_
      refine gk_iload dX11_home_145 rfl ?_
      refine gk_iload dX11_home_147 rfl ?_
      refine gk_icmp_ge (tgt := 164) dX11_home_149 (by decide) h (fun h => ?_) (fun h => ?_)
      · exact gk_weak [some (gk_R 6 0), some (gk_I x1), some (gk_I x2), some (gk_I x3), some (gk_I x4), none, none, some (gk_I x7), some (gk_I x8), some (gk_I x9), some (gk_I x10), none, none] (And.intro rfl (And.intro rfl (And.intro rfl (And.intro rfl (And.intro rfl (And.intro rfl (And.intro rfl (And.intro rfl (And.intro rfl True.intro))))))))) (ok_X11_home_j164 (X11_home_l104 n) ih x1 x2 x3 x4 x7 x8 x9 x10 M21 h)
      · refine gk_iload dX11_home_152 rfl ?_
        refine gk_istore (L' := [some (gk_R 6 0), some (gk_I x1), some (gk_I x2), some (gk_I x3), some (gk_I x4), none, none, some (gk_I x7), some (gk_I x8), some (gk_I r22), some (gk_I x10), some (gk_I r20), some (gk_I r22)]) dX11_home_154 (by decide) rfl rfl ?_
        refine gk_iload dX11_home_156 rfl ?_
        refine gk_istore (L' := [some (gk_R 6 0), some (gk_I x1), some (gk_I x2), some (gk_I x3), some (gk_I x4), none, none, some (gk_I x7), some (gk_I x10), some (gk_I r22), some (gk_I x10), some (gk_I r20), some (gk_I r22)]) dX11_home_158 (by decide) rfl rfl ?_
        refine gk_iload dX11_home_160 rfl ?_
        refine gk_istore (L' := [some (gk_R 6 0), some (gk_I x1), some (gk_I x2), some (gk_I x3), some (gk_I x4), none, none, some (gk_I r20), some (gk_I x10), some (gk_I r22), some (gk_I x10), some (gk_I r20), some (gk_I r22)]) dX11_home_162 (by decide) rfl rfl ?_
        exact gk_weak [some (gk_R 6 0), some (gk_I x1), some (gk_I x2), some (gk_I x3), some (gk_I x4), none, none, some (gk_I r20), some (gk_I x10), some (gk_I r22), some (gk_I x10), none, none] (And.intro rfl (And.intro rfl (And.intro rfl (And.intro rfl (And.intro rfl (And.intro rfl (And.intro rfl (And.intro rfl (And.intro rfl True.intro))))))))) (ok_X11_home_j164 (X11_home_l104 n) ih x1 x2 x3 x4 r20 x10 r22 x10 M21 h)
set_option maxRecDepth 100000 in
set_option maxHeartbeats 4000000 in
theorem ok_X11_home (a1 : Int32) (a2 : Int32) (a3 : Int32) (a4 : Int32) (M : gk_M) (K : gk_V → gk_M → Prop) (h : gk_Sat gk_I (f_X11_home a1 a2 a3 a4 M) K) : gk_MS 5 yX11_home cX11_home 13 (some .int) [gk_R 6 0, gk_I a1, gk_I a2, gk_I a3, gk_I a4] M K := by

  refine gk_MS_of [some (gk_R 6 0), some (gk_I a1), some (gk_I a2), some (gk_I a3), some (gk_I a4), none, none, none, none, none, none, none, none] (by decide +kernel) (Nat.le_of_ble_eq_true rfl) (And.intro rfl (And.intro rfl (And.intro rfl (And.intro rfl (And.intro rfl True.intro))))) ?_
  show gk_G RX11 cX11_home 13 5 (some .int) none K 0 [some (gk_R 6 0), some (gk_I a1), some (gk_I a2), some (gk_I a3), some (gk_I a4), none, none, none, none, none, none, none, none] [] M
  refine gk_iload_n dX11_home_0 rfl rfl ?_
  refine gk_iload_n dX11_home_1 rfl rfl ?_
  refine gk_sipush (v := (-9999 : Int32)) dX11_home_2 (by decide) ?_
  refine gk_sipush (v := (9999 : Int32)) dX11_home_5 (by decide) ?_
  refine gk_callI (As := [gk_I a1, gk_I a2, gk_I (-9999 : Int32), gk_I (9999 : Int32)]) (st := []) 2 (cr_X11_138 rfl) (fun K' h' => ok_X11_rangeOfTwo a1 a2 (-9999 : Int32) (9999 : Int32) M K' h') rfl (by decide) (by decide) (fun _ => Nat.le_of_ble_eq_true rfl) dX11_home_8 h (fun r2 M1 h => ?_)
  refine gk_istore (L' := [some (gk_R 6 0), some (gk_I a1), some (gk_I a2), some (gk_I a3), some (gk_I a4), some (gk_I r2), none, none, none, none, none, none, none]) dX11_home_11 (by decide) rfl rfl ?_
  refine gk_iload_n dX11_home_13 rfl rfl ?_
  refine gk_iconst (v := (0 : Int32)) dX11_home_14 (by decide) ?_
  refine gk_bipush (v := (60 : Int32)) dX11_home_15 (by decide) ?_
  refine gk_callI (As := [gk_I a3, gk_I (0 : Int32), gk_I (60 : Int32)]) (st := []) 0 (cr_X11_148 rfl) (fun K' h' => ok_X11_range a3 (0 : Int32) (60 : Int32) M1 K' h') rfl (by decide) (by decide) (fun _ => Nat.le_of_ble_eq_true rfl) dX11_home_17 h (fun r4 M3 h => ?_)
  refine gk_iload dX11_home_20 rfl ?_
  refine gk_callI (As := [gk_I r4, gk_I r2]) (st := []) 1 (cr_X11_211 rfl) (fun K' h' => ok_X11_belowFirst r4 r2 M3 K' h') rfl (by decide) (by decide) (fun _ => Nat.le_of_ble_eq_true rfl) dX11_home_22 h (fun r6 M5 h => ?_)
  refine gk_iload dX11_home_25 rfl ?_
  refine gk_iconst (v := (2 : Int32)) dX11_home_27 (by decide) ?_
  refine gk_callI (As := [gk_I a4, gk_I (2 : Int32)]) (st := [gk_I r6]) 0 (cr_X11_95 rfl) (fun K' h' => ok_X11_otherThan a4 (2 : Int32) M5 K' h') rfl (by decide) (by decide) (fun _ => Nat.le_of_ble_eq_true rfl) dX11_home_28 h (fun r8 M7 h => ?_)
  refine gk_callI (As := [gk_I r6, gk_I r8]) (st := []) 0 (cr_X11_99 rfl) (fun K' h' => ok_X11_first r6 r8 M7 K' h') rfl (by decide) (by decide) (fun _ => Nat.le_of_ble_eq_true rfl) dX11_home_31 h (fun r10 M9 h => ?_)
  refine gk_istore (L' := [some (gk_R 6 0), some (gk_I a1), some (gk_I a2), some (gk_I a3), some (gk_I a4), some (gk_I r2), some (gk_I r10), none, none, none, none, none, none]) dX11_home_34 (by decide) rfl rfl ?_
  refine gk_iload dX11_home_36 rfl ?_
  refine gk_if_eq (tgt := 48) dX11_home_38 (by decide) h (fun h => ?_) (fun h => ?_)
  · refine gk_aload_n dX11_home_48 rfl rfl ?_
    refine gk_get (v := gk_R 2 0) fr_X11_48 pf_6_3 (by decide) dX11_home_49 ?_
    refine gk_getI fr_X11_192 si_2_3 (by decide) dX11_home_52 ?_
    refine gk_if_ne (tgt := 61) dX11_home_55 (by decide) h (fun h => ?_) (fun h => ?_)
    · refine gk_aload_n dX11_home_61 rfl rfl ?_
      refine gk_get (v := gk_R 2 1) fr_X11_52 pf_6_4 (by decide) dX11_home_62 ?_
      refine gk_aload_n dX11_home_65 rfl rfl ?_
      refine gk_get (v := gk_R 2 0) fr_X11_48 pf_6_3 (by decide) dX11_home_66 ?_
      refine gk_callV (As := [gk_R 2 1, gk_R 2 0]) (st := []) 1 (cr_X11_84 (by decide) rfl) (fun K' h' => ok_X4_copyFrom 1 0 M9 K' h') rfl (by decide) (by decide) (fun _ => Nat.le_of_ble_eq_true rfl) dX11_home_69 h (fun _ M11 h => ?_)
      refine gk_aload_n dX11_home_72 rfl rfl ?_
      refine gk_get (v := gk_R 2 0) fr_X11_48 pf_6_3 (by decide) dX11_home_73 ?_
      refine gk_iload_n dX11_home_76 rfl rfl ?_
      refine gk_iload_n dX11_home_77 rfl rfl ?_
      refine gk_bipush (v := (-9 : Int32)) dX11_home_78 (by decide) ?_
      refine gk_callI (As := [gk_R 2 0, gk_I a1, gk_I a2, gk_I (-9 : Int32)]) (st := []) 2 (cr_X11_214 (by decide) rfl) (fun K' h' => ok_X4_nearestTo 0 a1 a2 (-9 : Int32) M11 K' h') rfl (by decide) (by decide) (fun _ => Nat.le_of_ble_eq_true rfl) dX11_home_80 h (fun r14 M13 h => ?_)
      refine gk_istore (L' := [some (gk_R 6 0), some (gk_I a1), some (gk_I a2), some (gk_I a3), some (gk_I a4), some (gk_I r2), some (gk_I r10), some (gk_I r14), none, none, none, none, none]) dX11_home_83 (by decide) rfl rfl ?_
      refine gk_iconst (v := (0 : Int32)) dX11_home_85 (by decide) ?_
      refine gk_istore (L' := [some (gk_R 6 0), some (gk_I a1), some (gk_I a2), some (gk_I a3), some (gk_I a4), some (gk_I r2), some (gk_I r10), some (gk_I r14), some (gk_I (0 : Int32)), none, none, none, none]) dX11_home_86 (by decide) rfl rfl ?_
      refine gk_aload_n dX11_home_88 rfl rfl ?_
      refine gk_get (v := gk_R 2 0) fr_X11_48 pf_6_3 (by decide) dX11_home_89 ?_
      refine gk_iload dX11_home_92 rfl ?_
      refine gk_iload_n dX11_home_94 rfl rfl ?_
      refine gk_iload_n dX11_home_95 rfl rfl ?_
      refine gk_callI (As := [gk_R 2 0, gk_I r14, gk_I a1, gk_I a2]) (st := []) 1 (cr_X11_217 (by decide) rfl) (fun K' h' => ok_X4_gapToPlace 0 r14 a1 a2 M13 K' h') rfl (by decide) (by decide) (fun _ => Nat.le_of_ble_eq_true rfl) dX11_home_96 h (fun r16 M15 h => ?_)
      refine gk_istore (L' := [some (gk_R 6 0), some (gk_I a1), some (gk_I a2), some (gk_I a3), some (gk_I a4), some (gk_I r2), some (gk_I r10), some (gk_I r14), some (gk_I (0 : Int32)), some (gk_I r16), none, none, none]) dX11_home_99 (by decide) rfl rfl ?_
      refine gk_iconst (v := (1 : Int32)) dX11_home_101 (by decide) ?_
      refine gk_istore (L' := [some (gk_R 6 0), some (gk_I a1), some (gk_I a2), some (gk_I a3), some (gk_I a4), some (gk_I r2), some (gk_I r10), some (gk_I r14), some (gk_I (0 : Int32)), some (gk_I r16), some (gk_I (1 : Int32)), none, none]) dX11_home_102 (by decide) rfl rfl ?_
      exact gk_weak [some (gk_R 6 0), some (gk_I a1), some (gk_I a2), some (gk_I a3), some (gk_I a4), none, none, some (gk_I r14), some (gk_I (0 : Int32)), some (gk_I r16), some (gk_I (1 : Int32)), none, none] (And.intro rfl (And.intro rfl (And.intro rfl (And.intro rfl (And.intro rfl (And.intro rfl (And.intro rfl (And.intro rfl (And.intro rfl True.intro))))))))) (ok_X11_home_l104 200 a1 a2 a3 a4 r14 ((0 : Int32)) r16 ((1 : Int32)) M15 h)
    · refine gk_bipush (v := (-9 : Int32)) dX11_home_58 (by decide) ?_
      exact gk_iret dX11_home_60 rfl h
  · refine gk_aload_n dX11_home_41 rfl rfl ?_
    refine gk_iload dX11_home_42 rfl ?_
    refine gk_callI (As := [gk_R 6 0, gk_I r10]) (st := []) 0 (cr_X11_72 (by decide) rfl) (fun K' h' => ok_X11_refuse r10 M9 K' h') rfl (by decide) (by decide) (fun _ => Nat.le_of_ble_eq_true rfl) dX11_home_44 h (fun r24 M23 h => ?_)
    exact gk_iret dX11_home_47 rfl h
set_option maxRecDepth 100000 in
set_option maxHeartbeats 4000000 in
theorem ok_X11_wouldBeAt_j95 {K : gk_V → gk_M → Prop}  (M : gk_M) (h : gk_Sat gk_I (X11_wouldBeAt_j95  M) K) : gk_G RX11 cX11_wouldBeAt 10 3 (some .boolean) none K 95 [none, none, none, none, none, none, none, none, none, none] [] M := by
  refine gk_iconst (v := (0 : Int32)) dX11_wouldBeAt_95 (by decide) ?_
  exact gk_zret dX11_wouldBeAt_96 rfl h
set_option maxRecDepth 100000 in
set_option maxHeartbeats 4000000 in
theorem ok_X11_wouldBeAt_l15 {K : gk_V → gk_M → Prop} : ∀ (n : Nat) (x2 : Nat) (x3 : Int32) (x4 : Int32) (x5 : Int32) (x6 : Int32) (x7 : Int32) (x8 : Int32) (x9 : Int32) (M : gk_M), gk_Sat gk_I (X11_wouldBeAt_l15 n x2 x3 x4 x5 x6 x7 x8 x9 M) K → gk_G RX11 cX11_wouldBeAt 10 3 (some .boolean) none K 15 [some (gk_R 6 0), none, some (gk_R 1 x2), some (gk_I x3), some (gk_I x4), some (gk_I x5), some (gk_I x6), some (gk_I x7), some (gk_I x8), some (gk_I x9)] [] M := by
  intro n
  induction n with
  | zero => intro x2 x3 x4 x5 x6 x7 x8 x9 M h; exact h.no.elim
  | succ n ih =>
    intro x2 x3 x4 x5 x6 x7 x8 x9 M h
    have hgx2 := h.gd
    have h := hgx2.2
    have hx2 := gk_lt_of hgx2.1
    refine gk_iload dX11_wouldBeAt_15 rfl ?_
    refine gk_iload dX11_wouldBeAt_17 rfl ?_
    refine gk_icmp_ge (tgt := 77) dX11_wouldBeAt_19 (by decide) h (fun h => ?_) (fun h => ?_)
    · refine gk_iload dX11_wouldBeAt_77 rfl ?_
      refine gk_iload dX11_wouldBeAt_79 rfl ?_
      refine gk_icmp_ne (tgt := 95) dX11_wouldBeAt_81 (by decide) h (fun h => ?_) (fun h => ?_)
      · exact gk_weak [none, none, none, none, none, none, none, none, none, none] True.intro (ok_X11_wouldBeAt_j95 M h)
      · refine gk_iload dX11_wouldBeAt_84 rfl ?_
        refine gk_iload dX11_wouldBeAt_86 rfl ?_
        refine gk_icmp_ne (tgt := 95) dX11_wouldBeAt_88 (by decide) h (fun h => ?_) (fun h => ?_)
        · exact gk_weak [none, none, none, none, none, none, none, none, none, none] True.intro (ok_X11_wouldBeAt_j95 M h)
        · refine gk_iconst (v := (1 : Int32)) dX11_wouldBeAt_91 (by decide) ?_
          refine gk_goto (tgt := 96) dX11_wouldBeAt_92 (by decide) ?_
          exact gk_zret dX11_wouldBeAt_96 rfl h
    · refine gk_aload_n dX11_wouldBeAt_22 rfl rfl ?_
      refine gk_get (v := gk_R 2 0) fr_X11_48 pf_6_3 (by decide) dX11_wouldBeAt_23 ?_
      refine gk_aload_n dX11_wouldBeAt_26 rfl rfl ?_
      refine gk_get (v := gk_R 2 0) fr_X11_48 pf_6_3 (by decide) dX11_wouldBeAt_27 ?_
      refine gk_getI fr_X11_158 si_2_4 (by decide) dX11_wouldBeAt_30 ?_
      refine gk_iload dX11_wouldBeAt_33 rfl ?_
      refine gk_iadd dX11_wouldBeAt_35 ?_
      refine gk_aload_n dX11_wouldBeAt_36 rfl rfl ?_
      refine gk_get (v := gk_R 0 0) fr_X11_34 pf_6_1 (by decide) dX11_wouldBeAt_37 ?_
      refine gk_callV (As := [gk_R 2 0, gk_I ((M 2 0 4) + x9), gk_R 0 0]) (st := []) 1 (cr_X11_260 (by decide) rfl) (fun K' h' => ok_X4_airOf 0 ((M 2 0 4) + x9) M K' h') rfl (by decide) (by decide) (fun _ => Nat.le_of_ble_eq_true rfl) dX11_wouldBeAt_40 h (fun _ M1 h => ?_)
      refine gk_iload dX11_wouldBeAt_43 rfl ?_
      refine gk_aload_n dX11_wouldBeAt_45 rfl rfl ?_
      refine gk_aload_n dX11_wouldBeAt_46 rfl rfl ?_
      refine gk_get (v := gk_R 0 0) fr_X11_34 pf_6_1 (by decide) dX11_wouldBeAt_47 ?_
      refine gk_iload_n dX11_wouldBeAt_50 rfl rfl ?_
      refine cd_X11_264 (st := [gk_I x7]) (by decide) (fun _ => Nat.le_of_ble_eq_true rfl) dX11_wouldBeAt_51 h (fun r4 M3 h => ?_)
      refine gk_iadd dX11_wouldBeAt_54 ?_
      refine gk_istore (L' := [some (gk_R 6 0), none, some (gk_R 1 x2), some (gk_I x3), some (gk_I x4), some (gk_I x5), some (gk_I x6), some (gk_I (x7 + r4)), some (gk_I x8), some (gk_I x9)]) dX11_wouldBeAt_55 (by decide) rfl rfl ?_
      refine gk_iload dX11_wouldBeAt_57 rfl ?_
      refine gk_aload_n dX11_wouldBeAt_59 rfl rfl ?_
      refine gk_aload_n dX11_wouldBeAt_60 rfl rfl ?_
      refine gk_get (v := gk_R 0 0) fr_X11_34 pf_6_1 (by decide) dX11_wouldBeAt_61 ?_
      refine gk_iload_n dX11_wouldBeAt_64 rfl rfl ?_
      refine cd_X11_268 (st := [gk_I x8]) (by decide) (fun _ => Nat.le_of_ble_eq_true rfl) dX11_wouldBeAt_65 h (fun r6 M5 h => ?_)
      refine gk_iadd dX11_wouldBeAt_68 ?_
      refine gk_istore (L' := [some (gk_R 6 0), none, some (gk_R 1 x2), some (gk_I x3), some (gk_I x4), some (gk_I x5), some (gk_I x6), some (gk_I (x7 + r4)), some (gk_I (x8 + r6)), some (gk_I x9)]) dX11_wouldBeAt_69 (by decide) rfl rfl ?_
      refine gk_iinc (v := (x9 + (1 : Int32))) (L' := [some (gk_R 6 0), none, some (gk_R 1 x2), some (gk_I x3), some (gk_I x4), some (gk_I x5), some (gk_I x6), some (gk_I (x7 + r4)), some (gk_I (x8 + r6)), some (gk_I (x9 + (1 : Int32)))]) dX11_wouldBeAt_71 rfl rfl (by decide) rfl rfl ?_
      refine gk_goto (tgt := 15) dX11_wouldBeAt_74 (by decide) ?_
      exact gk_weak [some (gk_R 6 0), none, some (gk_R 1 x2), some (gk_I x3), some (gk_I x4), some (gk_I x5), some (gk_I x6), some (gk_I (x7 + r4)), some (gk_I (x8 + r6)), some (gk_I (x9 + (1 : Int32)))] (And.intro rfl (And.intro rfl (And.intro rfl (And.intro rfl (And.intro rfl (And.intro rfl (And.intro rfl (And.intro rfl (And.intro rfl True.intro))))))))) (ih x2 x3 x4 x5 x6 ((x7 + r4)) ((x8 + r6)) ((x9 + (1 : Int32))) M5 h)
set_option maxRecDepth 100000 in
set_option maxHeartbeats 4000000 in
theorem ok_X11_wouldBeAt (a1 : Nat) (a2 : Nat) (a3 : Int32) (a4 : Int32) (a5 : Int32) (a6 : Int32) (M : gk_M) (K : gk_V → gk_M → Prop) (h : gk_Sat gk_I (f_X11_wouldBeAt a1 a2 a3 a4 a5 a6 M) K) : gk_MS 3 yX11_wouldBeAt cX11_wouldBeAt 10 (some .boolean) [gk_R 6 0, gk_R 5 a1, gk_R 1 a2, gk_I a3, gk_I a4, gk_I a5, gk_I a6] M K := by
  have hga1 := h.gd
  have h := hga1.2
  have ha1 := gk_lt_of hga1.1
  have hga2 := h.gd
  have h := hga2.2
  have ha2 := gk_lt_of hga2.1
  refine gk_MS_of [some (gk_R 6 0), some (gk_R 5 a1), some (gk_R 1 a2), some (gk_I a3), some (gk_I a4), some (gk_I a5), some (gk_I a6), none, none, none] (by decide +kernel) (Nat.le_of_ble_eq_true rfl) (And.intro rfl (And.intro rfl (And.intro rfl (And.intro rfl (And.intro rfl (And.intro rfl (And.intro rfl True.intro))))))) ?_
  show gk_G RX11 cX11_wouldBeAt 10 3 (some .boolean) none K 0 [some (gk_R 6 0), some (gk_R 5 a1), some (gk_R 1 a2), some (gk_I a3), some (gk_I a4), some (gk_I a5), some (gk_I a6), none, none, none] [] M
  refine gk_aload_n dX11_wouldBeAt_0 rfl rfl ?_
  refine gk_getI fr_X11_121 si_5_4 ha1 dX11_wouldBeAt_1 ?_
  refine gk_istore (L' := [some (gk_R 6 0), some (gk_R 5 a1), some (gk_R 1 a2), some (gk_I a3), some (gk_I a4), some (gk_I a5), some (gk_I a6), some (gk_I (M 5 a1 4)), none, none]) dX11_wouldBeAt_4 (by decide) rfl rfl ?_
  refine gk_aload_n dX11_wouldBeAt_6 rfl rfl ?_
  refine gk_getI fr_X11_124 si_5_5 ha1 dX11_wouldBeAt_7 ?_
  refine gk_istore (L' := [some (gk_R 6 0), some (gk_R 5 a1), some (gk_R 1 a2), some (gk_I a3), some (gk_I a4), some (gk_I a5), some (gk_I a6), some (gk_I (M 5 a1 4)), some (gk_I (M 5 a1 5)), none]) dX11_wouldBeAt_10 (by decide) rfl rfl ?_
  refine gk_iconst (v := (0 : Int32)) dX11_wouldBeAt_12 (by decide) ?_
  refine gk_istore (L' := [some (gk_R 6 0), some (gk_R 5 a1), some (gk_R 1 a2), some (gk_I a3), some (gk_I a4), some (gk_I a5), some (gk_I a6), some (gk_I (M 5 a1 4)), some (gk_I (M 5 a1 5)), some (gk_I (0 : Int32))]) dX11_wouldBeAt_13 (by decide) rfl rfl ?_
  exact gk_weak [some (gk_R 6 0), none, some (gk_R 1 a2), some (gk_I a3), some (gk_I a4), some (gk_I a5), some (gk_I a6), some (gk_I (M 5 a1 4)), some (gk_I (M 5 a1 5)), some (gk_I (0 : Int32))] (And.intro rfl (And.intro rfl (And.intro rfl (And.intro rfl (And.intro rfl (And.intro rfl (And.intro rfl (And.intro rfl (And.intro rfl True.intro))))))))) (ok_X11_wouldBeAt_l15 200 a2 a3 a4 a5 a6 ((M 5 a1 4)) ((M 5 a1 5)) ((0 : Int32)) M h)
set_option maxRecDepth 100000 in
set_option maxHeartbeats 4000000 in
theorem ok_X11_kinds_j90 {K : gk_V → gk_M → Prop} (κ45 : Int32 → Int32 → Int32 → Int32 → Int32 → Int32 → Int32 → gk_M → Option (Int32 × gk_M)) (hκ45 : ∀ (x1 : Int32) (x2 : Int32) (x3 : Int32) (x4 : Int32) (x5 : Int32) (x7 : Int32) (x8 : Int32) (M : gk_M), gk_Sat gk_I (κ45 x1 x2 x3 x4 x5 x7 x8 M) K → gk_G RX11 cX11_kinds 9 4 (some .int) none K 45 [some (gk_R 6 0), some (gk_I x1), some (gk_I x2), some (gk_I x3), some (gk_I x4), some (gk_I x5), none, some (gk_I x7), some (gk_I x8)] [] M) (x1 : Int32) (x2 : Int32) (x3 : Int32) (x4 : Int32) (x5 : Int32) (x7 : Int32) (x8 : Int32) (M : gk_M) (h : gk_Sat gk_I (X11_kinds_j90 κ45 x1 x2 x3 x4 x5 x7 x8 M) K) : gk_G RX11 cX11_kinds 9 4 (some .int) none K 90 [some (gk_R 6 0), some (gk_I x1), some (gk_I x2), some (gk_I x3), some (gk_I x4), some (gk_I x5), none, some (gk_I x7), some (gk_I x8)] [] M := by
  refine gk_iinc (v := (x8 + (1 : Int32))) (L' := [some (gk_R 6 0), some (gk_I x1), some (gk_I x2), some (gk_I x3), some (gk_I x4), some (gk_I x5), none, some (gk_I x7), some (gk_I (x8 + (1 : Int32)))]) dX11_kinds_90 rfl rfl (by decide) rfl rfl ?_
  refine gk_goto (tgt := 45) dX11_kinds_93 (by decide) ?_
  exact gk_weak [some (gk_R 6 0), some (gk_I x1), some (gk_I x2), some (gk_I x3), some (gk_I x4), some (gk_I x5), none, some (gk_I x7), some (gk_I (x8 + (1 : Int32)))] (And.intro rfl (And.intro rfl (And.intro rfl (And.intro rfl (And.intro rfl (And.intro rfl (And.intro rfl (And.intro rfl True.intro)))))))) (hκ45 x1 x2 x3 x4 x5 x7 ((x8 + (1 : Int32))) M h)
set_option maxRecDepth 100000 in
set_option maxHeartbeats 4000000 in
theorem ok_X11_kinds_l45 {K : gk_V → gk_M → Prop} : ∀ (n : Nat) (x1 : Int32) (x2 : Int32) (x3 : Int32) (x4 : Int32) (x5 : Int32) (x7 : Int32) (x8 : Int32) (M : gk_M), gk_Sat gk_I (X11_kinds_l45 n x1 x2 x3 x4 x5 x7 x8 M) K → gk_G RX11 cX11_kinds 9 4 (some .int) none K 45 [some (gk_R 6 0), some (gk_I x1), some (gk_I x2), some (gk_I x3), some (gk_I x4), some (gk_I x5), none, some (gk_I x7), some (gk_I x8)] [] M := by
  intro n
  induction n with
  | zero => intro x1 x2 x3 x4 x5 x7 x8 M h; exact h.no.elim
  | succ n ih =>
    intro x1 x2 x3 x4 x5 x7 x8 M h
    refine gk_iload dX11_kinds_45 rfl ?_
    refine gk_bipush (v := (6 : Int32)) dX11_kinds_47 (by decide) ?_
    refine gk_icmp_ge (tgt := 96) dX11_kinds_49 (by decide) h (fun h => ?_) (fun h => ?_)
    · refine gk_iload dX11_kinds_96 rfl ?_
      exact gk_iret dX11_kinds_98 rfl h
    · refine gk_aload_n dX11_kinds_52 rfl rfl ?_
      refine gk_aload_n dX11_kinds_53 rfl rfl ?_
      refine gk_get (v := gk_R 2 0) fr_X11_48 pf_6_3 (by decide) dX11_kinds_54 ?_
      refine gk_get (v := gk_R 9 0) fr_X11_102 pf_2_2 (by decide) dX11_kinds_57 ?_
      refine gk_iload_n dX11_kinds_60 rfl rfl ?_
      refine gk_aald (f := fun i j => 6 * i + j) (t0 := 1) ga_9 (fun _ => rfl) (by decide) dX11_kinds_61 h (fun h hb11 => ?_)
      have hc12 : (6 * 0 + (Int32.toNatClampNeg x1)) < 18 := by omega
      refine gk_aload_n dX11_kinds_62 rfl rfl ?_
      refine gk_get (v := gk_R 10 0) fr_X11_25 pf_6_0 (by decide) dX11_kinds_63 ?_
      refine gk_iload dX11_kinds_66 rfl ?_
      refine gk_aald (f := fun i j => j) (t0 := 2) ga_10 (fun _ => rfl) (by decide) dX11_kinds_68 h (fun h hb13 => ?_)
      refine gk_iload_n dX11_kinds_69 rfl rfl ?_
      refine gk_iload_n dX11_kinds_70 rfl rfl ?_
      refine gk_iload dX11_kinds_71 rfl ?_
      refine gk_iload dX11_kinds_73 rfl ?_
      refine gk_callI (As := [gk_R 6 0, gk_R 5 (6 * 0 + (Int32.toNatClampNeg x1)), gk_R 1 (Int32.toNatClampNeg x8), gk_I x2, gk_I x3, gk_I x4, gk_I x5]) (st := []) 3 (cr_X11_220 (by decide) rfl) (fun K' h' => ok_X11_wouldBeAt ((6 * 0 + (Int32.toNatClampNeg x1))) ((Int32.toNatClampNeg x8)) x2 x3 x4 x5 M K' h') rfl (by decide) (by decide) (fun _ => Nat.le_of_ble_eq_true rfl) dX11_kinds_75 h (fun r15 M14 h => ?_)
      refine gk_if_eq (tgt := 90) dX11_kinds_78 (by decide) h (fun h => ?_) (fun h => ?_)
      · exact gk_weak [some (gk_R 6 0), some (gk_I x1), some (gk_I x2), some (gk_I x3), some (gk_I x4), some (gk_I x5), none, some (gk_I x7), some (gk_I x8)] (And.intro rfl (And.intro rfl (And.intro rfl (And.intro rfl (And.intro rfl (And.intro rfl (And.intro rfl (And.intro rfl True.intro)))))))) (ok_X11_kinds_j90 (X11_kinds_l45 n) ih x1 x2 x3 x4 x5 x7 x8 M14 h)
      · refine gk_iload dX11_kinds_81 rfl ?_
        refine gk_iconst (v := (1 : Int32)) dX11_kinds_83 (by decide) ?_
        refine gk_iload dX11_kinds_84 rfl ?_
        refine gk_ishl dX11_kinds_86 ?_
        refine gk_ior dX11_kinds_87 ?_
        refine gk_istore (L' := [some (gk_R 6 0), some (gk_I x1), some (gk_I x2), some (gk_I x3), some (gk_I x4), some (gk_I x5), none, some (gk_I (x7 ||| ((1 : Int32) <<< (x8 &&& 31)))), some (gk_I x8)]) dX11_kinds_88 (by decide) rfl rfl ?_
        exact gk_weak [some (gk_R 6 0), some (gk_I x1), some (gk_I x2), some (gk_I x3), some (gk_I x4), some (gk_I x5), none, some (gk_I (x7 ||| ((1 : Int32) <<< (x8 &&& 31)))), some (gk_I x8)] (And.intro rfl (And.intro rfl (And.intro rfl (And.intro rfl (And.intro rfl (And.intro rfl (And.intro rfl (And.intro rfl True.intro)))))))) (ok_X11_kinds_j90 (X11_kinds_l45 n) ih x1 x2 x3 x4 x5 ((x7 ||| ((1 : Int32) <<< (x8 &&& 31)))) x8 M14 h)
set_option maxRecDepth 100000 in
set_option maxHeartbeats 4000000 in
theorem ok_X11_kinds (a1 : Int32) (a2 : Int32) (a3 : Int32) (a4 : Int32) (a5 : Int32) (M : gk_M) (K : gk_V → gk_M → Prop) (h : gk_Sat gk_I (f_X11_kinds a1 a2 a3 a4 a5 M) K) : gk_MS 4 yX11_kinds cX11_kinds 9 (some .int) [gk_R 6 0, gk_I a1, gk_I a2, gk_I a3, gk_I a4, gk_I a5] M K := by

  refine gk_MS_of [some (gk_R 6 0), some (gk_I a1), some (gk_I a2), some (gk_I a3), some (gk_I a4), some (gk_I a5), none, none, none] (by decide +kernel) (Nat.le_of_ble_eq_true rfl) (And.intro rfl (And.intro rfl (And.intro rfl (And.intro rfl (And.intro rfl (And.intro rfl True.intro)))))) ?_
  show gk_G RX11 cX11_kinds 9 4 (some .int) none K 0 [some (gk_R 6 0), some (gk_I a1), some (gk_I a2), some (gk_I a3), some (gk_I a4), some (gk_I a5), none, none, none] [] M
  refine gk_aload_n dX11_kinds_0 rfl rfl ?_
  refine gk_iload_n dX11_kinds_1 rfl rfl ?_
  refine gk_callI (As := [gk_R 6 0, gk_I a1]) (st := []) 1 (cr_X11_92 (by decide) rfl) (fun K' h' => ok_X11_nobody a1 M K' h') rfl (by decide) (by decide) (fun _ => Nat.le_of_ble_eq_true rfl) dX11_kinds_2 h (fun r2 M1 h => ?_)
  refine gk_iload_n dX11_kinds_5 rfl rfl ?_
  refine gk_iconst (v := (0 : Int32)) dX11_kinds_6 (by decide) ?_
  refine gk_bipush (v := (30 : Int32)) dX11_kinds_7 (by decide) ?_
  refine gk_callI (As := [gk_I a3, gk_I (0 : Int32), gk_I (30 : Int32)]) (st := [gk_I r2]) 0 (cr_X11_148 rfl) (fun K' h' => ok_X11_range a3 (0 : Int32) (30 : Int32) M1 K' h') rfl (by decide) (by decide) (fun _ => Nat.le_of_ble_eq_true rfl) dX11_kinds_9 h (fun r4 M3 h => ?_)
  refine gk_iload_n dX11_kinds_12 rfl rfl ?_
  refine gk_iconst (v := (0 : Int32)) dX11_kinds_13 (by decide) ?_
  refine gk_bipush (v := (9 : Int32)) dX11_kinds_14 (by decide) ?_
  refine gk_callI (As := [gk_I a2, gk_I (0 : Int32), gk_I (9 : Int32)]) (st := [gk_I r4, gk_I r2]) 0 (cr_X11_148 rfl) (fun K' h' => ok_X11_range a2 (0 : Int32) (9 : Int32) M3 K' h') rfl (by decide) (by decide) (fun _ => Nat.le_of_ble_eq_true rfl) dX11_kinds_16 h (fun r6 M5 h => ?_)
  refine gk_callI (As := [gk_I r4, gk_I r6]) (st := [gk_I r2]) 1 (cr_X11_211 rfl) (fun K' h' => ok_X11_belowFirst r4 r6 M5 K' h') rfl (by decide) (by decide) (fun _ => Nat.le_of_ble_eq_true rfl) dX11_kinds_19 h (fun r8 M7 h => ?_)
  refine gk_callI (As := [gk_I r2, gk_I r8]) (st := []) 0 (cr_X11_99 rfl) (fun K' h' => ok_X11_first r2 r8 M7 K' h') rfl (by decide) (by decide) (fun _ => Nat.le_of_ble_eq_true rfl) dX11_kinds_22 h (fun r10 M9 h => ?_)
  refine gk_istore (L' := [some (gk_R 6 0), some (gk_I a1), some (gk_I a2), some (gk_I a3), some (gk_I a4), some (gk_I a5), some (gk_I r10), none, none]) dX11_kinds_25 (by decide) rfl rfl ?_
  refine gk_iload dX11_kinds_27 rfl ?_
  refine gk_if_eq (tgt := 39) dX11_kinds_29 (by decide) h (fun h => ?_) (fun h => ?_)
  · refine gk_iconst (v := (0 : Int32)) dX11_kinds_39 (by decide) ?_
    refine gk_istore (L' := [some (gk_R 6 0), some (gk_I a1), some (gk_I a2), some (gk_I a3), some (gk_I a4), some (gk_I a5), some (gk_I r10), some (gk_I (0 : Int32)), none]) dX11_kinds_40 (by decide) rfl rfl ?_
    refine gk_iconst (v := (0 : Int32)) dX11_kinds_42 (by decide) ?_
    refine gk_istore (L' := [some (gk_R 6 0), some (gk_I a1), some (gk_I a2), some (gk_I a3), some (gk_I a4), some (gk_I a5), some (gk_I r10), some (gk_I (0 : Int32)), some (gk_I (0 : Int32))]) dX11_kinds_43 (by decide) rfl rfl ?_
    exact gk_weak [some (gk_R 6 0), some (gk_I a1), some (gk_I a2), some (gk_I a3), some (gk_I a4), some (gk_I a5), none, some (gk_I (0 : Int32)), some (gk_I (0 : Int32))] (And.intro rfl (And.intro rfl (And.intro rfl (And.intro rfl (And.intro rfl (And.intro rfl (And.intro rfl (And.intro rfl True.intro)))))))) (ok_X11_kinds_l45 200 a1 a2 a3 a4 a5 ((0 : Int32)) ((0 : Int32)) M9 h)
  · refine gk_aload_n dX11_kinds_32 rfl rfl ?_
    refine gk_iload dX11_kinds_33 rfl ?_
    refine gk_callI (As := [gk_R 6 0, gk_I r10]) (st := []) 0 (cr_X11_72 (by decide) rfl) (fun K' h' => ok_X11_refuse r10 M9 K' h') rfl (by decide) (by decide) (fun _ => Nat.le_of_ble_eq_true rfl) dX11_kinds_35 h (fun r17 M16 h => ?_)
    exact gk_iret dX11_kinds_38 rfl h
set_option maxRecDepth 100000 in
set_option maxHeartbeats 4000000 in
theorem ok_X11_row_j30 {K : gk_V → gk_M → Prop}  (M : gk_M) (h : gk_Sat gk_I (X11_row_j30  M) K) : gk_G RX11 cX11_row 2 1 (some .int) none K 30 [some (gk_R 6 0), none] [] M := by
  refine gk_aload_n dX11_row_30 rfl rfl ?_
  refine gk_bipush (v := (-6 : Int32)) dX11_row_31 (by decide) ?_
  refine gk_callI (As := [gk_R 6 0, gk_I (-6 : Int32)]) (st := []) 0 (cr_X11_72 (by decide) rfl) (fun K' h' => ok_X11_refuse (-6 : Int32) M K' h') rfl (by decide) (by decide) (fun _ => Nat.le_of_ble_eq_true rfl) dX11_row_33 h (fun r2 M1 h => ?_)
  exact gk_iret dX11_row_36 rfl h
set_option maxRecDepth 100000 in
set_option maxHeartbeats 4000000 in
theorem ok_X11_row (a1 : Int32) (M : gk_M) (K : gk_V → gk_M → Prop) (h : gk_Sat gk_I (f_X11_row a1 M) K) : gk_MS 1 yX11_row cX11_row 2 (some .int) [gk_R 6 0, gk_I a1] M K := by

  refine gk_MS_of [some (gk_R 6 0), some (gk_I a1)] (by decide +kernel) (Nat.le_of_ble_eq_true rfl) (And.intro rfl (And.intro rfl True.intro)) ?_
  show gk_G RX11 cX11_row 2 1 (some .int) none K 0 [some (gk_R 6 0), some (gk_I a1)] [] M
  refine gk_iload_n dX11_row_0 rfl rfl ?_
  refine gk_sipush (v := (-999 : Int32)) dX11_row_1 (by decide) ?_
  refine gk_icmp_ge (tgt := 14) dX11_row_4 (by decide) h (fun h => ?_) (fun h => ?_)
  · refine gk_iload_n dX11_row_14 rfl rfl ?_
    refine gk_sipush (v := (999 : Int32)) dX11_row_15 (by decide) ?_
    refine gk_icmp_gt (tgt := 30) dX11_row_18 (by decide) h (fun h => ?_) (fun h => ?_)
    · exact gk_weak [some (gk_R 6 0), none] (And.intro rfl True.intro) (ok_X11_row_j30 M h)
    · refine gk_aload_n dX11_row_21 rfl rfl ?_
      refine gk_getI fr_X11_224 si_6_9 (by decide) dX11_row_22 ?_
      refine gk_bipush (v := (12 : Int32)) dX11_row_25 (by decide) ?_
      refine gk_icmp_lt (tgt := 37) dX11_row_27 (by decide) h (fun h => ?_) (fun h => ?_)
      · refine gk_aload_n dX11_row_37 rfl rfl ?_
        refine gk_get (v := gk_R 12 0) fr_X11_65 pf_6_8 (by decide) dX11_row_38 ?_
        refine gk_aload_n dX11_row_41 rfl rfl ?_
        refine gk_getI fr_X11_224 si_6_9 (by decide) dX11_row_42 ?_
        refine gk_iload_n dX11_row_45 rfl rfl ?_
        refine gk_iast ga_12 (by decide) dX11_row_46 h (fun M3 h => ?_)
        refine gk_aload_n dX11_row_47 rfl rfl ?_
        refine gk_dup dX11_row_48 rfl ?_
        refine gk_getI fr_X11_224 si_6_9 (by decide) dX11_row_49 ?_
        refine gk_iconst (v := (1 : Int32)) dX11_row_52 (by decide) ?_
        refine gk_iadd dX11_row_53 ?_
        refine gk_putI fr_X11_224 si_6_9 (by decide) dX11_row_54 h (fun M4 h => ?_)
        refine gk_aload_n dX11_row_57 rfl rfl ?_
        refine gk_getI fr_X11_224 si_6_9 (by decide) dX11_row_58 ?_
        exact gk_iret dX11_row_61 rfl h
      · exact gk_weak [some (gk_R 6 0), none] (And.intro rfl True.intro) (ok_X11_row_j30 M h)
  · refine gk_aload_n dX11_row_7 rfl rfl ?_
    refine gk_bipush (v := (-4 : Int32)) dX11_row_8 (by decide) ?_
    refine gk_callI (As := [gk_R 6 0, gk_I (-4 : Int32)]) (st := []) 0 (cr_X11_72 (by decide) rfl) (fun K' h' => ok_X11_refuse (-4 : Int32) M K' h') rfl (by decide) (by decide) (fun _ => Nat.le_of_ble_eq_true rfl) dX11_row_10 h (fun r6 M5 h => ?_)
    exact gk_iret dX11_row_13 rfl h
set_option maxRecDepth 100000 in
set_option maxHeartbeats 4000000 in
theorem ok_X11_firstUntrue_j85 {K : gk_V → gk_M → Prop} (κ23 : Nat → Int32 → gk_M → Option (Int32 × gk_M)) (hκ23 : ∀ (x2 : Nat) (x3 : Int32) (M : gk_M), gk_Sat gk_I (κ23 x2 x3 M) K → gk_G RX11 cX11_firstUntrue 5 5 (some .int) none K 23 [some (gk_R 6 0), none, some (gk_R 5 x2), some (gk_I x3), none] [] M) (x2 : Nat) (x3 : Int32) (M : gk_M) (h : gk_Sat gk_I (X11_firstUntrue_j85 κ23 x2 x3 M) K) : gk_G RX11 cX11_firstUntrue 5 5 (some .int) none K 85 [some (gk_R 6 0), none, some (gk_R 5 x2), some (gk_I x3), none] [] M := by
  have hgx2 := h.gd
  have h := hgx2.2
  have hx2 := gk_lt_of hgx2.1
  refine gk_iinc (v := (x3 + (1 : Int32))) (L' := [some (gk_R 6 0), none, some (gk_R 5 x2), some (gk_I (x3 + (1 : Int32))), none]) dX11_firstUntrue_85 rfl rfl (by decide) rfl rfl ?_
  refine gk_goto (tgt := 23) dX11_firstUntrue_88 (by decide) ?_
  exact gk_weak [some (gk_R 6 0), none, some (gk_R 5 x2), some (gk_I (x3 + (1 : Int32))), none] (And.intro rfl (And.intro rfl (And.intro rfl True.intro))) (hκ23 x2 ((x3 + (1 : Int32))) M h)
set_option maxRecDepth 100000 in
set_option maxHeartbeats 4000000 in
theorem ok_X11_firstUntrue_j66 {K : gk_V → gk_M → Prop} (κ23 : Nat → Int32 → gk_M → Option (Int32 × gk_M)) (hκ23 : ∀ (x2 : Nat) (x3 : Int32) (M : gk_M), gk_Sat gk_I (κ23 x2 x3 M) K → gk_G RX11 cX11_firstUntrue 5 5 (some .int) none K 23 [some (gk_R 6 0), none, some (gk_R 5 x2), some (gk_I x3), none] [] M) (x2 : Nat) (x3 : Int32) (x4 : Int32) (s0 : Int32) (s1 : Int32) (M : gk_M) (h : gk_Sat gk_I (X11_firstUntrue_j66 κ23 x2 x3 x4 s0 s1 M) K) : gk_G RX11 cX11_firstUntrue 5 5 (some .int) none K 66 [some (gk_R 6 0), none, some (gk_R 5 x2), some (gk_I x3), some (gk_I x4)] [gk_I s0, gk_I s1] M := by
  have hgx2 := h.gd
  have h := hgx2.2
  have hx2 := gk_lt_of hgx2.1
  refine gk_icmp_eq (tgt := 71) dX11_firstUntrue_66 (by decide) h (fun h => ?_) (fun h => ?_)
  · refine gk_iload dX11_firstUntrue_71 rfl ?_
    refine gk_if_ne (tgt := 85) dX11_firstUntrue_73 (by decide) h (fun h => ?_) (fun h => ?_)
    · exact gk_weak [some (gk_R 6 0), none, some (gk_R 5 x2), some (gk_I x3), none] (And.intro rfl (And.intro rfl (And.intro rfl True.intro))) (ok_X11_firstUntrue_j85 κ23 hκ23 x2 x3 M h)
    · refine gk_aload_n dX11_firstUntrue_76 rfl rfl ?_
      refine gk_aload_n dX11_firstUntrue_77 rfl rfl ?_
      refine gk_get (v := gk_R 2 1) fr_X11_52 pf_6_4 (by decide) dX11_firstUntrue_78 ?_
      refine gk_callI (As := [gk_R 6 0, gk_R 2 1]) (st := []) 4 (cr_X11_166 (by decide) rfl) (fun K' h' => ok_X11_dayOf 1 M K' h') rfl (by decide) (by decide) (fun _ => Nat.le_of_ble_eq_true rfl) dX11_firstUntrue_81 h (fun r7 M6 h => ?_)
      refine gk_pop dX11_firstUntrue_84 rfl ?_
      exact gk_weak [some (gk_R 6 0), none, some (gk_R 5 x2), some (gk_I x3), none] (And.intro rfl (And.intro rfl (And.intro rfl True.intro))) (ok_X11_firstUntrue_j85 κ23 hκ23 x2 x3 M6 h)
  · refine gk_iload_n dX11_firstUntrue_69 rfl rfl ?_
    exact gk_iret dX11_firstUntrue_70 rfl h
set_option maxRecDepth 100000 in
set_option maxHeartbeats 4000000 in
theorem ok_X11_firstUntrue_j42 {K : gk_V → gk_M → Prop} (κ23 : Nat → Int32 → gk_M → Option (Int32 × gk_M)) (hκ23 : ∀ (x2 : Nat) (x3 : Int32) (M : gk_M), gk_Sat gk_I (κ23 x2 x3 M) K → gk_G RX11 cX11_firstUntrue 5 5 (some .int) none K 23 [some (gk_R 6 0), none, some (gk_R 5 x2), some (gk_I x3), none] [] M) (x2 : Nat) (x3 : Int32) (s0 : Int32) (M : gk_M) (h : gk_Sat gk_I (X11_firstUntrue_j42 κ23 x2 x3 s0 M) K) : gk_G RX11 cX11_firstUntrue 5 5 (some .int) none K 42 [some (gk_R 6 0), none, some (gk_R 5 x2), some (gk_I x3), none] [gk_I s0] M := by
  have hgx2 := h.gd
  have h := hgx2.2
  have hx2 := gk_lt_of hgx2.1
  refine gk_istore (L' := [some (gk_R 6 0), none, some (gk_R 5 x2), some (gk_I x3), some (gk_I s0)]) dX11_firstUntrue_42 (by decide) rfl rfl ?_
  refine gk_aload_n dX11_firstUntrue_44 rfl rfl ?_
  refine gk_get (v := gk_R 12 0) fr_X11_65 pf_6_8 (by decide) dX11_firstUntrue_45 ?_
  refine gk_iload_n dX11_firstUntrue_48 rfl rfl ?_
  refine gk_iald ga_12 (by decide) dX11_firstUntrue_49 h (fun h hb5 => ?_)
  refine gk_iload dX11_firstUntrue_50 rfl ?_
  refine gk_if_eq (tgt := 62) dX11_firstUntrue_52 (by decide) h (fun h => ?_) (fun h => ?_)
  · refine gk_aload_n dX11_firstUntrue_62 rfl rfl ?_
    refine gk_getI fr_X11_124 si_5_5 hx2 dX11_firstUntrue_63 ?_
    exact gk_weak [some (gk_R 6 0), none, some (gk_R 5 x2), some (gk_I x3), some (gk_I s0)] (And.intro rfl (And.intro rfl (And.intro rfl (And.intro rfl True.intro)))) (ok_X11_firstUntrue_j66 κ23 hκ23 x2 x3 s0 ((M 5 x2 5)) ((M 12 0 (Int32.toNatClampNeg x3))) M h)
  · refine gk_aload_n dX11_firstUntrue_55 rfl rfl ?_
    refine gk_getI fr_X11_121 si_5_4 hx2 dX11_firstUntrue_56 ?_
    refine gk_goto (tgt := 66) dX11_firstUntrue_59 (by decide) ?_
    exact gk_weak [some (gk_R 6 0), none, some (gk_R 5 x2), some (gk_I x3), some (gk_I s0)] (And.intro rfl (And.intro rfl (And.intro rfl (And.intro rfl True.intro)))) (ok_X11_firstUntrue_j66 κ23 hκ23 x2 x3 s0 ((M 5 x2 4)) ((M 12 0 (Int32.toNatClampNeg x3))) M h)
set_option maxRecDepth 100000 in
set_option maxHeartbeats 4000000 in
theorem ok_X11_firstUntrue_l23 {K : gk_V → gk_M → Prop} : ∀ (n : Nat) (x2 : Nat) (x3 : Int32) (M : gk_M), gk_Sat gk_I (X11_firstUntrue_l23 n x2 x3 M) K → gk_G RX11 cX11_firstUntrue 5 5 (some .int) none K 23 [some (gk_R 6 0), none, some (gk_R 5 x2), some (gk_I x3), none] [] M := by
  intro n
  induction n with
  | zero => intro x2 x3 M h; exact h.no.elim
  | succ n ih =>
    intro x2 x3 M h
    have hgx2 := h.gd
    have h := hgx2.2
    have hx2 := gk_lt_of hgx2.1
    refine gk_iload_n dX11_firstUntrue_23 rfl rfl ?_
    refine gk_aload_n dX11_firstUntrue_24 rfl rfl ?_
    refine gk_getI fr_X11_224 si_6_9 (by decide) dX11_firstUntrue_25 ?_
    refine gk_icmp_ge (tgt := 91) dX11_firstUntrue_28 (by decide) h (fun h => ?_) (fun h => ?_)
    · refine gk_bipush (v := (-9 : Int32)) dX11_firstUntrue_91 (by decide) ?_
      exact gk_iret dX11_firstUntrue_93 rfl h
    · refine gk_iload_n dX11_firstUntrue_31 rfl rfl ?_
      refine gk_iconst (v := (2 : Int32)) dX11_firstUntrue_32 (by decide) ?_
      refine gk_irem dX11_firstUntrue_33 (by decide) ?_
      refine gk_if_ne (tgt := 41) dX11_firstUntrue_34 (by decide) h (fun h => ?_) (fun h => ?_)
      · refine gk_iconst (v := (0 : Int32)) dX11_firstUntrue_41 (by decide) ?_
        exact gk_weak [some (gk_R 6 0), none, some (gk_R 5 x2), some (gk_I x3), none] (And.intro rfl (And.intro rfl (And.intro rfl True.intro))) (ok_X11_firstUntrue_j42 (X11_firstUntrue_l23 n) ih x2 x3 ((0 : Int32)) M h)
      · refine gk_iconst (v := (1 : Int32)) dX11_firstUntrue_37 (by decide) ?_
        refine gk_goto (tgt := 42) dX11_firstUntrue_38 (by decide) ?_
        exact gk_weak [some (gk_R 6 0), none, some (gk_R 5 x2), some (gk_I x3), none] (And.intro rfl (And.intro rfl (And.intro rfl True.intro))) (ok_X11_firstUntrue_j42 (X11_firstUntrue_l23 n) ih x2 x3 ((1 : Int32)) M h)
set_option maxRecDepth 100000 in
set_option maxHeartbeats 4000000 in
theorem ok_X11_firstUntrue (a1 : Int32) (M : gk_M) (K : gk_V → gk_M → Prop) (h : gk_Sat gk_I (f_X11_firstUntrue a1 M) K) : gk_MS 5 yX11_firstUntrue cX11_firstUntrue 5 (some .int) [gk_R 6 0, gk_I a1] M K := by

  refine gk_MS_of [some (gk_R 6 0), some (gk_I a1), none, none, none] (by decide +kernel) (Nat.le_of_ble_eq_true rfl) (And.intro rfl (And.intro rfl True.intro)) ?_
  show gk_G RX11 cX11_firstUntrue 5 5 (some .int) none K 0 [some (gk_R 6 0), some (gk_I a1), none, none, none] [] M
  refine gk_aload_n dX11_firstUntrue_0 rfl rfl ?_
  refine gk_get (v := gk_R 2 1) fr_X11_52 pf_6_4 (by decide) dX11_firstUntrue_1 ?_
  refine gk_aload_n dX11_firstUntrue_4 rfl rfl ?_
  refine gk_get (v := gk_R 2 0) fr_X11_48 pf_6_3 (by decide) dX11_firstUntrue_5 ?_
  refine gk_callV (As := [gk_R 2 1, gk_R 2 0]) (st := []) 1 (cr_X11_84 (by decide) rfl) (fun K' h' => ok_X4_copyFrom 1 0 M K' h') rfl (by decide) (by decide) (fun _ => Nat.le_of_ble_eq_true rfl) dX11_firstUntrue_8 h (fun _ M1 h => ?_)
  refine gk_aload_n dX11_firstUntrue_11 rfl rfl ?_
  refine gk_get (v := gk_R 2 1) fr_X11_52 pf_6_4 (by decide) dX11_firstUntrue_12 ?_
  refine gk_get (v := gk_R 9 1) fr_X11_102 pf_2_2 (by decide) dX11_firstUntrue_15 ?_
  refine gk_iload_n dX11_firstUntrue_18 rfl rfl ?_
  refine gk_aald (f := fun i j => 6 * i + j) (t0 := 1) ga_9 (fun _ => rfl) (by decide) dX11_firstUntrue_19 h (fun h hb3 => ?_)
  have hc4 : (6 * 1 + (Int32.toNatClampNeg a1)) < 18 := by omega
  refine gk_astore_n (L' := [some (gk_R 6 0), some (gk_I a1), some (gk_R 5 (6 * 1 + (Int32.toNatClampNeg a1))), none, none]) dX11_firstUntrue_20 rfl (by decide) rfl rfl ?_
  refine gk_iconst (v := (0 : Int32)) dX11_firstUntrue_21 (by decide) ?_
  refine gk_istore_n (L' := [some (gk_R 6 0), some (gk_I a1), some (gk_R 5 (6 * 1 + (Int32.toNatClampNeg a1))), some (gk_I (0 : Int32)), none]) dX11_firstUntrue_22 rfl (by decide) rfl rfl ?_
  exact gk_weak [some (gk_R 6 0), none, some (gk_R 5 (6 * 1 + (Int32.toNatClampNeg a1))), some (gk_I (0 : Int32)), none] (And.intro rfl (And.intro rfl (And.intro rfl True.intro))) (ok_X11_firstUntrue_l23 200 ((6 * 1 + (Int32.toNatClampNeg a1))) ((0 : Int32)) M1 h)
set_option maxRecDepth 100000 in
set_option maxHeartbeats 4000000 in
theorem ok_X11_judge (a1 : Int32) (M : gk_M) (K : gk_V → gk_M → Prop) (h : gk_Sat gk_I (f_X11_judge a1 M) K) : gk_MS 6 yX11_judge cX11_judge 4 (some .int) [gk_R 6 0, gk_I a1] M K := by

  refine gk_MS_of [some (gk_R 6 0), some (gk_I a1), none, none] (by decide +kernel) (Nat.le_of_ble_eq_true rfl) (And.intro rfl (And.intro rfl True.intro)) ?_
  show gk_G RX11 cX11_judge 4 6 (some .int) none K 0 [some (gk_R 6 0), some (gk_I a1), none, none] [] M
  refine gk_aload_n dX11_judge_0 rfl rfl ?_
  refine gk_iload_n dX11_judge_1 rfl rfl ?_
  refine gk_callI (As := [gk_R 6 0, gk_I a1]) (st := []) 1 (cr_X11_92 (by decide) rfl) (fun K' h' => ok_X11_nobody a1 M K' h') rfl (by decide) (by decide) (fun _ => Nat.le_of_ble_eq_true rfl) dX11_judge_2 h (fun r2 M1 h => ?_)
  refine gk_istore_n (L' := [some (gk_R 6 0), some (gk_I a1), some (gk_I r2), none]) dX11_judge_5 rfl (by decide) rfl rfl ?_
  refine gk_iload_n dX11_judge_6 rfl rfl ?_
  refine gk_if_eq (tgt := 16) dX11_judge_7 (by decide) h (fun h => ?_) (fun h => ?_)
  · refine gk_aload_n dX11_judge_16 rfl rfl ?_
    refine gk_iload_n dX11_judge_17 rfl rfl ?_
    refine gk_callI (As := [gk_R 6 0, gk_I a1]) (st := []) 5 (cr_X11_227 (by decide) rfl) (fun K' h' => ok_X11_firstUntrue a1 M1 K' h') rfl (by decide) (by decide) (fun _ => Nat.le_of_ble_eq_true rfl) dX11_judge_18 h (fun r4 M3 h => ?_)
    refine gk_istore_n (L' := [some (gk_R 6 0), some (gk_I a1), some (gk_I r2), some (gk_I r4)]) dX11_judge_21 rfl (by decide) rfl rfl ?_
    refine gk_aload_n dX11_judge_22 rfl rfl ?_
    refine gk_iconst (v := (0 : Int32)) dX11_judge_23 (by decide) ?_
    refine gk_putI fr_X11_224 si_6_9 (by decide) dX11_judge_24 h (fun M5 h => ?_)
    refine gk_iload_n dX11_judge_27 rfl rfl ?_
    exact gk_iret dX11_judge_28 rfl h
  · refine gk_aload_n dX11_judge_10 rfl rfl ?_
    refine gk_iload_n dX11_judge_11 rfl rfl ?_
    refine gk_callI (As := [gk_R 6 0, gk_I r2]) (st := []) 0 (cr_X11_72 (by decide) rfl) (fun K' h' => ok_X11_refuse r2 M1 K' h') rfl (by decide) (by decide) (fun _ => Nat.le_of_ble_eq_true rfl) dX11_judge_12 h (fun r7 M6 h => ?_)
    exact gk_iret dX11_judge_15 rfl h
set_option maxRecDepth 100000 in
set_option maxHeartbeats 4000000 in
theorem ok_X11_lots_l61 {K : gk_V → gk_M → Prop} : ∀ (n : Nat) (x1 : Int32) (x3 : Int32) (x5 : Int32) (x6 : Int32) (M : gk_M), gk_Sat gk_I (X11_lots_l61 n x1 x3 x5 x6 M) K → gk_G RX11 cX11_lots 7 4 (some .int) none K 61 [some (gk_R 6 0), some (gk_I x1), none, some (gk_I x3), none, some (gk_I x5), some (gk_I x6)] [] M := by
  intro n
  induction n with
  | zero => intro x1 x3 x5 x6 M h; exact h.no.elim
  | succ n ih =>
    intro x1 x3 x5 x6 M h
    refine gk_iload dX11_lots_61 rfl ?_
    refine gk_iload_n dX11_lots_63 rfl rfl ?_
    refine gk_icmp_ge (tgt := 111) dX11_lots_64 (by decide) h (fun h => ?_) (fun h => ?_)
    · refine gk_iload_n dX11_lots_111 rfl rfl ?_
      refine gk_if_ne (tgt := 120) dX11_lots_112 (by decide) h (fun h => ?_) (fun h => ?_)
      · refine gk_aload_n dX11_lots_120 rfl rfl ?_
        refine gk_get (v := gk_R 2 1) fr_X11_52 pf_6_4 (by decide) dX11_lots_121 ?_
        refine gk_aload_n dX11_lots_124 rfl rfl ?_
        refine gk_get (v := gk_R 2 1) fr_X11_52 pf_6_4 (by decide) dX11_lots_125 ?_
        refine gk_getI fr_X11_155 si_2_6 (by decide) dX11_lots_128 ?_
        refine gk_callI (As := [gk_R 2 1, gk_I (M 2 1 6)]) (st := []) 3 (cr_X11_244 (by decide) rfl) (fun K' h' => ok_X4_pairsWithin 1 (M 2 1 6) M K' h') rfl (by decide) (by decide) (fun _ => Nat.le_of_ble_eq_true rfl) dX11_lots_131 h (fun r13 M12 h => ?_)
        exact gk_iret dX11_lots_134 rfl h
      · refine gk_iload dX11_lots_115 rfl ?_
        refine gk_goto (tgt := 134) dX11_lots_117 (by decide) ?_
        exact gk_iret dX11_lots_134 rfl h
    · refine gk_aload_n dX11_lots_67 rfl rfl ?_
      refine gk_get (v := gk_R 0 0) fr_X11_34 pf_6_1 (by decide) dX11_lots_68 ?_
      refine gk_aload_n dX11_lots_71 rfl rfl ?_
      refine gk_get (v := gk_R 4 0) fr_X11_41 pf_6_2 (by decide) dX11_lots_72 ?_
      refine gk_aload_n dX11_lots_75 rfl rfl ?_
      refine gk_get (v := gk_R 2 1) fr_X11_52 pf_6_4 (by decide) dX11_lots_76 ?_
      refine gk_getI fr_X11_158 si_2_4 (by decide) dX11_lots_79 ?_
      refine gk_callV (As := [gk_R 0 0, gk_R 4 0, gk_I (M 2 1 4)]) (st := []) 1 (cr_X11_236 (by decide) rfl) (fun K' h' => ok_X0_drawBy (M 2 1 4) M K' h') rfl (by decide) (by decide) (fun _ => Nat.le_of_ble_eq_true rfl) dX11_lots_82 h (fun _ M14 h => ?_)
      refine gk_iload dX11_lots_85 rfl ?_
      refine gk_aload_n dX11_lots_87 rfl rfl ?_
      refine gk_get (v := gk_R 2 1) fr_X11_52 pf_6_4 (by decide) dX11_lots_88 ?_
      refine gk_aload_n dX11_lots_91 rfl rfl ?_
      refine gk_get (v := gk_R 0 0) fr_X11_34 pf_6_1 (by decide) dX11_lots_92 ?_
      refine gk_aload_n dX11_lots_95 rfl rfl ?_
      refine gk_get (v := gk_R 10 0) fr_X11_25 pf_6_0 (by decide) dX11_lots_96 ?_
      refine gk_callI (As := [gk_R 2 1, gk_R 0 0, gk_R 10 0]) (st := [gk_I x5]) 3 (cr_X11_240 (by decide) rfl) (fun K' h' => ok_X4_passDay 1 M14 K' h') rfl (by decide) (by decide) (fun _ => Nat.le_of_ble_eq_true rfl) dX11_lots_99 h (fun r17 M16 h => ?_)
      refine gk_iadd dX11_lots_102 ?_
      refine gk_istore (L' := [some (gk_R 6 0), some (gk_I x1), none, some (gk_I x3), none, some (gk_I (x5 + r17)), some (gk_I x6)]) dX11_lots_103 (by decide) rfl rfl ?_
      refine gk_iinc (v := (x6 + (1 : Int32))) (L' := [some (gk_R 6 0), some (gk_I x1), none, some (gk_I x3), none, some (gk_I (x5 + r17)), some (gk_I (x6 + (1 : Int32)))]) dX11_lots_105 rfl rfl (by decide) rfl rfl ?_
      refine gk_goto (tgt := 61) dX11_lots_108 (by decide) ?_
      exact gk_weak [some (gk_R 6 0), some (gk_I x1), none, some (gk_I x3), none, some (gk_I (x5 + r17)), some (gk_I (x6 + (1 : Int32)))] (And.intro rfl (And.intro rfl (And.intro rfl (And.intro rfl (And.intro rfl True.intro))))) (ih x1 x3 ((x5 + r17)) ((x6 + (1 : Int32))) M16 h)
set_option maxRecDepth 100000 in
set_option maxHeartbeats 4000000 in
theorem ok_X11_lots (a1 : Int32) (a2 : Int32) (a3 : Int32) (M : gk_M) (K : gk_V → gk_M → Prop) (h : gk_Sat gk_I (f_X11_lots a1 a2 a3 M) K) : gk_MS 4 yX11_lots cX11_lots 7 (some .int) [gk_R 6 0, gk_I a1, gk_I a2, gk_I a3] M K := by

  refine gk_MS_of [some (gk_R 6 0), some (gk_I a1), some (gk_I a2), some (gk_I a3), none, none, none] (by decide +kernel) (Nat.le_of_ble_eq_true rfl) (And.intro rfl (And.intro rfl (And.intro rfl (And.intro rfl True.intro)))) ?_
  show gk_G RX11 cX11_lots 7 4 (some .int) none K 0 [some (gk_R 6 0), some (gk_I a1), some (gk_I a2), some (gk_I a3), none, none, none] [] M
  refine gk_iload_n dX11_lots_0 rfl rfl ?_
  refine gk_iconst (v := (1 : Int32)) dX11_lots_1 (by decide) ?_
  refine gk_bipush (v := (40 : Int32)) dX11_lots_2 (by decide) ?_
  refine gk_callI (As := [gk_I a1, gk_I (1 : Int32), gk_I (40 : Int32)]) (st := []) 0 (cr_X11_148 rfl) (fun K' h' => ok_X11_range a1 (1 : Int32) (40 : Int32) M K' h') rfl (by decide) (by decide) (fun _ => Nat.le_of_ble_eq_true rfl) dX11_lots_4 h (fun r2 M1 h => ?_)
  refine gk_iload_n dX11_lots_7 rfl rfl ?_
  refine gk_iconst (v := (1 : Int32)) dX11_lots_8 (by decide) ?_
  refine gk_callI (As := [gk_I a3, gk_I (1 : Int32)]) (st := [gk_I r2]) 0 (cr_X11_95 rfl) (fun K' h' => ok_X11_otherThan a3 (1 : Int32) M1 K' h') rfl (by decide) (by decide) (fun _ => Nat.le_of_ble_eq_true rfl) dX11_lots_9 h (fun r4 M3 h => ?_)
  refine gk_callI (As := [gk_I r2, gk_I r4]) (st := []) 0 (cr_X11_99 rfl) (fun K' h' => ok_X11_first r2 r4 M3 K' h') rfl (by decide) (by decide) (fun _ => Nat.le_of_ble_eq_true rfl) dX11_lots_12 h (fun r6 M5 h => ?_)
  refine gk_istore (L' := [some (gk_R 6 0), some (gk_I a1), some (gk_I a2), some (gk_I a3), some (gk_I r6), none, none]) dX11_lots_15 (by decide) rfl rfl ?_
  refine gk_iload dX11_lots_17 rfl ?_
  refine gk_if_eq (tgt := 29) dX11_lots_19 (by decide) h (fun h => ?_) (fun h => ?_)
  · refine gk_aload_n dX11_lots_29 rfl rfl ?_
    refine gk_get (v := gk_R 2 1) fr_X11_52 pf_6_4 (by decide) dX11_lots_30 ?_
    refine gk_aload_n dX11_lots_33 rfl rfl ?_
    refine gk_get (v := gk_R 2 0) fr_X11_48 pf_6_3 (by decide) dX11_lots_34 ?_
    refine gk_callV (As := [gk_R 2 1, gk_R 2 0]) (st := []) 1 (cr_X11_84 (by decide) rfl) (fun K' h' => ok_X4_copyFrom 1 0 M5 K' h') rfl (by decide) (by decide) (fun _ => Nat.le_of_ble_eq_true rfl) dX11_lots_37 h (fun _ M7 h => ?_)
    refine gk_aload_n dX11_lots_40 rfl rfl ?_
    refine gk_get (v := gk_R 4 0) fr_X11_41 pf_6_2 (by decide) dX11_lots_41 ?_
    refine gk_iload_n dX11_lots_44 rfl rfl ?_
    refine gk_putI fr_X11_230 si_4_0 (by decide) dX11_lots_45 h (fun M9 h => ?_)
    refine gk_aload_n dX11_lots_48 rfl rfl ?_
    refine gk_get (v := gk_R 0 0) fr_X11_34 pf_6_1 (by decide) dX11_lots_49 ?_
    refine gk_callV (As := [gk_R 0 0]) (st := []) 0 (cr_X11_233 (by decide) rfl) (fun K' h' => ok_X0_fallCalm M9 K' h') rfl (by decide) (by decide) (fun _ => Nat.le_of_ble_eq_true rfl) dX11_lots_52 h (fun _ M10 h => ?_)
    refine gk_iconst (v := (0 : Int32)) dX11_lots_55 (by decide) ?_
    refine gk_istore (L' := [some (gk_R 6 0), some (gk_I a1), some (gk_I a2), some (gk_I a3), some (gk_I r6), some (gk_I (0 : Int32)), none]) dX11_lots_56 (by decide) rfl rfl ?_
    refine gk_iconst (v := (0 : Int32)) dX11_lots_58 (by decide) ?_
    refine gk_istore (L' := [some (gk_R 6 0), some (gk_I a1), some (gk_I a2), some (gk_I a3), some (gk_I r6), some (gk_I (0 : Int32)), some (gk_I (0 : Int32))]) dX11_lots_59 (by decide) rfl rfl ?_
    exact gk_weak [some (gk_R 6 0), some (gk_I a1), none, some (gk_I a3), none, some (gk_I (0 : Int32)), some (gk_I (0 : Int32))] (And.intro rfl (And.intro rfl (And.intro rfl (And.intro rfl (And.intro rfl True.intro))))) (ok_X11_lots_l61 200 a1 a3 ((0 : Int32)) ((0 : Int32)) M10 h)
  · refine gk_aload_n dX11_lots_22 rfl rfl ?_
    refine gk_iload dX11_lots_23 rfl ?_
    refine gk_callI (As := [gk_R 6 0, gk_I r6]) (st := []) 0 (cr_X11_72 (by decide) rfl) (fun K' h' => ok_X11_refuse r6 M5 K' h') rfl (by decide) (by decide) (fun _ => Nat.le_of_ble_eq_true rfl) dX11_lots_25 h (fun r19 M18 h => ?_)
    exact gk_iret dX11_lots_28 rfl h
set_option maxRecDepth 100000 in
set_option maxHeartbeats 4000000 in
theorem ok_X11_image  (M : gk_M) (K : gk_V → gk_M → Prop) (h : gk_Sat gk_I (f_X11_image  M) K) : gk_MS 2 yX11_image cX11_image 1 (some .int) [gk_R 6 0] M K := by

  refine gk_MS_of [some (gk_R 6 0)] (by decide +kernel) (Nat.le_of_ble_eq_true rfl) (And.intro rfl True.intro) ?_
  show gk_G RX11 cX11_image 1 2 (some .int) none K 0 [some (gk_R 6 0)] [] M
  refine gk_aload_n dX11_image_0 rfl rfl ?_
  refine gk_get (v := gk_R 2 2) fr_X11_55 pf_6_5 (by decide) dX11_image_1 ?_
  refine gk_aload_n dX11_image_4 rfl rfl ?_
  refine gk_get (v := gk_R 2 0) fr_X11_48 pf_6_3 (by decide) dX11_image_5 ?_
  refine gk_callV (As := [gk_R 2 2, gk_R 2 0]) (st := []) 1 (cr_X11_84 (by decide) rfl) (fun K' h' => ok_X4_copyFrom 2 0 M K' h') rfl (by decide) (by decide) (fun _ => Nat.le_of_ble_eq_true rfl) dX11_image_8 h (fun _ M1 h => ?_)
  refine gk_aload_n dX11_image_11 rfl rfl ?_
  refine gk_iconst (v := (1 : Int32)) dX11_image_12 (by decide) ?_
  refine gk_putZ fr_X11_247 si_6_6 (by decide) dX11_image_13 h (fun M3 h => ?_)
  refine gk_aload_n dX11_image_16 rfl rfl ?_
  refine gk_get (v := gk_R 2 0) fr_X11_48 pf_6_3 (by decide) dX11_image_17 ?_
  refine gk_getI fr_X11_158 si_2_4 (by decide) dX11_image_20 ?_
  exact gk_iret dX11_image_23 rfl h
set_option maxRecDepth 100000 in
set_option maxHeartbeats 4000000 in
theorem ok_X11_restore  (M : gk_M) (K : gk_V → gk_M → Prop) (h : gk_Sat gk_I (f_X11_restore  M) K) : gk_MS 2 yX11_restore cX11_restore 1 (some .int) [gk_R 6 0] M K := by

  refine gk_MS_of [some (gk_R 6 0)] (by decide +kernel) (Nat.le_of_ble_eq_true rfl) (And.intro rfl True.intro) ?_
  show gk_G RX11 cX11_restore 1 2 (some .int) none K 0 [some (gk_R 6 0)] [] M
  refine gk_aload_n dX11_restore_0 rfl rfl ?_
  refine gk_getI fr_X11_247 si_6_6 (by decide) dX11_restore_1 ?_
  refine gk_if_ne (tgt := 14) dX11_restore_4 (by decide) h (fun h => ?_) (fun h => ?_)
  · refine gk_aload_n dX11_restore_14 rfl rfl ?_
    refine gk_get (v := gk_R 2 0) fr_X11_48 pf_6_3 (by decide) dX11_restore_15 ?_
    refine gk_aload_n dX11_restore_18 rfl rfl ?_
    refine gk_get (v := gk_R 2 2) fr_X11_55 pf_6_5 (by decide) dX11_restore_19 ?_
    refine gk_callV (As := [gk_R 2 0, gk_R 2 2]) (st := []) 1 (cr_X11_84 (by decide) rfl) (fun K' h' => ok_X4_copyFrom 0 2 M K' h') rfl (by decide) (by decide) (fun _ => Nat.le_of_ble_eq_true rfl) dX11_restore_22 h (fun _ M1 h => ?_)
    refine gk_aload_n dX11_restore_25 rfl rfl ?_
    refine gk_get (v := gk_R 2 0) fr_X11_48 pf_6_3 (by decide) dX11_restore_26 ?_
    refine gk_getI fr_X11_158 si_2_4 (by decide) dX11_restore_29 ?_
    exact gk_iret dX11_restore_32 rfl h
  · refine gk_aload_n dX11_restore_7 rfl rfl ?_
    refine gk_bipush (v := (-3 : Int32)) dX11_restore_8 (by decide) ?_
    refine gk_callI (As := [gk_R 6 0, gk_I (-3 : Int32)]) (st := []) 0 (cr_X11_72 (by decide) rfl) (fun K' h' => ok_X11_refuse (-3 : Int32) M K' h') rfl (by decide) (by decide) (fun _ => Nat.le_of_ble_eq_true rfl) dX11_restore_10 h (fun r4 M3 h => ?_)
    exact gk_iret dX11_restore_13 rfl h
set_option maxRecDepth 100000 in
set_option maxHeartbeats 4000000 in
theorem ok_X11_count_j22 {K : gk_V → gk_M → Prop} (x1 : Int32) (M : gk_M) (h : gk_Sat gk_I (X11_count_j22 x1 M) K) : gk_G RX11 cX11_count 2 4 (some .int) none K 22 [some (gk_R 6 0), some (gk_I x1)] [] M := by
  refine gk_iload_n dX11_count_22 rfl rfl ?_
  rcases Decidable.em (x1 = (0 : Int32)) with e0 | e0
  · refine gk_tabIn (tgt := 76) dX11_count_23 (0 : Int32) e0 (by decide) (by decide) rfl (by decide) ?_
    have h := h.ite.1 e0
    refine gk_aload_n dX11_count_76 rfl rfl ?_
    refine gk_get (v := gk_R 2 0) fr_X11_48 pf_6_3 (by decide) dX11_count_77 ?_
    refine gk_getI fr_X11_192 si_2_3 (by decide) dX11_count_80 ?_
    exact gk_iret dX11_count_83 rfl h
  · have h := h.ite.2 e0
    rcases Decidable.em (x1 = (1 : Int32)) with e1 | e1
    · refine gk_tabIn (tgt := 84) dX11_count_23 (1 : Int32) e1 (by decide) (by decide) rfl (by decide) ?_
      have h := h.ite.1 e1
      refine gk_aload_n dX11_count_84 rfl rfl ?_
      refine gk_get (v := gk_R 2 0) fr_X11_48 pf_6_3 (by decide) dX11_count_85 ?_
      refine gk_getI fr_X11_158 si_2_4 (by decide) dX11_count_88 ?_
      exact gk_iret dX11_count_91 rfl h
    · have h := h.ite.2 e1
      rcases Decidable.em (x1 = (2 : Int32)) with e2 | e2
      · refine gk_tabIn (tgt := 92) dX11_count_23 (2 : Int32) e2 (by decide) (by decide) rfl (by decide) ?_
        have h := h.ite.1 e2
        refine gk_aload_n dX11_count_92 rfl rfl ?_
        refine gk_get (v := gk_R 2 0) fr_X11_48 pf_6_3 (by decide) dX11_count_93 ?_
        refine gk_getI fr_X11_152 si_2_5 (by decide) dX11_count_96 ?_
        exact gk_iret dX11_count_99 rfl h
      · have h := h.ite.2 e2
        rcases Decidable.em (x1 = (3 : Int32)) with e3 | e3
        · refine gk_tabIn (tgt := 100) dX11_count_23 (3 : Int32) e3 (by decide) (by decide) rfl (by decide) ?_
          have h := h.ite.1 e3
          refine gk_aload_n dX11_count_100 rfl rfl ?_
          refine gk_get (v := gk_R 2 0) fr_X11_48 pf_6_3 (by decide) dX11_count_101 ?_
          refine gk_getI fr_X11_155 si_2_6 (by decide) dX11_count_104 ?_
          exact gk_iret dX11_count_107 rfl h
        · have h := h.ite.2 e3
          rcases Decidable.em (x1 = (4 : Int32)) with e4 | e4
          · refine gk_tabIn (tgt := 108) dX11_count_23 (4 : Int32) e4 (by decide) (by decide) rfl (by decide) ?_
            have h := h.ite.1 e4
            refine gk_aload_n dX11_count_108 rfl rfl ?_
            refine gk_get (v := gk_R 2 0) fr_X11_48 pf_6_3 (by decide) dX11_count_109 ?_
            refine gk_callI (As := [gk_R 2 0]) (st := []) 0 (cr_X11_251 (by decide) rfl) (fun K' h' => ok_X4_allBread 0 M K' h') rfl (by decide) (by decide) (fun _ => Nat.le_of_ble_eq_true rfl) dX11_count_112 h (fun r2 M1 h => ?_)
            exact gk_iret dX11_count_115 rfl h
          · have h := h.ite.2 e4
            rcases Decidable.em (x1 = (5 : Int32)) with e5 | e5
            · refine gk_tabIn (tgt := 116) dX11_count_23 (5 : Int32) e5 (by decide) (by decide) rfl (by decide) ?_
              have h := h.ite.1 e5
              refine gk_aload_n dX11_count_116 rfl rfl ?_
              refine gk_get (v := gk_R 2 0) fr_X11_48 pf_6_3 (by decide) dX11_count_117 ?_
              refine gk_callI (As := [gk_R 2 0]) (st := []) 0 (cr_X11_254 (by decide) rfl) (fun K' h' => ok_X4_allCrews 0 M K' h') rfl (by decide) (by decide) (fun _ => Nat.le_of_ble_eq_true rfl) dX11_count_120 h (fun r4 M3 h => ?_)
              exact gk_iret dX11_count_123 rfl h
            · have h := h.ite.2 e5
              rcases Decidable.em (x1 = (6 : Int32)) with e6 | e6
              · refine gk_tabIn (tgt := 124) dX11_count_23 (6 : Int32) e6 (by decide) (by decide) rfl (by decide) ?_
                have h := h.ite.1 e6
                refine gk_aload_n dX11_count_124 rfl rfl ?_
                refine gk_get (v := gk_R 2 0) fr_X11_48 pf_6_3 (by decide) dX11_count_125 ?_
                refine gk_getI fr_X11_169 si_2_7 (by decide) dX11_count_128 ?_
                exact gk_iret dX11_count_131 rfl h
              · have h := h.ite.2 e6
                rcases Decidable.em (x1 = (7 : Int32)) with e7 | e7
                · refine gk_tabIn (tgt := 132) dX11_count_23 (7 : Int32) e7 (by decide) (by decide) rfl (by decide) ?_
                  have h := h.ite.1 e7
                  refine gk_aload_n dX11_count_132 rfl rfl ?_
                  refine gk_get (v := gk_R 2 0) fr_X11_48 pf_6_3 (by decide) dX11_count_133 ?_
                  refine gk_aload_n dX11_count_136 rfl rfl ?_
                  refine gk_get (v := gk_R 2 0) fr_X11_48 pf_6_3 (by decide) dX11_count_137 ?_
                  refine gk_getI fr_X11_152 si_2_5 (by decide) dX11_count_140 ?_
                  refine gk_callI (As := [gk_R 2 0, gk_I (M 2 0 5)]) (st := []) 3 (cr_X11_244 (by decide) rfl) (fun K' h' => ok_X4_pairsWithin 0 (M 2 0 5) M K' h') rfl (by decide) (by decide) (fun _ => Nat.le_of_ble_eq_true rfl) dX11_count_143 h (fun r6 M5 h => ?_)
                  exact gk_iret dX11_count_146 rfl h
                · have h := h.ite.2 e7
                  rcases Decidable.em (x1 = (8 : Int32)) with e8 | e8
                  · refine gk_tabIn (tgt := 147) dX11_count_23 (8 : Int32) e8 (by decide) (by decide) rfl (by decide) ?_
                    have h := h.ite.1 e8
                    refine gk_aload_n dX11_count_147 rfl rfl ?_
                    refine gk_get (v := gk_R 3 0) fr_X11_61 pf_6_7 (by decide) dX11_count_148 ?_
                    refine gk_getI fr_X11_76 si_3_1 (by decide) dX11_count_151 ?_
                    exact gk_iret dX11_count_154 rfl h
                  · have h := h.ite.2 e8
                    rcases Decidable.em (x1 = (9 : Int32)) with e9 | e9
                    · refine gk_tabIn (tgt := 155) dX11_count_23 (9 : Int32) e9 (by decide) (by decide) rfl (by decide) ?_
                      have h := h.ite.1 e9
                      refine gk_aload_n dX11_count_155 rfl rfl ?_
                      refine gk_getI fr_X11_224 si_6_9 (by decide) dX11_count_156 ?_
                      exact gk_iret dX11_count_159 rfl h
                    · have h := h.ite.2 e9
                      have q0 : (x1).toInt ≠ 0 := gk_ne_toInt e0
                      have q1 : (x1).toInt ≠ 1 := gk_ne_toInt e1
                      have q2 : (x1).toInt ≠ 2 := gk_ne_toInt e2
                      have q3 : (x1).toInt ≠ 3 := gk_ne_toInt e3
                      have q4 : (x1).toInt ≠ 4 := gk_ne_toInt e4
                      have q5 : (x1).toInt ≠ 5 := gk_ne_toInt e5
                      have q6 : (x1).toInt ≠ 6 := gk_ne_toInt e6
                      have q7 : (x1).toInt ≠ 7 := gk_ne_toInt e7
                      have q8 : (x1).toInt ≠ 8 := gk_ne_toInt e8
                      have q9 : (x1).toInt ≠ 9 := gk_ne_toInt e9
                      refine gk_tabOut (tgt := 160) dX11_count_23 (by omega) (by decide) ?_
                      refine gk_bipush (v := (-9 : Int32)) dX11_count_160 (by decide) ?_
                      exact gk_iret dX11_count_162 rfl h
set_option maxRecDepth 100000 in
set_option maxHeartbeats 4000000 in
theorem ok_X11_count (a1 : Int32) (M : gk_M) (K : gk_V → gk_M → Prop) (h : gk_Sat gk_I (f_X11_count a1 M) K) : gk_MS 4 yX11_count cX11_count 2 (some .int) [gk_R 6 0, gk_I a1] M K := by

  refine gk_MS_of [some (gk_R 6 0), some (gk_I a1)] (by decide +kernel) (Nat.le_of_ble_eq_true rfl) (And.intro rfl (And.intro rfl True.intro)) ?_
  show gk_G RX11 cX11_count 2 4 (some .int) none K 0 [some (gk_R 6 0), some (gk_I a1)] [] M
  refine gk_iload_n dX11_count_0 rfl rfl ?_
  refine gk_bipush (v := (11 : Int32)) dX11_count_1 (by decide) ?_
  refine gk_icmp_lt (tgt := 22) dX11_count_3 (by decide) h (fun h => ?_) (fun h => ?_)
  · exact gk_weak [some (gk_R 6 0), some (gk_I a1)] (And.intro rfl (And.intro rfl True.intro)) (ok_X11_count_j22 a1 M h)
  · refine gk_iload_n dX11_count_6 rfl rfl ?_
    refine gk_bipush (v := (16 : Int32)) dX11_count_7 (by decide) ?_
    refine gk_icmp_gt (tgt := 22) dX11_count_9 (by decide) h (fun h => ?_) (fun h => ?_)
    · exact gk_weak [some (gk_R 6 0), some (gk_I a1)] (And.intro rfl (And.intro rfl True.intro)) (ok_X11_count_j22 a1 M h)
    · refine gk_aload_n dX11_count_12 rfl rfl ?_
      refine gk_get (v := gk_R 13 0) fr_X11_69 pf_6_10 (by decide) dX11_count_13 ?_
      refine gk_iload_n dX11_count_16 rfl rfl ?_
      refine gk_bipush (v := (10 : Int32)) dX11_count_17 (by decide) ?_
      refine gk_isub dX11_count_19 ?_
      refine gk_iald ga_13 (by decide) dX11_count_20 h (fun h hb7 => ?_)
      exact gk_iret dX11_count_21 rfl h
