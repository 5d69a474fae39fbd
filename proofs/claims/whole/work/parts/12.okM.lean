set_option maxRecDepth 100000 in
set_option maxHeartbeats 4000000 in
theorem ok_X12_in_j17 {K : gk_V → gk_M → Prop}  (M : gk_M) (h : gk_Sat gk_I (X12_in_j17  M) K) : gk_G RX12 cX12_in 6 0 (some .boolean) none K 17 [none, none, none, none, none, none] [] M := by
  refine gk_iconst (v := (0 : Int32)) dX12_in_17 (by decide) ?_
  exact gk_zret dX12_in_18 rfl h
set_option maxRecDepth 100000 in
set_option maxHeartbeats 4000000 in
theorem ok_X12_in (a0 : Int64) (a2 : Int64) (a4 : Int64) (M : gk_M) (K : gk_V → gk_M → Prop) (h : gk_Sat gk_I (f_X12_in a0 a2 a4 M) K) : gk_MS 0 yX12_in cX12_in 6 (some .boolean) [gk_L a0, gk_L a2, gk_L a4] M K := by

  refine gk_MS_of [some (gk_L a0), none, some (gk_L a2), none, some (gk_L a4), none] (by decide +kernel) (Nat.le_of_ble_eq_true rfl) (And.intro rfl (And.intro rfl (And.intro rfl True.intro))) ?_
  show gk_G RX12 cX12_in 6 0 (some .boolean) none K 0 [some (gk_L a0), none, some (gk_L a2), none, some (gk_L a4), none] [] M
  refine gk_lload_n dX12_in_0 rfl rfl ?_
  refine gk_lload_n dX12_in_1 rfl rfl ?_
  refine gk_lcmp dX12_in_2 ?_
  refine gk_if_lt (tgt := 17) dX12_in_3 (by decide) h (fun h => ?_) (fun h => ?_)
  · exact gk_weak [none, none, none, none, none, none] True.intro (ok_X12_in_j17 M h)
  · refine gk_lload_n dX12_in_6 rfl rfl ?_
    refine gk_lload dX12_in_7 rfl ?_
    refine gk_lcmp dX12_in_9 ?_
    refine gk_if_gt (tgt := 17) dX12_in_10 (by decide) h (fun h => ?_) (fun h => ?_)
    · exact gk_weak [none, none, none, none, none, none] True.intro (ok_X12_in_j17 M h)
    · refine gk_iconst (v := (1 : Int32)) dX12_in_13 (by decide) ?_
      refine gk_goto (tgt := 18) dX12_in_14 (by decide) ?_
      exact gk_zret dX12_in_18 rfl h
set_option maxRecDepth 100000 in
set_option maxHeartbeats 4000000 in
theorem ok_X12_refuse (a1 : Int32) (M : gk_M) (K : gk_V → gk_M → Prop) (h : gk_Sat gk_I (f_X12_refuse a1 M) K) : gk_MS 0 yX12_refuse cX12_refuse 2 (some .int) [gk_R 14 0, gk_I a1] M K := by

  refine gk_MS_of [some (gk_R 14 0), some (gk_I a1)] (by decide +kernel) (Nat.le_of_ble_eq_true rfl) (And.intro rfl (And.intro rfl True.intro)) ?_
  show gk_G RX12 cX12_refuse 2 0 (some .int) none K 0 [some (gk_R 14 0), some (gk_I a1)] [] M
  refine gk_aload_n dX12_refuse_0 rfl rfl ?_
  refine gk_get (v := gk_R 17 0) fr_X12_41 pf_14_14 (by decide) dX12_refuse_1 ?_
  refine gk_iload_n dX12_refuse_4 rfl rfl ?_
  refine gk_ineg dX12_refuse_5 ?_
  refine gk_dup2 dX12_refuse_6 rfl rfl ?_
  refine gk_iald ga_17 (by decide) dX12_refuse_7 h (fun h hb1 => ?_)
  refine gk_iconst (v := (1 : Int32)) dX12_refuse_8 (by decide) ?_
  refine gk_iadd dX12_refuse_9 ?_
  refine gk_iast ga_17 (by decide) dX12_refuse_10 h (fun M2 h => ?_)
  refine gk_iload_n dX12_refuse_11 rfl rfl ?_
  exact gk_iret dX12_refuse_12 rfl h
set_option maxRecDepth 100000 in
set_option maxHeartbeats 4000000 in
theorem ok_X12_isShip (a1 : Int32) (M : gk_M) (K : gk_V → gk_M → Prop) (h : gk_Sat gk_I (f_X12_isShip a1 M) K) : gk_MS 1 yX12_isShip cX12_isShip 2 (some .boolean) [gk_R 14 0, gk_I a1] M K := by

  refine gk_MS_of [some (gk_R 14 0), some (gk_I a1)] (by decide +kernel) (Nat.le_of_ble_eq_true rfl) (And.intro rfl (And.intro rfl True.intro)) ?_
  show gk_G RX12 cX12_isShip 2 1 (some .boolean) none K 0 [some (gk_R 14 0), some (gk_I a1)] [] M
  refine gk_iload_n dX12_isShip_0 rfl rfl ?_
  refine gk_i2l dX12_isShip_1 ?_
  refine gk_lconst (v := (0 : Int64)) dX12_isShip_2 (by decide) ?_
  refine gk_aload_n dX12_isShip_3 rfl rfl ?_
  refine gk_getI fr_X12_68 si_14_0 (by decide) dX12_isShip_4 ?_
  refine gk_iconst (v := (1 : Int32)) dX12_isShip_7 (by decide) ?_
  refine gk_isub dX12_isShip_8 ?_
  refine gk_i2l dX12_isShip_9 ?_
  refine gk_callI (As := [gk_L (Int32.toInt64 a1), gk_L (0 : Int64), gk_L (Int32.toInt64 ((M 14 0 0) - (1 : Int32)))]) (st := []) 0 (cr_X12_71 rfl) (fun K' h' => ok_X12_in (Int32.toInt64 a1) (0 : Int64) (Int32.toInt64 ((M 14 0 0) - (1 : Int32))) M K' h') rfl (by decide) (by decide) (fun _ => Nat.le_of_ble_eq_true rfl) dX12_isShip_10 h (fun r2 M1 h => ?_)
  exact gk_zret dX12_isShip_13 rfl h
set_option maxRecDepth 100000 in
set_option maxHeartbeats 4000000 in
theorem ok_X12_areTwo_j25 {K : gk_V → gk_M → Prop}  (M : gk_M) (h : gk_Sat gk_I (X12_areTwo_j25  M) K) : gk_G RX12 cX12_areTwo 3 2 (some .boolean) none K 25 [none, none, none] [] M := by
  refine gk_iconst (v := (0 : Int32)) dX12_areTwo_25 (by decide) ?_
  exact gk_zret dX12_areTwo_26 rfl h
set_option maxRecDepth 100000 in
set_option maxHeartbeats 4000000 in
theorem ok_X12_areTwo (a1 : Int32) (a2 : Int32) (M : gk_M) (K : gk_V → gk_M → Prop) (h : gk_Sat gk_I (f_X12_areTwo a1 a2 M) K) : gk_MS 2 yX12_areTwo cX12_areTwo 3 (some .boolean) [gk_R 14 0, gk_I a1, gk_I a2] M K := by

  refine gk_MS_of [some (gk_R 14 0), some (gk_I a1), some (gk_I a2)] (by decide +kernel) (Nat.le_of_ble_eq_true rfl) (And.intro rfl (And.intro rfl (And.intro rfl True.intro))) ?_
  show gk_G RX12 cX12_areTwo 3 2 (some .boolean) none K 0 [some (gk_R 14 0), some (gk_I a1), some (gk_I a2)] [] M
  refine gk_aload_n dX12_areTwo_0 rfl rfl ?_
  refine gk_iload_n dX12_areTwo_1 rfl rfl ?_
  refine gk_callI (As := [gk_R 14 0, gk_I a1]) (st := []) 1 (cr_X12_75 (by decide) rfl) (fun K' h' => ok_X12_isShip a1 M K' h') rfl (by decide) (by decide) (fun _ => Nat.le_of_ble_eq_true rfl) dX12_areTwo_2 h (fun r2 M1 h => ?_)
  refine gk_if_eq (tgt := 25) dX12_areTwo_5 (by decide) h (fun h => ?_) (fun h => ?_)
  · exact gk_weak [none, none, none] True.intro (ok_X12_areTwo_j25 M1 h)
  · refine gk_aload_n dX12_areTwo_8 rfl rfl ?_
    refine gk_iload_n dX12_areTwo_9 rfl rfl ?_
    refine gk_callI (As := [gk_R 14 0, gk_I a2]) (st := []) 1 (cr_X12_75 (by decide) rfl) (fun K' h' => ok_X12_isShip a2 M1 K' h') rfl (by decide) (by decide) (fun _ => Nat.le_of_ble_eq_true rfl) dX12_areTwo_10 h (fun r4 M3 h => ?_)
    refine gk_if_eq (tgt := 25) dX12_areTwo_13 (by decide) h (fun h => ?_) (fun h => ?_)
    · exact gk_weak [none, none, none] True.intro (ok_X12_areTwo_j25 M3 h)
    · refine gk_iload_n dX12_areTwo_16 rfl rfl ?_
      refine gk_iload_n dX12_areTwo_17 rfl rfl ?_
      refine gk_icmp_eq (tgt := 25) dX12_areTwo_18 (by decide) h (fun h => ?_) (fun h => ?_)
      · exact gk_weak [none, none, none] True.intro (ok_X12_areTwo_j25 M3 h)
      · refine gk_iconst (v := (1 : Int32)) dX12_areTwo_21 (by decide) ?_
        refine gk_goto (tgt := 26) dX12_areTwo_22 (by decide) ?_
        exact gk_zret dX12_areTwo_26 rfl h
set_option maxRecDepth 100000 in
set_option maxHeartbeats 4000000 in
theorem ok_X12_driftBy_j179 {K : gk_V → gk_M → Prop} (s0 : Int32) (M : gk_M) (h : gk_Sat gk_U (X12_driftBy_j179 s0 M) K) : gk_G RX12 cX12_driftBy 9 0 none none K 179 [none, none, none, none, none, none, none, none, none] [gk_I s0, gk_R 14 0] M := by
  refine gk_putI fr_X12_85 si_14_16 (by decide) dX12_driftBy_179 h (fun M6 h => ?_)
  exact gk_vret dX12_driftBy_182 rfl h
set_option maxRecDepth 100000 in
set_option maxHeartbeats 4000000 in
theorem ok_X12_driftBy_j164 {K : gk_V → gk_M → Prop} (x3 : Int32) (x8 : Int32) (s0 : Int32) (M : gk_M) (h : gk_Sat gk_U (X12_driftBy_j164 x3 x8 s0 M) K) : gk_G RX12 cX12_driftBy 9 0 none none K 164 [some (gk_R 14 0), none, none, some (gk_I x3), none, none, none, none, some (gk_I x8)] [gk_I s0, gk_R 14 0] M := by
  refine gk_putI fr_X12_82 si_14_15 (by decide) dX12_driftBy_164 h (fun M5 h => ?_)
  refine gk_aload_n dX12_driftBy_167 rfl rfl ?_
  refine gk_iload dX12_driftBy_168 rfl ?_
  refine gk_if_eq (tgt := 178) dX12_driftBy_170 (by decide) h (fun h => ?_) (fun h => ?_)
  · refine gk_iload_n dX12_driftBy_178 rfl rfl ?_
    exact gk_weak [none, none, none, none, none, none, none, none, none] True.intro (ok_X12_driftBy_j179 x3 M5 h)
  · refine gk_iload_n dX12_driftBy_173 rfl rfl ?_
    refine gk_ineg dX12_driftBy_174 ?_
    refine gk_goto (tgt := 179) dX12_driftBy_175 (by decide) ?_
    exact gk_weak [none, none, none, none, none, none, none, none, none] True.intro (ok_X12_driftBy_j179 ((-x3)) M5 h)
set_option maxRecDepth 100000 in
set_option maxHeartbeats 4000000 in
theorem ok_X12_driftBy_j40 {K : gk_V → gk_M → Prop} (x1 : Int32) (x2 : Int32) (x3 : Int32) (x4 : Int32) (x5 : Int32) (x6 : Int32) (x7 : Int32) (s0 : Int32) (M : gk_M) (h : gk_Sat gk_U (X12_driftBy_j40 x1 x2 x3 x4 x5 x6 x7 s0 M) K) : gk_G RX12 cX12_driftBy 9 0 none none K 40 [some (gk_R 14 0), some (gk_I x1), some (gk_I x2), some (gk_I x3), some (gk_I x4), some (gk_I x5), some (gk_I x6), some (gk_I x7), none] [gk_I s0] M := by
  refine gk_istore (L' := [some (gk_R 14 0), some (gk_I x1), some (gk_I x2), some (gk_I x3), some (gk_I x4), some (gk_I x5), some (gk_I x6), some (gk_I x7), some (gk_I s0)]) dX12_driftBy_40 (by decide) rfl rfl ?_
  refine gk_iload_n dX12_driftBy_42 rfl rfl ?_
  rcases Decidable.em (x1 = (0 : Int32)) with e0 | e0
  · refine gk_tabIn (tgt := 80) dX12_driftBy_43 (0 : Int32) e0 (by decide) (by decide) rfl (by decide) ?_
    have h := h.ite.1 e0
    refine gk_aload_n dX12_driftBy_80 rfl rfl ?_
    refine gk_iload_n dX12_driftBy_81 rfl rfl ?_
    refine gk_putI fr_X12_82 si_14_15 (by decide) dX12_driftBy_82 h (fun M1 h => ?_)
    refine gk_aload_n dX12_driftBy_85 rfl rfl ?_
    refine gk_iload dX12_driftBy_86 rfl ?_
    refine gk_putI fr_X12_85 si_14_16 (by decide) dX12_driftBy_88 h (fun M2 h => ?_)
    refine gk_goto (tgt := 182) dX12_driftBy_91 (by decide) ?_
    exact gk_vret dX12_driftBy_182 rfl h
  · have h := h.ite.2 e0
    rcases Decidable.em (x1 = (1 : Int32)) with e1 | e1
    · refine gk_tabIn (tgt := 94) dX12_driftBy_43 (1 : Int32) e1 (by decide) (by decide) rfl (by decide) ?_
      have h := h.ite.1 e1
      refine gk_aload_n dX12_driftBy_94 rfl rfl ?_
      refine gk_iload_n dX12_driftBy_95 rfl rfl ?_
      refine gk_iconst (v := (2 : Int32)) dX12_driftBy_96 (by decide) ?_
      refine gk_idiv dX12_driftBy_97 (by decide) ?_
      refine gk_putI fr_X12_82 si_14_15 (by decide) dX12_driftBy_98 h (fun M3 h => ?_)
      refine gk_aload_n dX12_driftBy_101 rfl rfl ?_
      refine gk_iload dX12_driftBy_102 rfl ?_
      refine gk_iconst (v := (2 : Int32)) dX12_driftBy_104 (by decide) ?_
      refine gk_idiv dX12_driftBy_105 (by decide) ?_
      refine gk_putI fr_X12_85 si_14_16 (by decide) dX12_driftBy_106 h (fun M4 h => ?_)
      refine gk_goto (tgt := 182) dX12_driftBy_109 (by decide) ?_
      exact gk_vret dX12_driftBy_182 rfl h
    · have h := h.ite.2 e1
      rcases Decidable.em (x1 = (2 : Int32)) with e2 | e2
      · refine gk_tabIn (tgt := 150) dX12_driftBy_43 (2 : Int32) e2 (by decide) (by decide) rfl (by decide) ?_
        have h := h.ite.1 e2
        refine gk_aload_n dX12_driftBy_150 rfl rfl ?_
        refine gk_iload dX12_driftBy_151 rfl ?_
        refine gk_if_eq (tgt := 161) dX12_driftBy_153 (by decide) h (fun h => ?_) (fun h => ?_)
        · refine gk_iload dX12_driftBy_161 rfl ?_
          refine gk_ineg dX12_driftBy_163 ?_
          exact gk_weak [some (gk_R 14 0), none, none, some (gk_I x3), none, none, none, none, some (gk_I s0)] (And.intro rfl (And.intro rfl (And.intro rfl True.intro))) (ok_X12_driftBy_j164 x3 s0 ((-x4)) M h)
        · refine gk_iload dX12_driftBy_156 rfl ?_
          refine gk_goto (tgt := 164) dX12_driftBy_158 (by decide) ?_
          exact gk_weak [some (gk_R 14 0), none, none, some (gk_I x3), none, none, none, none, some (gk_I s0)] (And.intro rfl (And.intro rfl (And.intro rfl True.intro))) (ok_X12_driftBy_j164 x3 s0 x4 M h)
      · have h := h.ite.2 e2
        rcases Decidable.em (x1 = (3 : Int32)) with e3 | e3
        · refine gk_tabIn (tgt := 112) dX12_driftBy_43 (3 : Int32) e3 (by decide) (by decide) rfl (by decide) ?_
          have h := h.ite.1 e3
          refine gk_aload_n dX12_driftBy_112 rfl rfl ?_
          refine gk_iload dX12_driftBy_113 rfl ?_
          refine gk_putI fr_X12_82 si_14_15 (by decide) dX12_driftBy_115 h (fun M7 h => ?_)
          refine gk_aload_n dX12_driftBy_118 rfl rfl ?_
          refine gk_iload dX12_driftBy_119 rfl ?_
          refine gk_putI fr_X12_85 si_14_16 (by decide) dX12_driftBy_121 h (fun M8 h => ?_)
          refine gk_goto (tgt := 182) dX12_driftBy_124 (by decide) ?_
          exact gk_vret dX12_driftBy_182 rfl h
        · have h := h.ite.2 e3
          rcases Decidable.em (x1 = (4 : Int32)) with e4 | e4
          · refine gk_tabIn (tgt := 150) dX12_driftBy_43 (4 : Int32) e4 (by decide) (by decide) rfl (by decide) ?_
            have h := h.ite.1 e4
            refine gk_aload_n dX12_driftBy_150 rfl rfl ?_
            refine gk_iload dX12_driftBy_151 rfl ?_
            refine gk_if_eq (tgt := 161) dX12_driftBy_153 (by decide) h (fun h => ?_) (fun h => ?_)
            · refine gk_iload dX12_driftBy_161 rfl ?_
              refine gk_ineg dX12_driftBy_163 ?_
              exact gk_weak [some (gk_R 14 0), none, none, some (gk_I x3), none, none, none, none, some (gk_I s0)] (And.intro rfl (And.intro rfl (And.intro rfl True.intro))) (ok_X12_driftBy_j164 x3 s0 ((-x4)) M h)
            · refine gk_iload dX12_driftBy_156 rfl ?_
              refine gk_goto (tgt := 164) dX12_driftBy_158 (by decide) ?_
              exact gk_weak [some (gk_R 14 0), none, none, some (gk_I x3), none, none, none, none, some (gk_I s0)] (And.intro rfl (And.intro rfl (And.intro rfl True.intro))) (ok_X12_driftBy_j164 x3 s0 x4 M h)
          · have h := h.ite.2 e4
            rcases Decidable.em (x1 = (5 : Int32)) with e5 | e5
            · refine gk_tabIn (tgt := 127) dX12_driftBy_43 (5 : Int32) e5 (by decide) (by decide) rfl (by decide) ?_
              have h := h.ite.1 e5
              refine gk_aload_n dX12_driftBy_127 rfl rfl ?_
              refine gk_iload_n dX12_driftBy_128 rfl rfl ?_
              refine gk_iconst (v := (2 : Int32)) dX12_driftBy_129 (by decide) ?_
              refine gk_idiv dX12_driftBy_130 (by decide) ?_
              refine gk_iload_n dX12_driftBy_131 rfl rfl ?_
              refine gk_iload dX12_driftBy_132 rfl ?_
              refine gk_imul dX12_driftBy_134 ?_
              refine gk_iadd dX12_driftBy_135 ?_
              refine gk_putI fr_X12_82 si_14_15 (by decide) dX12_driftBy_136 h (fun M9 h => ?_)
              refine gk_aload_n dX12_driftBy_139 rfl rfl ?_
              refine gk_iload dX12_driftBy_140 rfl ?_
              refine gk_iconst (v := (2 : Int32)) dX12_driftBy_142 (by decide) ?_
              refine gk_idiv dX12_driftBy_143 (by decide) ?_
              refine gk_putI fr_X12_85 si_14_16 (by decide) dX12_driftBy_144 h (fun M10 h => ?_)
              refine gk_goto (tgt := 182) dX12_driftBy_147 (by decide) ?_
              exact gk_vret dX12_driftBy_182 rfl h
            · have h := h.ite.2 e5
              have q0 : (x1).toInt ≠ 0 := gk_ne_toInt e0
              have q1 : (x1).toInt ≠ 1 := gk_ne_toInt e1
              have q2 : (x1).toInt ≠ 2 := gk_ne_toInt e2
              have q3 : (x1).toInt ≠ 3 := gk_ne_toInt e3
              have q4 : (x1).toInt ≠ 4 := gk_ne_toInt e4
              have q5 : (x1).toInt ≠ 5 := gk_ne_toInt e5
              refine gk_tabOut (tgt := 150) dX12_driftBy_43 (by omega) (by decide) ?_
              refine gk_aload_n dX12_driftBy_150 rfl rfl ?_
              refine gk_iload dX12_driftBy_151 rfl ?_
              refine gk_if_eq (tgt := 161) dX12_driftBy_153 (by decide) h (fun h => ?_) (fun h => ?_)
              · refine gk_iload dX12_driftBy_161 rfl ?_
                refine gk_ineg dX12_driftBy_163 ?_
                exact gk_weak [some (gk_R 14 0), none, none, some (gk_I x3), none, none, none, none, some (gk_I s0)] (And.intro rfl (And.intro rfl (And.intro rfl True.intro))) (ok_X12_driftBy_j164 x3 s0 ((-x4)) M h)
              · refine gk_iload dX12_driftBy_156 rfl ?_
                refine gk_goto (tgt := 164) dX12_driftBy_158 (by decide) ?_
                exact gk_weak [some (gk_R 14 0), none, none, some (gk_I x3), none, none, none, none, some (gk_I s0)] (And.intro rfl (And.intro rfl (And.intro rfl True.intro))) (ok_X12_driftBy_j164 x3 s0 x4 M h)
set_option maxRecDepth 100000 in
set_option maxHeartbeats 4000000 in
theorem ok_X12_driftBy_j39 {K : gk_V → gk_M → Prop} (x1 : Int32) (x2 : Int32) (x3 : Int32) (x4 : Int32) (x5 : Int32) (x6 : Int32) (x7 : Int32) (M : gk_M) (h : gk_Sat gk_U (X12_driftBy_j39 x1 x2 x3 x4 x5 x6 x7 M) K) : gk_G RX12 cX12_driftBy 9 0 none none K 39 [some (gk_R 14 0), some (gk_I x1), some (gk_I x2), some (gk_I x3), some (gk_I x4), some (gk_I x5), some (gk_I x6), some (gk_I x7), none] [] M := by
  refine gk_iconst (v := (0 : Int32)) dX12_driftBy_39 (by decide) ?_
  exact gk_weak [some (gk_R 14 0), some (gk_I x1), some (gk_I x2), some (gk_I x3), some (gk_I x4), some (gk_I x5), some (gk_I x6), some (gk_I x7), none] (And.intro rfl (And.intro rfl (And.intro rfl (And.intro rfl (And.intro rfl (And.intro rfl (And.intro rfl (And.intro rfl True.intro)))))))) (ok_X12_driftBy_j40 x1 x2 x3 x4 x5 x6 x7 ((0 : Int32)) M h)
set_option maxRecDepth 100000 in
set_option maxHeartbeats 4000000 in
theorem ok_X12_driftBy_j17 {K : gk_V → gk_M → Prop} (x1 : Int32) (x2 : Int32) (x3 : Int32) (x4 : Int32) (x5 : Int32) (x6 : Int32) (s0 : Int32) (M : gk_M) (h : gk_Sat gk_U (X12_driftBy_j17 x1 x2 x3 x4 x5 x6 s0 M) K) : gk_G RX12 cX12_driftBy 9 0 none none K 17 [some (gk_R 14 0), some (gk_I x1), some (gk_I x2), some (gk_I x3), some (gk_I x4), some (gk_I x5), some (gk_I x6), none, none] [gk_I s0] M := by
  refine gk_istore (L' := [some (gk_R 14 0), some (gk_I x1), some (gk_I x2), some (gk_I x3), some (gk_I x4), some (gk_I x5), some (gk_I x6), some (gk_I s0), none]) dX12_driftBy_17 (by decide) rfl rfl ?_
  refine gk_iload_n dX12_driftBy_19 rfl rfl ?_
  refine gk_iconst (v := (4 : Int32)) dX12_driftBy_20 (by decide) ?_
  refine gk_icmp_ne (tgt := 39) dX12_driftBy_21 (by decide) h (fun h => ?_) (fun h => ?_)
  · exact gk_weak [some (gk_R 14 0), some (gk_I x1), some (gk_I x2), some (gk_I x3), some (gk_I x4), some (gk_I x5), some (gk_I x6), some (gk_I s0), none] (And.intro rfl (And.intro rfl (And.intro rfl (And.intro rfl (And.intro rfl (And.intro rfl (And.intro rfl (And.intro rfl True.intro)))))))) (ok_X12_driftBy_j39 x1 x2 x3 x4 x5 x6 s0 M h)
  · refine gk_aload_n dX12_driftBy_24 rfl rfl ?_
    refine gk_getI fr_X12_79 si_14_3 (by decide) dX12_driftBy_25 ?_
    refine gk_iload_n dX12_driftBy_28 rfl rfl ?_
    refine gk_iconst (v := (2 : Int32)) dX12_driftBy_29 (by decide) ?_
    refine gk_iadd dX12_driftBy_30 ?_
    refine gk_irem_g dX12_driftBy_31 h (fun h => ?_)
    refine gk_if_ne (tgt := 39) dX12_driftBy_32 (by decide) h (fun h => ?_) (fun h => ?_)
    · exact gk_weak [some (gk_R 14 0), some (gk_I x1), some (gk_I x2), some (gk_I x3), some (gk_I x4), some (gk_I x5), some (gk_I x6), some (gk_I s0), none] (And.intro rfl (And.intro rfl (And.intro rfl (And.intro rfl (And.intro rfl (And.intro rfl (And.intro rfl (And.intro rfl True.intro)))))))) (ok_X12_driftBy_j39 x1 x2 x3 x4 x5 x6 s0 M h)
    · refine gk_iconst (v := (1 : Int32)) dX12_driftBy_35 (by decide) ?_
      refine gk_goto (tgt := 40) dX12_driftBy_36 (by decide) ?_
      exact gk_weak [some (gk_R 14 0), some (gk_I x1), some (gk_I x2), some (gk_I x3), some (gk_I x4), some (gk_I x5), some (gk_I x6), some (gk_I s0), none] (And.intro rfl (And.intro rfl (And.intro rfl (And.intro rfl (And.intro rfl (And.intro rfl (And.intro rfl (And.intro rfl True.intro)))))))) (ok_X12_driftBy_j40 x1 x2 x3 x4 x5 x6 s0 ((1 : Int32)) M h)
set_option maxRecDepth 100000 in
set_option maxHeartbeats 4000000 in
theorem ok_X12_driftBy (a1 : Int32) (a2 : Int32) (a3 : Int32) (a4 : Int32) (a5 : Int32) (a6 : Int32) (M : gk_M) (K : gk_V → gk_M → Prop) (h : gk_Sat gk_U (f_X12_driftBy a1 a2 a3 a4 a5 a6 M) K) : gk_MS 0 yX12_driftBy cX12_driftBy 9 none [gk_R 14 0, gk_I a1, gk_I a2, gk_I a3, gk_I a4, gk_I a5, gk_I a6] M K := by

  refine gk_MS_of [some (gk_R 14 0), some (gk_I a1), some (gk_I a2), some (gk_I a3), some (gk_I a4), some (gk_I a5), some (gk_I a6), none, none] (by decide +kernel) (Nat.le_of_ble_eq_true rfl) (And.intro rfl (And.intro rfl (And.intro rfl (And.intro rfl (And.intro rfl (And.intro rfl (And.intro rfl True.intro))))))) ?_
  show gk_G RX12 cX12_driftBy 9 0 none none K 0 [some (gk_R 14 0), some (gk_I a1), some (gk_I a2), some (gk_I a3), some (gk_I a4), some (gk_I a5), some (gk_I a6), none, none] [] M
  refine gk_iload_n dX12_driftBy_0 rfl rfl ?_
  refine gk_if_le (tgt := 8) dX12_driftBy_1 (by decide) h (fun h => ?_) (fun h => ?_)
  · refine gk_iload_n dX12_driftBy_8 rfl rfl ?_
    refine gk_if_ge (tgt := 16) dX12_driftBy_9 (by decide) h (fun h => ?_) (fun h => ?_)
    · refine gk_iconst (v := (0 : Int32)) dX12_driftBy_16 (by decide) ?_
      exact gk_weak [some (gk_R 14 0), some (gk_I a1), some (gk_I a2), some (gk_I a3), some (gk_I a4), some (gk_I a5), some (gk_I a6), none, none] (And.intro rfl (And.intro rfl (And.intro rfl (And.intro rfl (And.intro rfl (And.intro rfl (And.intro rfl True.intro))))))) (ok_X12_driftBy_j17 a1 a2 a3 a4 a5 a6 ((0 : Int32)) M h)
    · refine gk_iconst (v := (-1 : Int32)) dX12_driftBy_12 (by decide) ?_
      refine gk_goto (tgt := 17) dX12_driftBy_13 (by decide) ?_
      exact gk_weak [some (gk_R 14 0), some (gk_I a1), some (gk_I a2), some (gk_I a3), some (gk_I a4), some (gk_I a5), some (gk_I a6), none, none] (And.intro rfl (And.intro rfl (And.intro rfl (And.intro rfl (And.intro rfl (And.intro rfl (And.intro rfl True.intro))))))) (ok_X12_driftBy_j17 a1 a2 a3 a4 a5 a6 ((-1 : Int32)) M h)
  · refine gk_iconst (v := (1 : Int32)) dX12_driftBy_4 (by decide) ?_
    refine gk_goto (tgt := 17) dX12_driftBy_5 (by decide) ?_
    exact gk_weak [some (gk_R 14 0), some (gk_I a1), some (gk_I a2), some (gk_I a3), some (gk_I a4), some (gk_I a5), some (gk_I a6), none, none] (And.intro rfl (And.intro rfl (And.intro rfl (And.intro rfl (And.intro rfl (And.intro rfl (And.intro rfl True.intro))))))) (ok_X12_driftBy_j17 a1 a2 a3 a4 a5 a6 ((1 : Int32)) M h)
set_option maxRecDepth 100000 in
set_option maxHeartbeats 4000000 in
theorem ok_X12_driftToday (a1 : Int32) (a2 : Int32) (M : gk_M) (K : gk_V → gk_M → Prop) (h : gk_Sat gk_U (f_X12_driftToday a1 a2 M) K) : gk_MS 1 yX12_driftToday cX12_driftToday 5 none [gk_R 14 0, gk_I a1, gk_I a2] M K := by

  refine gk_MS_of [some (gk_R 14 0), some (gk_I a1), some (gk_I a2), none, none] (by decide +kernel) (Nat.le_of_ble_eq_true rfl) (And.intro rfl (And.intro rfl (And.intro rfl True.intro))) ?_
  show gk_G RX12 cX12_driftToday 5 1 none none K 0 [some (gk_R 14 0), some (gk_I a1), some (gk_I a2), none, none] [] M
  refine gk_aload_n dX12_driftToday_0 rfl rfl ?_
  refine gk_getI fr_X12_79 si_14_3 (by decide) dX12_driftToday_1 ?_
  refine gk_bipush (v := (7 : Int32)) dX12_driftToday_4 (by decide) ?_
  refine gk_irem dX12_driftToday_6 (by decide) ?_
  refine gk_istore_n (L' := [some (gk_R 14 0), some (gk_I a1), some (gk_I a2), some (gk_I ((M 14 0 3) - (M 14 0 3) / (7 : Int32) * (7 : Int32))), none]) dX12_driftToday_7 rfl (by decide) rfl rfl ?_
  refine gk_aload_n dX12_driftToday_8 rfl rfl ?_
  refine gk_getI fr_X12_79 si_14_3 (by decide) dX12_driftToday_9 ?_
  refine gk_bipush (v := (6 : Int32)) dX12_driftToday_12 (by decide) ?_
  refine gk_iadd dX12_driftToday_14 ?_
  refine gk_bipush (v := (7 : Int32)) dX12_driftToday_15 (by decide) ?_
  refine gk_irem dX12_driftToday_17 (by decide) ?_
  refine gk_istore (L' := [some (gk_R 14 0), some (gk_I a1), some (gk_I a2), some (gk_I ((M 14 0 3) - (M 14 0 3) / (7 : Int32) * (7 : Int32))), some (gk_I (((M 14 0 3) + (6 : Int32)) - ((M 14 0 3) + (6 : Int32)) / (7 : Int32) * (7 : Int32)))]) dX12_driftToday_18 (by decide) rfl rfl ?_
  refine gk_aload_n dX12_driftToday_20 rfl rfl ?_
  refine gk_iload_n dX12_driftToday_21 rfl rfl ?_
  refine gk_iload_n dX12_driftToday_22 rfl rfl ?_
  refine gk_aload_n dX12_driftToday_23 rfl rfl ?_
  refine gk_get (v := gk_R 15 0) fr_X12_16 pf_14_5 (by decide) dX12_driftToday_24 ?_
  refine gk_iload_n dX12_driftToday_27 rfl rfl ?_
  refine gk_iald ga_15 (by decide) dX12_driftToday_28 h (fun h hb1 => ?_)
  refine gk_aload_n dX12_driftToday_29 rfl rfl ?_
  refine gk_get (v := gk_R 15 1) fr_X12_20 pf_14_6 (by decide) dX12_driftToday_30 ?_
  refine gk_iload_n dX12_driftToday_33 rfl rfl ?_
  refine gk_iald ga_15 (by decide) dX12_driftToday_34 h (fun h hb2 => ?_)
  refine gk_aload_n dX12_driftToday_35 rfl rfl ?_
  refine gk_get (v := gk_R 15 0) fr_X12_16 pf_14_5 (by decide) dX12_driftToday_36 ?_
  refine gk_iload dX12_driftToday_39 rfl ?_
  refine gk_iald ga_15 (by decide) dX12_driftToday_41 h (fun h hb3 => ?_)
  refine gk_aload_n dX12_driftToday_42 rfl rfl ?_
  refine gk_get (v := gk_R 15 1) fr_X12_20 pf_14_6 (by decide) dX12_driftToday_43 ?_
  refine gk_iload dX12_driftToday_46 rfl ?_
  refine gk_iald ga_15 (by decide) dX12_driftToday_48 h (fun h hb4 => ?_)
  refine gk_callV (As := [gk_R 14 0, gk_I a1, gk_I a2, gk_I (M 15 0 (Int32.toNatClampNeg ((M 14 0 3) - (M 14 0 3) / (7 : Int32) * (7 : Int32)))), gk_I (M 15 1 (Int32.toNatClampNeg ((M 14 0 3) - (M 14 0 3) / (7 : Int32) * (7 : Int32)))), gk_I (M 15 0 (Int32.toNatClampNeg (((M 14 0 3) + (6 : Int32)) - ((M 14 0 3) + (6 : Int32)) / (7 : Int32) * (7 : Int32)))), gk_I (M 15 1 (Int32.toNatClampNeg (((M 14 0 3) + (6 : Int32)) - ((M 14 0 3) + (6 : Int32)) / (7 : Int32) * (7 : Int32))))]) (st := []) 0 (cr_X12_88 (by decide) rfl) (fun K' h' => ok_X12_driftBy a1 a2 (M 15 0 (Int32.toNatClampNeg ((M 14 0 3) - (M 14 0 3) / (7 : Int32) * (7 : Int32)))) (M 15 1 (Int32.toNatClampNeg ((M 14 0 3) - (M 14 0 3) / (7 : Int32) * (7 : Int32)))) (M 15 0 (Int32.toNatClampNeg (((M 14 0 3) + (6 : Int32)) - ((M 14 0 3) + (6 : Int32)) / (7 : Int32) * (7 : Int32)))) (M 15 1 (Int32.toNatClampNeg (((M 14 0 3) + (6 : Int32)) - ((M 14 0 3) + (6 : Int32)) / (7 : Int32) * (7 : Int32)))) M K' h') rfl (by decide) (by decide) (fun _ => Nat.le_of_ble_eq_true rfl) dX12_driftToday_49 h (fun _ M5 h => ?_)
  exact gk_vret dX12_driftToday_52 rfl h
set_option maxRecDepth 100000 in
set_option maxHeartbeats 4000000 in
theorem ok_X12_driftAll_l2 {K : gk_V → gk_M → Prop} : ∀ (n : Nat) (x1 : Int32) (M : gk_M), gk_Sat gk_U (X12_driftAll_l2 n x1 M) K → gk_G RX12 cX12_driftAll 2 2 none none K 2 [some (gk_R 14 0), some (gk_I x1)] [] M := by
  intro n
  induction n with
  | zero => intro x1 M h; exact h.no.elim
  | succ n ih =>
    intro x1 M h
    refine gk_iload_n dX12_driftAll_2 rfl rfl ?_
    refine gk_aload_n dX12_driftAll_3 rfl rfl ?_
    refine gk_getI fr_X12_68 si_14_0 (by decide) dX12_driftAll_4 ?_
    refine gk_icmp_ge (tgt := 58) dX12_driftAll_7 (by decide) h (fun h => ?_) (fun h => ?_)
    · exact gk_vret dX12_driftAll_58 rfl h
    · refine gk_aload_n dX12_driftAll_10 rfl rfl ?_
      refine gk_aload_n dX12_driftAll_11 rfl rfl ?_
      refine gk_get (v := gk_R 16 0) fr_X12_23 pf_14_7 (by decide) dX12_driftAll_12 ?_
      refine gk_iload_n dX12_driftAll_15 rfl rfl ?_
      refine gk_iald ga_16 (by decide) dX12_driftAll_16 h (fun h hb1 => ?_)
      refine gk_aload_n dX12_driftAll_17 rfl rfl ?_
      refine gk_get (v := gk_R 16 1) fr_X12_26 pf_14_8 (by decide) dX12_driftAll_18 ?_
      refine gk_iload_n dX12_driftAll_21 rfl rfl ?_
      refine gk_iald ga_16 (by decide) dX12_driftAll_22 h (fun h hb2 => ?_)
      refine gk_callV (As := [gk_R 14 0, gk_I (M 16 0 (Int32.toNatClampNeg x1)), gk_I (M 16 1 (Int32.toNatClampNeg x1))]) (st := []) 1 (cr_X12_92 (by decide) rfl) (fun K' h' => ok_X12_driftToday (M 16 0 (Int32.toNatClampNeg x1)) (M 16 1 (Int32.toNatClampNeg x1)) M K' h') rfl (by decide) (by decide) (fun _ => Nat.le_of_ble_eq_true rfl) dX12_driftAll_23 h (fun _ M3 h => ?_)
      refine gk_aload_n dX12_driftAll_26 rfl rfl ?_
      refine gk_get (v := gk_R 16 4) fr_X12_35 pf_14_11 (by decide) dX12_driftAll_27 ?_
      refine gk_iload_n dX12_driftAll_30 rfl rfl ?_
      refine gk_dup2 dX12_driftAll_31 rfl rfl ?_
      refine gk_iald ga_16 (by decide) dX12_driftAll_32 h (fun h hb5 => ?_)
      refine gk_aload_n dX12_driftAll_33 rfl rfl ?_
      refine gk_getI fr_X12_82 si_14_15 (by decide) dX12_driftAll_34 ?_
      refine gk_iadd dX12_driftAll_37 ?_
      refine gk_iast ga_16 (by decide) dX12_driftAll_38 h (fun M6 h => ?_)
      refine gk_aload_n dX12_driftAll_39 rfl rfl ?_
      refine gk_get (v := gk_R 16 5) fr_X12_38 pf_14_12 (by decide) dX12_driftAll_40 ?_
      refine gk_iload_n dX12_driftAll_43 rfl rfl ?_
      refine gk_dup2 dX12_driftAll_44 rfl rfl ?_
      refine gk_iald ga_16 (by decide) dX12_driftAll_45 h (fun h hb7 => ?_)
      refine gk_aload_n dX12_driftAll_46 rfl rfl ?_
      refine gk_getI fr_X12_85 si_14_16 (by decide) dX12_driftAll_47 ?_
      refine gk_iadd dX12_driftAll_50 ?_
      refine gk_iast ga_16 (by decide) dX12_driftAll_51 h (fun M8 h => ?_)
      refine gk_iinc (v := (x1 + (1 : Int32))) (L' := [some (gk_R 14 0), some (gk_I (x1 + (1 : Int32)))]) dX12_driftAll_52 rfl rfl (by decide) rfl rfl ?_
      refine gk_goto (tgt := 2) dX12_driftAll_55 (by decide) ?_
      exact gk_weak [some (gk_R 14 0), some (gk_I (x1 + (1 : Int32)))] (And.intro rfl (And.intro rfl True.intro)) (ih ((x1 + (1 : Int32))) M8 h)
set_option maxRecDepth 100000 in
set_option maxHeartbeats 4000000 in
theorem ok_X12_driftAll  (M : gk_M) (K : gk_V → gk_M → Prop) (h : gk_Sat gk_U (f_X12_driftAll  M) K) : gk_MS 2 yX12_driftAll cX12_driftAll 2 none [gk_R 14 0] M K := by

  refine gk_MS_of [some (gk_R 14 0), none] (by decide +kernel) (Nat.le_of_ble_eq_true rfl) (And.intro rfl True.intro) ?_
  show gk_G RX12 cX12_driftAll 2 2 none none K 0 [some (gk_R 14 0), none] [] M
  refine gk_iconst (v := (0 : Int32)) dX12_driftAll_0 (by decide) ?_
  refine gk_istore_n (L' := [some (gk_R 14 0), some (gk_I (0 : Int32))]) dX12_driftAll_1 rfl (by decide) rfl rfl ?_
  exact gk_weak [some (gk_R 14 0), some (gk_I (0 : Int32))] (And.intro rfl (And.intro rfl True.intro)) (ok_X12_driftAll_l2 200 ((0 : Int32)) M h)
set_option maxRecDepth 100000 in
set_option maxHeartbeats 4000000 in
theorem ok_X12_eat_j44 {K : gk_V → gk_M → Prop} (κ4 : Int32 → Int32 → gk_M → Option (Int32 × gk_M)) (hκ4 : ∀ (x1 : Int32) (x2 : Int32) (M : gk_M), gk_Sat gk_I (κ4 x1 x2 M) K → gk_G RX12 cX12_eat 4 0 (some .int) none K 4 [some (gk_R 14 0), some (gk_I x1), some (gk_I x2), none] [] M) (x1 : Int32) (x2 : Int32) (s0 : Int32) (M : gk_M) (h : gk_Sat gk_I (X12_eat_j44 κ4 x1 x2 s0 M) K) : gk_G RX12 cX12_eat 4 0 (some .int) none K 44 [some (gk_R 14 0), some (gk_I x1), some (gk_I x2), none] [gk_I s0] M := by
  refine gk_istore_n (L' := [some (gk_R 14 0), some (gk_I x1), some (gk_I x2), some (gk_I s0)]) dX12_eat_44 rfl (by decide) rfl rfl ?_
  refine gk_aload_n dX12_eat_45 rfl rfl ?_
  refine gk_get (v := gk_R 16 3) fr_X12_32 pf_14_10 (by decide) dX12_eat_46 ?_
  refine gk_iload_n dX12_eat_49 rfl rfl ?_
  refine gk_dup2 dX12_eat_50 rfl rfl ?_
  refine gk_iald ga_16 (by decide) dX12_eat_51 h (fun h hb3 => ?_)
  refine gk_aload_n dX12_eat_52 rfl rfl ?_
  refine gk_get (v := gk_R 16 2) fr_X12_29 pf_14_9 (by decide) dX12_eat_53 ?_
  refine gk_iload_n dX12_eat_56 rfl rfl ?_
  refine gk_iald ga_16 (by decide) dX12_eat_57 h (fun h hb4 => ?_)
  refine gk_iload_n dX12_eat_58 rfl rfl ?_
  refine gk_isub dX12_eat_59 ?_
  refine gk_isub dX12_eat_60 ?_
  refine gk_iast ga_16 (by decide) dX12_eat_61 h (fun M5 h => ?_)
  refine gk_iload_n dX12_eat_62 rfl rfl ?_
  refine gk_iload_n dX12_eat_63 rfl rfl ?_
  refine gk_iadd dX12_eat_64 ?_
  refine gk_istore_n (L' := [some (gk_R 14 0), some (gk_I (x1 + s0)), some (gk_I x2), some (gk_I s0)]) dX12_eat_65 rfl (by decide) rfl rfl ?_
  refine gk_iinc (v := (x2 + (1 : Int32))) (L' := [some (gk_R 14 0), some (gk_I (x1 + s0)), some (gk_I (x2 + (1 : Int32))), some (gk_I s0)]) dX12_eat_66 rfl rfl (by decide) rfl rfl ?_
  refine gk_goto (tgt := 4) dX12_eat_69 (by decide) ?_
  exact gk_weak [some (gk_R 14 0), some (gk_I (x1 + s0)), some (gk_I (x2 + (1 : Int32))), none] (And.intro rfl (And.intro rfl (And.intro rfl True.intro))) (hκ4 ((x1 + s0)) ((x2 + (1 : Int32))) M5 h)
set_option maxRecDepth 100000 in
set_option maxHeartbeats 4000000 in
theorem ok_X12_eat_l4 {K : gk_V → gk_M → Prop} : ∀ (n : Nat) (x1 : Int32) (x2 : Int32) (M : gk_M), gk_Sat gk_I (X12_eat_l4 n x1 x2 M) K → gk_G RX12 cX12_eat 4 0 (some .int) none K 4 [some (gk_R 14 0), some (gk_I x1), some (gk_I x2), none] [] M := by
  intro n
  induction n with
  | zero => intro x1 x2 M h; exact h.no.elim
  | succ n ih =>
    intro x1 x2 M h
    refine gk_iload_n dX12_eat_4 rfl rfl ?_
    refine gk_aload_n dX12_eat_5 rfl rfl ?_
    refine gk_getI fr_X12_68 si_14_0 (by decide) dX12_eat_6 ?_
    refine gk_icmp_ge (tgt := 72) dX12_eat_9 (by decide) h (fun h => ?_) (fun h => ?_)
    · refine gk_iload_n dX12_eat_72 rfl rfl ?_
      exact gk_iret dX12_eat_73 rfl h
    · refine gk_aload_n dX12_eat_12 rfl rfl ?_
      refine gk_get (v := gk_R 16 2) fr_X12_29 pf_14_9 (by decide) dX12_eat_13 ?_
      refine gk_iload_n dX12_eat_16 rfl rfl ?_
      refine gk_iald ga_16 (by decide) dX12_eat_17 h (fun h hb1 => ?_)
      refine gk_aload_n dX12_eat_18 rfl rfl ?_
      refine gk_get (v := gk_R 16 3) fr_X12_32 pf_14_10 (by decide) dX12_eat_19 ?_
      refine gk_iload_n dX12_eat_22 rfl rfl ?_
      refine gk_iald ga_16 (by decide) dX12_eat_23 h (fun h hb2 => ?_)
      refine gk_icmp_le (tgt := 43) dX12_eat_24 (by decide) h (fun h => ?_) (fun h => ?_)
      · refine gk_iconst (v := (0 : Int32)) dX12_eat_43 (by decide) ?_
        exact gk_weak [some (gk_R 14 0), some (gk_I x1), some (gk_I x2), none] (And.intro rfl (And.intro rfl (And.intro rfl True.intro))) (ok_X12_eat_j44 (X12_eat_l4 n) ih x1 x2 ((0 : Int32)) M h)
      · refine gk_aload_n dX12_eat_27 rfl rfl ?_
        refine gk_get (v := gk_R 16 2) fr_X12_29 pf_14_9 (by decide) dX12_eat_28 ?_
        refine gk_iload_n dX12_eat_31 rfl rfl ?_
        refine gk_iald ga_16 (by decide) dX12_eat_32 h (fun h hb6 => ?_)
        refine gk_aload_n dX12_eat_33 rfl rfl ?_
        refine gk_get (v := gk_R 16 3) fr_X12_32 pf_14_10 (by decide) dX12_eat_34 ?_
        refine gk_iload_n dX12_eat_37 rfl rfl ?_
        refine gk_iald ga_16 (by decide) dX12_eat_38 h (fun h hb7 => ?_)
        refine gk_isub dX12_eat_39 ?_
        refine gk_goto (tgt := 44) dX12_eat_40 (by decide) ?_
        exact gk_weak [some (gk_R 14 0), some (gk_I x1), some (gk_I x2), none] (And.intro rfl (And.intro rfl (And.intro rfl True.intro))) (ok_X12_eat_j44 (X12_eat_l4 n) ih x1 x2 (((M 16 2 (Int32.toNatClampNeg x2)) - (M 16 3 (Int32.toNatClampNeg x2)))) M h)
set_option maxRecDepth 100000 in
set_option maxHeartbeats 4000000 in
theorem ok_X12_eat  (M : gk_M) (K : gk_V → gk_M → Prop) (h : gk_Sat gk_I (f_X12_eat  M) K) : gk_MS 0 yX12_eat cX12_eat 4 (some .int) [gk_R 14 0] M K := by

  refine gk_MS_of [some (gk_R 14 0), none, none, none] (by decide +kernel) (Nat.le_of_ble_eq_true rfl) (And.intro rfl True.intro) ?_
  show gk_G RX12 cX12_eat 4 0 (some .int) none K 0 [some (gk_R 14 0), none, none, none] [] M
  refine gk_iconst (v := (0 : Int32)) dX12_eat_0 (by decide) ?_
  refine gk_istore_n (L' := [some (gk_R 14 0), some (gk_I (0 : Int32)), none, none]) dX12_eat_1 rfl (by decide) rfl rfl ?_
  refine gk_iconst (v := (0 : Int32)) dX12_eat_2 (by decide) ?_
  refine gk_istore_n (L' := [some (gk_R 14 0), some (gk_I (0 : Int32)), some (gk_I (0 : Int32)), none]) dX12_eat_3 rfl (by decide) rfl rfl ?_
  exact gk_weak [some (gk_R 14 0), some (gk_I (0 : Int32)), some (gk_I (0 : Int32)), none] (And.intro rfl (And.intro rfl (And.intro rfl True.intro))) (ok_X12_eat_l4 200 ((0 : Int32)) ((0 : Int32)) M h)
set_option maxRecDepth 100000 in
set_option maxHeartbeats 4000000 in
theorem ok_X12_daysOn_l4 {K : gk_V → gk_M → Prop} : ∀ (n : Nat) (x1 : Int32) (x2 : Int32) (x3 : Int32) (M : gk_M), gk_Sat gk_I (X12_daysOn_l4 n x1 x2 x3 M) K → gk_G RX12 cX12_daysOn 4 3 (some .int) none K 4 [some (gk_R 14 0), some (gk_I x1), some (gk_I x2), some (gk_I x3)] [] M := by
  intro n
  induction n with
  | zero => intro x1 x2 x3 M h; exact h.no.elim
  | succ n ih =>
    intro x1 x2 x3 M h
    refine gk_iload_n dX12_daysOn_4 rfl rfl ?_
    refine gk_iload_n dX12_daysOn_5 rfl rfl ?_
    refine gk_icmp_ge (tgt := 36) dX12_daysOn_6 (by decide) h (fun h => ?_) (fun h => ?_)
    · refine gk_iload_n dX12_daysOn_36 rfl rfl ?_
      exact gk_iret dX12_daysOn_37 rfl h
    · refine gk_aload_n dX12_daysOn_9 rfl rfl ?_
      refine gk_callV (As := [gk_R 14 0]) (st := []) 2 (cr_X12_96 (by decide) rfl) (fun K' h' => ok_X12_driftAll M K' h') rfl (by decide) (by decide) (fun _ => Nat.le_of_ble_eq_true rfl) dX12_daysOn_10 h (fun _ M1 h => ?_)
      refine gk_iload_n dX12_daysOn_13 rfl rfl ?_
      refine gk_aload_n dX12_daysOn_14 rfl rfl ?_
      refine gk_callI (As := [gk_R 14 0]) (st := [gk_I x2]) 0 (cr_X12_99 (by decide) rfl) (fun K' h' => ok_X12_eat M1 K' h') rfl (by decide) (by decide) (fun _ => Nat.le_of_ble_eq_true rfl) dX12_daysOn_15 h (fun r4 M3 h => ?_)
      refine gk_iadd dX12_daysOn_18 ?_
      refine gk_istore_n (L' := [some (gk_R 14 0), some (gk_I x1), some (gk_I (x2 + r4)), some (gk_I x3)]) dX12_daysOn_19 rfl (by decide) rfl rfl ?_
      refine gk_aload_n dX12_daysOn_20 rfl rfl ?_
      refine gk_dup dX12_daysOn_21 rfl ?_
      refine gk_getI fr_X12_79 si_14_3 (by decide) dX12_daysOn_22 ?_
      refine gk_iconst (v := (1 : Int32)) dX12_daysOn_25 (by decide) ?_
      refine gk_iadd dX12_daysOn_26 ?_
      refine gk_putI fr_X12_79 si_14_3 (by decide) dX12_daysOn_27 h (fun M5 h => ?_)
      refine gk_iinc (v := (x3 + (1 : Int32))) (L' := [some (gk_R 14 0), some (gk_I x1), some (gk_I (x2 + r4)), some (gk_I (x3 + (1 : Int32)))]) dX12_daysOn_30 rfl rfl (by decide) rfl rfl ?_
      refine gk_goto (tgt := 4) dX12_daysOn_33 (by decide) ?_
      exact gk_weak [some (gk_R 14 0), some (gk_I x1), some (gk_I (x2 + r4)), some (gk_I (x3 + (1 : Int32)))] (And.intro rfl (And.intro rfl (And.intro rfl (And.intro rfl True.intro)))) (ih x1 ((x2 + r4)) ((x3 + (1 : Int32))) M5 h)
set_option maxRecDepth 100000 in
set_option maxHeartbeats 4000000 in
theorem ok_X12_daysOn (a1 : Int32) (M : gk_M) (K : gk_V → gk_M → Prop) (h : gk_Sat gk_I (f_X12_daysOn a1 M) K) : gk_MS 3 yX12_daysOn cX12_daysOn 4 (some .int) [gk_R 14 0, gk_I a1] M K := by

  refine gk_MS_of [some (gk_R 14 0), some (gk_I a1), none, none] (by decide +kernel) (Nat.le_of_ble_eq_true rfl) (And.intro rfl (And.intro rfl True.intro)) ?_
  show gk_G RX12 cX12_daysOn 4 3 (some .int) none K 0 [some (gk_R 14 0), some (gk_I a1), none, none] [] M
  refine gk_iconst (v := (0 : Int32)) dX12_daysOn_0 (by decide) ?_
  refine gk_istore_n (L' := [some (gk_R 14 0), some (gk_I a1), some (gk_I (0 : Int32)), none]) dX12_daysOn_1 rfl (by decide) rfl rfl ?_
  refine gk_iconst (v := (0 : Int32)) dX12_daysOn_2 (by decide) ?_
  refine gk_istore_n (L' := [some (gk_R 14 0), some (gk_I a1), some (gk_I (0 : Int32)), some (gk_I (0 : Int32))]) dX12_daysOn_3 rfl (by decide) rfl rfl ?_
  exact gk_weak [some (gk_R 14 0), some (gk_I a1), some (gk_I (0 : Int32)), some (gk_I (0 : Int32))] (And.intro rfl (And.intro rfl (And.intro rfl (And.intro rfl True.intro)))) (ok_X12_daysOn_l4 200 a1 ((0 : Int32)) ((0 : Int32)) M h)
set_option maxRecDepth 100000 in
set_option maxHeartbeats 4000000 in
theorem ok_X12_apart (a0 : Int32) (a1 : Int32) (M : gk_M) (K : gk_V → gk_M → Prop) (h : gk_Sat gk_I (f_X12_apart a0 a1 M) K) : gk_MS 0 yX12_apart cX12_apart 2 (some .int) [gk_I a0, gk_I a1] M K := by

  refine gk_MS_of [some (gk_I a0), some (gk_I a1)] (by decide +kernel) (Nat.le_of_ble_eq_true rfl) (And.intro rfl (And.intro rfl True.intro)) ?_
  show gk_G RX12 cX12_apart 2 0 (some .int) none K 0 [some (gk_I a0), some (gk_I a1)] [] M
  refine gk_iload_n dX12_apart_0 rfl rfl ?_
  refine gk_iload_n dX12_apart_1 rfl rfl ?_
  refine gk_icmp_ge (tgt := 11) dX12_apart_2 (by decide) h (fun h => ?_) (fun h => ?_)
  · refine gk_iload_n dX12_apart_11 rfl rfl ?_
    refine gk_iload_n dX12_apart_12 rfl rfl ?_
    refine gk_isub dX12_apart_13 ?_
    exact gk_iret dX12_apart_14 rfl h
  · refine gk_iload_n dX12_apart_5 rfl rfl ?_
    refine gk_iload_n dX12_apart_6 rfl rfl ?_
    refine gk_isub dX12_apart_7 ?_
    refine gk_goto (tgt := 14) dX12_apart_8 (by decide) ?_
    exact gk_iret dX12_apart_14 rfl h
set_option maxRecDepth 100000 in
set_option maxHeartbeats 4000000 in
theorem ok_X12_farBetween (a1 : Int32) (a2 : Int32) (M : gk_M) (K : gk_V → gk_M → Prop) (h : gk_Sat gk_I (f_X12_farBetween a1 a2 M) K) : gk_MS 1 yX12_farBetween cX12_farBetween 5 (some .int) [gk_R 14 0, gk_I a1, gk_I a2] M K := by

  refine gk_MS_of [some (gk_R 14 0), some (gk_I a1), some (gk_I a2), none, none] (by decide +kernel) (Nat.le_of_ble_eq_true rfl) (And.intro rfl (And.intro rfl (And.intro rfl True.intro))) ?_
  show gk_G RX12 cX12_farBetween 5 1 (some .int) none K 0 [some (gk_R 14 0), some (gk_I a1), some (gk_I a2), none, none] [] M
  refine gk_aload_n dX12_farBetween_0 rfl rfl ?_
  refine gk_get (v := gk_R 16 4) fr_X12_35 pf_14_11 (by decide) dX12_farBetween_1 ?_
  refine gk_iload_n dX12_farBetween_4 rfl rfl ?_
  refine gk_iald ga_16 (by decide) dX12_farBetween_5 h (fun h hb1 => ?_)
  refine gk_aload_n dX12_farBetween_6 rfl rfl ?_
  refine gk_get (v := gk_R 16 4) fr_X12_35 pf_14_11 (by decide) dX12_farBetween_7 ?_
  refine gk_iload_n dX12_farBetween_10 rfl rfl ?_
  refine gk_iald ga_16 (by decide) dX12_farBetween_11 h (fun h hb2 => ?_)
  refine gk_callI (As := [gk_I (M 16 4 (Int32.toNatClampNeg a1)), gk_I (M 16 4 (Int32.toNatClampNeg a2))]) (st := []) 0 (cr_X12_103 rfl) (fun K' h' => ok_X12_apart (M 16 4 (Int32.toNatClampNeg a1)) (M 16 4 (Int32.toNatClampNeg a2)) M K' h') rfl (by decide) (by decide) (fun _ => Nat.le_of_ble_eq_true rfl) dX12_farBetween_12 h (fun r4 M3 h => ?_)
  refine gk_istore_n (L' := [some (gk_R 14 0), some (gk_I a1), some (gk_I a2), some (gk_I r4), none]) dX12_farBetween_15 rfl (by decide) rfl rfl ?_
  refine gk_aload_n dX12_farBetween_16 rfl rfl ?_
  refine gk_get (v := gk_R 16 5) fr_X12_38 pf_14_12 (by decide) dX12_farBetween_17 ?_
  refine gk_iload_n dX12_farBetween_20 rfl rfl ?_
  refine gk_iald ga_16 (by decide) dX12_farBetween_21 h (fun h hb5 => ?_)
  refine gk_aload_n dX12_farBetween_22 rfl rfl ?_
  refine gk_get (v := gk_R 16 5) fr_X12_38 pf_14_12 (by decide) dX12_farBetween_23 ?_
  refine gk_iload_n dX12_farBetween_26 rfl rfl ?_
  refine gk_iald ga_16 (by decide) dX12_farBetween_27 h (fun h hb6 => ?_)
  refine gk_callI (As := [gk_I (M3 16 5 (Int32.toNatClampNeg a1)), gk_I (M3 16 5 (Int32.toNatClampNeg a2))]) (st := []) 0 (cr_X12_103 rfl) (fun K' h' => ok_X12_apart (M3 16 5 (Int32.toNatClampNeg a1)) (M3 16 5 (Int32.toNatClampNeg a2)) M3 K' h') rfl (by decide) (by decide) (fun _ => Nat.le_of_ble_eq_true rfl) dX12_farBetween_28 h (fun r8 M7 h => ?_)
  refine gk_istore (L' := [some (gk_R 14 0), some (gk_I a1), some (gk_I a2), some (gk_I r4), some (gk_I r8)]) dX12_farBetween_31 (by decide) rfl rfl ?_
  refine gk_iload_n dX12_farBetween_33 rfl rfl ?_
  refine gk_iload dX12_farBetween_34 rfl ?_
  refine gk_icmp_le (tgt := 43) dX12_farBetween_36 (by decide) h (fun h => ?_) (fun h => ?_)
  · refine gk_iload dX12_farBetween_43 rfl ?_
    exact gk_iret dX12_farBetween_45 rfl h
  · refine gk_iload_n dX12_farBetween_39 rfl rfl ?_
    refine gk_goto (tgt := 45) dX12_farBetween_40 (by decide) ?_
    exact gk_iret dX12_farBetween_45 rfl h
set_option maxRecDepth 100000 in
set_option maxHeartbeats 4000000 in
theorem ok_X12_isOpen_j22 {K : gk_V → gk_M → Prop}  (M : gk_M) (h : gk_Sat gk_I (X12_isOpen_j22  M) K) : gk_G RX12 cX12_isOpen 3 2 (some .boolean) none K 22 [none, none, none] [] M := by
  refine gk_iconst (v := (0 : Int32)) dX12_isOpen_22 (by decide) ?_
  exact gk_zret dX12_isOpen_23 rfl h
set_option maxRecDepth 100000 in
set_option maxHeartbeats 4000000 in
theorem ok_X12_isOpen (a1 : Int32) (a2 : Int32) (M : gk_M) (K : gk_V → gk_M → Prop) (h : gk_Sat gk_I (f_X12_isOpen a1 a2 M) K) : gk_MS 2 yX12_isOpen cX12_isOpen 3 (some .boolean) [gk_R 14 0, gk_I a1, gk_I a2] M K := by

  refine gk_MS_of [some (gk_R 14 0), some (gk_I a1), some (gk_I a2)] (by decide +kernel) (Nat.le_of_ble_eq_true rfl) (And.intro rfl (And.intro rfl (And.intro rfl True.intro))) ?_
  show gk_G RX12 cX12_isOpen 3 2 (some .boolean) none K 0 [some (gk_R 14 0), some (gk_I a1), some (gk_I a2)] [] M
  refine gk_iload_n dX12_isOpen_0 rfl rfl ?_
  refine gk_iload_n dX12_isOpen_1 rfl rfl ?_
  refine gk_icmp_eq (tgt := 22) dX12_isOpen_2 (by decide) h (fun h => ?_) (fun h => ?_)
  · exact gk_weak [none, none, none] True.intro (ok_X12_isOpen_j22 M h)
  · refine gk_aload_n dX12_isOpen_5 rfl rfl ?_
    refine gk_iload_n dX12_isOpen_6 rfl rfl ?_
    refine gk_iload_n dX12_isOpen_7 rfl rfl ?_
    refine gk_callI (As := [gk_R 14 0, gk_I a1, gk_I a2]) (st := []) 1 (cr_X12_107 (by decide) rfl) (fun K' h' => ok_X12_farBetween a1 a2 M K' h') rfl (by decide) (by decide) (fun _ => Nat.le_of_ble_eq_true rfl) dX12_isOpen_8 h (fun r2 M1 h => ?_)
    refine gk_aload_n dX12_isOpen_11 rfl rfl ?_
    refine gk_getI fr_X12_7 si_14_1 (by decide) dX12_isOpen_12 ?_
    refine gk_icmp_gt (tgt := 22) dX12_isOpen_15 (by decide) h (fun h => ?_) (fun h => ?_)
    · exact gk_weak [none, none, none] True.intro (ok_X12_isOpen_j22 M1 h)
    · refine gk_iconst (v := (1 : Int32)) dX12_isOpen_18 (by decide) ?_
      refine gk_goto (tgt := 23) dX12_isOpen_19 (by decide) ?_
      exact gk_zret dX12_isOpen_23 rfl h
set_option maxRecDepth 100000 in
set_option maxHeartbeats 4000000 in
theorem ok_X12_carry_j17 {K : gk_V → gk_M → Prop}  (M : gk_M) (h : gk_Sat gk_I (X12_carry_j17  M) K) : gk_G RX12 cX12_carry 2 0 (some .int) none K 17 [some (gk_R 14 0), none] [] M := by
  refine gk_aload_n dX12_carry_17 rfl rfl ?_
  refine gk_dup dX12_carry_18 rfl ?_
  refine gk_getI fr_X12_117 si_14_20 (by decide) dX12_carry_19 ?_
  refine gk_iconst (v := (1 : Int32)) dX12_carry_22 (by decide) ?_
  refine gk_iadd dX12_carry_23 ?_
  refine gk_putI fr_X12_117 si_14_20 (by decide) dX12_carry_24 h (fun M1 h => ?_)
  refine gk_aload_n dX12_carry_27 rfl rfl ?_
  refine gk_getK fr_X12_114 dX12_carry_28 h (fun h hb2 => ?_)
  refine gk_aload_n dX12_carry_31 rfl rfl ?_
  refine gk_getI fr_X12_117 si_14_20 (by decide) dX12_carry_32 ?_
  refine gk_iconst (v := (1 : Int32)) dX12_carry_35 (by decide) ?_
  refine gk_isub dX12_carry_36 ?_
  refine gk_iald ga_18 hb2 dX12_carry_37 h (fun h hb3 => ?_)
  exact gk_iret dX12_carry_38 rfl h
set_option maxRecDepth 100000 in
set_option maxHeartbeats 4000000 in
theorem ok_X12_carry (a1 : Int32) (M : gk_M) (K : gk_V → gk_M → Prop) (h : gk_Sat gk_I (f_X12_carry a1 M) K) : gk_MS 0 yX12_carry cX12_carry 2 (some .int) [gk_R 14 0, gk_I a1] M K := by

  refine gk_MS_of [some (gk_R 14 0), some (gk_I a1)] (by decide +kernel) (Nat.le_of_ble_eq_true rfl) (And.intro rfl (And.intro rfl True.intro)) ?_
  show gk_G RX12 cX12_carry 2 0 (some .int) none K 0 [some (gk_R 14 0), some (gk_I a1)] [] M
  refine gk_aload_n dX12_carry_0 rfl rfl ?_
  refine gk_getI fr_X12_110 si_14_21 (by decide) dX12_carry_1 ?_
  refine gk_if_eq (tgt := 17) dX12_carry_4 (by decide) h (fun h => ?_) (fun h => ?_)
  · exact gk_weak [some (gk_R 14 0), none] (And.intro rfl True.intro) (ok_X12_carry_j17 M h)
  · refine gk_aload_n dX12_carry_7 rfl rfl ?_
    refine gk_getK fr_X12_114 dX12_carry_8 h (fun h hb4 => ?_)
    refine gk_aload_n dX12_carry_11 rfl rfl ?_
    refine gk_getI fr_X12_117 si_14_20 (by decide) dX12_carry_12 ?_
    refine gk_iload_n dX12_carry_15 rfl rfl ?_
    refine gk_iast ga_18 hb4 dX12_carry_16 h (fun M5 h => ?_)
    exact gk_weak [some (gk_R 14 0), none] (And.intro rfl True.intro) (ok_X12_carry_j17 M5 h)
set_option maxRecDepth 100000 in
set_option maxHeartbeats 4000000 in
theorem ok_X12_carryAll_l123 {K : gk_V → gk_M → Prop} : ∀ (n : Nat) (x3 : Int32) (M : gk_M), gk_Sat gk_U (X12_carryAll_l123 n x3 M) K → gk_G RX12 cX12_carryAll 4 1 none none K 123 [some (gk_R 14 0), none, none, some (gk_I x3)] [] M := by
  intro n
  induction n with
  | zero => intro x3 M h; exact h.no.elim
  | succ n ih =>
    intro x3 M h
    refine gk_iload_n dX12_carryAll_123 rfl rfl ?_
    refine gk_bipush (v := (6 : Int32)) dX12_carryAll_124 (by decide) ?_
    refine gk_icmp_ge (tgt := 231) dX12_carryAll_126 (by decide) h (fun h => ?_) (fun h => ?_)
    · exact gk_vret dX12_carryAll_231 rfl h
    · refine gk_aload_n dX12_carryAll_129 rfl rfl ?_
      refine gk_get (v := gk_R 16 0) fr_X12_23 pf_14_7 (by decide) dX12_carryAll_130 ?_
      refine gk_iload_n dX12_carryAll_133 rfl rfl ?_
      refine gk_aload_n dX12_carryAll_134 rfl rfl ?_
      refine gk_aload_n dX12_carryAll_135 rfl rfl ?_
      refine gk_get (v := gk_R 16 0) fr_X12_23 pf_14_7 (by decide) dX12_carryAll_136 ?_
      refine gk_iload_n dX12_carryAll_139 rfl rfl ?_
      refine gk_iald ga_16 (by decide) dX12_carryAll_140 h (fun h hb19 => ?_)
      refine gk_callI (As := [gk_R 14 0, gk_I (M 16 0 (Int32.toNatClampNeg x3))]) (st := [gk_I x3, gk_R 16 0]) 0 (cr_X12_120 (by decide) rfl) (fun K' h' => ok_X12_carry (M 16 0 (Int32.toNatClampNeg x3)) M K' h') rfl (by decide) (by decide) (fun _ => Nat.le_of_ble_eq_true rfl) dX12_carryAll_141 h (fun r21 M20 h => ?_)
      refine gk_iast ga_16 (by decide) dX12_carryAll_144 h (fun M22 h => ?_)
      refine gk_aload_n dX12_carryAll_145 rfl rfl ?_
      refine gk_get (v := gk_R 16 1) fr_X12_26 pf_14_8 (by decide) dX12_carryAll_146 ?_
      refine gk_iload_n dX12_carryAll_149 rfl rfl ?_
      refine gk_aload_n dX12_carryAll_150 rfl rfl ?_
      refine gk_aload_n dX12_carryAll_151 rfl rfl ?_
      refine gk_get (v := gk_R 16 1) fr_X12_26 pf_14_8 (by decide) dX12_carryAll_152 ?_
      refine gk_iload_n dX12_carryAll_155 rfl rfl ?_
      refine gk_iald ga_16 (by decide) dX12_carryAll_156 h (fun h hb23 => ?_)
      refine gk_callI (As := [gk_R 14 0, gk_I (M22 16 1 (Int32.toNatClampNeg x3))]) (st := [gk_I x3, gk_R 16 1]) 0 (cr_X12_120 (by decide) rfl) (fun K' h' => ok_X12_carry (M22 16 1 (Int32.toNatClampNeg x3)) M22 K' h') rfl (by decide) (by decide) (fun _ => Nat.le_of_ble_eq_true rfl) dX12_carryAll_157 h (fun r25 M24 h => ?_)
      refine gk_iast ga_16 (by decide) dX12_carryAll_160 h (fun M26 h => ?_)
      refine gk_aload_n dX12_carryAll_161 rfl rfl ?_
      refine gk_get (v := gk_R 16 2) fr_X12_29 pf_14_9 (by decide) dX12_carryAll_162 ?_
      refine gk_iload_n dX12_carryAll_165 rfl rfl ?_
      refine gk_aload_n dX12_carryAll_166 rfl rfl ?_
      refine gk_aload_n dX12_carryAll_167 rfl rfl ?_
      refine gk_get (v := gk_R 16 2) fr_X12_29 pf_14_9 (by decide) dX12_carryAll_168 ?_
      refine gk_iload_n dX12_carryAll_171 rfl rfl ?_
      refine gk_iald ga_16 (by decide) dX12_carryAll_172 h (fun h hb27 => ?_)
      refine gk_callI (As := [gk_R 14 0, gk_I (M26 16 2 (Int32.toNatClampNeg x3))]) (st := [gk_I x3, gk_R 16 2]) 0 (cr_X12_120 (by decide) rfl) (fun K' h' => ok_X12_carry (M26 16 2 (Int32.toNatClampNeg x3)) M26 K' h') rfl (by decide) (by decide) (fun _ => Nat.le_of_ble_eq_true rfl) dX12_carryAll_173 h (fun r29 M28 h => ?_)
      refine gk_iast ga_16 (by decide) dX12_carryAll_176 h (fun M30 h => ?_)
      refine gk_aload_n dX12_carryAll_177 rfl rfl ?_
      refine gk_get (v := gk_R 16 3) fr_X12_32 pf_14_10 (by decide) dX12_carryAll_178 ?_
      refine gk_iload_n dX12_carryAll_181 rfl rfl ?_
      refine gk_aload_n dX12_carryAll_182 rfl rfl ?_
      refine gk_aload_n dX12_carryAll_183 rfl rfl ?_
      refine gk_get (v := gk_R 16 3) fr_X12_32 pf_14_10 (by decide) dX12_carryAll_184 ?_
      refine gk_iload_n dX12_carryAll_187 rfl rfl ?_
      refine gk_iald ga_16 (by decide) dX12_carryAll_188 h (fun h hb31 => ?_)
      refine gk_callI (As := [gk_R 14 0, gk_I (M30 16 3 (Int32.toNatClampNeg x3))]) (st := [gk_I x3, gk_R 16 3]) 0 (cr_X12_120 (by decide) rfl) (fun K' h' => ok_X12_carry (M30 16 3 (Int32.toNatClampNeg x3)) M30 K' h') rfl (by decide) (by decide) (fun _ => Nat.le_of_ble_eq_true rfl) dX12_carryAll_189 h (fun r33 M32 h => ?_)
      refine gk_iast ga_16 (by decide) dX12_carryAll_192 h (fun M34 h => ?_)
      refine gk_aload_n dX12_carryAll_193 rfl rfl ?_
      refine gk_get (v := gk_R 16 4) fr_X12_35 pf_14_11 (by decide) dX12_carryAll_194 ?_
      refine gk_iload_n dX12_carryAll_197 rfl rfl ?_
      refine gk_aload_n dX12_carryAll_198 rfl rfl ?_
      refine gk_aload_n dX12_carryAll_199 rfl rfl ?_
      refine gk_get (v := gk_R 16 4) fr_X12_35 pf_14_11 (by decide) dX12_carryAll_200 ?_
      refine gk_iload_n dX12_carryAll_203 rfl rfl ?_
      refine gk_iald ga_16 (by decide) dX12_carryAll_204 h (fun h hb35 => ?_)
      refine gk_callI (As := [gk_R 14 0, gk_I (M34 16 4 (Int32.toNatClampNeg x3))]) (st := [gk_I x3, gk_R 16 4]) 0 (cr_X12_120 (by decide) rfl) (fun K' h' => ok_X12_carry (M34 16 4 (Int32.toNatClampNeg x3)) M34 K' h') rfl (by decide) (by decide) (fun _ => Nat.le_of_ble_eq_true rfl) dX12_carryAll_205 h (fun r37 M36 h => ?_)
      refine gk_iast ga_16 (by decide) dX12_carryAll_208 h (fun M38 h => ?_)
      refine gk_aload_n dX12_carryAll_209 rfl rfl ?_
      refine gk_get (v := gk_R 16 5) fr_X12_38 pf_14_12 (by decide) dX12_carryAll_210 ?_
      refine gk_iload_n dX12_carryAll_213 rfl rfl ?_
      refine gk_aload_n dX12_carryAll_214 rfl rfl ?_
      refine gk_aload_n dX12_carryAll_215 rfl rfl ?_
      refine gk_get (v := gk_R 16 5) fr_X12_38 pf_14_12 (by decide) dX12_carryAll_216 ?_
      refine gk_iload_n dX12_carryAll_219 rfl rfl ?_
      refine gk_iald ga_16 (by decide) dX12_carryAll_220 h (fun h hb39 => ?_)
      refine gk_callI (As := [gk_R 14 0, gk_I (M38 16 5 (Int32.toNatClampNeg x3))]) (st := [gk_I x3, gk_R 16 5]) 0 (cr_X12_120 (by decide) rfl) (fun K' h' => ok_X12_carry (M38 16 5 (Int32.toNatClampNeg x3)) M38 K' h') rfl (by decide) (by decide) (fun _ => Nat.le_of_ble_eq_true rfl) dX12_carryAll_221 h (fun r41 M40 h => ?_)
      refine gk_iast ga_16 (by decide) dX12_carryAll_224 h (fun M42 h => ?_)
      refine gk_iinc (v := (x3 + (1 : Int32))) (L' := [some (gk_R 14 0), none, none, some (gk_I (x3 + (1 : Int32)))]) dX12_carryAll_225 rfl rfl (by decide) rfl rfl ?_
      refine gk_goto (tgt := 123) dX12_carryAll_228 (by decide) ?_
      exact gk_weak [some (gk_R 14 0), none, none, some (gk_I (x3 + (1 : Int32)))] (And.intro rfl (And.intro rfl True.intro)) (ih ((x3 + (1 : Int32))) M42 h)
set_option maxRecDepth 100000 in
set_option maxHeartbeats 4000000 in
theorem ok_X12_carryAll_l77 {K : gk_V → gk_M → Prop} : ∀ (n : Nat) (x3 : Int32) (M : gk_M), gk_Sat gk_U (X12_carryAll_l77 n x3 M) K → gk_G RX12 cX12_carryAll 4 1 none none K 77 [some (gk_R 14 0), none, none, some (gk_I x3)] [] M := by
  intro n
  induction n with
  | zero => intro x3 M h; exact h.no.elim
  | succ n ih =>
    intro x3 M h
    refine gk_iload_n dX12_carryAll_77 rfl rfl ?_
    refine gk_bipush (v := (7 : Int32)) dX12_carryAll_78 (by decide) ?_
    refine gk_icmp_ge (tgt := 121) dX12_carryAll_80 (by decide) h (fun h => ?_) (fun h => ?_)
    · refine gk_iconst (v := (0 : Int32)) dX12_carryAll_121 (by decide) ?_
      refine gk_istore_n (L' := [some (gk_R 14 0), none, none, some (gk_I (0 : Int32))]) dX12_carryAll_122 rfl (by decide) rfl rfl ?_
      exact gk_weak [some (gk_R 14 0), none, none, some (gk_I (0 : Int32))] (And.intro rfl (And.intro rfl True.intro)) (ok_X12_carryAll_l123 200 ((0 : Int32)) M h)
    · refine gk_aload_n dX12_carryAll_83 rfl rfl ?_
      refine gk_get (v := gk_R 15 0) fr_X12_16 pf_14_5 (by decide) dX12_carryAll_84 ?_
      refine gk_iload_n dX12_carryAll_87 rfl rfl ?_
      refine gk_aload_n dX12_carryAll_88 rfl rfl ?_
      refine gk_aload_n dX12_carryAll_89 rfl rfl ?_
      refine gk_get (v := gk_R 15 0) fr_X12_16 pf_14_5 (by decide) dX12_carryAll_90 ?_
      refine gk_iload_n dX12_carryAll_93 rfl rfl ?_
      refine gk_iald ga_15 (by decide) dX12_carryAll_94 h (fun h hb43 => ?_)
      refine gk_callI (As := [gk_R 14 0, gk_I (M 15 0 (Int32.toNatClampNeg x3))]) (st := [gk_I x3, gk_R 15 0]) 0 (cr_X12_120 (by decide) rfl) (fun K' h' => ok_X12_carry (M 15 0 (Int32.toNatClampNeg x3)) M K' h') rfl (by decide) (by decide) (fun _ => Nat.le_of_ble_eq_true rfl) dX12_carryAll_95 h (fun r45 M44 h => ?_)
      refine gk_iast ga_15 (by decide) dX12_carryAll_98 h (fun M46 h => ?_)
      refine gk_aload_n dX12_carryAll_99 rfl rfl ?_
      refine gk_get (v := gk_R 15 1) fr_X12_20 pf_14_6 (by decide) dX12_carryAll_100 ?_
      refine gk_iload_n dX12_carryAll_103 rfl rfl ?_
      refine gk_aload_n dX12_carryAll_104 rfl rfl ?_
      refine gk_aload_n dX12_carryAll_105 rfl rfl ?_
      refine gk_get (v := gk_R 15 1) fr_X12_20 pf_14_6 (by decide) dX12_carryAll_106 ?_
      refine gk_iload_n dX12_carryAll_109 rfl rfl ?_
      refine gk_iald ga_15 (by decide) dX12_carryAll_110 h (fun h hb47 => ?_)
      refine gk_callI (As := [gk_R 14 0, gk_I (M46 15 1 (Int32.toNatClampNeg x3))]) (st := [gk_I x3, gk_R 15 1]) 0 (cr_X12_120 (by decide) rfl) (fun K' h' => ok_X12_carry (M46 15 1 (Int32.toNatClampNeg x3)) M46 K' h') rfl (by decide) (by decide) (fun _ => Nat.le_of_ble_eq_true rfl) dX12_carryAll_111 h (fun r49 M48 h => ?_)
      refine gk_iast ga_15 (by decide) dX12_carryAll_114 h (fun M50 h => ?_)
      refine gk_iinc (v := (x3 + (1 : Int32))) (L' := [some (gk_R 14 0), none, none, some (gk_I (x3 + (1 : Int32)))]) dX12_carryAll_115 rfl rfl (by decide) rfl rfl ?_
      refine gk_goto (tgt := 77) dX12_carryAll_118 (by decide) ?_
      exact gk_weak [some (gk_R 14 0), none, none, some (gk_I (x3 + (1 : Int32)))] (And.intro rfl (And.intro rfl True.intro)) (ih ((x3 + (1 : Int32))) M50 h)
set_option maxRecDepth 100000 in
set_option maxHeartbeats 4000000 in
theorem ok_X12_carryAll (a1 : Nat) (a2 : Int32) (M : gk_M) (K : gk_V → gk_M → Prop) (h : gk_Sat gk_U (f_X12_carryAll a1 a2 M) K) : gk_MS 1 yX12_carryAll cX12_carryAll 4 none [gk_R 14 0, gk_R 18 a1, gk_I a2] M K := by
  have hga1 := h.gd
  have h := hga1.2
  have ha1 := gk_lt_of hga1.1
  refine gk_MS_of [some (gk_R 14 0), some (gk_R 18 a1), some (gk_I a2), none] (by decide +kernel) (Nat.le_of_ble_eq_true rfl) (And.intro rfl (And.intro rfl (And.intro rfl True.intro))) ?_
  show gk_G RX12 cX12_carryAll 4 1 none none K 0 [some (gk_R 14 0), some (gk_R 18 a1), some (gk_I a2), none] [] M
  refine gk_aload_n dX12_carryAll_0 rfl rfl ?_
  refine gk_aload_n dX12_carryAll_1 rfl rfl ?_
  refine gk_putK fr_X12_114 ha1 dX12_carryAll_2 h (fun M1 h => ?_)
  refine gk_aload_n dX12_carryAll_5 rfl rfl ?_
  refine gk_iload_n dX12_carryAll_6 rfl rfl ?_
  refine gk_putZ fr_X12_110 si_14_21 (by decide) dX12_carryAll_7 h (fun M2 h => ?_)
  refine gk_aload_n dX12_carryAll_10 rfl rfl ?_
  refine gk_iconst (v := (0 : Int32)) dX12_carryAll_11 (by decide) ?_
  refine gk_putI fr_X12_117 si_14_20 (by decide) dX12_carryAll_12 h (fun M3 h => ?_)
  refine gk_aload_n dX12_carryAll_15 rfl rfl ?_
  refine gk_aload_n dX12_carryAll_16 rfl rfl ?_
  refine gk_aload_n dX12_carryAll_17 rfl rfl ?_
  refine gk_getI fr_X12_68 si_14_0 (by decide) dX12_carryAll_18 ?_
  refine gk_callI (As := [gk_R 14 0, gk_I (M3 14 0 0)]) (st := [gk_R 14 0]) 0 (cr_X12_120 (by decide) rfl) (fun K' h' => ok_X12_carry (M3 14 0 0) M3 K' h') rfl (by decide) (by decide) (fun _ => Nat.le_of_ble_eq_true rfl) dX12_carryAll_21 h (fun r5 M4 h => ?_)
  refine gk_putI fr_X12_68 si_14_0 (by decide) dX12_carryAll_24 h (fun M6 h => ?_)
  refine gk_aload_n dX12_carryAll_27 rfl rfl ?_
  refine gk_aload_n dX12_carryAll_28 rfl rfl ?_
  refine gk_aload_n dX12_carryAll_29 rfl rfl ?_
  refine gk_getI fr_X12_7 si_14_1 (by decide) dX12_carryAll_30 ?_
  refine gk_callI (As := [gk_R 14 0, gk_I (M6 14 0 1)]) (st := [gk_R 14 0]) 0 (cr_X12_120 (by decide) rfl) (fun K' h' => ok_X12_carry (M6 14 0 1) M6 K' h') rfl (by decide) (by decide) (fun _ => Nat.le_of_ble_eq_true rfl) dX12_carryAll_33 h (fun r8 M7 h => ?_)
  refine gk_putI fr_X12_7 si_14_1 (by decide) dX12_carryAll_36 h (fun M9 h => ?_)
  refine gk_aload_n dX12_carryAll_39 rfl rfl ?_
  refine gk_aload_n dX12_carryAll_40 rfl rfl ?_
  refine gk_aload_n dX12_carryAll_41 rfl rfl ?_
  refine gk_getI fr_X12_13 si_14_2 (by decide) dX12_carryAll_42 ?_
  refine gk_callI (As := [gk_R 14 0, gk_I (M9 14 0 2)]) (st := [gk_R 14 0]) 0 (cr_X12_120 (by decide) rfl) (fun K' h' => ok_X12_carry (M9 14 0 2) M9 K' h') rfl (by decide) (by decide) (fun _ => Nat.le_of_ble_eq_true rfl) dX12_carryAll_45 h (fun r11 M10 h => ?_)
  refine gk_putI fr_X12_13 si_14_2 (by decide) dX12_carryAll_48 h (fun M12 h => ?_)
  refine gk_aload_n dX12_carryAll_51 rfl rfl ?_
  refine gk_aload_n dX12_carryAll_52 rfl rfl ?_
  refine gk_aload_n dX12_carryAll_53 rfl rfl ?_
  refine gk_getI fr_X12_79 si_14_3 (by decide) dX12_carryAll_54 ?_
  refine gk_callI (As := [gk_R 14 0, gk_I (M12 14 0 3)]) (st := [gk_R 14 0]) 0 (cr_X12_120 (by decide) rfl) (fun K' h' => ok_X12_carry (M12 14 0 3) M12 K' h') rfl (by decide) (by decide) (fun _ => Nat.le_of_ble_eq_true rfl) dX12_carryAll_57 h (fun r14 M13 h => ?_)
  refine gk_putI fr_X12_79 si_14_3 (by decide) dX12_carryAll_60 h (fun M15 h => ?_)
  refine gk_aload_n dX12_carryAll_63 rfl rfl ?_
  refine gk_aload_n dX12_carryAll_64 rfl rfl ?_
  refine gk_aload_n dX12_carryAll_65 rfl rfl ?_
  refine gk_getI fr_X12_124 si_14_4 (by decide) dX12_carryAll_66 ?_
  refine gk_callI (As := [gk_R 14 0, gk_I (M15 14 0 4)]) (st := [gk_R 14 0]) 0 (cr_X12_120 (by decide) rfl) (fun K' h' => ok_X12_carry (M15 14 0 4) M15 K' h') rfl (by decide) (by decide) (fun _ => Nat.le_of_ble_eq_true rfl) dX12_carryAll_69 h (fun r17 M16 h => ?_)
  refine gk_putI fr_X12_124 si_14_4 (by decide) dX12_carryAll_72 h (fun M18 h => ?_)
  refine gk_iconst (v := (0 : Int32)) dX12_carryAll_75 (by decide) ?_
  refine gk_istore_n (L' := [some (gk_R 14 0), some (gk_R 18 a1), some (gk_I a2), some (gk_I (0 : Int32))]) dX12_carryAll_76 rfl (by decide) rfl rfl ?_
  exact gk_weak [some (gk_R 14 0), none, none, some (gk_I (0 : Int32))] (And.intro rfl (And.intro rfl True.intro)) (ok_X12_carryAll_l77 200 ((0 : Int32)) M18 h)
set_option maxRecDepth 100000 in
set_option maxHeartbeats 4000000 in
theorem ok_X12_open0  (M : gk_M) (K : gk_V → gk_M → Prop) (h : gk_Sat gk_U (f_X12_open0  M) K) : gk_MS 2 yX12_open0 cX12_open0 1 none [gk_R 14 0] M K := by

  refine gk_MS_of [some (gk_R 14 0)] (by decide +kernel) (Nat.le_of_ble_eq_true rfl) (And.intro rfl True.intro) ?_
  show gk_G RX12 cX12_open0 1 2 none none K 0 [some (gk_R 14 0)] [] M
  refine gk_aload_n dX12_open0_0 rfl rfl ?_
  refine gk_aload_n dX12_open0_1 rfl rfl ?_
  refine gk_get (v := gk_R 18 0) fr_X12_44 pf_14_17 (by decide) dX12_open0_2 ?_
  refine gk_iconst (v := (1 : Int32)) dX12_open0_5 (by decide) ?_
  refine gk_callV (As := [gk_R 14 0, gk_R 18 0, gk_I (1 : Int32)]) (st := []) 1 (cr_X12_127 (by decide) rfl) (fun K' h' => ok_X12_carryAll 0 (1 : Int32) M K' h') rfl (by decide) (by decide) (fun _ => Nat.le_of_ble_eq_true rfl) dX12_open0_6 h (fun _ M1 h => ?_)
  exact gk_vret dX12_open0_9 rfl h
set_option maxRecDepth 100000 in
set_option maxHeartbeats 4000000 in
theorem ok_X12_close  (M : gk_M) (K : gk_V → gk_M → Prop) (h : gk_Sat gk_U (f_X12_close  M) K) : gk_MS 2 yX12_close cX12_close 1 none [gk_R 14 0] M K := by

  refine gk_MS_of [some (gk_R 14 0)] (by decide +kernel) (Nat.le_of_ble_eq_true rfl) (And.intro rfl True.intro) ?_
  show gk_G RX12 cX12_close 1 2 none none K 0 [some (gk_R 14 0)] [] M
  refine gk_aload_n dX12_close_0 rfl rfl ?_
  refine gk_aload_n dX12_close_1 rfl rfl ?_
  refine gk_get (v := gk_R 18 0) fr_X12_44 pf_14_17 (by decide) dX12_close_2 ?_
  refine gk_iconst (v := (0 : Int32)) dX12_close_5 (by decide) ?_
  refine gk_callV (As := [gk_R 14 0, gk_R 18 0, gk_I (0 : Int32)]) (st := []) 1 (cr_X12_127 (by decide) rfl) (fun K' h' => ok_X12_carryAll 0 (0 : Int32) M K' h') rfl (by decide) (by decide) (fun _ => Nat.le_of_ble_eq_true rfl) dX12_close_6 h (fun _ M1 h => ?_)
  exact gk_vret dX12_close_9 rfl h
set_option maxRecDepth 100000 in
set_option maxHeartbeats 4000000 in
theorem ok_X12_image  (M : gk_M) (K : gk_V → gk_M → Prop) (h : gk_Sat gk_I (f_X12_image  M) K) : gk_MS 2 yX12_image cX12_image 1 (some .int) [gk_R 14 0] M K := by

  refine gk_MS_of [some (gk_R 14 0)] (by decide +kernel) (Nat.le_of_ble_eq_true rfl) (And.intro rfl True.intro) ?_
  show gk_G RX12 cX12_image 1 2 (some .int) none K 0 [some (gk_R 14 0)] [] M
  refine gk_aload_n dX12_image_0 rfl rfl ?_
  refine gk_iconst (v := (0 : Int32)) dX12_image_1 (by decide) ?_
  refine gk_putI fr_X12_65 si_14_13 (by decide) dX12_image_2 h (fun M1 h => ?_)
  refine gk_aload_n dX12_image_5 rfl rfl ?_
  refine gk_iconst (v := (1 : Int32)) dX12_image_6 (by decide) ?_
  refine gk_putZ fr_X12_131 si_14_19 (by decide) dX12_image_7 h (fun M2 h => ?_)
  refine gk_aload_n dX12_image_10 rfl rfl ?_
  refine gk_aload_n dX12_image_11 rfl rfl ?_
  refine gk_get (v := gk_R 18 1) fr_X12_47 pf_14_18 (by decide) dX12_image_12 ?_
  refine gk_iconst (v := (1 : Int32)) dX12_image_15 (by decide) ?_
  refine gk_callV (As := [gk_R 14 0, gk_R 18 1, gk_I (1 : Int32)]) (st := []) 1 (cr_X12_127 (by decide) rfl) (fun K' h' => ok_X12_carryAll 1 (1 : Int32) M2 K' h') rfl (by decide) (by decide) (fun _ => Nat.le_of_ble_eq_true rfl) dX12_image_16 h (fun _ M3 h => ?_)
  refine gk_aload_n dX12_image_19 rfl rfl ?_
  refine gk_getI fr_X12_79 si_14_3 (by decide) dX12_image_20 ?_
  exact gk_iret dX12_image_23 rfl h
set_option maxRecDepth 100000 in
set_option maxHeartbeats 4000000 in
theorem ok_X12_restore  (M : gk_M) (K : gk_V → gk_M → Prop) (h : gk_Sat gk_I (f_X12_restore  M) K) : gk_MS 2 yX12_restore cX12_restore 1 (some .int) [gk_R 14 0] M K := by

  refine gk_MS_of [some (gk_R 14 0)] (by decide +kernel) (Nat.le_of_ble_eq_true rfl) (And.intro rfl True.intro) ?_
  show gk_G RX12 cX12_restore 1 2 (some .int) none K 0 [some (gk_R 14 0)] [] M
  refine gk_aload_n dX12_restore_0 rfl rfl ?_
  refine gk_iconst (v := (0 : Int32)) dX12_restore_1 (by decide) ?_
  refine gk_putI fr_X12_65 si_14_13 (by decide) dX12_restore_2 h (fun M1 h => ?_)
  refine gk_aload_n dX12_restore_5 rfl rfl ?_
  refine gk_getI fr_X12_131 si_14_19 (by decide) dX12_restore_6 ?_
  refine gk_if_ne (tgt := 19) dX12_restore_9 (by decide) h (fun h => ?_) (fun h => ?_)
  · refine gk_aload_n dX12_restore_19 rfl rfl ?_
    refine gk_aload_n dX12_restore_20 rfl rfl ?_
    refine gk_get (v := gk_R 18 1) fr_X12_47 pf_14_18 (by decide) dX12_restore_21 ?_
    refine gk_iconst (v := (0 : Int32)) dX12_restore_24 (by decide) ?_
    refine gk_callV (As := [gk_R 14 0, gk_R 18 1, gk_I (0 : Int32)]) (st := []) 1 (cr_X12_127 (by decide) rfl) (fun K' h' => ok_X12_carryAll 1 (0 : Int32) M1 K' h') rfl (by decide) (by decide) (fun _ => Nat.le_of_ble_eq_true rfl) dX12_restore_25 h (fun _ M2 h => ?_)
    refine gk_aload_n dX12_restore_28 rfl rfl ?_
    refine gk_getI fr_X12_79 si_14_3 (by decide) dX12_restore_29 ?_
    exact gk_iret dX12_restore_32 rfl h
  · refine gk_aload_n dX12_restore_12 rfl rfl ?_
    refine gk_bipush (v := (-3 : Int32)) dX12_restore_13 (by decide) ?_
    refine gk_callI (As := [gk_R 14 0, gk_I (-3 : Int32)]) (st := []) 0 (cr_X12_134 (by decide) rfl) (fun K' h' => ok_X12_refuse (-3 : Int32) M1 K' h') rfl (by decide) (by decide) (fun _ => Nat.le_of_ble_eq_true rfl) dX12_restore_15 h (fun r5 M4 h => ?_)
    exact gk_iret dX12_restore_18 rfl h
set_option maxRecDepth 100000 in
set_option maxHeartbeats 4000000 in
theorem ok_X12_feed_j32 {K : gk_V → gk_M → Prop}  (M : gk_M) (h : gk_Sat gk_I (X12_feed_j32  M) K) : gk_G RX12 cX12_feed 2 1 (some .int) none K 32 [some (gk_R 14 0), none] [] M := by
  refine gk_aload_n dX12_feed_32 rfl rfl ?_
  refine gk_bipush (v := (-6 : Int32)) dX12_feed_33 (by decide) ?_
  refine gk_callI (As := [gk_R 14 0, gk_I (-6 : Int32)]) (st := []) 0 (cr_X12_134 (by decide) rfl) (fun K' h' => ok_X12_refuse (-6 : Int32) M K' h') rfl (by decide) (by decide) (fun _ => Nat.le_of_ble_eq_true rfl) dX12_feed_35 h (fun r3 M2 h => ?_)
  exact gk_iret dX12_feed_38 rfl h
set_option maxRecDepth 100000 in
set_option maxHeartbeats 4000000 in
theorem ok_X12_feed (a1 : Int32) (M : gk_M) (K : gk_V → gk_M → Prop) (h : gk_Sat gk_I (f_X12_feed a1 M) K) : gk_MS 1 yX12_feed cX12_feed 2 (some .int) [gk_R 14 0, gk_I a1] M K := by

  refine gk_MS_of [some (gk_R 14 0), some (gk_I a1)] (by decide +kernel) (Nat.le_of_ble_eq_true rfl) (And.intro rfl (And.intro rfl True.intro)) ?_
  show gk_G RX12 cX12_feed 2 1 (some .int) none K 0 [some (gk_R 14 0), some (gk_I a1)] [] M
  refine gk_aload_n dX12_feed_0 rfl rfl ?_
  refine gk_iconst (v := (0 : Int32)) dX12_feed_1 (by decide) ?_
  refine gk_putI fr_X12_65 si_14_13 (by decide) dX12_feed_2 h (fun M1 h => ?_)
  refine gk_iload_n dX12_feed_5 rfl rfl ?_
  refine gk_if_ge (tgt := 16) dX12_feed_6 (by decide) h (fun h => ?_) (fun h => ?_)
  · refine gk_iload_n dX12_feed_16 rfl rfl ?_
    refine gk_sipush (v := (255 : Int32)) dX12_feed_17 (by decide) ?_
    refine gk_icmp_gt (tgt := 32) dX12_feed_20 (by decide) h (fun h => ?_) (fun h => ?_)
    · exact gk_weak [some (gk_R 14 0), none] (And.intro rfl True.intro) (ok_X12_feed_j32 M1 h)
    · refine gk_aload_n dX12_feed_23 rfl rfl ?_
      refine gk_getI fr_X12_137 si_14_24 (by decide) dX12_feed_24 ?_
      refine gk_bipush (v := (80 : Int32)) dX12_feed_27 (by decide) ?_
      refine gk_icmp_ne (tgt := 39) dX12_feed_29 (by decide) h (fun h => ?_) (fun h => ?_)
      · refine gk_aload_n dX12_feed_39 rfl rfl ?_
        refine gk_get (v := gk_R 19 0) fr_X12_50 pf_14_23 (by decide) dX12_feed_40 ?_
        refine gk_aload_n dX12_feed_43 rfl rfl ?_
        refine gk_getI fr_X12_137 si_14_24 (by decide) dX12_feed_44 ?_
        refine gk_iload_n dX12_feed_47 rfl rfl ?_
        refine gk_iast ga_19 (by decide) dX12_feed_48 h (fun M4 h => ?_)
        refine gk_aload_n dX12_feed_49 rfl rfl ?_
        refine gk_dup dX12_feed_50 rfl ?_
        refine gk_getI fr_X12_137 si_14_24 (by decide) dX12_feed_51 ?_
        refine gk_iconst (v := (1 : Int32)) dX12_feed_54 (by decide) ?_
        refine gk_iadd dX12_feed_55 ?_
        refine gk_putI fr_X12_137 si_14_24 (by decide) dX12_feed_56 h (fun M5 h => ?_)
        refine gk_aload_n dX12_feed_59 rfl rfl ?_
        refine gk_getI fr_X12_137 si_14_24 (by decide) dX12_feed_60 ?_
        exact gk_iret dX12_feed_63 rfl h
      · exact gk_weak [some (gk_R 14 0), none] (And.intro rfl True.intro) (ok_X12_feed_j32 M1 h)
  · refine gk_aload_n dX12_feed_9 rfl rfl ?_
    refine gk_bipush (v := (-4 : Int32)) dX12_feed_10 (by decide) ?_
    refine gk_callI (As := [gk_R 14 0, gk_I (-4 : Int32)]) (st := []) 0 (cr_X12_134 (by decide) rfl) (fun K' h' => ok_X12_refuse (-4 : Int32) M1 K' h') rfl (by decide) (by decide) (fun _ => Nat.le_of_ble_eq_true rfl) dX12_feed_12 h (fun r7 M6 h => ?_)
    exact gk_iret dX12_feed_15 rfl h
set_option maxRecDepth 100000 in
set_option maxHeartbeats 4000000 in
theorem ok_X12_here  (M : gk_M) (K : gk_V → gk_M → Prop) (h : gk_Sat gk_I (f_X12_here  M) K) : gk_MS 0 yX12_here cX12_here 1 (some .int) [gk_R 14 0] M K := by

  refine gk_MS_of [some (gk_R 14 0)] (by decide +kernel) (Nat.le_of_ble_eq_true rfl) (And.intro rfl True.intro) ?_
  show gk_G RX12 cX12_here 1 0 (some .int) none K 0 [some (gk_R 14 0)] [] M
  refine gk_aload_n dX12_here_0 rfl rfl ?_
  refine gk_getI fr_X12_140 si_14_25 (by decide) dX12_here_1 ?_
  refine gk_aload_n dX12_here_4 rfl rfl ?_
  refine gk_getI fr_X12_137 si_14_24 (by decide) dX12_here_5 ?_
  refine gk_icmp_ge (tgt := 23) dX12_here_8 (by decide) h (fun h => ?_) (fun h => ?_)
  · refine gk_iconst (v := (-1 : Int32)) dX12_here_23 (by decide) ?_
    exact gk_iret dX12_here_24 rfl h
  · refine gk_aload_n dX12_here_11 rfl rfl ?_
    refine gk_get (v := gk_R 19 0) fr_X12_50 pf_14_23 (by decide) dX12_here_12 ?_
    refine gk_aload_n dX12_here_15 rfl rfl ?_
    refine gk_getI fr_X12_140 si_14_25 (by decide) dX12_here_16 ?_
    refine gk_iald ga_19 (by decide) dX12_here_19 h (fun h hb1 => ?_)
    refine gk_goto (tgt := 24) dX12_here_20 (by decide) ?_
    exact gk_iret dX12_here_24 rfl h
set_option maxRecDepth 100000 in
set_option maxHeartbeats 4000000 in
theorem ok_X12_readDigit_j30 {K : gk_V → gk_M → Prop} (s0 : Int32) (M : gk_M) (h : gk_Sat gk_I (X12_readDigit_j30 s0 M) K) : gk_G RX12 cX12_readDigit 1 1 (some .int) none K 30 [some (gk_R 14 0)] [gk_I s0, gk_R 14 0] M := by
  refine gk_putZ fr_X12_143 si_14_26 (by decide) dX12_readDigit_30 h (fun M1 h => ?_)
  refine gk_aload_n dX12_readDigit_33 rfl rfl ?_
  refine gk_getI fr_X12_143 si_14_26 (by decide) dX12_readDigit_34 ?_
  refine gk_if_eq (tgt := 42) dX12_readDigit_37 (by decide) h (fun h => ?_) (fun h => ?_)
  · refine gk_aload_n dX12_readDigit_42 rfl rfl ?_
    refine gk_dup dX12_readDigit_43 rfl ?_
    refine gk_getI fr_X12_140 si_14_25 (by decide) dX12_readDigit_44 ?_
    refine gk_iconst (v := (1 : Int32)) dX12_readDigit_47 (by decide) ?_
    refine gk_iadd dX12_readDigit_48 ?_
    refine gk_putI fr_X12_140 si_14_25 (by decide) dX12_readDigit_49 h (fun M2 h => ?_)
    refine gk_aload_n dX12_readDigit_52 rfl rfl ?_
    refine gk_get (v := gk_R 19 0) fr_X12_50 pf_14_23 (by decide) dX12_readDigit_53 ?_
    refine gk_aload_n dX12_readDigit_56 rfl rfl ?_
    refine gk_getI fr_X12_140 si_14_25 (by decide) dX12_readDigit_57 ?_
    refine gk_iconst (v := (1 : Int32)) dX12_readDigit_60 (by decide) ?_
    refine gk_isub dX12_readDigit_61 ?_
    refine gk_iald ga_19 (by decide) dX12_readDigit_62 h (fun h hb3 => ?_)
    refine gk_bipush (v := (48 : Int32)) dX12_readDigit_63 (by decide) ?_
    refine gk_isub dX12_readDigit_65 ?_
    exact gk_iret dX12_readDigit_66 rfl h
  · refine gk_iconst (v := (0 : Int32)) dX12_readDigit_40 (by decide) ?_
    exact gk_iret dX12_readDigit_41 rfl h
set_option maxRecDepth 100000 in
set_option maxHeartbeats 4000000 in
theorem ok_X12_readDigit_j25 {K : gk_V → gk_M → Prop}  (M : gk_M) (h : gk_Sat gk_I (X12_readDigit_j25  M) K) : gk_G RX12 cX12_readDigit 1 1 (some .int) none K 25 [some (gk_R 14 0)] [gk_R 14 0] M := by
  refine gk_iconst (v := (1 : Int32)) dX12_readDigit_25 (by decide) ?_
  refine gk_goto (tgt := 30) dX12_readDigit_26 (by decide) ?_
  exact gk_weak [some (gk_R 14 0)] (And.intro rfl True.intro) (ok_X12_readDigit_j30 ((1 : Int32)) M h)
set_option maxRecDepth 100000 in
set_option maxHeartbeats 4000000 in
theorem ok_X12_readDigit  (M : gk_M) (K : gk_V → gk_M → Prop) (h : gk_Sat gk_I (f_X12_readDigit  M) K) : gk_MS 1 yX12_readDigit cX12_readDigit 1 (some .int) [gk_R 14 0] M K := by

  refine gk_MS_of [some (gk_R 14 0)] (by decide +kernel) (Nat.le_of_ble_eq_true rfl) (And.intro rfl True.intro) ?_
  show gk_G RX12 cX12_readDigit 1 1 (some .int) none K 0 [some (gk_R 14 0)] [] M
  refine gk_aload_n dX12_readDigit_0 rfl rfl ?_
  refine gk_aload_n dX12_readDigit_1 rfl rfl ?_
  refine gk_getI fr_X12_143 si_14_26 (by decide) dX12_readDigit_2 ?_
  refine gk_if_ne (tgt := 25) dX12_readDigit_5 (by decide) h (fun h => ?_) (fun h => ?_)
  · exact gk_weak [some (gk_R 14 0)] (And.intro rfl True.intro) (ok_X12_readDigit_j25 M h)
  · refine gk_aload_n dX12_readDigit_8 rfl rfl ?_
    refine gk_callI (As := [gk_R 14 0]) (st := [gk_R 14 0]) 0 (cr_X12_146 (by decide) rfl) (fun K' h' => ok_X12_here M K' h') rfl (by decide) (by decide) (fun _ => Nat.le_of_ble_eq_true rfl) dX12_readDigit_9 h (fun r5 M4 h => ?_)
    refine gk_i2l dX12_readDigit_12 ?_
    refine gk_ldc2 dX12_readDigit_13 kc_X12_149 ?_
    refine gk_ldc2 dX12_readDigit_16 kc_X12_151 ?_
    refine gk_callI (As := [gk_L (Int32.toInt64 r5), gk_L (48 : Int64), gk_L (57 : Int64)]) (st := [gk_R 14 0]) 0 (cr_X12_71 rfl) (fun K' h' => ok_X12_in (Int32.toInt64 r5) (48 : Int64) (57 : Int64) M4 K' h') rfl (by decide) (by decide) (fun _ => Nat.le_of_ble_eq_true rfl) dX12_readDigit_19 h (fun r7 M6 h => ?_)
    refine gk_if_ne (tgt := 29) dX12_readDigit_22 (by decide) h (fun h => ?_) (fun h => ?_)
    · refine gk_iconst (v := (0 : Int32)) dX12_readDigit_29 (by decide) ?_
      exact gk_weak [some (gk_R 14 0)] (And.intro rfl True.intro) (ok_X12_readDigit_j30 ((0 : Int32)) M6 h)
    · exact gk_weak [some (gk_R 14 0)] (And.intro rfl True.intro) (ok_X12_readDigit_j25 M6 h)
set_option maxRecDepth 100000 in
set_option maxHeartbeats 4000000 in
theorem ok_X12_readNumber_j52 {K : gk_V → gk_M → Prop} (x2 : Int32) (M : gk_M) (h : gk_Sat gk_I (X12_readNumber_j52 x2 M) K) : gk_G RX12 cX12_readNumber 4 2 (some .int) none K 52 [none, none, some (gk_I x2), none] [] M := by
  refine gk_iload_n dX12_readNumber_52 rfl rfl ?_
  exact gk_iret dX12_readNumber_53 rfl h
set_option maxRecDepth 100000 in
set_option maxHeartbeats 4000000 in
theorem ok_X12_readNumber_l7 {K : gk_V → gk_M → Prop} : ∀ (n : Nat) (x1 : Int32) (x2 : Int32) (x3 : Int32) (M : gk_M), gk_Sat gk_I (X12_readNumber_l7 n x1 x2 x3 M) K → gk_G RX12 cX12_readNumber 4 2 (some .int) none K 7 [some (gk_R 14 0), some (gk_I x1), some (gk_I x2), some (gk_I x3)] [] M := by
  intro n
  induction n with
  | zero => intro x1 x2 x3 M h; exact h.no.elim
  | succ n ih =>
    intro x1 x2 x3 M h
    refine gk_iload_n dX12_readNumber_7 rfl rfl ?_
    refine gk_iload_n dX12_readNumber_8 rfl rfl ?_
    refine gk_icmp_ge (tgt := 52) dX12_readNumber_9 (by decide) h (fun h => ?_) (fun h => ?_)
    · exact gk_weak [none, none, some (gk_I x2), none] (And.intro rfl True.intro) (ok_X12_readNumber_j52 x2 M h)
    · refine gk_aload_n dX12_readNumber_12 rfl rfl ?_
      refine gk_getI fr_X12_143 si_14_26 (by decide) dX12_readNumber_13 ?_
      refine gk_if_ne (tgt := 52) dX12_readNumber_16 (by decide) h (fun h => ?_) (fun h => ?_)
      · exact gk_weak [none, none, some (gk_I x2), none] (And.intro rfl True.intro) (ok_X12_readNumber_j52 x2 M h)
      · refine gk_aload_n dX12_readNumber_19 rfl rfl ?_
        refine gk_callI (As := [gk_R 14 0]) (st := []) 0 (cr_X12_146 (by decide) rfl) (fun K' h' => ok_X12_here M K' h') rfl (by decide) (by decide) (fun _ => Nat.le_of_ble_eq_true rfl) dX12_readNumber_20 h (fun r4 M3 h => ?_)
        refine gk_i2l dX12_readNumber_23 ?_
        refine gk_ldc2 dX12_readNumber_24 kc_X12_149 ?_
        refine gk_ldc2 dX12_readNumber_27 kc_X12_151 ?_
        refine gk_callI (As := [gk_L (Int32.toInt64 r4), gk_L (48 : Int64), gk_L (57 : Int64)]) (st := []) 0 (cr_X12_71 rfl) (fun K' h' => ok_X12_in (Int32.toInt64 r4) (48 : Int64) (57 : Int64) M3 K' h') rfl (by decide) (by decide) (fun _ => Nat.le_of_ble_eq_true rfl) dX12_readNumber_30 h (fun r6 M5 h => ?_)
        refine gk_if_eq (tgt := 52) dX12_readNumber_33 (by decide) h (fun h => ?_) (fun h => ?_)
        · exact gk_weak [none, none, some (gk_I x2), none] (And.intro rfl True.intro) (ok_X12_readNumber_j52 x2 M5 h)
        · refine gk_bipush (v := (10 : Int32)) dX12_readNumber_36 (by decide) ?_
          refine gk_iload_n dX12_readNumber_38 rfl rfl ?_
          refine gk_imul dX12_readNumber_39 ?_
          refine gk_aload_n dX12_readNumber_40 rfl rfl ?_
          refine gk_callI (As := [gk_R 14 0]) (st := [gk_I ((10 : Int32) * x2)]) 1 (cr_X12_153 (by decide) rfl) (fun K' h' => ok_X12_readDigit M5 K' h') rfl (by decide) (by decide) (fun _ => Nat.le_of_ble_eq_true rfl) dX12_readNumber_41 h (fun r8 M7 h => ?_)
          refine gk_iadd dX12_readNumber_44 ?_
          refine gk_istore_n (L' := [some (gk_R 14 0), some (gk_I x1), some (gk_I (((10 : Int32) * x2) + r8)), some (gk_I x3)]) dX12_readNumber_45 rfl (by decide) rfl rfl ?_
          refine gk_iinc (v := (x3 + (1 : Int32))) (L' := [some (gk_R 14 0), some (gk_I x1), some (gk_I (((10 : Int32) * x2) + r8)), some (gk_I (x3 + (1 : Int32)))]) dX12_readNumber_46 rfl rfl (by decide) rfl rfl ?_
          refine gk_goto (tgt := 7) dX12_readNumber_49 (by decide) ?_
          exact gk_weak [some (gk_R 14 0), some (gk_I x1), some (gk_I (((10 : Int32) * x2) + r8)), some (gk_I (x3 + (1 : Int32)))] (And.intro rfl (And.intro rfl (And.intro rfl (And.intro rfl True.intro)))) (ih x1 ((((10 : Int32) * x2) + r8)) ((x3 + (1 : Int32))) M7 h)
set_option maxRecDepth 100000 in
set_option maxHeartbeats 4000000 in
theorem ok_X12_readNumber (a1 : Int32) (M : gk_M) (K : gk_V → gk_M → Prop) (h : gk_Sat gk_I (f_X12_readNumber a1 M) K) : gk_MS 2 yX12_readNumber cX12_readNumber 4 (some .int) [gk_R 14 0, gk_I a1] M K := by

  refine gk_MS_of [some (gk_R 14 0), some (gk_I a1), none, none] (by decide +kernel) (Nat.le_of_ble_eq_true rfl) (And.intro rfl (And.intro rfl True.intro)) ?_
  show gk_G RX12 cX12_readNumber 4 2 (some .int) none K 0 [some (gk_R 14 0), some (gk_I a1), none, none] [] M
  refine gk_aload_n dX12_readNumber_0 rfl rfl ?_
  refine gk_callI (As := [gk_R 14 0]) (st := []) 1 (cr_X12_153 (by decide) rfl) (fun K' h' => ok_X12_readDigit M K' h') rfl (by decide) (by decide) (fun _ => Nat.le_of_ble_eq_true rfl) dX12_readNumber_1 h (fun r2 M1 h => ?_)
  refine gk_istore_n (L' := [some (gk_R 14 0), some (gk_I a1), some (gk_I r2), none]) dX12_readNumber_4 rfl (by decide) rfl rfl ?_
  refine gk_iconst (v := (1 : Int32)) dX12_readNumber_5 (by decide) ?_
  refine gk_istore_n (L' := [some (gk_R 14 0), some (gk_I a1), some (gk_I r2), some (gk_I (1 : Int32))]) dX12_readNumber_6 rfl (by decide) rfl rfl ?_
  exact gk_weak [some (gk_R 14 0), some (gk_I a1), some (gk_I r2), some (gk_I (1 : Int32))] (And.intro rfl (And.intro rfl (And.intro rfl (And.intro rfl True.intro)))) (ok_X12_readNumber_l7 200 a1 r2 ((1 : Int32)) M1 h)
set_option maxRecDepth 100000 in
set_option maxHeartbeats 4000000 in
theorem ok_X12_readSigned_j36 {K : gk_V → gk_M → Prop} (x1 : Int32) (x2 : Int32) (s0 : Int32) (s1 : Int32) (M : gk_M) (h : gk_Sat gk_I (X12_readSigned_j36 x1 x2 s0 s1 M) K) : gk_G RX12 cX12_readSigned 4 3 (some .int) none K 36 [some (gk_R 14 0), some (gk_I x1), some (gk_I x2), none] [gk_I s0, gk_I s1, gk_R 14 0] M := by
  refine gk_iadd dX12_readSigned_36 ?_
  refine gk_putI fr_X12_140 si_14_25 (by decide) dX12_readSigned_37 h (fun M1 h => ?_)
  refine gk_aload_n dX12_readSigned_40 rfl rfl ?_
  refine gk_iload_n dX12_readSigned_41 rfl rfl ?_
  refine gk_callI (As := [gk_R 14 0, gk_I x1]) (st := []) 2 (cr_X12_156 (by decide) rfl) (fun K' h' => ok_X12_readNumber x1 M1 K' h') rfl (by decide) (by decide) (fun _ => Nat.le_of_ble_eq_true rfl) dX12_readSigned_42 h (fun r3 M2 h => ?_)
  refine gk_istore_n (L' := [some (gk_R 14 0), some (gk_I x1), some (gk_I x2), some (gk_I r3)]) dX12_readSigned_45 rfl (by decide) rfl rfl ?_
  refine gk_iload_n dX12_readSigned_46 rfl rfl ?_
  refine gk_if_eq (tgt := 55) dX12_readSigned_47 (by decide) h (fun h => ?_) (fun h => ?_)
  · refine gk_iload_n dX12_readSigned_55 rfl rfl ?_
    exact gk_iret dX12_readSigned_56 rfl h
  · refine gk_iload_n dX12_readSigned_50 rfl rfl ?_
    refine gk_ineg dX12_readSigned_51 ?_
    refine gk_goto (tgt := 56) dX12_readSigned_52 (by decide) ?_
    exact gk_iret dX12_readSigned_56 rfl h
set_option maxRecDepth 100000 in
set_option maxHeartbeats 4000000 in
theorem ok_X12_readSigned_j21 {K : gk_V → gk_M → Prop} (x1 : Int32) (s0 : Int32) (M : gk_M) (h : gk_Sat gk_I (X12_readSigned_j21 x1 s0 M) K) : gk_G RX12 cX12_readSigned 4 3 (some .int) none K 21 [some (gk_R 14 0), some (gk_I x1), none, none] [gk_I s0] M := by
  refine gk_istore_n (L' := [some (gk_R 14 0), some (gk_I x1), some (gk_I s0), none]) dX12_readSigned_21 rfl (by decide) rfl rfl ?_
  refine gk_aload_n dX12_readSigned_22 rfl rfl ?_
  refine gk_dup dX12_readSigned_23 rfl ?_
  refine gk_getI fr_X12_140 si_14_25 (by decide) dX12_readSigned_24 ?_
  refine gk_iload_n dX12_readSigned_27 rfl rfl ?_
  refine gk_if_eq (tgt := 35) dX12_readSigned_28 (by decide) h (fun h => ?_) (fun h => ?_)
  · refine gk_iconst (v := (0 : Int32)) dX12_readSigned_35 (by decide) ?_
    exact gk_weak [some (gk_R 14 0), some (gk_I x1), some (gk_I s0), none] (And.intro rfl (And.intro rfl (And.intro rfl True.intro))) (ok_X12_readSigned_j36 x1 s0 ((0 : Int32)) ((M 14 0 25)) M h)
  · refine gk_iconst (v := (1 : Int32)) dX12_readSigned_31 (by decide) ?_
    refine gk_goto (tgt := 36) dX12_readSigned_32 (by decide) ?_
    exact gk_weak [some (gk_R 14 0), some (gk_I x1), some (gk_I s0), none] (And.intro rfl (And.intro rfl (And.intro rfl True.intro))) (ok_X12_readSigned_j36 x1 s0 ((1 : Int32)) ((M 14 0 25)) M h)
set_option maxRecDepth 100000 in
set_option maxHeartbeats 4000000 in
theorem ok_X12_readSigned_j20 {K : gk_V → gk_M → Prop} (x1 : Int32) (M : gk_M) (h : gk_Sat gk_I (X12_readSigned_j20 x1 M) K) : gk_G RX12 cX12_readSigned 4 3 (some .int) none K 20 [some (gk_R 14 0), some (gk_I x1), none, none] [] M := by
  refine gk_iconst (v := (0 : Int32)) dX12_readSigned_20 (by decide) ?_
  exact gk_weak [some (gk_R 14 0), some (gk_I x1), none, none] (And.intro rfl (And.intro rfl True.intro)) (ok_X12_readSigned_j21 x1 ((0 : Int32)) M h)
set_option maxRecDepth 100000 in
set_option maxHeartbeats 4000000 in
theorem ok_X12_readSigned (a1 : Int32) (M : gk_M) (K : gk_V → gk_M → Prop) (h : gk_Sat gk_I (f_X12_readSigned a1 M) K) : gk_MS 3 yX12_readSigned cX12_readSigned 4 (some .int) [gk_R 14 0, gk_I a1] M K := by

  refine gk_MS_of [some (gk_R 14 0), some (gk_I a1), none, none] (by decide +kernel) (Nat.le_of_ble_eq_true rfl) (And.intro rfl (And.intro rfl True.intro)) ?_
  show gk_G RX12 cX12_readSigned 4 3 (some .int) none K 0 [some (gk_R 14 0), some (gk_I a1), none, none] [] M
  refine gk_aload_n dX12_readSigned_0 rfl rfl ?_
  refine gk_getI fr_X12_143 si_14_26 (by decide) dX12_readSigned_1 ?_
  refine gk_if_ne (tgt := 20) dX12_readSigned_4 (by decide) h (fun h => ?_) (fun h => ?_)
  · exact gk_weak [some (gk_R 14 0), some (gk_I a1), none, none] (And.intro rfl (And.intro rfl True.intro)) (ok_X12_readSigned_j20 a1 M h)
  · refine gk_aload_n dX12_readSigned_7 rfl rfl ?_
    refine gk_callI (As := [gk_R 14 0]) (st := []) 0 (cr_X12_146 (by decide) rfl) (fun K' h' => ok_X12_here M K' h') rfl (by decide) (by decide) (fun _ => Nat.le_of_ble_eq_true rfl) dX12_readSigned_8 h (fun r5 M4 h => ?_)
    refine gk_bipush (v := (45 : Int32)) dX12_readSigned_11 (by decide) ?_
    refine gk_icmp_ne (tgt := 20) dX12_readSigned_13 (by decide) h (fun h => ?_) (fun h => ?_)
    · exact gk_weak [some (gk_R 14 0), some (gk_I a1), none, none] (And.intro rfl (And.intro rfl True.intro)) (ok_X12_readSigned_j20 a1 M4 h)
    · refine gk_iconst (v := (1 : Int32)) dX12_readSigned_16 (by decide) ?_
      refine gk_goto (tgt := 21) dX12_readSigned_17 (by decide) ?_
      exact gk_weak [some (gk_R 14 0), some (gk_I a1), none, none] (And.intro rfl (And.intro rfl True.intro)) (ok_X12_readSigned_j21 a1 ((1 : Int32)) M4 h)
set_option maxRecDepth 100000 in
set_option maxHeartbeats 4000000 in
theorem ok_X12_readComma_j42 {K : gk_V → gk_M → Prop} (s0 : Int32) (s1 : Int32) (M : gk_M) (h : gk_Sat gk_U (X12_readComma_j42 s0 s1 M) K) : gk_G RX12 cX12_readComma 1 1 none none K 42 [none] [gk_I s0, gk_I s1, gk_R 14 0] M := by
  refine gk_iadd dX12_readComma_42 ?_
  refine gk_putI fr_X12_140 si_14_25 (by decide) dX12_readComma_43 h (fun M2 h => ?_)
  exact gk_vret dX12_readComma_46 rfl h
set_option maxRecDepth 100000 in
set_option maxHeartbeats 4000000 in
theorem ok_X12_readComma_j22 {K : gk_V → gk_M → Prop} (s0 : Int32) (M : gk_M) (h : gk_Sat gk_U (X12_readComma_j22 s0 M) K) : gk_G RX12 cX12_readComma 1 1 none none K 22 [some (gk_R 14 0)] [gk_I s0, gk_R 14 0] M := by
  refine gk_putZ fr_X12_143 si_14_26 (by decide) dX12_readComma_22 h (fun M1 h => ?_)
  refine gk_aload_n dX12_readComma_25 rfl rfl ?_
  refine gk_dup dX12_readComma_26 rfl ?_
  refine gk_getI fr_X12_140 si_14_25 (by decide) dX12_readComma_27 ?_
  refine gk_aload_n dX12_readComma_30 rfl rfl ?_
  refine gk_getI fr_X12_143 si_14_26 (by decide) dX12_readComma_31 ?_
  refine gk_if_eq (tgt := 41) dX12_readComma_34 (by decide) h (fun h => ?_) (fun h => ?_)
  · refine gk_iconst (v := (1 : Int32)) dX12_readComma_41 (by decide) ?_
    exact gk_weak [none] True.intro (ok_X12_readComma_j42 ((1 : Int32)) ((M1 14 0 25)) M1 h)
  · refine gk_iconst (v := (0 : Int32)) dX12_readComma_37 (by decide) ?_
    refine gk_goto (tgt := 42) dX12_readComma_38 (by decide) ?_
    exact gk_weak [none] True.intro (ok_X12_readComma_j42 ((0 : Int32)) ((M1 14 0 25)) M1 h)
set_option maxRecDepth 100000 in
set_option maxHeartbeats 4000000 in
theorem ok_X12_readComma_j17 {K : gk_V → gk_M → Prop}  (M : gk_M) (h : gk_Sat gk_U (X12_readComma_j17  M) K) : gk_G RX12 cX12_readComma 1 1 none none K 17 [some (gk_R 14 0)] [gk_R 14 0] M := by
  refine gk_iconst (v := (1 : Int32)) dX12_readComma_17 (by decide) ?_
  refine gk_goto (tgt := 22) dX12_readComma_18 (by decide) ?_
  exact gk_weak [some (gk_R 14 0)] (And.intro rfl True.intro) (ok_X12_readComma_j22 ((1 : Int32)) M h)
set_option maxRecDepth 100000 in
set_option maxHeartbeats 4000000 in
theorem ok_X12_readComma  (M : gk_M) (K : gk_V → gk_M → Prop) (h : gk_Sat gk_U (f_X12_readComma  M) K) : gk_MS 1 yX12_readComma cX12_readComma 1 none [gk_R 14 0] M K := by

  refine gk_MS_of [some (gk_R 14 0)] (by decide +kernel) (Nat.le_of_ble_eq_true rfl) (And.intro rfl True.intro) ?_
  show gk_G RX12 cX12_readComma 1 1 none none K 0 [some (gk_R 14 0)] [] M
  refine gk_aload_n dX12_readComma_0 rfl rfl ?_
  refine gk_aload_n dX12_readComma_1 rfl rfl ?_
  refine gk_getI fr_X12_143 si_14_26 (by decide) dX12_readComma_2 ?_
  refine gk_if_ne (tgt := 17) dX12_readComma_5 (by decide) h (fun h => ?_) (fun h => ?_)
  · exact gk_weak [some (gk_R 14 0)] (And.intro rfl True.intro) (ok_X12_readComma_j17 M h)
  · refine gk_aload_n dX12_readComma_8 rfl rfl ?_
    refine gk_callI (As := [gk_R 14 0]) (st := [gk_R 14 0]) 0 (cr_X12_146 (by decide) rfl) (fun K' h' => ok_X12_here M K' h') rfl (by decide) (by decide) (fun _ => Nat.le_of_ble_eq_true rfl) dX12_readComma_9 h (fun r4 M3 h => ?_)
    refine gk_bipush (v := (44 : Int32)) dX12_readComma_12 (by decide) ?_
    refine gk_icmp_eq (tgt := 21) dX12_readComma_14 (by decide) h (fun h => ?_) (fun h => ?_)
    · refine gk_iconst (v := (0 : Int32)) dX12_readComma_21 (by decide) ?_
      exact gk_weak [some (gk_R 14 0)] (And.intro rfl True.intro) (ok_X12_readComma_j22 ((0 : Int32)) M3 h)
    · exact gk_weak [some (gk_R 14 0)] (And.intro rfl True.intro) (ok_X12_readComma_j17 M3 h)
set_option maxRecDepth 100000 in
set_option maxHeartbeats 4000000 in
theorem ok_X12_readStatement_j281 {K : gk_V → gk_M → Prop} (s0 : Int32) (s1 : Int32) (M : gk_M) (h : gk_Sat gk_U (X12_readStatement_j281 s0 s1 M) K) : gk_G RX12 cX12_readStatement 4 4 none none K 281 [some (gk_R 14 0), none, none, none] [gk_I s0, gk_I s1, gk_R 14 0] M := by
  refine gk_iadd dX12_readStatement_281 ?_
  refine gk_putI fr_X12_140 si_14_25 (by decide) dX12_readStatement_282 h (fun M11 h => ?_)
  refine gk_aload_n dX12_readStatement_285 rfl rfl ?_
  refine gk_dup dX12_readStatement_286 rfl ?_
  refine gk_getI fr_X12_159 si_14_27 (by decide) dX12_readStatement_287 ?_
  refine gk_iconst (v := (1 : Int32)) dX12_readStatement_290 (by decide) ?_
  refine gk_iadd dX12_readStatement_291 ?_
  refine gk_putI fr_X12_159 si_14_27 (by decide) dX12_readStatement_292 h (fun M12 h => ?_)
  exact gk_vret dX12_readStatement_295 rfl h
set_option maxRecDepth 100000 in
set_option maxHeartbeats 4000000 in
theorem ok_X12_readStatement_j261 {K : gk_V → gk_M → Prop} (s0 : Int32) (M : gk_M) (h : gk_Sat gk_U (X12_readStatement_j261 s0 M) K) : gk_G RX12 cX12_readStatement 4 4 none none K 261 [some (gk_R 14 0), none, none, none] [gk_I s0, gk_R 14 0] M := by
  refine gk_putZ fr_X12_143 si_14_26 (by decide) dX12_readStatement_261 h (fun M10 h => ?_)
  refine gk_aload_n dX12_readStatement_264 rfl rfl ?_
  refine gk_dup dX12_readStatement_265 rfl ?_
  refine gk_getI fr_X12_140 si_14_25 (by decide) dX12_readStatement_266 ?_
  refine gk_aload_n dX12_readStatement_269 rfl rfl ?_
  refine gk_getI fr_X12_143 si_14_26 (by decide) dX12_readStatement_270 ?_
  refine gk_if_eq (tgt := 280) dX12_readStatement_273 (by decide) h (fun h => ?_) (fun h => ?_)
  · refine gk_iconst (v := (1 : Int32)) dX12_readStatement_280 (by decide) ?_
    exact gk_weak [some (gk_R 14 0), none, none, none] (And.intro rfl True.intro) (ok_X12_readStatement_j281 ((1 : Int32)) ((M10 14 0 25)) M10 h)
  · refine gk_iconst (v := (0 : Int32)) dX12_readStatement_276 (by decide) ?_
    refine gk_goto (tgt := 281) dX12_readStatement_277 (by decide) ?_
    exact gk_weak [some (gk_R 14 0), none, none, none] (And.intro rfl True.intro) (ok_X12_readStatement_j281 ((0 : Int32)) ((M10 14 0 25)) M10 h)
set_option maxRecDepth 100000 in
set_option maxHeartbeats 4000000 in
theorem ok_X12_readStatement_j256 {K : gk_V → gk_M → Prop}  (M : gk_M) (h : gk_Sat gk_U (X12_readStatement_j256  M) K) : gk_G RX12 cX12_readStatement 4 4 none none K 256 [some (gk_R 14 0), none, none, none] [gk_R 14 0] M := by
  refine gk_iconst (v := (1 : Int32)) dX12_readStatement_256 (by decide) ?_
  refine gk_goto (tgt := 261) dX12_readStatement_257 (by decide) ?_
  exact gk_weak [some (gk_R 14 0), none, none, none] (And.intro rfl True.intro) (ok_X12_readStatement_j261 ((1 : Int32)) M h)
set_option maxRecDepth 100000 in
set_option maxHeartbeats 4000000 in
theorem ok_X12_readStatement_j239 {K : gk_V → gk_M → Prop}  (M : gk_M) (h : gk_Sat gk_U (X12_readStatement_j239  M) K) : gk_G RX12 cX12_readStatement 4 4 none none K 239 [some (gk_R 14 0), none, none, none] [] M := by
  refine gk_aload_n dX12_readStatement_239 rfl rfl ?_
  refine gk_aload_n dX12_readStatement_240 rfl rfl ?_
  refine gk_getI fr_X12_143 si_14_26 (by decide) dX12_readStatement_241 ?_
  refine gk_if_ne (tgt := 256) dX12_readStatement_244 (by decide) h (fun h => ?_) (fun h => ?_)
  · exact gk_weak [some (gk_R 14 0), none, none, none] (And.intro rfl True.intro) (ok_X12_readStatement_j256 M h)
  · refine gk_aload_n dX12_readStatement_247 rfl rfl ?_
    refine gk_callI (As := [gk_R 14 0]) (st := [gk_R 14 0]) 0 (cr_X12_146 (by decide) rfl) (fun K' h' => ok_X12_here M K' h') rfl (by decide) (by decide) (fun _ => Nat.le_of_ble_eq_true rfl) dX12_readStatement_248 h (fun r14 M13 h => ?_)
    refine gk_bipush (v := (59 : Int32)) dX12_readStatement_251 (by decide) ?_
    refine gk_icmp_eq (tgt := 260) dX12_readStatement_253 (by decide) h (fun h => ?_) (fun h => ?_)
    · refine gk_iconst (v := (0 : Int32)) dX12_readStatement_260 (by decide) ?_
      exact gk_weak [some (gk_R 14 0), none, none, none] (And.intro rfl True.intro) (ok_X12_readStatement_j261 ((0 : Int32)) M13 h)
    · exact gk_weak [some (gk_R 14 0), none, none, none] (And.intro rfl True.intro) (ok_X12_readStatement_j256 M13 h)
set_option maxRecDepth 100000 in
set_option maxHeartbeats 4000000 in
theorem ok_X12_readStatement_j84 {K : gk_V → gk_M → Prop} (x1 : Int32) (x2 : Int32) (s0 : Int32) (s1 : Int32) (M : gk_M) (h : gk_Sat gk_U (X12_readStatement_j84 x1 x2 s0 s1 M) K) : gk_G RX12 cX12_readStatement 4 4 none none K 84 [some (gk_R 14 0), some (gk_I x1), some (gk_I x2), none] [gk_I s0, gk_I s1, gk_R 14 0] M := by
  refine gk_iadd dX12_readStatement_84 ?_
  refine gk_putI fr_X12_140 si_14_25 (by decide) dX12_readStatement_85 h (fun M6 h => ?_)
  refine gk_bipush (v := (6 : Int32)) dX12_readStatement_88 (by decide) ?_
  refine gk_iload_n dX12_readStatement_90 rfl rfl ?_
  refine gk_imul dX12_readStatement_91 ?_
  refine gk_istore_n (L' := [some (gk_R 14 0), some (gk_I x1), some (gk_I x2), some (gk_I ((6 : Int32) * x1))]) dX12_readStatement_92 rfl (by decide) rfl rfl ?_
  refine gk_iload_n dX12_readStatement_93 rfl rfl ?_
  refine gk_bipush (v := (115 : Int32)) dX12_readStatement_94 (by decide) ?_
  refine gk_icmp_ne (tgt := 183) dX12_readStatement_96 (by decide) h (fun h => ?_) (fun h => ?_)
  · refine gk_iload_n dX12_readStatement_183 rfl rfl ?_
    refine gk_bipush (v := (119 : Int32)) dX12_readStatement_184 (by decide) ?_
    refine gk_icmp_ne (tgt := 228) dX12_readStatement_186 (by decide) h (fun h => ?_) (fun h => ?_)
    · refine gk_aload_n dX12_readStatement_228 rfl rfl ?_
      refine gk_get (v := gk_R 21 0) fr_X12_59 pf_14_30 (by decide) dX12_readStatement_229 ?_
      refine gk_iload_n dX12_readStatement_232 rfl rfl ?_
      refine gk_aload_n dX12_readStatement_233 rfl rfl ?_
      refine gk_iconst (v := (2 : Int32)) dX12_readStatement_234 (by decide) ?_
      refine gk_callI (As := [gk_R 14 0, gk_I (2 : Int32)]) (st := [gk_I ((6 : Int32) * x1), gk_R 21 0]) 2 (cr_X12_156 (by decide) rfl) (fun K' h' => ok_X12_readNumber (2 : Int32) M6 K' h') rfl (by decide) (by decide) (fun _ => Nat.le_of_ble_eq_true rfl) dX12_readStatement_235 h (fun r8 M7 h => ?_)
      refine gk_iast ga_21 (by decide) dX12_readStatement_238 h (fun M9 h => ?_)
      exact gk_weak [some (gk_R 14 0), none, none, none] (And.intro rfl True.intro) (ok_X12_readStatement_j239 M9 h)
    · refine gk_aload_n dX12_readStatement_189 rfl rfl ?_
      refine gk_get (v := gk_R 21 0) fr_X12_59 pf_14_30 (by decide) dX12_readStatement_190 ?_
      refine gk_iload_n dX12_readStatement_193 rfl rfl ?_
      refine gk_aload_n dX12_readStatement_194 rfl rfl ?_
      refine gk_callI (As := [gk_R 14 0]) (st := [gk_I ((6 : Int32) * x1), gk_R 21 0]) 1 (cr_X12_153 (by decide) rfl) (fun K' h' => ok_X12_readDigit M6 K' h') rfl (by decide) (by decide) (fun _ => Nat.le_of_ble_eq_true rfl) dX12_readStatement_195 h (fun r16 M15 h => ?_)
      refine gk_iast ga_21 (by decide) dX12_readStatement_198 h (fun M17 h => ?_)
      refine gk_aload_n dX12_readStatement_199 rfl rfl ?_
      refine gk_get (v := gk_R 21 0) fr_X12_59 pf_14_30 (by decide) dX12_readStatement_200 ?_
      refine gk_iload_n dX12_readStatement_203 rfl rfl ?_
      refine gk_iconst (v := (1 : Int32)) dX12_readStatement_204 (by decide) ?_
      refine gk_iadd dX12_readStatement_205 ?_
      refine gk_aload_n dX12_readStatement_206 rfl rfl ?_
      refine gk_iconst (v := (1 : Int32)) dX12_readStatement_207 (by decide) ?_
      refine gk_callI (As := [gk_R 14 0, gk_I (1 : Int32)]) (st := [gk_I (((6 : Int32) * x1) + (1 : Int32)), gk_R 21 0]) 3 (cr_X12_165 (by decide) rfl) (fun K' h' => ok_X12_readSigned (1 : Int32) M17 K' h') rfl (by decide) (by decide) (fun _ => Nat.le_of_ble_eq_true rfl) dX12_readStatement_208 h (fun r19 M18 h => ?_)
      refine gk_iast ga_21 (by decide) dX12_readStatement_211 h (fun M20 h => ?_)
      refine gk_aload_n dX12_readStatement_212 rfl rfl ?_
      refine gk_get (v := gk_R 21 0) fr_X12_59 pf_14_30 (by decide) dX12_readStatement_213 ?_
      refine gk_iload_n dX12_readStatement_216 rfl rfl ?_
      refine gk_iconst (v := (2 : Int32)) dX12_readStatement_217 (by decide) ?_
      refine gk_iadd dX12_readStatement_218 ?_
      refine gk_aload_n dX12_readStatement_219 rfl rfl ?_
      refine gk_iconst (v := (1 : Int32)) dX12_readStatement_220 (by decide) ?_
      refine gk_callI (As := [gk_R 14 0, gk_I (1 : Int32)]) (st := [gk_I (((6 : Int32) * x1) + (2 : Int32)), gk_R 21 0]) 3 (cr_X12_165 (by decide) rfl) (fun K' h' => ok_X12_readSigned (1 : Int32) M20 K' h') rfl (by decide) (by decide) (fun _ => Nat.le_of_ble_eq_true rfl) dX12_readStatement_221 h (fun r22 M21 h => ?_)
      refine gk_iast ga_21 (by decide) dX12_readStatement_224 h (fun M23 h => ?_)
      refine gk_goto (tgt := 239) dX12_readStatement_225 (by decide) ?_
      exact gk_weak [some (gk_R 14 0), none, none, none] (And.intro rfl True.intro) (ok_X12_readStatement_j239 M23 h)
  · refine gk_aload_n dX12_readStatement_99 rfl rfl ?_
    refine gk_get (v := gk_R 21 0) fr_X12_59 pf_14_30 (by decide) dX12_readStatement_100 ?_
    refine gk_iload_n dX12_readStatement_103 rfl rfl ?_
    refine gk_aload_n dX12_readStatement_104 rfl rfl ?_
    refine gk_callI (As := [gk_R 14 0]) (st := [gk_I ((6 : Int32) * x1), gk_R 21 0]) 1 (cr_X12_153 (by decide) rfl) (fun K' h' => ok_X12_readDigit M6 K' h') rfl (by decide) (by decide) (fun _ => Nat.le_of_ble_eq_true rfl) dX12_readStatement_105 h (fun r25 M24 h => ?_)
    refine gk_iast ga_21 (by decide) dX12_readStatement_108 h (fun M26 h => ?_)
    refine gk_aload_n dX12_readStatement_109 rfl rfl ?_
    refine gk_get (v := gk_R 21 0) fr_X12_59 pf_14_30 (by decide) dX12_readStatement_110 ?_
    refine gk_iload_n dX12_readStatement_113 rfl rfl ?_
    refine gk_iconst (v := (1 : Int32)) dX12_readStatement_114 (by decide) ?_
    refine gk_iadd dX12_readStatement_115 ?_
    refine gk_aload_n dX12_readStatement_116 rfl rfl ?_
    refine gk_callI (As := [gk_R 14 0]) (st := [gk_I (((6 : Int32) * x1) + (1 : Int32)), gk_R 21 0]) 1 (cr_X12_153 (by decide) rfl) (fun K' h' => ok_X12_readDigit M26 K' h') rfl (by decide) (by decide) (fun _ => Nat.le_of_ble_eq_true rfl) dX12_readStatement_117 h (fun r28 M27 h => ?_)
    refine gk_iast ga_21 (by decide) dX12_readStatement_120 h (fun M29 h => ?_)
    refine gk_aload_n dX12_readStatement_121 rfl rfl ?_
    refine gk_get (v := gk_R 21 0) fr_X12_59 pf_14_30 (by decide) dX12_readStatement_122 ?_
    refine gk_iload_n dX12_readStatement_125 rfl rfl ?_
    refine gk_iconst (v := (2 : Int32)) dX12_readStatement_126 (by decide) ?_
    refine gk_iadd dX12_readStatement_127 ?_
    refine gk_aload_n dX12_readStatement_128 rfl rfl ?_
    refine gk_callI (As := [gk_R 14 0]) (st := [gk_I (((6 : Int32) * x1) + (2 : Int32)), gk_R 21 0]) 1 (cr_X12_153 (by decide) rfl) (fun K' h' => ok_X12_readDigit M29 K' h') rfl (by decide) (by decide) (fun _ => Nat.le_of_ble_eq_true rfl) dX12_readStatement_129 h (fun r31 M30 h => ?_)
    refine gk_iast ga_21 (by decide) dX12_readStatement_132 h (fun M32 h => ?_)
    refine gk_aload_n dX12_readStatement_133 rfl rfl ?_
    refine gk_get (v := gk_R 21 0) fr_X12_59 pf_14_30 (by decide) dX12_readStatement_134 ?_
    refine gk_iload_n dX12_readStatement_137 rfl rfl ?_
    refine gk_iconst (v := (3 : Int32)) dX12_readStatement_138 (by decide) ?_
    refine gk_iadd dX12_readStatement_139 ?_
    refine gk_aload_n dX12_readStatement_140 rfl rfl ?_
    refine gk_iconst (v := (3 : Int32)) dX12_readStatement_141 (by decide) ?_
    refine gk_callI (As := [gk_R 14 0, gk_I (3 : Int32)]) (st := [gk_I (((6 : Int32) * x1) + (3 : Int32)), gk_R 21 0]) 2 (cr_X12_156 (by decide) rfl) (fun K' h' => ok_X12_readNumber (3 : Int32) M32 K' h') rfl (by decide) (by decide) (fun _ => Nat.le_of_ble_eq_true rfl) dX12_readStatement_142 h (fun r34 M33 h => ?_)
    refine gk_iast ga_21 (by decide) dX12_readStatement_145 h (fun M35 h => ?_)
    refine gk_aload_n dX12_readStatement_146 rfl rfl ?_
    refine gk_callV (As := [gk_R 14 0]) (st := []) 1 (cr_X12_162 (by decide) rfl) (fun K' h' => ok_X12_readComma M35 K' h') rfl (by decide) (by decide) (fun _ => Nat.le_of_ble_eq_true rfl) dX12_readStatement_147 h (fun _ M36 h => ?_)
    refine gk_aload_n dX12_readStatement_150 rfl rfl ?_
    refine gk_get (v := gk_R 21 0) fr_X12_59 pf_14_30 (by decide) dX12_readStatement_151 ?_
    refine gk_iload_n dX12_readStatement_154 rfl rfl ?_
    refine gk_iconst (v := (4 : Int32)) dX12_readStatement_155 (by decide) ?_
    refine gk_iadd dX12_readStatement_156 ?_
    refine gk_aload_n dX12_readStatement_157 rfl rfl ?_
    refine gk_iconst (v := (2 : Int32)) dX12_readStatement_158 (by decide) ?_
    refine gk_callI (As := [gk_R 14 0, gk_I (2 : Int32)]) (st := [gk_I (((6 : Int32) * x1) + (4 : Int32)), gk_R 21 0]) 3 (cr_X12_165 (by decide) rfl) (fun K' h' => ok_X12_readSigned (2 : Int32) M36 K' h') rfl (by decide) (by decide) (fun _ => Nat.le_of_ble_eq_true rfl) dX12_readStatement_159 h (fun r39 M38 h => ?_)
    refine gk_iast ga_21 (by decide) dX12_readStatement_162 h (fun M40 h => ?_)
    refine gk_aload_n dX12_readStatement_163 rfl rfl ?_
    refine gk_callV (As := [gk_R 14 0]) (st := []) 1 (cr_X12_162 (by decide) rfl) (fun K' h' => ok_X12_readComma M40 K' h') rfl (by decide) (by decide) (fun _ => Nat.le_of_ble_eq_true rfl) dX12_readStatement_164 h (fun _ M41 h => ?_)
    refine gk_aload_n dX12_readStatement_167 rfl rfl ?_
    refine gk_get (v := gk_R 21 0) fr_X12_59 pf_14_30 (by decide) dX12_readStatement_168 ?_
    refine gk_iload_n dX12_readStatement_171 rfl rfl ?_
    refine gk_iconst (v := (5 : Int32)) dX12_readStatement_172 (by decide) ?_
    refine gk_iadd dX12_readStatement_173 ?_
    refine gk_aload_n dX12_readStatement_174 rfl rfl ?_
    refine gk_iconst (v := (2 : Int32)) dX12_readStatement_175 (by decide) ?_
    refine gk_callI (As := [gk_R 14 0, gk_I (2 : Int32)]) (st := [gk_I (((6 : Int32) * x1) + (5 : Int32)), gk_R 21 0]) 3 (cr_X12_165 (by decide) rfl) (fun K' h' => ok_X12_readSigned (2 : Int32) M41 K' h') rfl (by decide) (by decide) (fun _ => Nat.le_of_ble_eq_true rfl) dX12_readStatement_176 h (fun r44 M43 h => ?_)
    refine gk_iast ga_21 (by decide) dX12_readStatement_179 h (fun M45 h => ?_)
    refine gk_goto (tgt := 239) dX12_readStatement_180 (by decide) ?_
    exact gk_weak [some (gk_R 14 0), none, none, none] (And.intro rfl True.intro) (ok_X12_readStatement_j239 M45 h)
set_option maxRecDepth 100000 in
set_option maxHeartbeats 4000000 in
theorem ok_X12_readStatement_j64 {K : gk_V → gk_M → Prop} (x1 : Int32) (x2 : Int32) (s0 : Int32) (M : gk_M) (h : gk_Sat gk_U (X12_readStatement_j64 x1 x2 s0 M) K) : gk_G RX12 cX12_readStatement 4 4 none none K 64 [some (gk_R 14 0), some (gk_I x1), some (gk_I x2), none] [gk_I s0, gk_R 14 0] M := by
  refine gk_putZ fr_X12_143 si_14_26 (by decide) dX12_readStatement_64 h (fun M5 h => ?_)
  refine gk_aload_n dX12_readStatement_67 rfl rfl ?_
  refine gk_dup dX12_readStatement_68 rfl ?_
  refine gk_getI fr_X12_140 si_14_25 (by decide) dX12_readStatement_69 ?_
  refine gk_aload_n dX12_readStatement_72 rfl rfl ?_
  refine gk_getI fr_X12_143 si_14_26 (by decide) dX12_readStatement_73 ?_
  refine gk_if_eq (tgt := 83) dX12_readStatement_76 (by decide) h (fun h => ?_) (fun h => ?_)
  · refine gk_iconst (v := (1 : Int32)) dX12_readStatement_83 (by decide) ?_
    exact gk_weak [some (gk_R 14 0), some (gk_I x1), some (gk_I x2), none] (And.intro rfl (And.intro rfl (And.intro rfl True.intro))) (ok_X12_readStatement_j84 x1 x2 ((1 : Int32)) ((M5 14 0 25)) M5 h)
  · refine gk_iconst (v := (0 : Int32)) dX12_readStatement_79 (by decide) ?_
    refine gk_goto (tgt := 84) dX12_readStatement_80 (by decide) ?_
    exact gk_weak [some (gk_R 14 0), some (gk_I x1), some (gk_I x2), none] (And.intro rfl (And.intro rfl (And.intro rfl True.intro))) (ok_X12_readStatement_j84 x1 x2 ((0 : Int32)) ((M5 14 0 25)) M5 h)
set_option maxRecDepth 100000 in
set_option maxHeartbeats 4000000 in
theorem ok_X12_readStatement_j59 {K : gk_V → gk_M → Prop} (x1 : Int32) (x2 : Int32) (M : gk_M) (h : gk_Sat gk_U (X12_readStatement_j59 x1 x2 M) K) : gk_G RX12 cX12_readStatement 4 4 none none K 59 [some (gk_R 14 0), some (gk_I x1), some (gk_I x2), none] [gk_R 14 0] M := by
  refine gk_iconst (v := (1 : Int32)) dX12_readStatement_59 (by decide) ?_
  refine gk_goto (tgt := 64) dX12_readStatement_60 (by decide) ?_
  exact gk_weak [some (gk_R 14 0), some (gk_I x1), some (gk_I x2), none] (And.intro rfl (And.intro rfl (And.intro rfl True.intro))) (ok_X12_readStatement_j64 x1 x2 ((1 : Int32)) M h)
set_option maxRecDepth 100000 in
set_option maxHeartbeats 4000000 in
theorem ok_X12_readStatement_j63 {K : gk_V → gk_M → Prop} (x1 : Int32) (x2 : Int32) (M : gk_M) (h : gk_Sat gk_U (X12_readStatement_j63 x1 x2 M) K) : gk_G RX12 cX12_readStatement 4 4 none none K 63 [some (gk_R 14 0), some (gk_I x1), some (gk_I x2), none] [gk_R 14 0] M := by
  refine gk_iconst (v := (0 : Int32)) dX12_readStatement_63 (by decide) ?_
  exact gk_weak [some (gk_R 14 0), some (gk_I x1), some (gk_I x2), none] (And.intro rfl (And.intro rfl (And.intro rfl True.intro))) (ok_X12_readStatement_j64 x1 x2 ((0 : Int32)) M h)
set_option maxRecDepth 100000 in
set_option maxHeartbeats 4000000 in
theorem ok_X12_readStatement  (M : gk_M) (K : gk_V → gk_M → Prop) (h : gk_Sat gk_U (f_X12_readStatement  M) K) : gk_MS 4 yX12_readStatement cX12_readStatement 4 none [gk_R 14 0] M K := by

  refine gk_MS_of [some (gk_R 14 0), none, none, none] (by decide +kernel) (Nat.le_of_ble_eq_true rfl) (And.intro rfl True.intro) ?_
  show gk_G RX12 cX12_readStatement 4 4 none none K 0 [some (gk_R 14 0), none, none, none] [] M
  refine gk_aload_n dX12_readStatement_0 rfl rfl ?_
  refine gk_getI fr_X12_159 si_14_27 (by decide) dX12_readStatement_1 ?_
  refine gk_istore_n (L' := [some (gk_R 14 0), some (gk_I (M 14 0 27)), none, none]) dX12_readStatement_4 rfl (by decide) rfl rfl ?_
  refine gk_aload_n dX12_readStatement_5 rfl rfl ?_
  refine gk_callI (As := [gk_R 14 0]) (st := []) 0 (cr_X12_146 (by decide) rfl) (fun K' h' => ok_X12_here M K' h') rfl (by decide) (by decide) (fun _ => Nat.le_of_ble_eq_true rfl) dX12_readStatement_6 h (fun r2 M1 h => ?_)
  refine gk_istore_n (L' := [some (gk_R 14 0), some (gk_I (M 14 0 27)), some (gk_I r2), none]) dX12_readStatement_9 rfl (by decide) rfl rfl ?_
  refine gk_aload_n dX12_readStatement_10 rfl rfl ?_
  refine gk_get (v := gk_R 20 0) fr_X12_53 pf_14_28 (by decide) dX12_readStatement_11 ?_
  refine gk_iload_n dX12_readStatement_14 rfl rfl ?_
  refine gk_aload_n dX12_readStatement_15 rfl rfl ?_
  refine gk_getI fr_X12_140 si_14_25 (by decide) dX12_readStatement_16 ?_
  refine gk_iast ga_20 (by decide) dX12_readStatement_19 h (fun M3 h => ?_)
  refine gk_aload_n dX12_readStatement_20 rfl rfl ?_
  refine gk_get (v := gk_R 20 1) fr_X12_56 pf_14_29 (by decide) dX12_readStatement_21 ?_
  refine gk_iload_n dX12_readStatement_24 rfl rfl ?_
  refine gk_iload_n dX12_readStatement_25 rfl rfl ?_
  refine gk_iast ga_20 (by decide) dX12_readStatement_26 h (fun M4 h => ?_)
  refine gk_aload_n dX12_readStatement_27 rfl rfl ?_
  refine gk_aload_n dX12_readStatement_28 rfl rfl ?_
  refine gk_getI fr_X12_143 si_14_26 (by decide) dX12_readStatement_29 ?_
  refine gk_if_ne (tgt := 59) dX12_readStatement_32 (by decide) h (fun h => ?_) (fun h => ?_)
  · exact gk_weak [some (gk_R 14 0), some (gk_I (M 14 0 27)), some (gk_I r2), none] (And.intro rfl (And.intro rfl (And.intro rfl True.intro))) (ok_X12_readStatement_j59 ((M 14 0 27)) r2 M4 h)
  · refine gk_iload_n dX12_readStatement_35 rfl rfl ?_
    refine gk_bipush (v := (115 : Int32)) dX12_readStatement_36 (by decide) ?_
    refine gk_icmp_eq (tgt := 63) dX12_readStatement_38 (by decide) h (fun h => ?_) (fun h => ?_)
    · exact gk_weak [some (gk_R 14 0), some (gk_I (M 14 0 27)), some (gk_I r2), none] (And.intro rfl (And.intro rfl (And.intro rfl True.intro))) (ok_X12_readStatement_j63 ((M 14 0 27)) r2 M4 h)
    · refine gk_iload_n dX12_readStatement_41 rfl rfl ?_
      refine gk_bipush (v := (119 : Int32)) dX12_readStatement_42 (by decide) ?_
      refine gk_icmp_eq (tgt := 63) dX12_readStatement_44 (by decide) h (fun h => ?_) (fun h => ?_)
      · exact gk_weak [some (gk_R 14 0), some (gk_I (M 14 0 27)), some (gk_I r2), none] (And.intro rfl (And.intro rfl (And.intro rfl True.intro))) (ok_X12_readStatement_j63 ((M 14 0 27)) r2 M4 h)
      · refine gk_iload_n dX12_readStatement_47 rfl rfl ?_
        refine gk_bipush (v := (114 : Int32)) dX12_readStatement_48 (by decide) ?_
        refine gk_icmp_eq (tgt := 63) dX12_readStatement_50 (by decide) h (fun h => ?_) (fun h => ?_)
        · exact gk_weak [some (gk_R 14 0), some (gk_I (M 14 0 27)), some (gk_I r2), none] (And.intro rfl (And.intro rfl (And.intro rfl True.intro))) (ok_X12_readStatement_j63 ((M 14 0 27)) r2 M4 h)
        · refine gk_iload_n dX12_readStatement_53 rfl rfl ?_
          refine gk_bipush (v := (118 : Int32)) dX12_readStatement_54 (by decide) ?_
          refine gk_icmp_eq (tgt := 63) dX12_readStatement_56 (by decide) h (fun h => ?_) (fun h => ?_)
          · exact gk_weak [some (gk_R 14 0), some (gk_I (M 14 0 27)), some (gk_I r2), none] (And.intro rfl (And.intro rfl (And.intro rfl True.intro))) (ok_X12_readStatement_j63 ((M 14 0 27)) r2 M4 h)
          · exact gk_weak [some (gk_R 14 0), some (gk_I (M 14 0 27)), some (gk_I r2), none] (And.intro rfl (And.intro rfl (And.intro rfl True.intro))) (ok_X12_readStatement_j59 ((M 14 0 27)) r2 M4 h)
set_option maxRecDepth 100000 in
set_option maxHeartbeats 4000000 in
theorem ok_X12_shipComes_j19 {K : gk_V → gk_M → Prop}  (M : gk_M) (h : gk_Sat gk_I (X12_shipComes_j19  M) K) : gk_G RX12 cX12_shipComes 2 0 (some .boolean) none K 19 [none, none] [] M := by
  refine gk_iconst (v := (0 : Int32)) dX12_shipComes_19 (by decide) ?_
  exact gk_zret dX12_shipComes_20 rfl h
set_option maxRecDepth 100000 in
set_option maxHeartbeats 4000000 in
theorem ok_X12_shipComes (a1 : Int32) (M : gk_M) (K : gk_V → gk_M → Prop) (h : gk_Sat gk_I (f_X12_shipComes a1 M) K) : gk_MS 0 yX12_shipComes cX12_shipComes 2 (some .boolean) [gk_R 14 0, gk_I a1] M K := by

  refine gk_MS_of [some (gk_R 14 0), some (gk_I a1)] (by decide +kernel) (Nat.le_of_ble_eq_true rfl) (And.intro rfl (And.intro rfl True.intro)) ?_
  show gk_G RX12 cX12_shipComes 2 0 (some .boolean) none K 0 [some (gk_R 14 0), some (gk_I a1)] [] M
  refine gk_aload_n dX12_shipComes_0 rfl rfl ?_
  refine gk_get (v := gk_R 21 0) fr_X12_59 pf_14_30 (by decide) dX12_shipComes_1 ?_
  refine gk_iload_n dX12_shipComes_4 rfl rfl ?_
  refine gk_iald ga_21 (by decide) dX12_shipComes_5 h (fun h hb1 => ?_)
  refine gk_iconst (v := (5 : Int32)) dX12_shipComes_6 (by decide) ?_
  refine gk_icmp_gt (tgt := 19) dX12_shipComes_7 (by decide) h (fun h => ?_) (fun h => ?_)
  · exact gk_weak [none, none] True.intro (ok_X12_shipComes_j19 M h)
  · refine gk_aload_n dX12_shipComes_10 rfl rfl ?_
    refine gk_getI fr_X12_68 si_14_0 (by decide) dX12_shipComes_11 ?_
    refine gk_bipush (v := (6 : Int32)) dX12_shipComes_14 (by decide) ?_
    refine gk_icmp_ne (tgt := 21) dX12_shipComes_16 (by decide) h (fun h => ?_) (fun h => ?_)
    · refine gk_aload_n dX12_shipComes_21 rfl rfl ?_
      refine gk_get (v := gk_R 16 0) fr_X12_23 pf_14_7 (by decide) dX12_shipComes_22 ?_
      refine gk_aload_n dX12_shipComes_25 rfl rfl ?_
      refine gk_getI fr_X12_68 si_14_0 (by decide) dX12_shipComes_26 ?_
      refine gk_aload_n dX12_shipComes_29 rfl rfl ?_
      refine gk_get (v := gk_R 21 0) fr_X12_59 pf_14_30 (by decide) dX12_shipComes_30 ?_
      refine gk_iload_n dX12_shipComes_33 rfl rfl ?_
      refine gk_iald ga_21 (by decide) dX12_shipComes_34 h (fun h hb2 => ?_)
      refine gk_iast ga_16 (by decide) dX12_shipComes_35 h (fun M3 h => ?_)
      refine gk_aload_n dX12_shipComes_36 rfl rfl ?_
      refine gk_get (v := gk_R 16 1) fr_X12_26 pf_14_8 (by decide) dX12_shipComes_37 ?_
      refine gk_aload_n dX12_shipComes_40 rfl rfl ?_
      refine gk_getI fr_X12_68 si_14_0 (by decide) dX12_shipComes_41 ?_
      refine gk_aload_n dX12_shipComes_44 rfl rfl ?_
      refine gk_get (v := gk_R 21 0) fr_X12_59 pf_14_30 (by decide) dX12_shipComes_45 ?_
      refine gk_iload_n dX12_shipComes_48 rfl rfl ?_
      refine gk_iconst (v := (1 : Int32)) dX12_shipComes_49 (by decide) ?_
      refine gk_iadd dX12_shipComes_50 ?_
      refine gk_iald ga_21 (by decide) dX12_shipComes_51 h (fun h hb4 => ?_)
      refine gk_iast ga_16 (by decide) dX12_shipComes_52 h (fun M5 h => ?_)
      refine gk_aload_n dX12_shipComes_53 rfl rfl ?_
      refine gk_get (v := gk_R 16 2) fr_X12_29 pf_14_9 (by decide) dX12_shipComes_54 ?_
      refine gk_aload_n dX12_shipComes_57 rfl rfl ?_
      refine gk_getI fr_X12_68 si_14_0 (by decide) dX12_shipComes_58 ?_
      refine gk_aload_n dX12_shipComes_61 rfl rfl ?_
      refine gk_get (v := gk_R 21 0) fr_X12_59 pf_14_30 (by decide) dX12_shipComes_62 ?_
      refine gk_iload_n dX12_shipComes_65 rfl rfl ?_
      refine gk_iconst (v := (2 : Int32)) dX12_shipComes_66 (by decide) ?_
      refine gk_iadd dX12_shipComes_67 ?_
      refine gk_iald ga_21 (by decide) dX12_shipComes_68 h (fun h hb6 => ?_)
      refine gk_iast ga_16 (by decide) dX12_shipComes_69 h (fun M7 h => ?_)
      refine gk_aload_n dX12_shipComes_70 rfl rfl ?_
      refine gk_get (v := gk_R 16 3) fr_X12_32 pf_14_10 (by decide) dX12_shipComes_71 ?_
      refine gk_aload_n dX12_shipComes_74 rfl rfl ?_
      refine gk_getI fr_X12_68 si_14_0 (by decide) dX12_shipComes_75 ?_
      refine gk_aload_n dX12_shipComes_78 rfl rfl ?_
      refine gk_get (v := gk_R 21 0) fr_X12_59 pf_14_30 (by decide) dX12_shipComes_79 ?_
      refine gk_iload_n dX12_shipComes_82 rfl rfl ?_
      refine gk_iconst (v := (3 : Int32)) dX12_shipComes_83 (by decide) ?_
      refine gk_iadd dX12_shipComes_84 ?_
      refine gk_iald ga_21 (by decide) dX12_shipComes_85 h (fun h hb8 => ?_)
      refine gk_iast ga_16 (by decide) dX12_shipComes_86 h (fun M9 h => ?_)
      refine gk_aload_n dX12_shipComes_87 rfl rfl ?_
      refine gk_get (v := gk_R 16 4) fr_X12_35 pf_14_11 (by decide) dX12_shipComes_88 ?_
      refine gk_aload_n dX12_shipComes_91 rfl rfl ?_
      refine gk_getI fr_X12_68 si_14_0 (by decide) dX12_shipComes_92 ?_
      refine gk_aload_n dX12_shipComes_95 rfl rfl ?_
      refine gk_get (v := gk_R 21 0) fr_X12_59 pf_14_30 (by decide) dX12_shipComes_96 ?_
      refine gk_iload_n dX12_shipComes_99 rfl rfl ?_
      refine gk_iconst (v := (4 : Int32)) dX12_shipComes_100 (by decide) ?_
      refine gk_iadd dX12_shipComes_101 ?_
      refine gk_iald ga_21 (by decide) dX12_shipComes_102 h (fun h hb10 => ?_)
      refine gk_iast ga_16 (by decide) dX12_shipComes_103 h (fun M11 h => ?_)
      refine gk_aload_n dX12_shipComes_104 rfl rfl ?_
      refine gk_get (v := gk_R 16 5) fr_X12_38 pf_14_12 (by decide) dX12_shipComes_105 ?_
      refine gk_aload_n dX12_shipComes_108 rfl rfl ?_
      refine gk_getI fr_X12_68 si_14_0 (by decide) dX12_shipComes_109 ?_
      refine gk_aload_n dX12_shipComes_112 rfl rfl ?_
      refine gk_get (v := gk_R 21 0) fr_X12_59 pf_14_30 (by decide) dX12_shipComes_113 ?_
      refine gk_iload_n dX12_shipComes_116 rfl rfl ?_
      refine gk_iconst (v := (5 : Int32)) dX12_shipComes_117 (by decide) ?_
      refine gk_iadd dX12_shipComes_118 ?_
      refine gk_iald ga_21 (by decide) dX12_shipComes_119 h (fun h hb12 => ?_)
      refine gk_iast ga_16 (by decide) dX12_shipComes_120 h (fun M13 h => ?_)
      refine gk_aload_n dX12_shipComes_121 rfl rfl ?_
      refine gk_dup dX12_shipComes_122 rfl ?_
      refine gk_getI fr_X12_68 si_14_0 (by decide) dX12_shipComes_123 ?_
      refine gk_iconst (v := (1 : Int32)) dX12_shipComes_126 (by decide) ?_
      refine gk_iadd dX12_shipComes_127 ?_
      refine gk_putI fr_X12_68 si_14_0 (by decide) dX12_shipComes_128 h (fun M14 h => ?_)
      refine gk_iconst (v := (1 : Int32)) dX12_shipComes_131 (by decide) ?_
      exact gk_zret dX12_shipComes_132 rfl h
    · exact gk_weak [none, none] True.intro (ok_X12_shipComes_j19 M h)
set_option maxRecDepth 100000 in
set_option maxHeartbeats 4000000 in
theorem ok_X12_comes_j151 {K : gk_V → gk_M → Prop} (x3 : Int32) (M : gk_M) (h : gk_Sat gk_I (X12_comes_j151 x3 M) K) : gk_G RX12 cX12_comes 4 1 (some .boolean) none K 151 [none, none, none, some (gk_I x3)] [] M := by
  refine gk_iload_n dX12_comes_151 rfl rfl ?_
  exact gk_zret dX12_comes_152 rfl h
set_option maxRecDepth 100000 in
set_option maxHeartbeats 4000000 in
theorem ok_X12_comes_j108 {K : gk_V → gk_M → Prop} (x2 : Int32) (s0 : Int32) (M : gk_M) (h : gk_Sat gk_I (X12_comes_j108 x2 s0 M) K) : gk_G RX12 cX12_comes 4 1 (some .boolean) none K 108 [some (gk_R 14 0), none, some (gk_I x2), none] [gk_I s0] M := by
  refine gk_istore_n (L' := [some (gk_R 14 0), none, some (gk_I x2), some (gk_I s0)]) dX12_comes_108 rfl (by decide) rfl rfl ?_
  refine gk_iload_n dX12_comes_109 rfl rfl ?_
  refine gk_if_eq (tgt := 151) dX12_comes_110 (by decide) h (fun h => ?_) (fun h => ?_)
  · exact gk_weak [none, none, none, some (gk_I s0)] (And.intro rfl True.intro) (ok_X12_comes_j151 s0 M h)
  · refine gk_aload_n dX12_comes_113 rfl rfl ?_
    refine gk_get (v := gk_R 15 0) fr_X12_16 pf_14_5 (by decide) dX12_comes_114 ?_
    refine gk_aload_n dX12_comes_117 rfl rfl ?_
    refine gk_get (v := gk_R 21 0) fr_X12_59 pf_14_30 (by decide) dX12_comes_118 ?_
    refine gk_iload_n dX12_comes_121 rfl rfl ?_
    refine gk_iald ga_21 (by decide) dX12_comes_122 h (fun h hb10 => ?_)
    refine gk_aload_n dX12_comes_123 rfl rfl ?_
    refine gk_get (v := gk_R 21 0) fr_X12_59 pf_14_30 (by decide) dX12_comes_124 ?_
    refine gk_iload_n dX12_comes_127 rfl rfl ?_
    refine gk_iconst (v := (1 : Int32)) dX12_comes_128 (by decide) ?_
    refine gk_iadd dX12_comes_129 ?_
    refine gk_iald ga_21 (by decide) dX12_comes_130 h (fun h hb11 => ?_)
    refine gk_iast ga_15 (by decide) dX12_comes_131 h (fun M12 h => ?_)
    refine gk_aload_n dX12_comes_132 rfl rfl ?_
    refine gk_get (v := gk_R 15 1) fr_X12_20 pf_14_6 (by decide) dX12_comes_133 ?_
    refine gk_aload_n dX12_comes_136 rfl rfl ?_
    refine gk_get (v := gk_R 21 0) fr_X12_59 pf_14_30 (by decide) dX12_comes_137 ?_
    refine gk_iload_n dX12_comes_140 rfl rfl ?_
    refine gk_iald ga_21 (by decide) dX12_comes_141 h (fun h hb13 => ?_)
    refine gk_aload_n dX12_comes_142 rfl rfl ?_
    refine gk_get (v := gk_R 21 0) fr_X12_59 pf_14_30 (by decide) dX12_comes_143 ?_
    refine gk_iload_n dX12_comes_146 rfl rfl ?_
    refine gk_iconst (v := (2 : Int32)) dX12_comes_147 (by decide) ?_
    refine gk_iadd dX12_comes_148 ?_
    refine gk_iald ga_21 (by decide) dX12_comes_149 h (fun h hb14 => ?_)
    refine gk_iast ga_15 (by decide) dX12_comes_150 h (fun M15 h => ?_)
    exact gk_weak [none, none, none, some (gk_I s0)] (And.intro rfl True.intro) (ok_X12_comes_j151 s0 M15 h)
set_option maxRecDepth 100000 in
set_option maxHeartbeats 4000000 in
theorem ok_X12_comes_j107 {K : gk_V → gk_M → Prop} (x2 : Int32) (M : gk_M) (h : gk_Sat gk_I (X12_comes_j107 x2 M) K) : gk_G RX12 cX12_comes 4 1 (some .boolean) none K 107 [some (gk_R 14 0), none, some (gk_I x2), none] [] M := by
  refine gk_iconst (v := (0 : Int32)) dX12_comes_107 (by decide) ?_
  exact gk_weak [some (gk_R 14 0), none, some (gk_I x2), none] (And.intro rfl (And.intro rfl True.intro)) (ok_X12_comes_j108 x2 ((0 : Int32)) M h)
set_option maxRecDepth 100000 in
set_option maxHeartbeats 4000000 in
theorem ok_X12_comes (a1 : Int32) (M : gk_M) (K : gk_V → gk_M → Prop) (h : gk_Sat gk_I (f_X12_comes a1 M) K) : gk_MS 1 yX12_comes cX12_comes 4 (some .boolean) [gk_R 14 0, gk_I a1] M K := by

  refine gk_MS_of [some (gk_R 14 0), some (gk_I a1), none, none] (by decide +kernel) (Nat.le_of_ble_eq_true rfl) (And.intro rfl (And.intro rfl True.intro)) ?_
  show gk_G RX12 cX12_comes 4 1 (some .boolean) none K 0 [some (gk_R 14 0), some (gk_I a1), none, none] [] M
  refine gk_bipush (v := (6 : Int32)) dX12_comes_0 (by decide) ?_
  refine gk_iload_n dX12_comes_2 rfl rfl ?_
  refine gk_imul dX12_comes_3 ?_
  refine gk_istore_n (L' := [some (gk_R 14 0), some (gk_I a1), some (gk_I ((6 : Int32) * a1)), none]) dX12_comes_4 rfl (by decide) rfl rfl ?_
  refine gk_aload_n dX12_comes_5 rfl rfl ?_
  refine gk_get (v := gk_R 20 1) fr_X12_56 pf_14_29 (by decide) dX12_comes_6 ?_
  refine gk_iload_n dX12_comes_9 rfl rfl ?_
  refine gk_iald ga_20 (by decide) dX12_comes_10 h (fun h hb1 => ?_)
  rcases Decidable.em ((M 20 1 (Int32.toNatClampNeg a1)) = (114 : Int32)) with e114 | e114
  · refine gk_lookup (off := 142) (tgt := 153) dX12_comes_11 (by decide) (by rw [e114]; decide +kernel) (by decide) ?_
    have h := h.ite.1 e114
    refine gk_aload_n dX12_comes_153 rfl rfl ?_
    refine gk_aload_n dX12_comes_154 rfl rfl ?_
    refine gk_get (v := gk_R 21 0) fr_X12_59 pf_14_30 (by decide) dX12_comes_155 ?_
    refine gk_iload_n dX12_comes_158 rfl rfl ?_
    refine gk_iald ga_21 (by decide) dX12_comes_159 h (fun h hb2 => ?_)
    refine gk_putI fr_X12_7 si_14_1 (by decide) dX12_comes_160 h (fun M3 h => ?_)
    refine gk_aload_n dX12_comes_163 rfl rfl ?_
    refine gk_get (v := gk_R 21 0) fr_X12_59 pf_14_30 (by decide) dX12_comes_164 ?_
    refine gk_iload_n dX12_comes_167 rfl rfl ?_
    refine gk_iald ga_21 (by decide) dX12_comes_168 h (fun h hb4 => ?_)
    refine gk_i2l dX12_comes_169 ?_
    refine gk_lconst (v := (1 : Int64)) dX12_comes_170 (by decide) ?_
    refine gk_ldc2 dX12_comes_171 kc_X12_175 ?_
    refine gk_callI (As := [gk_L (Int32.toInt64 (M3 21 0 (Int32.toNatClampNeg ((6 : Int32) * a1)))), gk_L (1 : Int64), gk_L (40 : Int64)]) (st := []) 0 (cr_X12_71 rfl) (fun K' h' => ok_X12_in (Int32.toInt64 (M3 21 0 (Int32.toNatClampNeg ((6 : Int32) * a1)))) (1 : Int64) (40 : Int64) M3 K' h') rfl (by decide) (by decide) (fun _ => Nat.le_of_ble_eq_true rfl) dX12_comes_174 h (fun r6 M5 h => ?_)
    exact gk_zret dX12_comes_177 rfl h
  · have h := h.ite.2 e114
    rcases Decidable.em ((M 20 1 (Int32.toNatClampNeg a1)) = (115 : Int32)) with e115 | e115
    · refine gk_lookup (off := 33) (tgt := 44) dX12_comes_11 (by decide) (by rw [e115]; decide +kernel) (by decide) ?_
      have h := h.ite.1 e115
      refine gk_aload_n dX12_comes_44 rfl rfl ?_
      refine gk_iload_n dX12_comes_45 rfl rfl ?_
      refine gk_callI (As := [gk_R 14 0, gk_I ((6 : Int32) * a1)]) (st := []) 0 (cr_X12_168 (by decide) rfl) (fun K' h' => ok_X12_shipComes ((6 : Int32) * a1) M K' h') rfl (by decide) (by decide) (fun _ => Nat.le_of_ble_eq_true rfl) dX12_comes_46 h (fun r8 M7 h => ?_)
      exact gk_zret dX12_comes_49 rfl h
    · have h := h.ite.2 e115
      rcases Decidable.em ((M 20 1 (Int32.toNatClampNeg a1)) = (119 : Int32)) with e119 | e119
      · refine gk_lookup (off := 39) (tgt := 50) dX12_comes_11 (by decide) (by rw [e119]; decide +kernel) (by decide) ?_
        have h := h.ite.1 e119
        refine gk_aload_n dX12_comes_50 rfl rfl ?_
        refine gk_get (v := gk_R 21 0) fr_X12_59 pf_14_30 (by decide) dX12_comes_51 ?_
        refine gk_iload_n dX12_comes_54 rfl rfl ?_
        refine gk_iald ga_21 (by decide) dX12_comes_55 h (fun h hb9 => ?_)
        refine gk_bipush (v := (7 : Int32)) dX12_comes_56 (by decide) ?_
        refine gk_icmp_ge (tgt := 107) dX12_comes_58 (by decide) h (fun h => ?_) (fun h => ?_)
        · exact gk_weak [some (gk_R 14 0), none, some (gk_I ((6 : Int32) * a1)), none] (And.intro rfl (And.intro rfl True.intro)) (ok_X12_comes_j107 (((6 : Int32) * a1)) M h)
        · refine gk_aload_n dX12_comes_61 rfl rfl ?_
          refine gk_get (v := gk_R 21 0) fr_X12_59 pf_14_30 (by decide) dX12_comes_62 ?_
          refine gk_iload_n dX12_comes_65 rfl rfl ?_
          refine gk_iconst (v := (1 : Int32)) dX12_comes_66 (by decide) ?_
          refine gk_iadd dX12_comes_67 ?_
          refine gk_iald ga_21 (by decide) dX12_comes_68 h (fun h hb16 => ?_)
          refine gk_i2l dX12_comes_69 ?_
          refine gk_ldc2 dX12_comes_70 kc_X12_171 ?_
          refine gk_ldc2 dX12_comes_73 kc_X12_173 ?_
          refine gk_callI (As := [gk_L (Int32.toInt64 (M 21 0 (Int32.toNatClampNeg (((6 : Int32) * a1) + (1 : Int32))))), gk_L (-4 : Int64), gk_L (4 : Int64)]) (st := []) 0 (cr_X12_71 rfl) (fun K' h' => ok_X12_in (Int32.toInt64 (M 21 0 (Int32.toNatClampNeg (((6 : Int32) * a1) + (1 : Int32))))) (-4 : Int64) (4 : Int64) M K' h') rfl (by decide) (by decide) (fun _ => Nat.le_of_ble_eq_true rfl) dX12_comes_76 h (fun r18 M17 h => ?_)
          refine gk_if_eq (tgt := 107) dX12_comes_79 (by decide) h (fun h => ?_) (fun h => ?_)
          · exact gk_weak [some (gk_R 14 0), none, some (gk_I ((6 : Int32) * a1)), none] (And.intro rfl (And.intro rfl True.intro)) (ok_X12_comes_j107 (((6 : Int32) * a1)) M17 h)
          · refine gk_aload_n dX12_comes_82 rfl rfl ?_
            refine gk_get (v := gk_R 21 0) fr_X12_59 pf_14_30 (by decide) dX12_comes_83 ?_
            refine gk_iload_n dX12_comes_86 rfl rfl ?_
            refine gk_iconst (v := (2 : Int32)) dX12_comes_87 (by decide) ?_
            refine gk_iadd dX12_comes_88 ?_
            refine gk_iald ga_21 (by decide) dX12_comes_89 h (fun h hb19 => ?_)
            refine gk_i2l dX12_comes_90 ?_
            refine gk_ldc2 dX12_comes_91 kc_X12_171 ?_
            refine gk_ldc2 dX12_comes_94 kc_X12_173 ?_
            refine gk_callI (As := [gk_L (Int32.toInt64 (M17 21 0 (Int32.toNatClampNeg (((6 : Int32) * a1) + (2 : Int32))))), gk_L (-4 : Int64), gk_L (4 : Int64)]) (st := []) 0 (cr_X12_71 rfl) (fun K' h' => ok_X12_in (Int32.toInt64 (M17 21 0 (Int32.toNatClampNeg (((6 : Int32) * a1) + (2 : Int32))))) (-4 : Int64) (4 : Int64) M17 K' h') rfl (by decide) (by decide) (fun _ => Nat.le_of_ble_eq_true rfl) dX12_comes_97 h (fun r21 M20 h => ?_)
            refine gk_if_eq (tgt := 107) dX12_comes_100 (by decide) h (fun h => ?_) (fun h => ?_)
            · exact gk_weak [some (gk_R 14 0), none, some (gk_I ((6 : Int32) * a1)), none] (And.intro rfl (And.intro rfl True.intro)) (ok_X12_comes_j107 (((6 : Int32) * a1)) M20 h)
            · refine gk_iconst (v := (1 : Int32)) dX12_comes_103 (by decide) ?_
              refine gk_goto (tgt := 108) dX12_comes_104 (by decide) ?_
              exact gk_weak [some (gk_R 14 0), none, some (gk_I ((6 : Int32) * a1)), none] (And.intro rfl (And.intro rfl True.intro)) (ok_X12_comes_j108 (((6 : Int32) * a1)) ((1 : Int32)) M20 h)
      · have h := h.ite.2 e119
        have q114 : ((M 20 1 (Int32.toNatClampNeg a1))).toInt ≠ 114 := gk_ne_toInt e114
        have q115 : ((M 20 1 (Int32.toNatClampNeg a1))).toInt ≠ 115 := gk_ne_toInt e115
        have q119 : ((M 20 1 (Int32.toNatClampNeg a1))).toInt ≠ 119 := gk_ne_toInt e119
        refine gk_lookup (off := 167) (tgt := 178) dX12_comes_11 (by decide) (by simp [Op.lookupswitch.offset, Ne.symm q114, Ne.symm q115, Ne.symm q119]) (by decide) ?_
        refine gk_aload_n dX12_comes_178 rfl rfl ?_
        refine gk_aload_n dX12_comes_179 rfl rfl ?_
        refine gk_get (v := gk_R 21 0) fr_X12_59 pf_14_30 (by decide) dX12_comes_180 ?_
        refine gk_iload_n dX12_comes_183 rfl rfl ?_
        refine gk_iald ga_21 (by decide) dX12_comes_184 h (fun h hb22 => ?_)
        refine gk_putI fr_X12_13 si_14_2 (by decide) dX12_comes_185 h (fun M23 h => ?_)
        refine gk_aload_n dX12_comes_188 rfl rfl ?_
        refine gk_get (v := gk_R 21 0) fr_X12_59 pf_14_30 (by decide) dX12_comes_189 ?_
        refine gk_iload_n dX12_comes_192 rfl rfl ?_
        refine gk_iald ga_21 (by decide) dX12_comes_193 h (fun h hb24 => ?_)
        refine gk_i2l dX12_comes_194 ?_
        refine gk_lconst (v := (1 : Int64)) dX12_comes_195 (by decide) ?_
        refine gk_ldc2 dX12_comes_196 kc_X12_177 ?_
        refine gk_callI (As := [gk_L (Int32.toInt64 (M23 21 0 (Int32.toNatClampNeg ((6 : Int32) * a1)))), gk_L (1 : Int64), gk_L (99 : Int64)]) (st := []) 0 (cr_X12_71 rfl) (fun K' h' => ok_X12_in (Int32.toInt64 (M23 21 0 (Int32.toNatClampNeg ((6 : Int32) * a1)))) (1 : Int64) (99 : Int64) M23 K' h') rfl (by decide) (by decide) (fun _ => Nat.le_of_ble_eq_true rfl) dX12_comes_199 h (fun r26 M25 h => ?_)
        exact gk_zret dX12_comes_202 rfl h
set_option maxRecDepth 100000 in
set_option maxHeartbeats 4000000 in
theorem ok_X12_pack_l79 {K : gk_V → gk_M → Prop} : ∀ (n : Nat) (x1 : Int32) (M : gk_M), gk_Sat gk_I (X12_pack_l79 n x1 M) K → gk_G RX12 cX12_pack 2 5 (some .int) none K 79 [some (gk_R 14 0), some (gk_I x1)] [] M := by
  intro n
  induction n with
  | zero => intro x1 M h; exact h.no.elim
  | succ n ih =>
    intro x1 M h
    refine gk_iload_n dX12_pack_79 rfl rfl ?_
    refine gk_aload_n dX12_pack_80 rfl rfl ?_
    refine gk_getI fr_X12_159 si_14_27 (by decide) dX12_pack_81 ?_
    refine gk_icmp_ge (tgt := 116) dX12_pack_84 (by decide) h (fun h => ?_) (fun h => ?_)
    · refine gk_aload_n dX12_pack_116 rfl rfl ?_
      refine gk_getI fr_X12_159 si_14_27 (by decide) dX12_pack_117 ?_
      exact gk_iret dX12_pack_120 rfl h
    · refine gk_aload_n dX12_pack_87 rfl rfl ?_
      refine gk_iload_n dX12_pack_88 rfl rfl ?_
      refine gk_callI (As := [gk_R 14 0, gk_I x1]) (st := []) 1 (cr_X12_185 (by decide) rfl) (fun K' h' => ok_X12_comes x1 M K' h') rfl (by decide) (by decide) (fun _ => Nat.le_of_ble_eq_true rfl) dX12_pack_89 h (fun r9 M8 h => ?_)
      refine gk_if_ne (tgt := 110) dX12_pack_92 (by decide) h (fun h => ?_) (fun h => ?_)
      · refine gk_iinc (v := (x1 + (1 : Int32))) (L' := [some (gk_R 14 0), some (gk_I (x1 + (1 : Int32)))]) dX12_pack_110 rfl rfl (by decide) rfl rfl ?_
        refine gk_goto (tgt := 79) dX12_pack_113 (by decide) ?_
        exact gk_weak [some (gk_R 14 0), some (gk_I (x1 + (1 : Int32)))] (And.intro rfl (And.intro rfl True.intro)) (ih ((x1 + (1 : Int32))) M8 h)
      · refine gk_aload_n dX12_pack_95 rfl rfl ?_
        refine gk_callV (As := [gk_R 14 0]) (st := []) 2 (cr_X12_188 (by decide) rfl) (fun K' h' => ok_X12_close M8 K' h') rfl (by decide) (by decide) (fun _ => Nat.le_of_ble_eq_true rfl) dX12_pack_96 h (fun _ M10 h => ?_)
        refine gk_sipush (v := (-2000 : Int32)) dX12_pack_99 (by decide) ?_
        refine gk_aload_n dX12_pack_102 rfl rfl ?_
        refine gk_get (v := gk_R 20 0) fr_X12_53 pf_14_28 (by decide) dX12_pack_103 ?_
        refine gk_iload_n dX12_pack_106 rfl rfl ?_
        refine gk_iald ga_20 (by decide) dX12_pack_107 h (fun h hb12 => ?_)
        refine gk_isub dX12_pack_108 ?_
        exact gk_iret dX12_pack_109 rfl h
set_option maxRecDepth 100000 in
set_option maxHeartbeats 4000000 in
theorem ok_X12_pack_j52 {K : gk_V → gk_M → Prop}  (M : gk_M) (h : gk_Sat gk_I (X12_pack_j52  M) K) : gk_G RX12 cX12_pack 2 5 (some .int) none K 52 [some (gk_R 14 0), none] [] M := by
  refine gk_aload_n dX12_pack_52 rfl rfl ?_
  refine gk_iconst (v := (0 : Int32)) dX12_pack_53 (by decide) ?_
  refine gk_putI fr_X12_137 si_14_24 (by decide) dX12_pack_54 h (fun M5 h => ?_)
  refine gk_aload_n dX12_pack_57 rfl rfl ?_
  refine gk_getI fr_X12_143 si_14_26 (by decide) dX12_pack_58 ?_
  refine gk_if_eq (tgt := 73) dX12_pack_61 (by decide) h (fun h => ?_) (fun h => ?_)
  · refine gk_aload_n dX12_pack_73 rfl rfl ?_
    refine gk_callV (As := [gk_R 14 0]) (st := []) 2 (cr_X12_182 (by decide) rfl) (fun K' h' => ok_X12_open0 M5 K' h') rfl (by decide) (by decide) (fun _ => Nat.le_of_ble_eq_true rfl) dX12_pack_74 h (fun _ M6 h => ?_)
    refine gk_iconst (v := (0 : Int32)) dX12_pack_77 (by decide) ?_
    refine gk_istore_n (L' := [some (gk_R 14 0), some (gk_I (0 : Int32))]) dX12_pack_78 rfl (by decide) rfl rfl ?_
    exact gk_weak [some (gk_R 14 0), some (gk_I (0 : Int32))] (And.intro rfl (And.intro rfl True.intro)) (ok_X12_pack_l79 200 ((0 : Int32)) M6 h)
  · refine gk_sipush (v := (-1000 : Int32)) dX12_pack_64 (by decide) ?_
    refine gk_aload_n dX12_pack_67 rfl rfl ?_
    refine gk_getI fr_X12_140 si_14_25 (by decide) dX12_pack_68 ?_
    refine gk_isub dX12_pack_71 ?_
    exact gk_iret dX12_pack_72 rfl h
set_option maxRecDepth 100000 in
set_option maxHeartbeats 4000000 in
theorem ok_X12_pack_j45 {K : gk_V → gk_M → Prop} (κ20 : gk_M → Option (Int32 × gk_M)) (hκ20 : ∀  (M : gk_M), gk_Sat gk_I (κ20  M) K → gk_G RX12 cX12_pack 2 5 (some .int) none K 20 [some (gk_R 14 0), none] [] M)  (M : gk_M) (h : gk_Sat gk_I (X12_pack_j45 κ20  M) K) : gk_G RX12 cX12_pack 2 5 (some .int) none K 45 [some (gk_R 14 0), none] [] M := by
  refine gk_aload_n dX12_pack_45 rfl rfl ?_
  refine gk_callV (As := [gk_R 14 0]) (st := []) 4 (cr_X12_179 (by decide) rfl) (fun K' h' => ok_X12_readStatement M K' h') rfl (by decide) (by decide) (fun _ => Nat.le_of_ble_eq_true rfl) dX12_pack_46 h (fun _ M13 h => ?_)
  refine gk_goto (tgt := 20) dX12_pack_49 (by decide) ?_
  exact gk_weak [some (gk_R 14 0), none] (And.intro rfl True.intro) (hκ20 M13 h)
set_option maxRecDepth 100000 in
set_option maxHeartbeats 4000000 in
theorem ok_X12_pack_l20 {K : gk_V → gk_M → Prop} : ∀ (n : Nat)  (M : gk_M), gk_Sat gk_I (X12_pack_l20 n  M) K → gk_G RX12 cX12_pack 2 5 (some .int) none K 20 [some (gk_R 14 0), none] [] M := by
  intro n
  induction n with
  | zero => intro  M h; exact h.no.elim
  | succ n ih =>
    intro  M h
    refine gk_aload_n dX12_pack_20 rfl rfl ?_
    refine gk_getI fr_X12_143 si_14_26 (by decide) dX12_pack_21 ?_
    refine gk_if_ne (tgt := 52) dX12_pack_24 (by decide) h (fun h => ?_) (fun h => ?_)
    · exact gk_weak [some (gk_R 14 0), none] (And.intro rfl True.intro) (ok_X12_pack_j52 M h)
    · refine gk_aload_n dX12_pack_27 rfl rfl ?_
      refine gk_getI fr_X12_159 si_14_27 (by decide) dX12_pack_28 ?_
      refine gk_if_eq (tgt := 45) dX12_pack_31 (by decide) h (fun h => ?_) (fun h => ?_)
      · exact gk_weak [some (gk_R 14 0), none] (And.intro rfl True.intro) (ok_X12_pack_j45 (X12_pack_l20 n) ih M h)
      · refine gk_aload_n dX12_pack_34 rfl rfl ?_
        refine gk_getI fr_X12_140 si_14_25 (by decide) dX12_pack_35 ?_
        refine gk_aload_n dX12_pack_38 rfl rfl ?_
        refine gk_getI fr_X12_137 si_14_24 (by decide) dX12_pack_39 ?_
        refine gk_icmp_ge (tgt := 52) dX12_pack_42 (by decide) h (fun h => ?_) (fun h => ?_)
        · exact gk_weak [some (gk_R 14 0), none] (And.intro rfl True.intro) (ok_X12_pack_j52 M h)
        · exact gk_weak [some (gk_R 14 0), none] (And.intro rfl True.intro) (ok_X12_pack_j45 (X12_pack_l20 n) ih M h)
set_option maxRecDepth 100000 in
set_option maxHeartbeats 4000000 in
theorem ok_X12_pack  (M : gk_M) (K : gk_V → gk_M → Prop) (h : gk_Sat gk_I (f_X12_pack  M) K) : gk_MS 5 yX12_pack cX12_pack 2 (some .int) [gk_R 14 0] M K := by

  refine gk_MS_of [some (gk_R 14 0), none] (by decide +kernel) (Nat.le_of_ble_eq_true rfl) (And.intro rfl True.intro) ?_
  show gk_G RX12 cX12_pack 2 5 (some .int) none K 0 [some (gk_R 14 0), none] [] M
  refine gk_aload_n dX12_pack_0 rfl rfl ?_
  refine gk_iconst (v := (0 : Int32)) dX12_pack_1 (by decide) ?_
  refine gk_putI fr_X12_65 si_14_13 (by decide) dX12_pack_2 h (fun M1 h => ?_)
  refine gk_aload_n dX12_pack_5 rfl rfl ?_
  refine gk_iconst (v := (0 : Int32)) dX12_pack_6 (by decide) ?_
  refine gk_putI fr_X12_140 si_14_25 (by decide) dX12_pack_7 h (fun M2 h => ?_)
  refine gk_aload_n dX12_pack_10 rfl rfl ?_
  refine gk_iconst (v := (0 : Int32)) dX12_pack_11 (by decide) ?_
  refine gk_putZ fr_X12_143 si_14_26 (by decide) dX12_pack_12 h (fun M3 h => ?_)
  refine gk_aload_n dX12_pack_15 rfl rfl ?_
  refine gk_iconst (v := (0 : Int32)) dX12_pack_16 (by decide) ?_
  refine gk_putI fr_X12_159 si_14_27 (by decide) dX12_pack_17 h (fun M4 h => ?_)
  exact gk_weak [some (gk_R 14 0), none] (And.intro rfl True.intro) (ok_X12_pack_l20 200 M4 h)
set_option maxRecDepth 100000 in
set_option maxHeartbeats 4000000 in
theorem ok_X12_ship_j40 {K : gk_V → gk_M → Prop} (s0 : Int32) (M : gk_M) (h : gk_Sat gk_I (X12_ship_j40 s0 M) K) : gk_G RX12 cX12_ship 3 2 (some .int) none K 40 [none, none, none] [gk_I s0, gk_R 14 0] M := by
  refine gk_callI (As := [gk_R 14 0, gk_I s0]) (st := []) 0 (cr_X12_134 (by decide) rfl) (fun K' h' => ok_X12_refuse s0 M K' h') rfl (by decide) (by decide) (fun _ => Nat.le_of_ble_eq_true rfl) dX12_ship_40 h (fun r7 M6 h => ?_)
  exact gk_iret dX12_ship_43 rfl h
set_option maxRecDepth 100000 in
set_option maxHeartbeats 4000000 in
theorem ok_X12_ship_j25 {K : gk_V → gk_M → Prop} (x1 : Int32) (M : gk_M) (h : gk_Sat gk_I (X12_ship_j25 x1 M) K) : gk_G RX12 cX12_ship 3 2 (some .int) none K 25 [some (gk_R 14 0), some (gk_I x1), none] [] M := by
  refine gk_aload_n dX12_ship_25 rfl rfl ?_
  refine gk_aload_n dX12_ship_26 rfl rfl ?_
  refine gk_iload_n dX12_ship_27 rfl rfl ?_
  refine gk_callI (As := [gk_R 14 0, gk_I x1]) (st := [gk_R 14 0]) 1 (cr_X12_75 (by decide) rfl) (fun K' h' => ok_X12_isShip x1 M K' h') rfl (by decide) (by decide) (fun _ => Nat.le_of_ble_eq_true rfl) dX12_ship_28 h (fun r5 M4 h => ?_)
  refine gk_if_eq (tgt := 39) dX12_ship_31 (by decide) h (fun h => ?_) (fun h => ?_)
  · refine gk_iconst (v := (-1 : Int32)) dX12_ship_39 (by decide) ?_
    exact gk_weak [none, none, none] True.intro (ok_X12_ship_j40 ((-1 : Int32)) M4 h)
  · refine gk_bipush (v := (-2 : Int32)) dX12_ship_34 (by decide) ?_
    refine gk_goto (tgt := 40) dX12_ship_36 (by decide) ?_
    exact gk_weak [none, none, none] True.intro (ok_X12_ship_j40 ((-2 : Int32)) M4 h)
set_option maxRecDepth 100000 in
set_option maxHeartbeats 4000000 in
theorem ok_X12_ship (a1 : Int32) (a2 : Int32) (M : gk_M) (K : gk_V → gk_M → Prop) (h : gk_Sat gk_I (f_X12_ship a1 a2 M) K) : gk_MS 2 yX12_ship cX12_ship 3 (some .int) [gk_R 14 0, gk_I a1, gk_I a2] M K := by

  refine gk_MS_of [some (gk_R 14 0), some (gk_I a1), some (gk_I a2)] (by decide +kernel) (Nat.le_of_ble_eq_true rfl) (And.intro rfl (And.intro rfl (And.intro rfl True.intro))) ?_
  show gk_G RX12 cX12_ship 3 2 (some .int) none K 0 [some (gk_R 14 0), some (gk_I a1), some (gk_I a2)] [] M
  refine gk_aload_n dX12_ship_0 rfl rfl ?_
  refine gk_iconst (v := (0 : Int32)) dX12_ship_1 (by decide) ?_
  refine gk_putI fr_X12_65 si_14_13 (by decide) dX12_ship_2 h (fun M1 h => ?_)
  refine gk_aload_n dX12_ship_5 rfl rfl ?_
  refine gk_iload_n dX12_ship_6 rfl rfl ?_
  refine gk_callI (As := [gk_R 14 0, gk_I a1]) (st := []) 1 (cr_X12_75 (by decide) rfl) (fun K' h' => ok_X12_isShip a1 M1 K' h') rfl (by decide) (by decide) (fun _ => Nat.le_of_ble_eq_true rfl) dX12_ship_7 h (fun r3 M2 h => ?_)
  refine gk_if_eq (tgt := 25) dX12_ship_10 (by decide) h (fun h => ?_) (fun h => ?_)
  · exact gk_weak [some (gk_R 14 0), some (gk_I a1), none] (And.intro rfl (And.intro rfl True.intro)) (ok_X12_ship_j25 a1 M2 h)
  · refine gk_iload_n dX12_ship_13 rfl rfl ?_
    refine gk_i2l dX12_ship_14 ?_
    refine gk_lconst (v := (0 : Int64)) dX12_ship_15 (by decide) ?_
    refine gk_ldc2 dX12_ship_16 kc_X12_191 ?_
    refine gk_callI (As := [gk_L (Int32.toInt64 a2), gk_L (0 : Int64), gk_L (7 : Int64)]) (st := []) 0 (cr_X12_71 rfl) (fun K' h' => ok_X12_in (Int32.toInt64 a2) (0 : Int64) (7 : Int64) M2 K' h') rfl (by decide) (by decide) (fun _ => Nat.le_of_ble_eq_true rfl) dX12_ship_19 h (fun r9 M8 h => ?_)
    refine gk_if_ne (tgt := 44) dX12_ship_22 (by decide) h (fun h => ?_) (fun h => ?_)
    · refine gk_aload_n dX12_ship_44 rfl rfl ?_
      refine gk_aload_n dX12_ship_45 rfl rfl ?_
      refine gk_get (v := gk_R 16 0) fr_X12_23 pf_14_7 (by decide) dX12_ship_46 ?_
      refine gk_iload_n dX12_ship_49 rfl rfl ?_
      refine gk_iald ga_16 (by decide) dX12_ship_50 h (fun h hb10 => ?_)
      refine gk_aload_n dX12_ship_51 rfl rfl ?_
      refine gk_get (v := gk_R 16 1) fr_X12_26 pf_14_8 (by decide) dX12_ship_52 ?_
      refine gk_iload_n dX12_ship_55 rfl rfl ?_
      refine gk_iald ga_16 (by decide) dX12_ship_56 h (fun h hb11 => ?_)
      refine gk_callV (As := [gk_R 14 0, gk_I (M8 16 0 (Int32.toNatClampNeg a1)), gk_I (M8 16 1 (Int32.toNatClampNeg a1))]) (st := []) 1 (cr_X12_92 (by decide) rfl) (fun K' h' => ok_X12_driftToday (M8 16 0 (Int32.toNatClampNeg a1)) (M8 16 1 (Int32.toNatClampNeg a1)) M8 K' h') rfl (by decide) (by decide) (fun _ => Nat.le_of_ble_eq_true rfl) dX12_ship_57 h (fun _ M12 h => ?_)
      refine gk_iload_n dX12_ship_60 rfl rfl ?_
      rcases Decidable.em (a2 = (0 : Int32)) with e0 | e0
      · refine gk_tabIn (tgt := 104) dX12_ship_61 (0 : Int32) e0 (by decide) (by decide) rfl (by decide) ?_
        have h := h.ite.1 e0
        refine gk_aload_n dX12_ship_104 rfl rfl ?_
        refine gk_get (v := gk_R 16 0) fr_X12_23 pf_14_7 (by decide) dX12_ship_105 ?_
        refine gk_iload_n dX12_ship_108 rfl rfl ?_
        refine gk_iald ga_16 (by decide) dX12_ship_109 h (fun h hb14 => ?_)
        exact gk_iret dX12_ship_110 rfl h
      · have h := h.ite.2 e0
        rcases Decidable.em (a2 = (1 : Int32)) with e1 | e1
        · refine gk_tabIn (tgt := 111) dX12_ship_61 (1 : Int32) e1 (by decide) (by decide) rfl (by decide) ?_
          have h := h.ite.1 e1
          refine gk_aload_n dX12_ship_111 rfl rfl ?_
          refine gk_get (v := gk_R 16 1) fr_X12_26 pf_14_8 (by decide) dX12_ship_112 ?_
          refine gk_iload_n dX12_ship_115 rfl rfl ?_
          refine gk_iald ga_16 (by decide) dX12_ship_116 h (fun h hb15 => ?_)
          exact gk_iret dX12_ship_117 rfl h
        · have h := h.ite.2 e1
          rcases Decidable.em (a2 = (2 : Int32)) with e2 | e2
          · refine gk_tabIn (tgt := 118) dX12_ship_61 (2 : Int32) e2 (by decide) (by decide) rfl (by decide) ?_
            have h := h.ite.1 e2
            refine gk_aload_n dX12_ship_118 rfl rfl ?_
            refine gk_get (v := gk_R 16 2) fr_X12_29 pf_14_9 (by decide) dX12_ship_119 ?_
            refine gk_iload_n dX12_ship_122 rfl rfl ?_
            refine gk_iald ga_16 (by decide) dX12_ship_123 h (fun h hb16 => ?_)
            exact gk_iret dX12_ship_124 rfl h
          · have h := h.ite.2 e2
            rcases Decidable.em (a2 = (3 : Int32)) with e3 | e3
            · refine gk_tabIn (tgt := 125) dX12_ship_61 (3 : Int32) e3 (by decide) (by decide) rfl (by decide) ?_
              have h := h.ite.1 e3
              refine gk_aload_n dX12_ship_125 rfl rfl ?_
              refine gk_get (v := gk_R 16 3) fr_X12_32 pf_14_10 (by decide) dX12_ship_126 ?_
              refine gk_iload_n dX12_ship_129 rfl rfl ?_
              refine gk_iald ga_16 (by decide) dX12_ship_130 h (fun h hb17 => ?_)
              exact gk_iret dX12_ship_131 rfl h
            · have h := h.ite.2 e3
              rcases Decidable.em (a2 = (4 : Int32)) with e4 | e4
              · refine gk_tabIn (tgt := 132) dX12_ship_61 (4 : Int32) e4 (by decide) (by decide) rfl (by decide) ?_
                have h := h.ite.1 e4
                refine gk_ldc dX12_ship_132 kc_X12_193 ?_
                refine gk_aload_n dX12_ship_134 rfl rfl ?_
                refine gk_get (v := gk_R 16 4) fr_X12_35 pf_14_11 (by decide) dX12_ship_135 ?_
                refine gk_iload_n dX12_ship_138 rfl rfl ?_
                refine gk_iald ga_16 (by decide) dX12_ship_139 h (fun h hb18 => ?_)
                refine gk_iadd dX12_ship_140 ?_
                exact gk_iret dX12_ship_141 rfl h
              · have h := h.ite.2 e4
                rcases Decidable.em (a2 = (5 : Int32)) with e5 | e5
                · refine gk_tabIn (tgt := 142) dX12_ship_61 (5 : Int32) e5 (by decide) (by decide) rfl (by decide) ?_
                  have h := h.ite.1 e5
                  refine gk_ldc dX12_ship_142 kc_X12_193 ?_
                  refine gk_aload_n dX12_ship_144 rfl rfl ?_
                  refine gk_get (v := gk_R 16 5) fr_X12_38 pf_14_12 (by decide) dX12_ship_145 ?_
                  refine gk_iload_n dX12_ship_148 rfl rfl ?_
                  refine gk_iald ga_16 (by decide) dX12_ship_149 h (fun h hb19 => ?_)
                  refine gk_iadd dX12_ship_150 ?_
                  exact gk_iret dX12_ship_151 rfl h
                · have h := h.ite.2 e5
                  rcases Decidable.em (a2 = (6 : Int32)) with e6 | e6
                  · refine gk_tabIn (tgt := 152) dX12_ship_61 (6 : Int32) e6 (by decide) (by decide) rfl (by decide) ?_
                    have h := h.ite.1 e6
                    refine gk_ldc dX12_ship_152 kc_X12_193 ?_
                    refine gk_aload_n dX12_ship_154 rfl rfl ?_
                    refine gk_getI fr_X12_82 si_14_15 (by decide) dX12_ship_155 ?_
                    refine gk_iadd dX12_ship_158 ?_
                    exact gk_iret dX12_ship_159 rfl h
                  · have h := h.ite.2 e6
                    have q0 : (a2).toInt ≠ 0 := gk_ne_toInt e0
                    have q1 : (a2).toInt ≠ 1 := gk_ne_toInt e1
                    have q2 : (a2).toInt ≠ 2 := gk_ne_toInt e2
                    have q3 : (a2).toInt ≠ 3 := gk_ne_toInt e3
                    have q4 : (a2).toInt ≠ 4 := gk_ne_toInt e4
                    have q5 : (a2).toInt ≠ 5 := gk_ne_toInt e5
                    have q6 : (a2).toInt ≠ 6 := gk_ne_toInt e6
                    refine gk_tabOut (tgt := 160) dX12_ship_61 (by omega) (by decide) ?_
                    refine gk_ldc dX12_ship_160 kc_X12_193 ?_
                    refine gk_aload_n dX12_ship_162 rfl rfl ?_
                    refine gk_getI fr_X12_85 si_14_16 (by decide) dX12_ship_163 ?_
                    refine gk_iadd dX12_ship_166 ?_
                    exact gk_iret dX12_ship_167 rfl h
    · exact gk_weak [some (gk_R 14 0), some (gk_I a1), none] (And.intro rfl (And.intro rfl True.intro)) (ok_X12_ship_j25 a1 M8 h)
set_option maxRecDepth 100000 in
set_option maxHeartbeats 4000000 in
theorem ok_X12_windTold (a1 : Int32) (M : gk_M) (K : gk_V → gk_M → Prop) (h : gk_Sat gk_I (f_X12_windTold a1 M) K) : gk_MS 0 yX12_windTold cX12_windTold 2 (some .int) [gk_R 14 0, gk_I a1] M K := by

  refine gk_MS_of [some (gk_R 14 0), some (gk_I a1)] (by decide +kernel) (Nat.le_of_ble_eq_true rfl) (And.intro rfl (And.intro rfl True.intro)) ?_
  show gk_G RX12 cX12_windTold 2 0 (some .int) none K 0 [some (gk_R 14 0), some (gk_I a1)] [] M
  refine gk_bipush (v := (10 : Int32)) dX12_windTold_0 (by decide) ?_
  refine gk_aload_n dX12_windTold_2 rfl rfl ?_
  refine gk_get (v := gk_R 15 0) fr_X12_16 pf_14_5 (by decide) dX12_windTold_3 ?_
  refine gk_iload_n dX12_windTold_6 rfl rfl ?_
  refine gk_iald ga_15 (by decide) dX12_windTold_7 h (fun h hb1 => ?_)
  refine gk_iconst (v := (4 : Int32)) dX12_windTold_8 (by decide) ?_
  refine gk_iadd dX12_windTold_9 ?_
  refine gk_imul dX12_windTold_10 ?_
  refine gk_aload_n dX12_windTold_11 rfl rfl ?_
  refine gk_get (v := gk_R 15 1) fr_X12_20 pf_14_6 (by decide) dX12_windTold_12 ?_
  refine gk_iload_n dX12_windTold_15 rfl rfl ?_
  refine gk_iald ga_15 (by decide) dX12_windTold_16 h (fun h hb2 => ?_)
  refine gk_iadd dX12_windTold_17 ?_
  refine gk_iconst (v := (4 : Int32)) dX12_windTold_18 (by decide) ?_
  refine gk_iadd dX12_windTold_19 ?_
  exact gk_iret dX12_windTold_20 rfl h
set_option maxRecDepth 100000 in
set_option maxHeartbeats 4000000 in
theorem ok_X12_wind (a1 : Int32) (M : gk_M) (K : gk_V → gk_M → Prop) (h : gk_Sat gk_I (f_X12_wind a1 M) K) : gk_MS 1 yX12_wind cX12_wind 2 (some .int) [gk_R 14 0, gk_I a1] M K := by

  refine gk_MS_of [some (gk_R 14 0), some (gk_I a1)] (by decide +kernel) (Nat.le_of_ble_eq_true rfl) (And.intro rfl (And.intro rfl True.intro)) ?_
  show gk_G RX12 cX12_wind 2 1 (some .int) none K 0 [some (gk_R 14 0), some (gk_I a1)] [] M
  refine gk_aload_n dX12_wind_0 rfl rfl ?_
  refine gk_iconst (v := (0 : Int32)) dX12_wind_1 (by decide) ?_
  refine gk_putI fr_X12_65 si_14_13 (by decide) dX12_wind_2 h (fun M1 h => ?_)
  refine gk_iload_n dX12_wind_5 rfl rfl ?_
  refine gk_i2l dX12_wind_6 ?_
  refine gk_lconst (v := (0 : Int64)) dX12_wind_7 (by decide) ?_
  refine gk_ldc2 dX12_wind_8 kc_X12_194 ?_
  refine gk_callI (As := [gk_L (Int32.toInt64 a1), gk_L (0 : Int64), gk_L (6 : Int64)]) (st := []) 0 (cr_X12_71 rfl) (fun K' h' => ok_X12_in (Int32.toInt64 a1) (0 : Int64) (6 : Int64) M1 K' h') rfl (by decide) (by decide) (fun _ => Nat.le_of_ble_eq_true rfl) dX12_wind_11 h (fun r3 M2 h => ?_)
  refine gk_if_eq (tgt := 25) dX12_wind_14 (by decide) h (fun h => ?_) (fun h => ?_)
  · refine gk_aload_n dX12_wind_25 rfl rfl ?_
    refine gk_iconst (v := (-1 : Int32)) dX12_wind_26 (by decide) ?_
    refine gk_callI (As := [gk_R 14 0, gk_I (-1 : Int32)]) (st := []) 0 (cr_X12_134 (by decide) rfl) (fun K' h' => ok_X12_refuse (-1 : Int32) M2 K' h') rfl (by decide) (by decide) (fun _ => Nat.le_of_ble_eq_true rfl) dX12_wind_27 h (fun r5 M4 h => ?_)
    exact gk_iret dX12_wind_30 rfl h
  · refine gk_aload_n dX12_wind_17 rfl rfl ?_
    refine gk_iload_n dX12_wind_18 rfl rfl ?_
    refine gk_callI (As := [gk_R 14 0, gk_I a1]) (st := []) 0 (cr_X12_196 (by decide) rfl) (fun K' h' => ok_X12_windTold a1 M2 K' h') rfl (by decide) (by decide) (fun _ => Nat.le_of_ble_eq_true rfl) dX12_wind_19 h (fun r7 M6 h => ?_)
    refine gk_goto (tgt := 30) dX12_wind_22 (by decide) ?_
    exact gk_iret dX12_wind_30 rfl h
set_option maxRecDepth 100000 in
set_option maxHeartbeats 4000000 in
theorem ok_X12_blow_j54 {K : gk_V → gk_M → Prop} (x1 : Int32) (x2 : Int32) (x3 : Int32) (s0 : Int32) (M : gk_M) (h : gk_Sat gk_I (X12_blow_j54 x1 x2 x3 s0 M) K) : gk_G RX12 cX12_blow 6 1 (some .int) none K 54 [some (gk_R 14 0), some (gk_I x1), some (gk_I x2), some (gk_I x3), none, none] [gk_I s0] M := by
  refine gk_istore (L' := [some (gk_R 14 0), some (gk_I x1), some (gk_I x2), some (gk_I x3), some (gk_I s0), none]) dX12_blow_54 (by decide) rfl rfl ?_
  refine gk_iload dX12_blow_56 rfl ?_
  refine gk_if_ge (tgt := 68) dX12_blow_58 (by decide) h (fun h => ?_) (fun h => ?_)
  · refine gk_aload_n dX12_blow_68 rfl rfl ?_
    refine gk_iload_n dX12_blow_69 rfl rfl ?_
    refine gk_callI (As := [gk_R 14 0, gk_I x1]) (st := []) 0 (cr_X12_196 (by decide) rfl) (fun K' h' => ok_X12_windTold x1 M K' h') rfl (by decide) (by decide) (fun _ => Nat.le_of_ble_eq_true rfl) dX12_blow_70 h (fun r5 M4 h => ?_)
    refine gk_istore (L' := [some (gk_R 14 0), some (gk_I x1), some (gk_I x2), some (gk_I x3), some (gk_I s0), some (gk_I r5)]) dX12_blow_73 (by decide) rfl rfl ?_
    refine gk_aload_n dX12_blow_75 rfl rfl ?_
    refine gk_get (v := gk_R 15 0) fr_X12_16 pf_14_5 (by decide) dX12_blow_76 ?_
    refine gk_iload_n dX12_blow_79 rfl rfl ?_
    refine gk_iload_n dX12_blow_80 rfl rfl ?_
    refine gk_iast ga_15 (by decide) dX12_blow_81 h (fun M6 h => ?_)
    refine gk_aload_n dX12_blow_82 rfl rfl ?_
    refine gk_get (v := gk_R 15 1) fr_X12_20 pf_14_6 (by decide) dX12_blow_83 ?_
    refine gk_iload_n dX12_blow_86 rfl rfl ?_
    refine gk_iload_n dX12_blow_87 rfl rfl ?_
    refine gk_iast ga_15 (by decide) dX12_blow_88 h (fun M7 h => ?_)
    refine gk_iload dX12_blow_89 rfl ?_
    exact gk_iret dX12_blow_91 rfl h
  · refine gk_aload_n dX12_blow_61 rfl rfl ?_
    refine gk_iload dX12_blow_62 rfl ?_
    refine gk_callI (As := [gk_R 14 0, gk_I s0]) (st := []) 0 (cr_X12_134 (by decide) rfl) (fun K' h' => ok_X12_refuse s0 M K' h') rfl (by decide) (by decide) (fun _ => Nat.le_of_ble_eq_true rfl) dX12_blow_64 h (fun r9 M8 h => ?_)
    exact gk_iret dX12_blow_67 rfl h
set_option maxRecDepth 100000 in
set_option maxHeartbeats 4000000 in
theorem ok_X12_blow_j33 {K : gk_V → gk_M → Prop} (x1 : Int32) (x2 : Int32) (x3 : Int32) (M : gk_M) (h : gk_Sat gk_I (X12_blow_j33 x1 x2 x3 M) K) : gk_G RX12 cX12_blow 6 1 (some .int) none K 33 [some (gk_R 14 0), some (gk_I x1), some (gk_I x2), some (gk_I x3), none, none] [] M := by
  refine gk_bipush (v := (-4 : Int32)) dX12_blow_33 (by decide) ?_
  refine gk_goto (tgt := 54) dX12_blow_35 (by decide) ?_
  exact gk_weak [some (gk_R 14 0), some (gk_I x1), some (gk_I x2), some (gk_I x3), none, none] (And.intro rfl (And.intro rfl (And.intro rfl (And.intro rfl True.intro)))) (ok_X12_blow_j54 x1 x2 x3 ((-4 : Int32)) M h)
set_option maxRecDepth 100000 in
set_option maxHeartbeats 4000000 in
theorem ok_X12_blow_j48 {K : gk_V → gk_M → Prop} (x1 : Int32) (x2 : Int32) (x3 : Int32) (M : gk_M) (h : gk_Sat gk_I (X12_blow_j48 x1 x2 x3 M) K) : gk_G RX12 cX12_blow 6 1 (some .int) none K 48 [some (gk_R 14 0), some (gk_I x1), some (gk_I x2), some (gk_I x3), none, none] [] M := by
  refine gk_bipush (v := (-6 : Int32)) dX12_blow_48 (by decide) ?_
  refine gk_goto (tgt := 54) dX12_blow_50 (by decide) ?_
  exact gk_weak [some (gk_R 14 0), some (gk_I x1), some (gk_I x2), some (gk_I x3), none, none] (And.intro rfl (And.intro rfl (And.intro rfl (And.intro rfl True.intro)))) (ok_X12_blow_j54 x1 x2 x3 ((-6 : Int32)) M h)
set_option maxRecDepth 100000 in
set_option maxHeartbeats 4000000 in
theorem ok_X12_blow (a1 : Int32) (a2 : Int32) (a3 : Int32) (M : gk_M) (K : gk_V → gk_M → Prop) (h : gk_Sat gk_I (f_X12_blow a1 a2 a3 M) K) : gk_MS 1 yX12_blow cX12_blow 6 (some .int) [gk_R 14 0, gk_I a1, gk_I a2, gk_I a3] M K := by

  refine gk_MS_of [some (gk_R 14 0), some (gk_I a1), some (gk_I a2), some (gk_I a3), none, none] (by decide +kernel) (Nat.le_of_ble_eq_true rfl) (And.intro rfl (And.intro rfl (And.intro rfl (And.intro rfl True.intro)))) ?_
  show gk_G RX12 cX12_blow 6 1 (some .int) none K 0 [some (gk_R 14 0), some (gk_I a1), some (gk_I a2), some (gk_I a3), none, none] [] M
  refine gk_aload_n dX12_blow_0 rfl rfl ?_
  refine gk_iconst (v := (0 : Int32)) dX12_blow_1 (by decide) ?_
  refine gk_putI fr_X12_65 si_14_13 (by decide) dX12_blow_2 h (fun M1 h => ?_)
  refine gk_iload_n dX12_blow_5 rfl rfl ?_
  refine gk_i2l dX12_blow_6 ?_
  refine gk_lconst (v := (0 : Int64)) dX12_blow_7 (by decide) ?_
  refine gk_ldc2 dX12_blow_8 kc_X12_194 ?_
  refine gk_callI (As := [gk_L (Int32.toInt64 a1), gk_L (0 : Int64), gk_L (6 : Int64)]) (st := []) 0 (cr_X12_71 rfl) (fun K' h' => ok_X12_in (Int32.toInt64 a1) (0 : Int64) (6 : Int64) M1 K' h') rfl (by decide) (by decide) (fun _ => Nat.le_of_ble_eq_true rfl) dX12_blow_11 h (fun r3 M2 h => ?_)
  refine gk_if_ne (tgt := 21) dX12_blow_14 (by decide) h (fun h => ?_) (fun h => ?_)
  · refine gk_iload_n dX12_blow_21 rfl rfl ?_
    refine gk_bipush (v := (-4 : Int32)) dX12_blow_22 (by decide) ?_
    refine gk_icmp_lt (tgt := 33) dX12_blow_24 (by decide) h (fun h => ?_) (fun h => ?_)
    · exact gk_weak [some (gk_R 14 0), some (gk_I a1), some (gk_I a2), some (gk_I a3), none, none] (And.intro rfl (And.intro rfl (And.intro rfl (And.intro rfl True.intro)))) (ok_X12_blow_j33 a1 a2 a3 M2 h)
    · refine gk_iload_n dX12_blow_27 rfl rfl ?_
      refine gk_bipush (v := (-4 : Int32)) dX12_blow_28 (by decide) ?_
      refine gk_icmp_ge (tgt := 38) dX12_blow_30 (by decide) h (fun h => ?_) (fun h => ?_)
      · refine gk_iload_n dX12_blow_38 rfl rfl ?_
        refine gk_iconst (v := (4 : Int32)) dX12_blow_39 (by decide) ?_
        refine gk_icmp_gt (tgt := 48) dX12_blow_40 (by decide) h (fun h => ?_) (fun h => ?_)
        · exact gk_weak [some (gk_R 14 0), some (gk_I a1), some (gk_I a2), some (gk_I a3), none, none] (And.intro rfl (And.intro rfl (And.intro rfl (And.intro rfl True.intro)))) (ok_X12_blow_j48 a1 a2 a3 M2 h)
        · refine gk_iload_n dX12_blow_43 rfl rfl ?_
          refine gk_iconst (v := (4 : Int32)) dX12_blow_44 (by decide) ?_
          refine gk_icmp_le (tgt := 53) dX12_blow_45 (by decide) h (fun h => ?_) (fun h => ?_)
          · refine gk_iconst (v := (0 : Int32)) dX12_blow_53 (by decide) ?_
            exact gk_weak [some (gk_R 14 0), some (gk_I a1), some (gk_I a2), some (gk_I a3), none, none] (And.intro rfl (And.intro rfl (And.intro rfl (And.intro rfl True.intro)))) (ok_X12_blow_j54 a1 a2 a3 ((0 : Int32)) M2 h)
          · exact gk_weak [some (gk_R 14 0), some (gk_I a1), some (gk_I a2), some (gk_I a3), none, none] (And.intro rfl (And.intro rfl (And.intro rfl (And.intro rfl True.intro)))) (ok_X12_blow_j48 a1 a2 a3 M2 h)
      · exact gk_weak [some (gk_R 14 0), some (gk_I a1), some (gk_I a2), some (gk_I a3), none, none] (And.intro rfl (And.intro rfl (And.intro rfl (And.intro rfl True.intro)))) (ok_X12_blow_j33 a1 a2 a3 M2 h)
  · refine gk_iconst (v := (-1 : Int32)) dX12_blow_17 (by decide) ?_
    refine gk_goto (tgt := 54) dX12_blow_18 (by decide) ?_
    exact gk_weak [some (gk_R 14 0), some (gk_I a1), some (gk_I a2), some (gk_I a3), none, none] (And.intro rfl (And.intro rfl (And.intro rfl (And.intro rfl True.intro)))) (ok_X12_blow_j54 a1 a2 a3 ((-1 : Int32)) M2 h)
set_option maxRecDepth 100000 in
set_option maxHeartbeats 4000000 in
theorem ok_X12_set_j109 {K : gk_V → gk_M → Prop} (x4 : Int32) (s0 : Int32) (M : gk_M) (h : gk_Sat gk_I (X12_set_j109 x4 s0 M) K) : gk_G RX12 cX12_set 5 1 (some .int) none K 109 [none, none, none, none, some (gk_I x4)] [gk_I s0, gk_R 14 0] M := by
  refine gk_putI fr_X12_13 si_14_2 (by decide) dX12_set_109 h (fun M5 h => ?_)
  refine gk_iload dX12_set_112 rfl ?_
  exact gk_iret dX12_set_114 rfl h
set_option maxRecDepth 100000 in
set_option maxHeartbeats 4000000 in
theorem ok_X12_set_j92 {K : gk_V → gk_M → Prop} (x1 : Int32) (x2 : Int32) (x4 : Int32) (s0 : Int32) (M : gk_M) (h : gk_Sat gk_I (X12_set_j92 x1 x2 x4 s0 M) K) : gk_G RX12 cX12_set 5 1 (some .int) none K 92 [some (gk_R 14 0), some (gk_I x1), some (gk_I x2), none, some (gk_I x4)] [gk_I s0, gk_R 14 0] M := by
  refine gk_putI fr_X12_7 si_14_1 (by decide) dX12_set_92 h (fun M4 h => ?_)
  refine gk_aload_n dX12_set_95 rfl rfl ?_
  refine gk_iload_n dX12_set_96 rfl rfl ?_
  refine gk_iconst (v := (1 : Int32)) dX12_set_97 (by decide) ?_
  refine gk_icmp_ne (tgt := 105) dX12_set_98 (by decide) h (fun h => ?_) (fun h => ?_)
  · refine gk_aload_n dX12_set_105 rfl rfl ?_
    refine gk_getI fr_X12_13 si_14_2 (by decide) dX12_set_106 ?_
    exact gk_weak [none, none, none, none, some (gk_I x4)] (And.intro rfl True.intro) (ok_X12_set_j109 x4 ((M4 14 0 2)) M4 h)
  · refine gk_iload_n dX12_set_101 rfl rfl ?_
    refine gk_goto (tgt := 109) dX12_set_102 (by decide) ?_
    exact gk_weak [none, none, none, none, some (gk_I x4)] (And.intro rfl True.intro) (ok_X12_set_j109 x4 x2 M4 h)
set_option maxRecDepth 100000 in
set_option maxHeartbeats 4000000 in
theorem ok_X12_set_j77 {K : gk_V → gk_M → Prop} (x1 : Int32) (x2 : Int32) (s0 : Int32) (M : gk_M) (h : gk_Sat gk_I (X12_set_j77 x1 x2 s0 M) K) : gk_G RX12 cX12_set 5 1 (some .int) none K 77 [some (gk_R 14 0), some (gk_I x1), some (gk_I x2), none, none] [gk_I s0] M := by
  refine gk_istore (L' := [some (gk_R 14 0), some (gk_I x1), some (gk_I x2), none, some (gk_I s0)]) dX12_set_77 (by decide) rfl rfl ?_
  refine gk_aload_n dX12_set_79 rfl rfl ?_
  refine gk_iload_n dX12_set_80 rfl rfl ?_
  refine gk_if_ne (tgt := 88) dX12_set_81 (by decide) h (fun h => ?_) (fun h => ?_)
  · refine gk_aload_n dX12_set_88 rfl rfl ?_
    refine gk_getI fr_X12_7 si_14_1 (by decide) dX12_set_89 ?_
    exact gk_weak [some (gk_R 14 0), some (gk_I x1), some (gk_I x2), none, some (gk_I s0)] (And.intro rfl (And.intro rfl (And.intro rfl (And.intro rfl True.intro)))) (ok_X12_set_j92 x1 x2 s0 ((M 14 0 1)) M h)
  · refine gk_iload_n dX12_set_84 rfl rfl ?_
    refine gk_goto (tgt := 92) dX12_set_85 (by decide) ?_
    exact gk_weak [some (gk_R 14 0), some (gk_I x1), some (gk_I x2), none, some (gk_I s0)] (And.intro rfl (And.intro rfl (And.intro rfl (And.intro rfl True.intro)))) (ok_X12_set_j92 x1 x2 s0 x2 M h)
set_option maxRecDepth 100000 in
set_option maxHeartbeats 4000000 in
theorem ok_X12_set_j51 {K : gk_V → gk_M → Prop} (x1 : Int32) (x2 : Int32) (s0 : Int32) (M : gk_M) (h : gk_Sat gk_I (X12_set_j51 x1 x2 s0 M) K) : gk_G RX12 cX12_set 5 1 (some .int) none K 51 [some (gk_R 14 0), some (gk_I x1), some (gk_I x2), none, none] [gk_I s0] M := by
  refine gk_istore_n (L' := [some (gk_R 14 0), some (gk_I x1), some (gk_I x2), some (gk_I s0), none]) dX12_set_51 rfl (by decide) rfl rfl ?_
  refine gk_iload_n dX12_set_52 rfl rfl ?_
  refine gk_if_ge (tgt := 62) dX12_set_53 (by decide) h (fun h => ?_) (fun h => ?_)
  · refine gk_iload_n dX12_set_62 rfl rfl ?_
    refine gk_if_ne (tgt := 73) dX12_set_63 (by decide) h (fun h => ?_) (fun h => ?_)
    · refine gk_aload_n dX12_set_73 rfl rfl ?_
      refine gk_getI fr_X12_13 si_14_2 (by decide) dX12_set_74 ?_
      exact gk_weak [some (gk_R 14 0), some (gk_I x1), some (gk_I x2), none, none] (And.intro rfl (And.intro rfl (And.intro rfl True.intro))) (ok_X12_set_j77 x1 x2 ((M 14 0 2)) M h)
    · refine gk_aload_n dX12_set_66 rfl rfl ?_
      refine gk_getI fr_X12_7 si_14_1 (by decide) dX12_set_67 ?_
      refine gk_goto (tgt := 77) dX12_set_70 (by decide) ?_
      exact gk_weak [some (gk_R 14 0), some (gk_I x1), some (gk_I x2), none, none] (And.intro rfl (And.intro rfl (And.intro rfl True.intro))) (ok_X12_set_j77 x1 x2 ((M 14 0 1)) M h)
  · refine gk_aload_n dX12_set_56 rfl rfl ?_
    refine gk_iload_n dX12_set_57 rfl rfl ?_
    refine gk_callI (As := [gk_R 14 0, gk_I s0]) (st := []) 0 (cr_X12_134 (by decide) rfl) (fun K' h' => ok_X12_refuse s0 M K' h') rfl (by decide) (by decide) (fun _ => Nat.le_of_ble_eq_true rfl) dX12_set_58 h (fun r7 M6 h => ?_)
    exact gk_iret dX12_set_61 rfl h
set_option maxRecDepth 100000 in
set_option maxHeartbeats 4000000 in
theorem ok_X12_set_j42 {K : gk_V → gk_M → Prop} (x1 : Int32) (x2 : Int32) (s0 : Int32) (s1 : Int32) (M : gk_M) (h : gk_Sat gk_I (X12_set_j42 x1 x2 s0 s1 M) K) : gk_G RX12 cX12_set 5 1 (some .int) none K 42 [some (gk_R 14 0), some (gk_I x1), some (gk_I x2), none, none] [gk_I s0, gk_I s1] M := by
  refine gk_icmp_le (tgt := 50) dX12_set_42 (by decide) h (fun h => ?_) (fun h => ?_)
  · refine gk_iconst (v := (0 : Int32)) dX12_set_50 (by decide) ?_
    exact gk_weak [some (gk_R 14 0), some (gk_I x1), some (gk_I x2), none, none] (And.intro rfl (And.intro rfl (And.intro rfl True.intro))) (ok_X12_set_j51 x1 x2 ((0 : Int32)) M h)
  · refine gk_bipush (v := (-6 : Int32)) dX12_set_45 (by decide) ?_
    refine gk_goto (tgt := 51) dX12_set_47 (by decide) ?_
    exact gk_weak [some (gk_R 14 0), some (gk_I x1), some (gk_I x2), none, none] (And.intro rfl (And.intro rfl (And.intro rfl True.intro))) (ok_X12_set_j51 x1 x2 ((-6 : Int32)) M h)
set_option maxRecDepth 100000 in
set_option maxHeartbeats 4000000 in
theorem ok_X12_set (a1 : Int32) (a2 : Int32) (M : gk_M) (K : gk_V → gk_M → Prop) (h : gk_Sat gk_I (f_X12_set a1 a2 M) K) : gk_MS 1 yX12_set cX12_set 5 (some .int) [gk_R 14 0, gk_I a1, gk_I a2] M K := by

  refine gk_MS_of [some (gk_R 14 0), some (gk_I a1), some (gk_I a2), none, none] (by decide +kernel) (Nat.le_of_ble_eq_true rfl) (And.intro rfl (And.intro rfl (And.intro rfl True.intro))) ?_
  show gk_G RX12 cX12_set 5 1 (some .int) none K 0 [some (gk_R 14 0), some (gk_I a1), some (gk_I a2), none, none] [] M
  refine gk_aload_n dX12_set_0 rfl rfl ?_
  refine gk_iconst (v := (0 : Int32)) dX12_set_1 (by decide) ?_
  refine gk_putI fr_X12_65 si_14_13 (by decide) dX12_set_2 h (fun M1 h => ?_)
  refine gk_iload_n dX12_set_5 rfl rfl ?_
  refine gk_i2l dX12_set_6 ?_
  refine gk_lconst (v := (0 : Int64)) dX12_set_7 (by decide) ?_
  refine gk_lconst (v := (1 : Int64)) dX12_set_8 (by decide) ?_
  refine gk_callI (As := [gk_L (Int32.toInt64 a1), gk_L (0 : Int64), gk_L (1 : Int64)]) (st := []) 0 (cr_X12_71 rfl) (fun K' h' => ok_X12_in (Int32.toInt64 a1) (0 : Int64) (1 : Int64) M1 K' h') rfl (by decide) (by decide) (fun _ => Nat.le_of_ble_eq_true rfl) dX12_set_9 h (fun r3 M2 h => ?_)
  refine gk_if_ne (tgt := 20) dX12_set_12 (by decide) h (fun h => ?_) (fun h => ?_)
  · refine gk_iload_n dX12_set_20 rfl rfl ?_
    refine gk_iconst (v := (1 : Int32)) dX12_set_21 (by decide) ?_
    refine gk_icmp_ge (tgt := 30) dX12_set_22 (by decide) h (fun h => ?_) (fun h => ?_)
    · refine gk_iload_n dX12_set_30 rfl rfl ?_
      refine gk_iload_n dX12_set_31 rfl rfl ?_
      refine gk_if_ne (tgt := 40) dX12_set_32 (by decide) h (fun h => ?_) (fun h => ?_)
      · refine gk_bipush (v := (99 : Int32)) dX12_set_40 (by decide) ?_
        exact gk_weak [some (gk_R 14 0), some (gk_I a1), some (gk_I a2), none, none] (And.intro rfl (And.intro rfl (And.intro rfl True.intro))) (ok_X12_set_j42 a1 a2 ((99 : Int32)) a2 M2 h)
      · refine gk_bipush (v := (40 : Int32)) dX12_set_35 (by decide) ?_
        refine gk_goto (tgt := 42) dX12_set_37 (by decide) ?_
        exact gk_weak [some (gk_R 14 0), some (gk_I a1), some (gk_I a2), none, none] (And.intro rfl (And.intro rfl (And.intro rfl True.intro))) (ok_X12_set_j42 a1 a2 ((40 : Int32)) a2 M2 h)
    · refine gk_bipush (v := (-4 : Int32)) dX12_set_25 (by decide) ?_
      refine gk_goto (tgt := 51) dX12_set_27 (by decide) ?_
      exact gk_weak [some (gk_R 14 0), some (gk_I a1), some (gk_I a2), none, none] (And.intro rfl (And.intro rfl (And.intro rfl True.intro))) (ok_X12_set_j51 a1 a2 ((-4 : Int32)) M2 h)
  · refine gk_bipush (v := (-2 : Int32)) dX12_set_15 (by decide) ?_
    refine gk_goto (tgt := 51) dX12_set_17 (by decide) ?_
    exact gk_weak [some (gk_R 14 0), some (gk_I a1), some (gk_I a2), none, none] (And.intro rfl (And.intro rfl (And.intro rfl True.intro))) (ok_X12_set_j51 a1 a2 ((-2 : Int32)) M2 h)
set_option maxRecDepth 100000 in
set_option maxHeartbeats 4000000 in
theorem ok_X12_go_j41 {K : gk_V → gk_M → Prop} (s0 : Int32) (M : gk_M) (h : gk_Sat gk_I (X12_go_j41 s0 M) K) : gk_G RX12 cX12_go 3 4 (some .int) none K 41 [none, none, none] [gk_I s0, gk_R 14 0] M := by
  refine gk_callI (As := [gk_R 14 0, gk_I s0]) (st := []) 0 (cr_X12_134 (by decide) rfl) (fun K' h' => ok_X12_refuse s0 M K' h') rfl (by decide) (by decide) (fun _ => Nat.le_of_ble_eq_true rfl) dX12_go_41 h (fun r3 M2 h => ?_)
  exact gk_iret dX12_go_44 rfl h
set_option maxRecDepth 100000 in
set_option maxHeartbeats 4000000 in
theorem ok_X12_go_j28 {K : gk_V → gk_M → Prop} (x1 : Int32) (M : gk_M) (h : gk_Sat gk_I (X12_go_j28 x1 M) K) : gk_G RX12 cX12_go 3 4 (some .int) none K 28 [some (gk_R 14 0), some (gk_I x1), none] [] M := by
  refine gk_aload_n dX12_go_28 rfl rfl ?_
  refine gk_iload_n dX12_go_29 rfl rfl ?_
  refine gk_iconst (v := (1 : Int32)) dX12_go_30 (by decide) ?_
  refine gk_icmp_ge (tgt := 39) dX12_go_31 (by decide) h (fun h => ?_) (fun h => ?_)
  · refine gk_bipush (v := (-6 : Int32)) dX12_go_39 (by decide) ?_
    exact gk_weak [none, none, none] True.intro (ok_X12_go_j41 ((-6 : Int32)) M h)
  · refine gk_bipush (v := (-4 : Int32)) dX12_go_34 (by decide) ?_
    refine gk_goto (tgt := 41) dX12_go_36 (by decide) ?_
    exact gk_weak [none, none, none] True.intro (ok_X12_go_j41 ((-4 : Int32)) M h)
set_option maxRecDepth 100000 in
set_option maxHeartbeats 4000000 in
theorem ok_X12_go (a1 : Int32) (M : gk_M) (K : gk_V → gk_M → Prop) (h : gk_Sat gk_I (f_X12_go a1 M) K) : gk_MS 4 yX12_go cX12_go 3 (some .int) [gk_R 14 0, gk_I a1] M K := by

  refine gk_MS_of [some (gk_R 14 0), some (gk_I a1), none] (by decide +kernel) (Nat.le_of_ble_eq_true rfl) (And.intro rfl (And.intro rfl True.intro)) ?_
  show gk_G RX12 cX12_go 3 4 (some .int) none K 0 [some (gk_R 14 0), some (gk_I a1), none] [] M
  refine gk_aload_n dX12_go_0 rfl rfl ?_
  refine gk_iconst (v := (0 : Int32)) dX12_go_1 (by decide) ?_
  refine gk_putI fr_X12_65 si_14_13 (by decide) dX12_go_2 h (fun M1 h => ?_)
  refine gk_iload_n dX12_go_5 rfl rfl ?_
  refine gk_iconst (v := (1 : Int32)) dX12_go_6 (by decide) ?_
  refine gk_icmp_lt (tgt := 28) dX12_go_7 (by decide) h (fun h => ?_) (fun h => ?_)
  · exact gk_weak [some (gk_R 14 0), some (gk_I a1), none] (And.intro rfl (And.intro rfl True.intro)) (ok_X12_go_j28 a1 M1 h)
  · refine gk_iload_n dX12_go_10 rfl rfl ?_
    refine gk_bipush (v := (60 : Int32)) dX12_go_11 (by decide) ?_
    refine gk_icmp_gt (tgt := 28) dX12_go_13 (by decide) h (fun h => ?_) (fun h => ?_)
    · exact gk_weak [some (gk_R 14 0), some (gk_I a1), none] (And.intro rfl (And.intro rfl True.intro)) (ok_X12_go_j28 a1 M1 h)
    · refine gk_aload_n dX12_go_16 rfl rfl ?_
      refine gk_getI fr_X12_79 si_14_3 (by decide) dX12_go_17 ?_
      refine gk_iload_n dX12_go_20 rfl rfl ?_
      refine gk_iadd dX12_go_21 ?_
      refine gk_sipush (v := (9999 : Int32)) dX12_go_22 (by decide) ?_
      refine gk_icmp_le (tgt := 45) dX12_go_25 (by decide) h (fun h => ?_) (fun h => ?_)
      · refine gk_aload_n dX12_go_45 rfl rfl ?_
        refine gk_iload_n dX12_go_46 rfl rfl ?_
        refine gk_callI (As := [gk_R 14 0, gk_I a1]) (st := []) 3 (cr_X12_199 (by decide) rfl) (fun K' h' => ok_X12_daysOn a1 M1 K' h') rfl (by decide) (by decide) (fun _ => Nat.le_of_ble_eq_true rfl) dX12_go_47 h (fun r5 M4 h => ?_)
        refine gk_istore_n (L' := [some (gk_R 14 0), some (gk_I a1), some (gk_I r5)]) dX12_go_50 rfl (by decide) rfl rfl ?_
        refine gk_aload_n dX12_go_51 rfl rfl ?_
        refine gk_dup dX12_go_52 rfl ?_
        refine gk_getI fr_X12_124 si_14_4 (by decide) dX12_go_53 ?_
        refine gk_iload_n dX12_go_56 rfl rfl ?_
        refine gk_iadd dX12_go_57 ?_
        refine gk_putI fr_X12_124 si_14_4 (by decide) dX12_go_58 h (fun M6 h => ?_)
        refine gk_iload_n dX12_go_61 rfl rfl ?_
        exact gk_iret dX12_go_62 rfl h
      · exact gk_weak [some (gk_R 14 0), some (gk_I a1), none] (And.intro rfl (And.intro rfl True.intro)) (ok_X12_go_j28 a1 M1 h)
set_option maxRecDepth 100000 in
set_option maxHeartbeats 4000000 in
theorem ok_X12_far (a1 : Int32) (a2 : Int32) (M : gk_M) (K : gk_V → gk_M → Prop) (h : gk_Sat gk_I (f_X12_far a1 a2 M) K) : gk_MS 3 yX12_far cX12_far 3 (some .int) [gk_R 14 0, gk_I a1, gk_I a2] M K := by

  refine gk_MS_of [some (gk_R 14 0), some (gk_I a1), some (gk_I a2)] (by decide +kernel) (Nat.le_of_ble_eq_true rfl) (And.intro rfl (And.intro rfl (And.intro rfl True.intro))) ?_
  show gk_G RX12 cX12_far 3 3 (some .int) none K 0 [some (gk_R 14 0), some (gk_I a1), some (gk_I a2)] [] M
  refine gk_aload_n dX12_far_0 rfl rfl ?_
  refine gk_iconst (v := (0 : Int32)) dX12_far_1 (by decide) ?_
  refine gk_putI fr_X12_65 si_14_13 (by decide) dX12_far_2 h (fun M1 h => ?_)
  refine gk_aload_n dX12_far_5 rfl rfl ?_
  refine gk_iload_n dX12_far_6 rfl rfl ?_
  refine gk_iload_n dX12_far_7 rfl rfl ?_
  refine gk_callI (As := [gk_R 14 0, gk_I a1, gk_I a2]) (st := []) 2 (cr_X12_202 (by decide) rfl) (fun K' h' => ok_X12_areTwo a1 a2 M1 K' h') rfl (by decide) (by decide) (fun _ => Nat.le_of_ble_eq_true rfl) dX12_far_8 h (fun r3 M2 h => ?_)
  refine gk_if_eq (tgt := 23) dX12_far_11 (by decide) h (fun h => ?_) (fun h => ?_)
  · refine gk_aload_n dX12_far_23 rfl rfl ?_
    refine gk_iconst (v := (-1 : Int32)) dX12_far_24 (by decide) ?_
    refine gk_callI (As := [gk_R 14 0, gk_I (-1 : Int32)]) (st := []) 0 (cr_X12_134 (by decide) rfl) (fun K' h' => ok_X12_refuse (-1 : Int32) M2 K' h') rfl (by decide) (by decide) (fun _ => Nat.le_of_ble_eq_true rfl) dX12_far_25 h (fun r5 M4 h => ?_)
    exact gk_iret dX12_far_28 rfl h
  · refine gk_aload_n dX12_far_14 rfl rfl ?_
    refine gk_iload_n dX12_far_15 rfl rfl ?_
    refine gk_iload_n dX12_far_16 rfl rfl ?_
    refine gk_callI (As := [gk_R 14 0, gk_I a1, gk_I a2]) (st := []) 1 (cr_X12_107 (by decide) rfl) (fun K' h' => ok_X12_farBetween a1 a2 M2 K' h') rfl (by decide) (by decide) (fun _ => Nat.le_of_ble_eq_true rfl) dX12_far_17 h (fun r7 M6 h => ?_)
    refine gk_goto (tgt := 28) dX12_far_20 (by decide) ?_
    exact gk_iret dX12_far_28 rfl h
set_option maxRecDepth 100000 in
set_option maxHeartbeats 4000000 in
theorem ok_X12_open_j42 {K : gk_V → gk_M → Prop} (s0 : Int32) (M : gk_M) (h : gk_Sat gk_I (X12_open_j42 s0 M) K) : gk_G RX12 cX12_open 4 3 (some .int) none K 42 [none, none, none, none] [gk_I s0, gk_R 14 0] M := by
  refine gk_callI (As := [gk_R 14 0, gk_I s0]) (st := []) 0 (cr_X12_134 (by decide) rfl) (fun K' h' => ok_X12_refuse s0 M K' h') rfl (by decide) (by decide) (fun _ => Nat.le_of_ble_eq_true rfl) dX12_open_42 h (fun r7 M6 h => ?_)
  exact gk_iret dX12_open_45 rfl h
set_option maxRecDepth 100000 in
set_option maxHeartbeats 4000000 in
theorem ok_X12_open_j26 {K : gk_V → gk_M → Prop} (x1 : Int32) (x2 : Int32) (M : gk_M) (h : gk_Sat gk_I (X12_open_j26 x1 x2 M) K) : gk_G RX12 cX12_open 4 3 (some .int) none K 26 [some (gk_R 14 0), some (gk_I x1), some (gk_I x2), none] [] M := by
  refine gk_aload_n dX12_open_26 rfl rfl ?_
  refine gk_aload_n dX12_open_27 rfl rfl ?_
  refine gk_iload_n dX12_open_28 rfl rfl ?_
  refine gk_iload_n dX12_open_29 rfl rfl ?_
  refine gk_callI (As := [gk_R 14 0, gk_I x1, gk_I x2]) (st := [gk_R 14 0]) 2 (cr_X12_202 (by decide) rfl) (fun K' h' => ok_X12_areTwo x1 x2 M K' h') rfl (by decide) (by decide) (fun _ => Nat.le_of_ble_eq_true rfl) dX12_open_30 h (fun r5 M4 h => ?_)
  refine gk_if_eq (tgt := 41) dX12_open_33 (by decide) h (fun h => ?_) (fun h => ?_)
  · refine gk_iconst (v := (-1 : Int32)) dX12_open_41 (by decide) ?_
    exact gk_weak [none, none, none, none] True.intro (ok_X12_open_j42 ((-1 : Int32)) M4 h)
  · refine gk_bipush (v := (-2 : Int32)) dX12_open_36 (by decide) ?_
    refine gk_goto (tgt := 42) dX12_open_38 (by decide) ?_
    exact gk_weak [none, none, none, none] True.intro (ok_X12_open_j42 ((-2 : Int32)) M4 h)
set_option maxRecDepth 100000 in
set_option maxHeartbeats 4000000 in
theorem ok_X12_open_j76 {K : gk_V → gk_M → Prop} (s0 : Int32) (s1 : Int32) (M : gk_M) (h : gk_Sat gk_I (X12_open_j76 s0 s1 M) K) : gk_G RX12 cX12_open 4 3 (some .int) none K 76 [none, none, none, none] [gk_I s0, gk_I s1] M := by
  refine gk_icmp_gt (tgt := 83) dX12_open_76 (by decide) h (fun h => ?_) (fun h => ?_)
  · refine gk_iconst (v := (0 : Int32)) dX12_open_83 (by decide) ?_
    exact gk_iret dX12_open_84 rfl h
  · refine gk_iconst (v := (1 : Int32)) dX12_open_79 (by decide) ?_
    refine gk_goto (tgt := 84) dX12_open_80 (by decide) ?_
    exact gk_iret dX12_open_84 rfl h
set_option maxRecDepth 100000 in
set_option maxHeartbeats 4000000 in
theorem ok_X12_open (a1 : Int32) (a2 : Int32) (a3 : Int32) (M : gk_M) (K : gk_V → gk_M → Prop) (h : gk_Sat gk_I (f_X12_open a1 a2 a3 M) K) : gk_MS 3 yX12_open cX12_open 4 (some .int) [gk_R 14 0, gk_I a1, gk_I a2, gk_I a3] M K := by

  refine gk_MS_of [some (gk_R 14 0), some (gk_I a1), some (gk_I a2), some (gk_I a3)] (by decide +kernel) (Nat.le_of_ble_eq_true rfl) (And.intro rfl (And.intro rfl (And.intro rfl (And.intro rfl True.intro)))) ?_
  show gk_G RX12 cX12_open 4 3 (some .int) none K 0 [some (gk_R 14 0), some (gk_I a1), some (gk_I a2), some (gk_I a3)] [] M
  refine gk_aload_n dX12_open_0 rfl rfl ?_
  refine gk_iconst (v := (0 : Int32)) dX12_open_1 (by decide) ?_
  refine gk_putI fr_X12_65 si_14_13 (by decide) dX12_open_2 h (fun M1 h => ?_)
  refine gk_aload_n dX12_open_5 rfl rfl ?_
  refine gk_iload_n dX12_open_6 rfl rfl ?_
  refine gk_iload_n dX12_open_7 rfl rfl ?_
  refine gk_callI (As := [gk_R 14 0, gk_I a1, gk_I a2]) (st := []) 2 (cr_X12_202 (by decide) rfl) (fun K' h' => ok_X12_areTwo a1 a2 M1 K' h') rfl (by decide) (by decide) (fun _ => Nat.le_of_ble_eq_true rfl) dX12_open_8 h (fun r3 M2 h => ?_)
  refine gk_if_eq (tgt := 26) dX12_open_11 (by decide) h (fun h => ?_) (fun h => ?_)
  · exact gk_weak [some (gk_R 14 0), some (gk_I a1), some (gk_I a2), none] (And.intro rfl (And.intro rfl (And.intro rfl True.intro))) (ok_X12_open_j26 a1 a2 M2 h)
  · refine gk_iload_n dX12_open_14 rfl rfl ?_
    refine gk_i2l dX12_open_15 ?_
    refine gk_lconst (v := (0 : Int64)) dX12_open_16 (by decide) ?_
    refine gk_ldc2 dX12_open_17 kc_X12_206 ?_
    refine gk_callI (As := [gk_L (Int32.toInt64 a3), gk_L (0 : Int64), gk_L (2 : Int64)]) (st := []) 0 (cr_X12_71 rfl) (fun K' h' => ok_X12_in (Int32.toInt64 a3) (0 : Int64) (2 : Int64) M2 K' h') rfl (by decide) (by decide) (fun _ => Nat.le_of_ble_eq_true rfl) dX12_open_20 h (fun r9 M8 h => ?_)
    refine gk_if_ne (tgt := 46) dX12_open_23 (by decide) h (fun h => ?_) (fun h => ?_)
    · refine gk_aload_n dX12_open_46 rfl rfl ?_
      refine gk_iload_n dX12_open_47 rfl rfl ?_
      refine gk_iload_n dX12_open_48 rfl rfl ?_
      refine gk_callI (As := [gk_R 14 0, gk_I a1, gk_I a2]) (st := []) 1 (cr_X12_107 (by decide) rfl) (fun K' h' => ok_X12_farBetween a1 a2 M8 K' h') rfl (by decide) (by decide) (fun _ => Nat.le_of_ble_eq_true rfl) dX12_open_49 h (fun r11 M10 h => ?_)
      refine gk_iload_n dX12_open_52 rfl rfl ?_
      refine gk_if_ne (tgt := 63) dX12_open_53 (by decide) h (fun h => ?_) (fun h => ?_)
      · refine gk_iload_n dX12_open_63 rfl rfl ?_
        refine gk_iconst (v := (1 : Int32)) dX12_open_64 (by decide) ?_
        refine gk_icmp_ne (tgt := 72) dX12_open_65 (by decide) h (fun h => ?_) (fun h => ?_)
        · refine gk_aload_n dX12_open_72 rfl rfl ?_
          refine gk_getI fr_X12_13 si_14_2 (by decide) dX12_open_73 ?_
          exact gk_weak [none, none, none, none] True.intro (ok_X12_open_j76 ((M10 14 0 2)) r11 M10 h)
        · refine gk_iconst (v := (1 : Int32)) dX12_open_68 (by decide) ?_
          refine gk_goto (tgt := 76) dX12_open_69 (by decide) ?_
          exact gk_weak [none, none, none, none] True.intro (ok_X12_open_j76 ((1 : Int32)) r11 M10 h)
      · refine gk_aload_n dX12_open_56 rfl rfl ?_
        refine gk_getI fr_X12_7 si_14_1 (by decide) dX12_open_57 ?_
        refine gk_goto (tgt := 76) dX12_open_60 (by decide) ?_
        exact gk_weak [none, none, none, none] True.intro (ok_X12_open_j76 ((M10 14 0 1)) r11 M10 h)
    · exact gk_weak [some (gk_R 14 0), some (gk_I a1), some (gk_I a2), none] (And.intro rfl (And.intro rfl (And.intro rfl True.intro))) (ok_X12_open_j26 a1 a2 M8 h)
set_option maxRecDepth 100000 in
set_option maxHeartbeats 4000000 in
theorem ok_X12_wrongDays (a0 : Int32) (a1 : Int32) (M : gk_M) (K : gk_V → gk_M → Prop) (h : gk_Sat gk_I (f_X12_wrongDays a0 a1 M) K) : gk_MS 0 yX12_wrongDays cX12_wrongDays 2 (some .int) [gk_I a0, gk_I a1] M K := by

  refine gk_MS_of [some (gk_I a0), some (gk_I a1)] (by decide +kernel) (Nat.le_of_ble_eq_true rfl) (And.intro rfl (And.intro rfl True.intro)) ?_
  show gk_G RX12 cX12_wrongDays 2 0 (some .int) none K 0 [some (gk_I a0), some (gk_I a1)] [] M
  refine gk_iload_n dX12_wrongDays_0 rfl rfl ?_
  refine gk_if_ge (tgt := 9) dX12_wrongDays_1 (by decide) h (fun h => ?_) (fun h => ?_)
  · refine gk_iload_n dX12_wrongDays_9 rfl rfl ?_
    refine gk_iload_n dX12_wrongDays_10 rfl rfl ?_
    refine gk_icmp_le (tgt := 19) dX12_wrongDays_11 (by decide) h (fun h => ?_) (fun h => ?_)
    · refine gk_iconst (v := (0 : Int32)) dX12_wrongDays_19 (by decide) ?_
      exact gk_iret dX12_wrongDays_20 rfl h
    · refine gk_bipush (v := (-6 : Int32)) dX12_wrongDays_14 (by decide) ?_
      refine gk_goto (tgt := 20) dX12_wrongDays_16 (by decide) ?_
      exact gk_iret dX12_wrongDays_20 rfl h
  · refine gk_bipush (v := (-4 : Int32)) dX12_wrongDays_4 (by decide) ?_
    refine gk_goto (tgt := 20) dX12_wrongDays_6 (by decide) ?_
    exact gk_iret dX12_wrongDays_20 rfl h
set_option maxRecDepth 100000 in
set_option maxHeartbeats 4000000 in
theorem ok_X12_behind_j23 {K : gk_V → gk_M → Prop} (x1 : Int32) (x2 : Int32) (s0 : Int32) (M : gk_M) (h : gk_Sat gk_L (X12_behind_j23 x1 x2 s0 M) K) : gk_G RX12 cX12_behind 8 4 (some .long) none K 23 [some (gk_R 14 0), some (gk_I x1), some (gk_I x2), none, none, none, none, none] [gk_I s0] M := by
  refine gk_istore_n (L' := [some (gk_R 14 0), some (gk_I x1), some (gk_I x2), some (gk_I s0), none, none, none, none]) dX12_behind_23 rfl (by decide) rfl rfl ?_
  refine gk_iload_n dX12_behind_24 rfl rfl ?_
  refine gk_if_ge (tgt := 39) dX12_behind_25 (by decide) h (fun h => ?_) (fun h => ?_)
  · refine gk_aload_n dX12_behind_39 rfl rfl ?_
    refine gk_callV (As := [gk_R 14 0]) (st := []) 2 (cr_X12_182 (by decide) rfl) (fun K' h' => ok_X12_open0 M K' h') rfl (by decide) (by decide) (fun _ => Nat.le_of_ble_eq_true rfl) dX12_behind_40 h (fun _ M4 h => ?_)
    refine gk_aload_n dX12_behind_43 rfl rfl ?_
    refine gk_get (v := gk_R 16 4) fr_X12_35 pf_14_11 (by decide) dX12_behind_44 ?_
    refine gk_iload_n dX12_behind_47 rfl rfl ?_
    refine gk_iald ga_16 (by decide) dX12_behind_48 h (fun h hb6 => ?_)
    refine gk_istore (L' := [some (gk_R 14 0), some (gk_I x1), some (gk_I x2), some (gk_I s0), some (gk_I (M4 16 4 (Int32.toNatClampNeg x1))), none, none, none]) dX12_behind_49 (by decide) rfl rfl ?_
    refine gk_aload_n dX12_behind_51 rfl rfl ?_
    refine gk_get (v := gk_R 16 5) fr_X12_38 pf_14_12 (by decide) dX12_behind_52 ?_
    refine gk_iload_n dX12_behind_55 rfl rfl ?_
    refine gk_iald ga_16 (by decide) dX12_behind_56 h (fun h hb7 => ?_)
    refine gk_istore (L' := [some (gk_R 14 0), some (gk_I x1), some (gk_I x2), some (gk_I s0), some (gk_I (M4 16 4 (Int32.toNatClampNeg x1))), some (gk_I (M4 16 5 (Int32.toNatClampNeg x1))), none, none]) dX12_behind_57 (by decide) rfl rfl ?_
    refine gk_aload_n dX12_behind_59 rfl rfl ?_
    refine gk_iload_n dX12_behind_60 rfl rfl ?_
    refine gk_callI (As := [gk_R 14 0, gk_I x2]) (st := []) 3 (cr_X12_199 (by decide) rfl) (fun K' h' => ok_X12_daysOn x2 M4 K' h') rfl (by decide) (by decide) (fun _ => Nat.le_of_ble_eq_true rfl) dX12_behind_61 h (fun r9 M8 h => ?_)
    refine gk_pop dX12_behind_64 rfl ?_
    refine gk_ldc2 dX12_behind_65 kc_X12_213 ?_
    refine gk_aload_n dX12_behind_68 rfl rfl ?_
    refine gk_get (v := gk_R 16 4) fr_X12_35 pf_14_11 (by decide) dX12_behind_69 ?_
    refine gk_iload_n dX12_behind_72 rfl rfl ?_
    refine gk_iald ga_16 (by decide) dX12_behind_73 h (fun h hb10 => ?_)
    refine gk_iload dX12_behind_74 rfl ?_
    refine gk_isub dX12_behind_76 ?_
    refine gk_i2l dX12_behind_77 ?_
    refine gk_lmul dX12_behind_78 ?_
    refine gk_aload_n dX12_behind_79 rfl rfl ?_
    refine gk_get (v := gk_R 16 5) fr_X12_38 pf_14_12 (by decide) dX12_behind_80 ?_
    refine gk_iload_n dX12_behind_83 rfl rfl ?_
    refine gk_iald ga_16 (by decide) dX12_behind_84 h (fun h hb11 => ?_)
    refine gk_iload dX12_behind_85 rfl ?_
    refine gk_isub dX12_behind_87 ?_
    refine gk_i2l dX12_behind_88 ?_
    refine gk_ladd dX12_behind_89 ?_
    refine gk_lstore (L' := [some (gk_R 14 0), some (gk_I x1), some (gk_I x2), some (gk_I s0), some (gk_I (M4 16 4 (Int32.toNatClampNeg x1))), some (gk_I (M4 16 5 (Int32.toNatClampNeg x1))), some (gk_L (((100000 : Int64) * (Int32.toInt64 ((M8 16 4 (Int32.toNatClampNeg x1)) - (M4 16 4 (Int32.toNatClampNeg x1))))) + (Int32.toInt64 ((M8 16 5 (Int32.toNatClampNeg x1)) - (M4 16 5 (Int32.toNatClampNeg x1)))))), none]) dX12_behind_90 (by decide) rfl rfl ?_
    refine gk_aload_n dX12_behind_92 rfl rfl ?_
    refine gk_callV (As := [gk_R 14 0]) (st := []) 2 (cr_X12_188 (by decide) rfl) (fun K' h' => ok_X12_close M8 K' h') rfl (by decide) (by decide) (fun _ => Nat.le_of_ble_eq_true rfl) dX12_behind_93 h (fun _ M12 h => ?_)
    refine gk_lload dX12_behind_96 rfl ?_
    exact gk_lret dX12_behind_98 rfl h
  · refine gk_ldc2 dX12_behind_28 kc_X12_211 ?_
    refine gk_aload_n dX12_behind_31 rfl rfl ?_
    refine gk_iload_n dX12_behind_32 rfl rfl ?_
    refine gk_callI (As := [gk_R 14 0, gk_I s0]) (st := [gk_L (4000000000000000000 : Int64)]) 0 (cr_X12_134 (by decide) rfl) (fun K' h' => ok_X12_refuse s0 M K' h') rfl (by decide) (by decide) (fun _ => Nat.le_of_ble_eq_true rfl) dX12_behind_33 h (fun r15 M14 h => ?_)
    refine gk_i2l dX12_behind_36 ?_
    refine gk_lsub dX12_behind_37 ?_
    exact gk_lret dX12_behind_38 rfl h
set_option maxRecDepth 100000 in
set_option maxHeartbeats 4000000 in
theorem ok_X12_behind (a1 : Int32) (a2 : Int32) (M : gk_M) (K : gk_V → gk_M → Prop) (h : gk_Sat gk_L (f_X12_behind a1 a2 M) K) : gk_MS 4 yX12_behind cX12_behind 8 (some .long) [gk_R 14 0, gk_I a1, gk_I a2] M K := by

  refine gk_MS_of [some (gk_R 14 0), some (gk_I a1), some (gk_I a2), none, none, none, none, none] (by decide +kernel) (Nat.le_of_ble_eq_true rfl) (And.intro rfl (And.intro rfl (And.intro rfl True.intro))) ?_
  show gk_G RX12 cX12_behind 8 4 (some .long) none K 0 [some (gk_R 14 0), some (gk_I a1), some (gk_I a2), none, none, none, none, none] [] M
  refine gk_aload_n dX12_behind_0 rfl rfl ?_
  refine gk_iconst (v := (0 : Int32)) dX12_behind_1 (by decide) ?_
  refine gk_putI fr_X12_65 si_14_13 (by decide) dX12_behind_2 h (fun M1 h => ?_)
  refine gk_aload_n dX12_behind_5 rfl rfl ?_
  refine gk_iload_n dX12_behind_6 rfl rfl ?_
  refine gk_callI (As := [gk_R 14 0, gk_I a1]) (st := []) 1 (cr_X12_75 (by decide) rfl) (fun K' h' => ok_X12_isShip a1 M1 K' h') rfl (by decide) (by decide) (fun _ => Nat.le_of_ble_eq_true rfl) dX12_behind_7 h (fun r3 M2 h => ?_)
  refine gk_if_eq (tgt := 22) dX12_behind_10 (by decide) h (fun h => ?_) (fun h => ?_)
  · refine gk_iconst (v := (-1 : Int32)) dX12_behind_22 (by decide) ?_
    exact gk_weak [some (gk_R 14 0), some (gk_I a1), some (gk_I a2), none, none, none, none, none] (And.intro rfl (And.intro rfl (And.intro rfl True.intro))) (ok_X12_behind_j23 a1 a2 ((-1 : Int32)) M2 h)
  · refine gk_iload_n dX12_behind_13 rfl rfl ?_
    refine gk_bipush (v := (60 : Int32)) dX12_behind_14 (by decide) ?_
    refine gk_callI (As := [gk_I a2, gk_I (60 : Int32)]) (st := []) 0 (cr_X12_208 rfl) (fun K' h' => ok_X12_wrongDays a2 (60 : Int32) M2 K' h') rfl (by decide) (by decide) (fun _ => Nat.le_of_ble_eq_true rfl) dX12_behind_16 h (fun r17 M16 h => ?_)
    refine gk_goto (tgt := 23) dX12_behind_19 (by decide) ?_
    exact gk_weak [some (gk_R 14 0), some (gk_I a1), some (gk_I a2), none, none, none, none, none] (And.intro rfl (And.intro rfl (And.intro rfl True.intro))) (ok_X12_behind_j23 a1 a2 r17 M16 h)
set_option maxRecDepth 100000 in
set_option maxHeartbeats 4000000 in
theorem ok_X12_meet_j71 {K : gk_V → gk_M → Prop} (x3 : Int32) (M : gk_M) (h : gk_Sat gk_I (X12_meet_j71 x3 M) K) : gk_G RX12 cX12_meet 5 4 (some .int) none K 71 [some (gk_R 14 0), none, none, some (gk_I x3), none] [] M := by
  refine gk_aload_n dX12_meet_71 rfl rfl ?_
  refine gk_callV (As := [gk_R 14 0]) (st := []) 2 (cr_X12_188 (by decide) rfl) (fun K' h' => ok_X12_close M K' h') rfl (by decide) (by decide) (fun _ => Nat.le_of_ble_eq_true rfl) dX12_meet_72 h (fun _ M6 h => ?_)
  refine gk_iload_n dX12_meet_75 rfl rfl ?_
  exact gk_iret dX12_meet_76 rfl h
set_option maxRecDepth 100000 in
set_option maxHeartbeats 4000000 in
theorem ok_X12_meet_j58 {K : gk_V → gk_M → Prop} (κ30 : Int32 → Int32 → Int32 → Int32 → gk_M → Option (Int32 × gk_M)) (hκ30 : ∀ (x1 : Int32) (x2 : Int32) (x3 : Int32) (x4 : Int32) (M : gk_M), gk_Sat gk_I (κ30 x1 x2 x3 x4 M) K → gk_G RX12 cX12_meet 5 4 (some .int) none K 30 [some (gk_R 14 0), some (gk_I x1), some (gk_I x2), some (gk_I x3), some (gk_I x4)] [] M) (x1 : Int32) (x2 : Int32) (x4 : Int32) (s0 : Int32) (M : gk_M) (h : gk_Sat gk_I (X12_meet_j58 κ30 x1 x2 x4 s0 M) K) : gk_G RX12 cX12_meet 5 4 (some .int) none K 58 [some (gk_R 14 0), some (gk_I x1), some (gk_I x2), none, some (gk_I x4)] [gk_I s0] M := by
  refine gk_istore_n (L' := [some (gk_R 14 0), some (gk_I x1), some (gk_I x2), some (gk_I s0), some (gk_I x4)]) dX12_meet_58 rfl (by decide) rfl rfl ?_
  refine gk_aload_n dX12_meet_59 rfl rfl ?_
  refine gk_iconst (v := (1 : Int32)) dX12_meet_60 (by decide) ?_
  refine gk_callI (As := [gk_R 14 0, gk_I (1 : Int32)]) (st := []) 3 (cr_X12_199 (by decide) rfl) (fun K' h' => ok_X12_daysOn (1 : Int32) M K' h') rfl (by decide) (by decide) (fun _ => Nat.le_of_ble_eq_true rfl) dX12_meet_61 h (fun r11 M10 h => ?_)
  refine gk_pop dX12_meet_64 rfl ?_
  refine gk_iinc (v := (x4 + (1 : Int32))) (L' := [some (gk_R 14 0), some (gk_I x1), some (gk_I x2), some (gk_I s0), some (gk_I (x4 + (1 : Int32)))]) dX12_meet_65 rfl rfl (by decide) rfl rfl ?_
  refine gk_goto (tgt := 30) dX12_meet_68 (by decide) ?_
  exact gk_weak [some (gk_R 14 0), some (gk_I x1), some (gk_I x2), some (gk_I s0), some (gk_I (x4 + (1 : Int32)))] (And.intro rfl (And.intro rfl (And.intro rfl (And.intro rfl (And.intro rfl True.intro))))) (hκ30 x1 x2 s0 ((x4 + (1 : Int32))) M10 h)
set_option maxRecDepth 100000 in
set_option maxHeartbeats 4000000 in
theorem ok_X12_meet_l30 {K : gk_V → gk_M → Prop} : ∀ (n : Nat) (x1 : Int32) (x2 : Int32) (x3 : Int32) (x4 : Int32) (M : gk_M), gk_Sat gk_I (X12_meet_l30 n x1 x2 x3 x4 M) K → gk_G RX12 cX12_meet 5 4 (some .int) none K 30 [some (gk_R 14 0), some (gk_I x1), some (gk_I x2), some (gk_I x3), some (gk_I x4)] [] M := by
  intro n
  induction n with
  | zero => intro x1 x2 x3 x4 M h; exact h.no.elim
  | succ n ih =>
    intro x1 x2 x3 x4 M h
    refine gk_iload dX12_meet_30 rfl ?_
    refine gk_bipush (v := (60 : Int32)) dX12_meet_32 (by decide) ?_
    refine gk_icmp_gt (tgt := 71) dX12_meet_34 (by decide) h (fun h => ?_) (fun h => ?_)
    · exact gk_weak [some (gk_R 14 0), none, none, some (gk_I x3), none] (And.intro rfl (And.intro rfl True.intro)) (ok_X12_meet_j71 x3 M h)
    · refine gk_iload_n dX12_meet_37 rfl rfl ?_
      refine gk_if_ge (tgt := 71) dX12_meet_38 (by decide) h (fun h => ?_) (fun h => ?_)
      · exact gk_weak [some (gk_R 14 0), none, none, some (gk_I x3), none] (And.intro rfl (And.intro rfl True.intro)) (ok_X12_meet_j71 x3 M h)
      · refine gk_aload_n dX12_meet_41 rfl rfl ?_
        refine gk_iload_n dX12_meet_42 rfl rfl ?_
        refine gk_iload_n dX12_meet_43 rfl rfl ?_
        refine gk_callI (As := [gk_R 14 0, gk_I x1, gk_I x2]) (st := []) 1 (cr_X12_107 (by decide) rfl) (fun K' h' => ok_X12_farBetween x1 x2 M K' h') rfl (by decide) (by decide) (fun _ => Nat.le_of_ble_eq_true rfl) dX12_meet_44 h (fun r9 M8 h => ?_)
        refine gk_iconst (v := (1 : Int32)) dX12_meet_47 (by decide) ?_
        refine gk_icmp_gt (tgt := 56) dX12_meet_48 (by decide) h (fun h => ?_) (fun h => ?_)
        · refine gk_bipush (v := (-9 : Int32)) dX12_meet_56 (by decide) ?_
          exact gk_weak [some (gk_R 14 0), some (gk_I x1), some (gk_I x2), none, some (gk_I x4)] (And.intro rfl (And.intro rfl (And.intro rfl (And.intro rfl True.intro)))) (ok_X12_meet_j58 (X12_meet_l30 n) ih x1 x2 x4 ((-9 : Int32)) M8 h)
        · refine gk_iload dX12_meet_51 rfl ?_
          refine gk_goto (tgt := 58) dX12_meet_53 (by decide) ?_
          exact gk_weak [some (gk_R 14 0), some (gk_I x1), some (gk_I x2), none, some (gk_I x4)] (And.intro rfl (And.intro rfl (And.intro rfl (And.intro rfl True.intro)))) (ok_X12_meet_j58 (X12_meet_l30 n) ih x1 x2 x4 x4 M8 h)
set_option maxRecDepth 100000 in
set_option maxHeartbeats 4000000 in
theorem ok_X12_meet (a1 : Int32) (a2 : Int32) (M : gk_M) (K : gk_V → gk_M → Prop) (h : gk_Sat gk_I (f_X12_meet a1 a2 M) K) : gk_MS 4 yX12_meet cX12_meet 5 (some .int) [gk_R 14 0, gk_I a1, gk_I a2] M K := by

  refine gk_MS_of [some (gk_R 14 0), some (gk_I a1), some (gk_I a2), none, none] (by decide +kernel) (Nat.le_of_ble_eq_true rfl) (And.intro rfl (And.intro rfl (And.intro rfl True.intro))) ?_
  show gk_G RX12 cX12_meet 5 4 (some .int) none K 0 [some (gk_R 14 0), some (gk_I a1), some (gk_I a2), none, none] [] M
  refine gk_aload_n dX12_meet_0 rfl rfl ?_
  refine gk_iconst (v := (0 : Int32)) dX12_meet_1 (by decide) ?_
  refine gk_putI fr_X12_65 si_14_13 (by decide) dX12_meet_2 h (fun M1 h => ?_)
  refine gk_aload_n dX12_meet_5 rfl rfl ?_
  refine gk_iload_n dX12_meet_6 rfl rfl ?_
  refine gk_iload_n dX12_meet_7 rfl rfl ?_
  refine gk_callI (As := [gk_R 14 0, gk_I a1, gk_I a2]) (st := []) 2 (cr_X12_202 (by decide) rfl) (fun K' h' => ok_X12_areTwo a1 a2 M1 K' h') rfl (by decide) (by decide) (fun _ => Nat.le_of_ble_eq_true rfl) dX12_meet_8 h (fun r3 M2 h => ?_)
  refine gk_if_ne (tgt := 20) dX12_meet_11 (by decide) h (fun h => ?_) (fun h => ?_)
  · refine gk_aload_n dX12_meet_20 rfl rfl ?_
    refine gk_callV (As := [gk_R 14 0]) (st := []) 2 (cr_X12_182 (by decide) rfl) (fun K' h' => ok_X12_open0 M2 K' h') rfl (by decide) (by decide) (fun _ => Nat.le_of_ble_eq_true rfl) dX12_meet_21 h (fun _ M4 h => ?_)
    refine gk_bipush (v := (-9 : Int32)) dX12_meet_24 (by decide) ?_
    refine gk_istore_n (L' := [some (gk_R 14 0), some (gk_I a1), some (gk_I a2), some (gk_I (-9 : Int32)), none]) dX12_meet_26 rfl (by decide) rfl rfl ?_
    refine gk_iconst (v := (0 : Int32)) dX12_meet_27 (by decide) ?_
    refine gk_istore (L' := [some (gk_R 14 0), some (gk_I a1), some (gk_I a2), some (gk_I (-9 : Int32)), some (gk_I (0 : Int32))]) dX12_meet_28 (by decide) rfl rfl ?_
    exact gk_weak [some (gk_R 14 0), some (gk_I a1), some (gk_I a2), some (gk_I (-9 : Int32)), some (gk_I (0 : Int32))] (And.intro rfl (And.intro rfl (And.intro rfl (And.intro rfl (And.intro rfl True.intro))))) (ok_X12_meet_l30 200 a1 a2 ((-9 : Int32)) ((0 : Int32)) M4 h)
  · refine gk_aload_n dX12_meet_14 rfl rfl ?_
    refine gk_iconst (v := (-1 : Int32)) dX12_meet_15 (by decide) ?_
    refine gk_callI (As := [gk_R 14 0, gk_I (-1 : Int32)]) (st := []) 0 (cr_X12_134 (by decide) rfl) (fun K' h' => ok_X12_refuse (-1 : Int32) M2 K' h') rfl (by decide) (by decide) (fun _ => Nat.le_of_ble_eq_true rfl) dX12_meet_16 h (fun r13 M12 h => ?_)
    exact gk_iret dX12_meet_19 rfl h
set_option maxRecDepth 100000 in
set_option maxHeartbeats 4000000 in
theorem ok_X12_nearest_j131 {K : gk_V → gk_M → Prop} (κ81 : Int32 → Int32 → Int32 → Int32 → Int32 → Int32 → Int32 → gk_M → Option (Int32 × gk_M)) (hκ81 : ∀ (x1 : Int32) (x2 : Int32) (x3 : Int32) (x4 : Int32) (x6 : Int32) (x7 : Int32) (x8 : Int32) (M : gk_M), gk_Sat gk_I (κ81 x1 x2 x3 x4 x6 x7 x8 M) K → gk_G RX12 cX12_nearest 10 4 (some .int) none K 81 [some (gk_R 14 0), some (gk_I x1), some (gk_I x2), some (gk_I x3), some (gk_I x4), none, some (gk_I x6), some (gk_I x7), some (gk_I x8), none] [] M) (x1 : Int32) (x2 : Int32) (x3 : Int32) (x4 : Int32) (x6 : Int32) (x8 : Int32) (s0 : Int32) (M : gk_M) (h : gk_Sat gk_I (X12_nearest_j131 κ81 x1 x2 x3 x4 x6 x8 s0 M) K) : gk_G RX12 cX12_nearest 10 4 (some .int) none K 131 [some (gk_R 14 0), some (gk_I x1), some (gk_I x2), some (gk_I x3), some (gk_I x4), none, some (gk_I x6), none, some (gk_I x8), none] [gk_I s0] M := by
  refine gk_istore (L' := [some (gk_R 14 0), some (gk_I x1), some (gk_I x2), some (gk_I x3), some (gk_I x4), none, some (gk_I x6), some (gk_I s0), some (gk_I x8), none]) dX12_nearest_131 (by decide) rfl rfl ?_
  refine gk_iinc (v := (x8 + (1 : Int32))) (L' := [some (gk_R 14 0), some (gk_I x1), some (gk_I x2), some (gk_I x3), some (gk_I x4), none, some (gk_I x6), some (gk_I s0), some (gk_I (x8 + (1 : Int32))), none]) dX12_nearest_133 rfl rfl (by decide) rfl rfl ?_
  refine gk_goto (tgt := 81) dX12_nearest_136 (by decide) ?_
  exact gk_weak [some (gk_R 14 0), some (gk_I x1), some (gk_I x2), some (gk_I x3), some (gk_I x4), none, some (gk_I x6), some (gk_I s0), some (gk_I (x8 + (1 : Int32))), none] (And.intro rfl (And.intro rfl (And.intro rfl (And.intro rfl (And.intro rfl (And.intro rfl (And.intro rfl (And.intro rfl True.intro)))))))) (hκ81 x1 x2 x3 x4 x6 s0 ((x8 + (1 : Int32))) M h)
set_option maxRecDepth 100000 in
set_option maxHeartbeats 4000000 in
theorem ok_X12_nearest_j115 {K : gk_V → gk_M → Prop} (κ81 : Int32 → Int32 → Int32 → Int32 → Int32 → Int32 → Int32 → gk_M → Option (Int32 × gk_M)) (hκ81 : ∀ (x1 : Int32) (x2 : Int32) (x3 : Int32) (x4 : Int32) (x6 : Int32) (x7 : Int32) (x8 : Int32) (M : gk_M), gk_Sat gk_I (κ81 x1 x2 x3 x4 x6 x7 x8 M) K → gk_G RX12 cX12_nearest 10 4 (some .int) none K 81 [some (gk_R 14 0), some (gk_I x1), some (gk_I x2), some (gk_I x3), some (gk_I x4), none, some (gk_I x6), some (gk_I x7), some (gk_I x8), none] [] M) (x1 : Int32) (x2 : Int32) (x3 : Int32) (x4 : Int32) (x7 : Int32) (x8 : Int32) (x9 : Int32) (s0 : Int32) (M : gk_M) (h : gk_Sat gk_I (X12_nearest_j115 κ81 x1 x2 x3 x4 x7 x8 x9 s0 M) K) : gk_G RX12 cX12_nearest 10 4 (some .int) none K 115 [some (gk_R 14 0), some (gk_I x1), some (gk_I x2), some (gk_I x3), some (gk_I x4), none, none, some (gk_I x7), some (gk_I x8), some (gk_I x9)] [gk_I s0] M := by
  refine gk_istore (L' := [some (gk_R 14 0), some (gk_I x1), some (gk_I x2), some (gk_I x3), some (gk_I x4), none, some (gk_I s0), some (gk_I x7), some (gk_I x8), some (gk_I x9)]) dX12_nearest_115 (by decide) rfl rfl ?_
  refine gk_iload dX12_nearest_117 rfl ?_
  refine gk_iload dX12_nearest_119 rfl ?_
  refine gk_icmp_ge (tgt := 129) dX12_nearest_121 (by decide) h (fun h => ?_) (fun h => ?_)
  · refine gk_iload dX12_nearest_129 rfl ?_
    exact gk_weak [some (gk_R 14 0), some (gk_I x1), some (gk_I x2), some (gk_I x3), some (gk_I x4), none, some (gk_I s0), none, some (gk_I x8), none] (And.intro rfl (And.intro rfl (And.intro rfl (And.intro rfl (And.intro rfl (And.intro rfl (And.intro rfl True.intro))))))) (ok_X12_nearest_j131 κ81 hκ81 x1 x2 x3 x4 s0 x8 x7 M h)
  · refine gk_iload dX12_nearest_124 rfl ?_
    refine gk_goto (tgt := 131) dX12_nearest_126 (by decide) ?_
    exact gk_weak [some (gk_R 14 0), some (gk_I x1), some (gk_I x2), some (gk_I x3), some (gk_I x4), none, some (gk_I s0), none, some (gk_I x8), none] (And.intro rfl (And.intro rfl (And.intro rfl (And.intro rfl (And.intro rfl (And.intro rfl (And.intro rfl True.intro))))))) (ok_X12_nearest_j131 κ81 hκ81 x1 x2 x3 x4 s0 x8 x9 M h)
set_option maxRecDepth 100000 in
set_option maxHeartbeats 4000000 in
theorem ok_X12_nearest_l81 {K : gk_V → gk_M → Prop} : ∀ (n : Nat) (x1 : Int32) (x2 : Int32) (x3 : Int32) (x4 : Int32) (x6 : Int32) (x7 : Int32) (x8 : Int32) (M : gk_M), gk_Sat gk_I (X12_nearest_l81 n x1 x2 x3 x4 x6 x7 x8 M) K → gk_G RX12 cX12_nearest 10 4 (some .int) none K 81 [some (gk_R 14 0), some (gk_I x1), some (gk_I x2), some (gk_I x3), some (gk_I x4), none, some (gk_I x6), some (gk_I x7), some (gk_I x8), none] [] M := by
  intro n
  induction n with
  | zero => intro x1 x2 x3 x4 x6 x7 x8 M h; exact h.no.elim
  | succ n ih =>
    intro x1 x2 x3 x4 x6 x7 x8 M h
    refine gk_iload dX12_nearest_81 rfl ?_
    refine gk_iload_n dX12_nearest_83 rfl rfl ?_
    refine gk_icmp_gt (tgt := 139) dX12_nearest_84 (by decide) h (fun h => ?_) (fun h => ?_)
    · refine gk_aload_n dX12_nearest_139 rfl rfl ?_
      refine gk_callV (As := [gk_R 14 0]) (st := []) 2 (cr_X12_188 (by decide) rfl) (fun K' h' => ok_X12_close M K' h') rfl (by decide) (by decide) (fun _ => Nat.le_of_ble_eq_true rfl) dX12_nearest_140 h (fun _ M8 h => ?_)
      refine gk_iload dX12_nearest_143 rfl ?_
      refine gk_if_ne (tgt := 153) dX12_nearest_145 (by decide) h (fun h => ?_) (fun h => ?_)
      · refine gk_iload dX12_nearest_153 rfl ?_
        exact gk_iret dX12_nearest_155 rfl h
      · refine gk_iload dX12_nearest_148 rfl ?_
        refine gk_goto (tgt := 155) dX12_nearest_150 (by decide) ?_
        exact gk_iret dX12_nearest_155 rfl h
    · refine gk_aload_n dX12_nearest_87 rfl rfl ?_
      refine gk_iconst (v := (1 : Int32)) dX12_nearest_88 (by decide) ?_
      refine gk_callI (As := [gk_R 14 0, gk_I (1 : Int32)]) (st := []) 3 (cr_X12_199 (by decide) rfl) (fun K' h' => ok_X12_daysOn (1 : Int32) M K' h') rfl (by decide) (by decide) (fun _ => Nat.le_of_ble_eq_true rfl) dX12_nearest_89 h (fun r11 M10 h => ?_)
      refine gk_pop dX12_nearest_92 rfl ?_
      refine gk_aload_n dX12_nearest_93 rfl rfl ?_
      refine gk_iload_n dX12_nearest_94 rfl rfl ?_
      refine gk_iload_n dX12_nearest_95 rfl rfl ?_
      refine gk_callI (As := [gk_R 14 0, gk_I x1, gk_I x2]) (st := []) 1 (cr_X12_107 (by decide) rfl) (fun K' h' => ok_X12_farBetween x1 x2 M10 K' h') rfl (by decide) (by decide) (fun _ => Nat.le_of_ble_eq_true rfl) dX12_nearest_96 h (fun r13 M12 h => ?_)
      refine gk_istore (L' := [some (gk_R 14 0), some (gk_I x1), some (gk_I x2), some (gk_I x3), some (gk_I x4), none, some (gk_I x6), some (gk_I x7), some (gk_I x8), some (gk_I r13)]) dX12_nearest_99 (by decide) rfl rfl ?_
      refine gk_iload dX12_nearest_101 rfl ?_
      refine gk_iload dX12_nearest_103 rfl ?_
      refine gk_icmp_ge (tgt := 113) dX12_nearest_105 (by decide) h (fun h => ?_) (fun h => ?_)
      · refine gk_iload dX12_nearest_113 rfl ?_
        exact gk_weak [some (gk_R 14 0), some (gk_I x1), some (gk_I x2), some (gk_I x3), some (gk_I x4), none, none, some (gk_I x7), some (gk_I x8), some (gk_I r13)] (And.intro rfl (And.intro rfl (And.intro rfl (And.intro rfl (And.intro rfl (And.intro rfl (And.intro rfl (And.intro rfl True.intro)))))))) (ok_X12_nearest_j115 (X12_nearest_l81 n) ih x1 x2 x3 x4 x7 x8 r13 x6 M12 h)
      · refine gk_iload dX12_nearest_108 rfl ?_
        refine gk_goto (tgt := 115) dX12_nearest_110 (by decide) ?_
        exact gk_weak [some (gk_R 14 0), some (gk_I x1), some (gk_I x2), some (gk_I x3), some (gk_I x4), none, none, some (gk_I x7), some (gk_I x8), some (gk_I r13)] (And.intro rfl (And.intro rfl (And.intro rfl (And.intro rfl (And.intro rfl (And.intro rfl (And.intro rfl (And.intro rfl True.intro)))))))) (ok_X12_nearest_j115 (X12_nearest_l81 n) ih x1 x2 x3 x4 x7 x8 r13 x8 M12 h)
set_option maxRecDepth 100000 in
set_option maxHeartbeats 4000000 in
theorem ok_X12_nearest_j49 {K : gk_V → gk_M → Prop} (x1 : Int32) (x2 : Int32) (x3 : Int32) (x4 : Int32) (s0 : Int32) (M : gk_M) (h : gk_Sat gk_I (X12_nearest_j49 x1 x2 x3 x4 s0 M) K) : gk_G RX12 cX12_nearest 10 4 (some .int) none K 49 [some (gk_R 14 0), some (gk_I x1), some (gk_I x2), some (gk_I x3), some (gk_I x4), none, none, none, none, none] [gk_I s0] M := by
  refine gk_istore (L' := [some (gk_R 14 0), some (gk_I x1), some (gk_I x2), some (gk_I x3), some (gk_I x4), some (gk_I s0), none, none, none, none]) dX12_nearest_49 (by decide) rfl rfl ?_
  refine gk_iload dX12_nearest_51 rfl ?_
  refine gk_if_ge (tgt := 63) dX12_nearest_53 (by decide) h (fun h => ?_) (fun h => ?_)
  · refine gk_aload_n dX12_nearest_63 rfl rfl ?_
    refine gk_callV (As := [gk_R 14 0]) (st := []) 2 (cr_X12_182 (by decide) rfl) (fun K' h' => ok_X12_open0 M K' h') rfl (by decide) (by decide) (fun _ => Nat.le_of_ble_eq_true rfl) dX12_nearest_64 h (fun _ M4 h => ?_)
    refine gk_iconst (v := (0 : Int32)) dX12_nearest_67 (by decide) ?_
    refine gk_istore (L' := [some (gk_R 14 0), some (gk_I x1), some (gk_I x2), some (gk_I x3), some (gk_I x4), some (gk_I s0), some (gk_I (0 : Int32)), none, none, none]) dX12_nearest_68 (by decide) rfl rfl ?_
    refine gk_aload_n dX12_nearest_70 rfl rfl ?_
    refine gk_iload_n dX12_nearest_71 rfl rfl ?_
    refine gk_iload_n dX12_nearest_72 rfl rfl ?_
    refine gk_callI (As := [gk_R 14 0, gk_I x1, gk_I x2]) (st := []) 1 (cr_X12_107 (by decide) rfl) (fun K' h' => ok_X12_farBetween x1 x2 M4 K' h') rfl (by decide) (by decide) (fun _ => Nat.le_of_ble_eq_true rfl) dX12_nearest_73 h (fun r7 M6 h => ?_)
    refine gk_istore (L' := [some (gk_R 14 0), some (gk_I x1), some (gk_I x2), some (gk_I x3), some (gk_I x4), some (gk_I s0), some (gk_I (0 : Int32)), some (gk_I r7), none, none]) dX12_nearest_76 (by decide) rfl rfl ?_
    refine gk_iconst (v := (1 : Int32)) dX12_nearest_78 (by decide) ?_
    refine gk_istore (L' := [some (gk_R 14 0), some (gk_I x1), some (gk_I x2), some (gk_I x3), some (gk_I x4), some (gk_I s0), some (gk_I (0 : Int32)), some (gk_I r7), some (gk_I (1 : Int32)), none]) dX12_nearest_79 (by decide) rfl rfl ?_
    exact gk_weak [some (gk_R 14 0), some (gk_I x1), some (gk_I x2), some (gk_I x3), some (gk_I x4), none, some (gk_I (0 : Int32)), some (gk_I r7), some (gk_I (1 : Int32)), none] (And.intro rfl (And.intro rfl (And.intro rfl (And.intro rfl (And.intro rfl (And.intro rfl (And.intro rfl (And.intro rfl True.intro)))))))) (ok_X12_nearest_l81 200 x1 x2 x3 x4 ((0 : Int32)) r7 ((1 : Int32)) M6 h)
  · refine gk_aload_n dX12_nearest_56 rfl rfl ?_
    refine gk_iload dX12_nearest_57 rfl ?_
    refine gk_callI (As := [gk_R 14 0, gk_I s0]) (st := []) 0 (cr_X12_134 (by decide) rfl) (fun K' h' => ok_X12_refuse s0 M K' h') rfl (by decide) (by decide) (fun _ => Nat.le_of_ble_eq_true rfl) dX12_nearest_59 h (fun r15 M14 h => ?_)
    exact gk_iret dX12_nearest_62 rfl h
set_option maxRecDepth 100000 in
set_option maxHeartbeats 4000000 in
theorem ok_X12_nearest_j47 {K : gk_V → gk_M → Prop} (x1 : Int32) (x2 : Int32) (x3 : Int32) (x4 : Int32) (x5 : Int32) (M : gk_M) (h : gk_Sat gk_I (X12_nearest_j47 x1 x2 x3 x4 x5 M) K) : gk_G RX12 cX12_nearest 10 4 (some .int) none K 47 [some (gk_R 14 0), some (gk_I x1), some (gk_I x2), some (gk_I x3), some (gk_I x4), some (gk_I x5), none, none, none, none] [] M := by
  refine gk_iload dX12_nearest_47 rfl ?_
  exact gk_weak [some (gk_R 14 0), some (gk_I x1), some (gk_I x2), some (gk_I x3), some (gk_I x4), none, none, none, none, none] (And.intro rfl (And.intro rfl (And.intro rfl (And.intro rfl (And.intro rfl True.intro))))) (ok_X12_nearest_j49 x1 x2 x3 x4 x5 M h)
set_option maxRecDepth 100000 in
set_option maxHeartbeats 4000000 in
theorem ok_X12_nearest_j24 {K : gk_V → gk_M → Prop} (x1 : Int32) (x2 : Int32) (x3 : Int32) (x4 : Int32) (s0 : Int32) (M : gk_M) (h : gk_Sat gk_I (X12_nearest_j24 x1 x2 x3 x4 s0 M) K) : gk_G RX12 cX12_nearest 10 4 (some .int) none K 24 [some (gk_R 14 0), some (gk_I x1), some (gk_I x2), some (gk_I x3), some (gk_I x4), none, none, none, none, none] [gk_I s0] M := by
  refine gk_istore (L' := [some (gk_R 14 0), some (gk_I x1), some (gk_I x2), some (gk_I x3), some (gk_I x4), some (gk_I s0), none, none, none, none]) dX12_nearest_24 (by decide) rfl rfl ?_
  refine gk_iload dX12_nearest_26 rfl ?_
  refine gk_if_ne (tgt := 47) dX12_nearest_28 (by decide) h (fun h => ?_) (fun h => ?_)
  · exact gk_weak [some (gk_R 14 0), some (gk_I x1), some (gk_I x2), some (gk_I x3), some (gk_I x4), some (gk_I s0), none, none, none, none] (And.intro rfl (And.intro rfl (And.intro rfl (And.intro rfl (And.intro rfl (And.intro rfl True.intro)))))) (ok_X12_nearest_j47 x1 x2 x3 x4 s0 M h)
  · refine gk_iload dX12_nearest_31 rfl ?_
    refine gk_i2l dX12_nearest_33 ?_
    refine gk_lconst (v := (0 : Int64)) dX12_nearest_34 (by decide) ?_
    refine gk_lconst (v := (1 : Int64)) dX12_nearest_35 (by decide) ?_
    refine gk_callI (As := [gk_L (Int32.toInt64 x4), gk_L (0 : Int64), gk_L (1 : Int64)]) (st := []) 0 (cr_X12_71 rfl) (fun K' h' => ok_X12_in (Int32.toInt64 x4) (0 : Int64) (1 : Int64) M K' h') rfl (by decide) (by decide) (fun _ => Nat.le_of_ble_eq_true rfl) dX12_nearest_36 h (fun r17 M16 h => ?_)
    refine gk_if_ne (tgt := 47) dX12_nearest_39 (by decide) h (fun h => ?_) (fun h => ?_)
    · exact gk_weak [some (gk_R 14 0), some (gk_I x1), some (gk_I x2), some (gk_I x3), some (gk_I x4), some (gk_I s0), none, none, none, none] (And.intro rfl (And.intro rfl (And.intro rfl (And.intro rfl (And.intro rfl (And.intro rfl True.intro)))))) (ok_X12_nearest_j47 x1 x2 x3 x4 s0 M16 h)
    · refine gk_bipush (v := (-2 : Int32)) dX12_nearest_42 (by decide) ?_
      refine gk_goto (tgt := 49) dX12_nearest_44 (by decide) ?_
      exact gk_weak [some (gk_R 14 0), some (gk_I x1), some (gk_I x2), some (gk_I x3), some (gk_I x4), none, none, none, none, none] (And.intro rfl (And.intro rfl (And.intro rfl (And.intro rfl (And.intro rfl True.intro))))) (ok_X12_nearest_j49 x1 x2 x3 x4 ((-2 : Int32)) M16 h)
set_option maxRecDepth 100000 in
set_option maxHeartbeats 4000000 in
theorem ok_X12_nearest (a1 : Int32) (a2 : Int32) (a3 : Int32) (a4 : Int32) (M : gk_M) (K : gk_V → gk_M → Prop) (h : gk_Sat gk_I (f_X12_nearest a1 a2 a3 a4 M) K) : gk_MS 4 yX12_nearest cX12_nearest 10 (some .int) [gk_R 14 0, gk_I a1, gk_I a2, gk_I a3, gk_I a4] M K := by

  refine gk_MS_of [some (gk_R 14 0), some (gk_I a1), some (gk_I a2), some (gk_I a3), some (gk_I a4), none, none, none, none, none] (by decide +kernel) (Nat.le_of_ble_eq_true rfl) (And.intro rfl (And.intro rfl (And.intro rfl (And.intro rfl (And.intro rfl True.intro))))) ?_
  show gk_G RX12 cX12_nearest 10 4 (some .int) none K 0 [some (gk_R 14 0), some (gk_I a1), some (gk_I a2), some (gk_I a3), some (gk_I a4), none, none, none, none, none] [] M
  refine gk_aload_n dX12_nearest_0 rfl rfl ?_
  refine gk_iconst (v := (0 : Int32)) dX12_nearest_1 (by decide) ?_
  refine gk_putI fr_X12_65 si_14_13 (by decide) dX12_nearest_2 h (fun M1 h => ?_)
  refine gk_aload_n dX12_nearest_5 rfl rfl ?_
  refine gk_iload_n dX12_nearest_6 rfl rfl ?_
  refine gk_iload_n dX12_nearest_7 rfl rfl ?_
  refine gk_callI (As := [gk_R 14 0, gk_I a1, gk_I a2]) (st := []) 2 (cr_X12_202 (by decide) rfl) (fun K' h' => ok_X12_areTwo a1 a2 M1 K' h') rfl (by decide) (by decide) (fun _ => Nat.le_of_ble_eq_true rfl) dX12_nearest_8 h (fun r3 M2 h => ?_)
  refine gk_if_eq (tgt := 23) dX12_nearest_11 (by decide) h (fun h => ?_) (fun h => ?_)
  · refine gk_iconst (v := (-1 : Int32)) dX12_nearest_23 (by decide) ?_
    exact gk_weak [some (gk_R 14 0), some (gk_I a1), some (gk_I a2), some (gk_I a3), some (gk_I a4), none, none, none, none, none] (And.intro rfl (And.intro rfl (And.intro rfl (And.intro rfl (And.intro rfl True.intro))))) (ok_X12_nearest_j24 a1 a2 a3 a4 ((-1 : Int32)) M2 h)
  · refine gk_iload_n dX12_nearest_14 rfl rfl ?_
    refine gk_bipush (v := (60 : Int32)) dX12_nearest_15 (by decide) ?_
    refine gk_callI (As := [gk_I a3, gk_I (60 : Int32)]) (st := []) 0 (cr_X12_208 rfl) (fun K' h' => ok_X12_wrongDays a3 (60 : Int32) M2 K' h') rfl (by decide) (by decide) (fun _ => Nat.le_of_ble_eq_true rfl) dX12_nearest_17 h (fun r19 M18 h => ?_)
    refine gk_goto (tgt := 24) dX12_nearest_20 (by decide) ?_
    exact gk_weak [some (gk_R 14 0), some (gk_I a1), some (gk_I a2), some (gk_I a3), some (gk_I a4), none, none, none, none, none] (And.intro rfl (And.intro rfl (And.intro rfl (And.intro rfl (And.intro rfl True.intro))))) (ok_X12_nearest_j24 a1 a2 a3 a4 r19 M18 h)
set_option maxRecDepth 100000 in
set_option maxHeartbeats 4000000 in
theorem ok_X12_reachOn_j52 {K : gk_V → gk_M → Prop} (κ4 : Int32 → Int32 → Int32 → gk_M → Option (Int32 × gk_M)) (κ15 : Int32 → Int32 → Int32 → Int32 → gk_M → Option (Int32 × gk_M)) (hκ4 : ∀ (x1 : Int32) (x2 : Int32) (x3 : Int32) (M : gk_M), gk_Sat gk_I (κ4 x1 x2 x3 M) K → gk_G RX12 cX12_reachOn 5 3 (some .int) none K 4 [some (gk_R 14 0), some (gk_I x1), some (gk_I x2), some (gk_I x3), none] [] M) (hκ15 : ∀ (x1 : Int32) (x2 : Int32) (x3 : Int32) (x4 : Int32) (M : gk_M), gk_Sat gk_I (κ15 x1 x2 x3 x4 M) K → gk_G RX12 cX12_reachOn 5 3 (some .int) none K 15 [some (gk_R 14 0), some (gk_I x1), some (gk_I x2), some (gk_I x3), some (gk_I x4)] [] M) (x1 : Int32) (x3 : Int32) (x4 : Int32) (s0 : Int32) (s1 : Int32) (M : gk_M) (h : gk_Sat gk_I (X12_reachOn_j52 κ4 κ15 x1 x3 x4 s0 s1 M) K) : gk_G RX12 cX12_reachOn 5 3 (some .int) none K 52 [some (gk_R 14 0), some (gk_I x1), none, some (gk_I x3), some (gk_I x4)] [gk_I s0, gk_I s1] M := by
  refine gk_ior dX12_reachOn_52 ?_
  refine gk_istore_n (L' := [some (gk_R 14 0), some (gk_I x1), some (gk_I (s1 ||| s0)), some (gk_I x3), some (gk_I x4)]) dX12_reachOn_53 rfl (by decide) rfl rfl ?_
  refine gk_iinc (v := (x4 + (1 : Int32))) (L' := [some (gk_R 14 0), some (gk_I x1), some (gk_I (s1 ||| s0)), some (gk_I x3), some (gk_I (x4 + (1 : Int32)))]) dX12_reachOn_54 rfl rfl (by decide) rfl rfl ?_
  refine gk_goto (tgt := 15) dX12_reachOn_57 (by decide) ?_
  exact gk_weak [some (gk_R 14 0), some (gk_I x1), some (gk_I (s1 ||| s0)), some (gk_I x3), some (gk_I (x4 + (1 : Int32)))] (And.intro rfl (And.intro rfl (And.intro rfl (And.intro rfl (And.intro rfl True.intro))))) (hκ15 x1 ((s1 ||| s0)) x3 ((x4 + (1 : Int32))) M h)
set_option maxRecDepth 100000 in
set_option maxHeartbeats 4000000 in
theorem ok_X12_reachOn_j51 {K : gk_V → gk_M → Prop} (κ4 : Int32 → Int32 → Int32 → gk_M → Option (Int32 × gk_M)) (κ15 : Int32 → Int32 → Int32 → Int32 → gk_M → Option (Int32 × gk_M)) (hκ4 : ∀ (x1 : Int32) (x2 : Int32) (x3 : Int32) (M : gk_M), gk_Sat gk_I (κ4 x1 x2 x3 M) K → gk_G RX12 cX12_reachOn 5 3 (some .int) none K 4 [some (gk_R 14 0), some (gk_I x1), some (gk_I x2), some (gk_I x3), none] [] M) (hκ15 : ∀ (x1 : Int32) (x2 : Int32) (x3 : Int32) (x4 : Int32) (M : gk_M), gk_Sat gk_I (κ15 x1 x2 x3 x4 M) K → gk_G RX12 cX12_reachOn 5 3 (some .int) none K 15 [some (gk_R 14 0), some (gk_I x1), some (gk_I x2), some (gk_I x3), some (gk_I x4)] [] M) (x1 : Int32) (x3 : Int32) (x4 : Int32) (s0 : Int32) (M : gk_M) (h : gk_Sat gk_I (X12_reachOn_j51 κ4 κ15 x1 x3 x4 s0 M) K) : gk_G RX12 cX12_reachOn 5 3 (some .int) none K 51 [some (gk_R 14 0), some (gk_I x1), none, some (gk_I x3), some (gk_I x4)] [gk_I s0] M := by
  refine gk_iconst (v := (0 : Int32)) dX12_reachOn_51 (by decide) ?_
  exact gk_weak [some (gk_R 14 0), some (gk_I x1), none, some (gk_I x3), some (gk_I x4)] (And.intro rfl (And.intro rfl (And.intro rfl (And.intro rfl True.intro)))) (ok_X12_reachOn_j52 κ4 κ15 hκ4 hκ15 x1 x3 x4 ((0 : Int32)) s0 M h)
set_option maxRecDepth 100000 in
set_option maxHeartbeats 4000000 in
theorem ok_X12_reachOn_l15 {K : gk_V → gk_M → Prop} (κ4 : Int32 → Int32 → Int32 → gk_M → Option (Int32 × gk_M)) (hκ4 : ∀ (x1 : Int32) (x2 : Int32) (x3 : Int32) (M : gk_M), gk_Sat gk_I (κ4 x1 x2 x3 M) K → gk_G RX12 cX12_reachOn 5 3 (some .int) none K 4 [some (gk_R 14 0), some (gk_I x1), some (gk_I x2), some (gk_I x3), none] [] M) : ∀ (n : Nat) (x1 : Int32) (x2 : Int32) (x3 : Int32) (x4 : Int32) (M : gk_M), gk_Sat gk_I (X12_reachOn_l15 κ4 n x1 x2 x3 x4 M) K → gk_G RX12 cX12_reachOn 5 3 (some .int) none K 15 [some (gk_R 14 0), some (gk_I x1), some (gk_I x2), some (gk_I x3), some (gk_I x4)] [] M := by
  intro n
  induction n with
  | zero => intro x1 x2 x3 x4 M h; exact h.no.elim
  | succ n ih =>
    intro x1 x2 x3 x4 M h
    refine gk_iload dX12_reachOn_15 rfl ?_
    refine gk_aload_n dX12_reachOn_17 rfl rfl ?_
    refine gk_getI fr_X12_68 si_14_0 (by decide) dX12_reachOn_18 ?_
    refine gk_icmp_ge (tgt := 60) dX12_reachOn_21 (by decide) h (fun h => ?_) (fun h => ?_)
    · refine gk_iinc (v := (x3 + (1 : Int32))) (L' := [some (gk_R 14 0), some (gk_I x1), some (gk_I x2), some (gk_I (x3 + (1 : Int32))), some (gk_I x4)]) dX12_reachOn_60 rfl rfl (by decide) rfl rfl ?_
      refine gk_goto (tgt := 4) dX12_reachOn_63 (by decide) ?_
      exact gk_weak [some (gk_R 14 0), some (gk_I x1), some (gk_I x2), some (gk_I (x3 + (1 : Int32))), none] (And.intro rfl (And.intro rfl (And.intro rfl (And.intro rfl True.intro)))) (hκ4 x1 x2 ((x3 + (1 : Int32))) M h)
    · refine gk_iload_n dX12_reachOn_24 rfl rfl ?_
      refine gk_iload_n dX12_reachOn_25 rfl rfl ?_
      refine gk_iload_n dX12_reachOn_26 rfl rfl ?_
      refine gk_ishr dX12_reachOn_27 ?_
      refine gk_iconst (v := (1 : Int32)) dX12_reachOn_28 (by decide) ?_
      refine gk_iand dX12_reachOn_29 ?_
      refine gk_iconst (v := (1 : Int32)) dX12_reachOn_30 (by decide) ?_
      refine gk_icmp_ne (tgt := 51) dX12_reachOn_31 (by decide) h (fun h => ?_) (fun h => ?_)
      · exact gk_weak [some (gk_R 14 0), some (gk_I x1), none, some (gk_I x3), some (gk_I x4)] (And.intro rfl (And.intro rfl (And.intro rfl (And.intro rfl True.intro)))) (ok_X12_reachOn_j51 κ4 (X12_reachOn_l15 κ4 n) hκ4 ih x1 x3 x4 x2 M h)
      · refine gk_aload_n dX12_reachOn_34 rfl rfl ?_
        refine gk_iload_n dX12_reachOn_35 rfl rfl ?_
        refine gk_iload dX12_reachOn_36 rfl ?_
        refine gk_callI (As := [gk_R 14 0, gk_I x3, gk_I x4]) (st := [gk_I x2]) 2 (cr_X12_215 (by decide) rfl) (fun K' h' => ok_X12_isOpen x3 x4 M K' h') rfl (by decide) (by decide) (fun _ => Nat.le_of_ble_eq_true rfl) dX12_reachOn_38 h (fun r2 M1 h => ?_)
        refine gk_if_eq (tgt := 51) dX12_reachOn_41 (by decide) h (fun h => ?_) (fun h => ?_)
        · exact gk_weak [some (gk_R 14 0), some (gk_I x1), none, some (gk_I x3), some (gk_I x4)] (And.intro rfl (And.intro rfl (And.intro rfl (And.intro rfl True.intro)))) (ok_X12_reachOn_j51 κ4 (X12_reachOn_l15 κ4 n) hκ4 ih x1 x3 x4 x2 M1 h)
        · refine gk_iconst (v := (1 : Int32)) dX12_reachOn_44 (by decide) ?_
          refine gk_iload dX12_reachOn_45 rfl ?_
          refine gk_ishl dX12_reachOn_47 ?_
          refine gk_goto (tgt := 52) dX12_reachOn_48 (by decide) ?_
          exact gk_weak [some (gk_R 14 0), some (gk_I x1), none, some (gk_I x3), some (gk_I x4)] (And.intro rfl (And.intro rfl (And.intro rfl (And.intro rfl True.intro)))) (ok_X12_reachOn_j52 κ4 (X12_reachOn_l15 κ4 n) hκ4 ih x1 x3 x4 (((1 : Int32) <<< (x4 &&& 31))) x2 M1 h)
set_option maxRecDepth 100000 in
set_option maxHeartbeats 4000000 in
theorem ok_X12_reachOn_l4 {K : gk_V → gk_M → Prop} : ∀ (n : Nat) (x1 : Int32) (x2 : Int32) (x3 : Int32) (M : gk_M), gk_Sat gk_I (X12_reachOn_l4 n x1 x2 x3 M) K → gk_G RX12 cX12_reachOn 5 3 (some .int) none K 4 [some (gk_R 14 0), some (gk_I x1), some (gk_I x2), some (gk_I x3), none] [] M := by
  intro n
  induction n with
  | zero => intro x1 x2 x3 M h; exact h.no.elim
  | succ n ih =>
    intro x1 x2 x3 M h
    refine gk_iload_n dX12_reachOn_4 rfl rfl ?_
    refine gk_aload_n dX12_reachOn_5 rfl rfl ?_
    refine gk_getI fr_X12_68 si_14_0 (by decide) dX12_reachOn_6 ?_
    refine gk_icmp_ge (tgt := 66) dX12_reachOn_9 (by decide) h (fun h => ?_) (fun h => ?_)
    · refine gk_iload_n dX12_reachOn_66 rfl rfl ?_
      exact gk_iret dX12_reachOn_67 rfl h
    · refine gk_iconst (v := (0 : Int32)) dX12_reachOn_12 (by decide) ?_
      refine gk_istore (L' := [some (gk_R 14 0), some (gk_I x1), some (gk_I x2), some (gk_I x3), some (gk_I (0 : Int32))]) dX12_reachOn_13 (by decide) rfl rfl ?_
      exact gk_weak [some (gk_R 14 0), some (gk_I x1), some (gk_I x2), some (gk_I x3), some (gk_I (0 : Int32))] (And.intro rfl (And.intro rfl (And.intro rfl (And.intro rfl (And.intro rfl True.intro))))) (ok_X12_reachOn_l15 (X12_reachOn_l4 n) ih 200 x1 x2 x3 ((0 : Int32)) M h)
set_option maxRecDepth 100000 in
set_option maxHeartbeats 4000000 in
theorem ok_X12_reachOn (a1 : Int32) (M : gk_M) (K : gk_V → gk_M → Prop) (h : gk_Sat gk_I (f_X12_reachOn a1 M) K) : gk_MS 3 yX12_reachOn cX12_reachOn 5 (some .int) [gk_R 14 0, gk_I a1] M K := by

  refine gk_MS_of [some (gk_R 14 0), some (gk_I a1), none, none, none] (by decide +kernel) (Nat.le_of_ble_eq_true rfl) (And.intro rfl (And.intro rfl True.intro)) ?_
  show gk_G RX12 cX12_reachOn 5 3 (some .int) none K 0 [some (gk_R 14 0), some (gk_I a1), none, none, none] [] M
  refine gk_iload_n dX12_reachOn_0 rfl rfl ?_
  refine gk_istore_n (L' := [some (gk_R 14 0), some (gk_I a1), some (gk_I a1), none, none]) dX12_reachOn_1 rfl (by decide) rfl rfl ?_
  refine gk_iconst (v := (0 : Int32)) dX12_reachOn_2 (by decide) ?_
  refine gk_istore_n (L' := [some (gk_R 14 0), some (gk_I a1), some (gk_I a1), some (gk_I (0 : Int32)), none]) dX12_reachOn_3 rfl (by decide) rfl rfl ?_
  exact gk_weak [some (gk_R 14 0), some (gk_I a1), some (gk_I a1), some (gk_I (0 : Int32)), none] (And.intro rfl (And.intro rfl (And.intro rfl (And.intro rfl True.intro)))) (ok_X12_reachOn_l4 200 a1 a1 ((0 : Int32)) M h)
set_option maxRecDepth 100000 in
set_option maxHeartbeats 4000000 in
theorem ok_X12_there_j21 {K : gk_V → gk_M → Prop}  (M : gk_M) (h : gk_Sat gk_I (X12_there_j21  M) K) : gk_G RX12 cX12_there 6 4 (some .int) none K 21 [some (gk_R 14 0), none, none, none, none, none] [] M := by
  refine gk_aload_n dX12_there_21 rfl rfl ?_
  refine gk_iconst (v := (-1 : Int32)) dX12_there_22 (by decide) ?_
  refine gk_callI (As := [gk_R 14 0, gk_I (-1 : Int32)]) (st := []) 0 (cr_X12_134 (by decide) rfl) (fun K' h' => ok_X12_refuse (-1 : Int32) M K' h') rfl (by decide) (by decide) (fun _ => Nat.le_of_ble_eq_true rfl) dX12_there_23 h (fun r5 M4 h => ?_)
  exact gk_iret dX12_there_26 rfl h
set_option maxRecDepth 100000 in
set_option maxHeartbeats 4000000 in
theorem ok_X12_there_j99 {K : gk_V → gk_M → Prop} (x4 : Int32) (M : gk_M) (h : gk_Sat gk_I (X12_there_j99 x4 M) K) : gk_G RX12 cX12_there 6 4 (some .int) none K 99 [some (gk_R 14 0), none, none, none, some (gk_I x4), none] [] M := by
  refine gk_aload_n dX12_there_99 rfl rfl ?_
  refine gk_callV (As := [gk_R 14 0]) (st := []) 2 (cr_X12_188 (by decide) rfl) (fun K' h' => ok_X12_close M K' h') rfl (by decide) (by decide) (fun _ => Nat.le_of_ble_eq_true rfl) dX12_there_100 h (fun _ M10 h => ?_)
  refine gk_iload dX12_there_103 rfl ?_
  exact gk_iret dX12_there_105 rfl h
set_option maxRecDepth 100000 in
set_option maxHeartbeats 4000000 in
theorem ok_X12_there_j85 {K : gk_V → gk_M → Prop} (κ51 : Int32 → Int32 → Int32 → Int32 → gk_M → Option (Int32 × gk_M)) (hκ51 : ∀ (x2 : Int32) (x3 : Int32) (x4 : Int32) (x5 : Int32) (M : gk_M), gk_Sat gk_I (κ51 x2 x3 x4 x5 M) K → gk_G RX12 cX12_there 6 4 (some .int) none K 51 [some (gk_R 14 0), none, some (gk_I x2), some (gk_I x3), some (gk_I x4), some (gk_I x5)] [] M) (x2 : Int32) (x3 : Int32) (x5 : Int32) (s0 : Int32) (M : gk_M) (h : gk_Sat gk_I (X12_there_j85 κ51 x2 x3 x5 s0 M) K) : gk_G RX12 cX12_there 6 4 (some .int) none K 85 [some (gk_R 14 0), none, some (gk_I x2), some (gk_I x3), none, some (gk_I x5)] [gk_I s0] M := by
  refine gk_istore (L' := [some (gk_R 14 0), none, some (gk_I x2), some (gk_I x3), some (gk_I s0), some (gk_I x5)]) dX12_there_85 (by decide) rfl rfl ?_
  refine gk_aload_n dX12_there_87 rfl rfl ?_
  refine gk_iconst (v := (1 : Int32)) dX12_there_88 (by decide) ?_
  refine gk_callI (As := [gk_R 14 0, gk_I (1 : Int32)]) (st := []) 3 (cr_X12_199 (by decide) rfl) (fun K' h' => ok_X12_daysOn (1 : Int32) M K' h') rfl (by decide) (by decide) (fun _ => Nat.le_of_ble_eq_true rfl) dX12_there_89 h (fun r15 M14 h => ?_)
  refine gk_pop dX12_there_92 rfl ?_
  refine gk_iinc (v := (x5 + (1 : Int32))) (L' := [some (gk_R 14 0), none, some (gk_I x2), some (gk_I x3), some (gk_I s0), some (gk_I (x5 + (1 : Int32)))]) dX12_there_93 rfl rfl (by decide) rfl rfl ?_
  refine gk_goto (tgt := 51) dX12_there_96 (by decide) ?_
  exact gk_weak [some (gk_R 14 0), none, some (gk_I x2), some (gk_I x3), some (gk_I s0), some (gk_I (x5 + (1 : Int32)))] (And.intro rfl (And.intro rfl (And.intro rfl (And.intro rfl (And.intro rfl True.intro))))) (hκ51 x2 x3 s0 ((x5 + (1 : Int32))) M14 h)
set_option maxRecDepth 100000 in
set_option maxHeartbeats 4000000 in
theorem ok_X12_there_l51 {K : gk_V → gk_M → Prop} : ∀ (n : Nat) (x2 : Int32) (x3 : Int32) (x4 : Int32) (x5 : Int32) (M : gk_M), gk_Sat gk_I (X12_there_l51 n x2 x3 x4 x5 M) K → gk_G RX12 cX12_there 6 4 (some .int) none K 51 [some (gk_R 14 0), none, some (gk_I x2), some (gk_I x3), some (gk_I x4), some (gk_I x5)] [] M := by
  intro n
  induction n with
  | zero => intro x2 x3 x4 x5 M h; exact h.no.elim
  | succ n ih =>
    intro x2 x3 x4 x5 M h
    refine gk_iload dX12_there_51 rfl ?_
    refine gk_bipush (v := (40 : Int32)) dX12_there_53 (by decide) ?_
    refine gk_icmp_gt (tgt := 99) dX12_there_55 (by decide) h (fun h => ?_) (fun h => ?_)
    · exact gk_weak [some (gk_R 14 0), none, none, none, some (gk_I x4), none] (And.intro rfl (And.intro rfl True.intro)) (ok_X12_there_j99 x4 M h)
    · refine gk_iload dX12_there_58 rfl ?_
      refine gk_if_ge (tgt := 99) dX12_there_60 (by decide) h (fun h => ?_) (fun h => ?_)
      · exact gk_weak [some (gk_R 14 0), none, none, none, some (gk_I x4), none] (And.intro rfl (And.intro rfl True.intro)) (ok_X12_there_j99 x4 M h)
      · refine gk_aload_n dX12_there_63 rfl rfl ?_
        refine gk_iload_n dX12_there_64 rfl rfl ?_
        refine gk_callI (As := [gk_R 14 0, gk_I x3]) (st := []) 3 (cr_X12_218 (by decide) rfl) (fun K' h' => ok_X12_reachOn x3 M K' h') rfl (by decide) (by decide) (fun _ => Nat.le_of_ble_eq_true rfl) dX12_there_65 h (fun r13 M12 h => ?_)
        refine gk_istore_n (L' := [some (gk_R 14 0), none, some (gk_I x2), some (gk_I r13), some (gk_I x4), some (gk_I x5)]) dX12_there_68 rfl (by decide) rfl rfl ?_
        refine gk_iload_n dX12_there_69 rfl rfl ?_
        refine gk_iload_n dX12_there_70 rfl rfl ?_
        refine gk_ishr dX12_there_71 ?_
        refine gk_iconst (v := (1 : Int32)) dX12_there_72 (by decide) ?_
        refine gk_iand dX12_there_73 ?_
        refine gk_iconst (v := (1 : Int32)) dX12_there_74 (by decide) ?_
        refine gk_icmp_ne (tgt := 83) dX12_there_75 (by decide) h (fun h => ?_) (fun h => ?_)
        · refine gk_bipush (v := (-9 : Int32)) dX12_there_83 (by decide) ?_
          exact gk_weak [some (gk_R 14 0), none, some (gk_I x2), some (gk_I r13), none, some (gk_I x5)] (And.intro rfl (And.intro rfl (And.intro rfl (And.intro rfl True.intro)))) (ok_X12_there_j85 (X12_there_l51 n) ih x2 r13 x5 ((-9 : Int32)) M12 h)
        · refine gk_iload dX12_there_78 rfl ?_
          refine gk_goto (tgt := 85) dX12_there_80 (by decide) ?_
          exact gk_weak [some (gk_R 14 0), none, some (gk_I x2), some (gk_I r13), none, some (gk_I x5)] (And.intro rfl (And.intro rfl (And.intro rfl (And.intro rfl True.intro)))) (ok_X12_there_j85 (X12_there_l51 n) ih x2 r13 x5 x5 M12 h)
set_option maxRecDepth 100000 in
set_option maxHeartbeats 4000000 in
theorem ok_X12_there_j46 {K : gk_V → gk_M → Prop} (x2 : Int32) (x3 : Int32) (s0 : Int32) (M : gk_M) (h : gk_Sat gk_I (X12_there_j46 x2 x3 s0 M) K) : gk_G RX12 cX12_there 6 4 (some .int) none K 46 [some (gk_R 14 0), none, some (gk_I x2), some (gk_I x3), none, none] [gk_I s0] M := by
  refine gk_istore (L' := [some (gk_R 14 0), none, some (gk_I x2), some (gk_I x3), some (gk_I s0), none]) dX12_there_46 (by decide) rfl rfl ?_
  refine gk_iconst (v := (1 : Int32)) dX12_there_48 (by decide) ?_
  refine gk_istore (L' := [some (gk_R 14 0), none, some (gk_I x2), some (gk_I x3), some (gk_I s0), some (gk_I (1 : Int32))]) dX12_there_49 (by decide) rfl rfl ?_
  exact gk_weak [some (gk_R 14 0), none, some (gk_I x2), some (gk_I x3), some (gk_I s0), some (gk_I (1 : Int32))] (And.intro rfl (And.intro rfl (And.intro rfl (And.intro rfl (And.intro rfl True.intro))))) (ok_X12_there_l51 200 x2 x3 s0 ((1 : Int32)) M h)
set_option maxRecDepth 100000 in
set_option maxHeartbeats 4000000 in
theorem ok_X12_there (a1 : Int32) (a2 : Int32) (M : gk_M) (K : gk_V → gk_M → Prop) (h : gk_Sat gk_I (f_X12_there a1 a2 M) K) : gk_MS 4 yX12_there cX12_there 6 (some .int) [gk_R 14 0, gk_I a1, gk_I a2] M K := by

  refine gk_MS_of [some (gk_R 14 0), some (gk_I a1), some (gk_I a2), none, none, none] (by decide +kernel) (Nat.le_of_ble_eq_true rfl) (And.intro rfl (And.intro rfl (And.intro rfl True.intro))) ?_
  show gk_G RX12 cX12_there 6 4 (some .int) none K 0 [some (gk_R 14 0), some (gk_I a1), some (gk_I a2), none, none, none] [] M
  refine gk_aload_n dX12_there_0 rfl rfl ?_
  refine gk_iconst (v := (0 : Int32)) dX12_there_1 (by decide) ?_
  refine gk_putI fr_X12_65 si_14_13 (by decide) dX12_there_2 h (fun M1 h => ?_)
  refine gk_aload_n dX12_there_5 rfl rfl ?_
  refine gk_iload_n dX12_there_6 rfl rfl ?_
  refine gk_callI (As := [gk_R 14 0, gk_I a1]) (st := []) 1 (cr_X12_75 (by decide) rfl) (fun K' h' => ok_X12_isShip a1 M1 K' h') rfl (by decide) (by decide) (fun _ => Nat.le_of_ble_eq_true rfl) dX12_there_7 h (fun r3 M2 h => ?_)
  refine gk_if_eq (tgt := 21) dX12_there_10 (by decide) h (fun h => ?_) (fun h => ?_)
  · exact gk_weak [some (gk_R 14 0), none, none, none, none, none] (And.intro rfl True.intro) (ok_X12_there_j21 M2 h)
  · refine gk_aload_n dX12_there_13 rfl rfl ?_
    refine gk_iload_n dX12_there_14 rfl rfl ?_
    refine gk_callI (As := [gk_R 14 0, gk_I a2]) (st := []) 1 (cr_X12_75 (by decide) rfl) (fun K' h' => ok_X12_isShip a2 M2 K' h') rfl (by decide) (by decide) (fun _ => Nat.le_of_ble_eq_true rfl) dX12_there_15 h (fun r7 M6 h => ?_)
    refine gk_if_ne (tgt := 27) dX12_there_18 (by decide) h (fun h => ?_) (fun h => ?_)
    · refine gk_aload_n dX12_there_27 rfl rfl ?_
      refine gk_callV (As := [gk_R 14 0]) (st := []) 2 (cr_X12_182 (by decide) rfl) (fun K' h' => ok_X12_open0 M6 K' h') rfl (by decide) (by decide) (fun _ => Nat.le_of_ble_eq_true rfl) dX12_there_28 h (fun _ M8 h => ?_)
      refine gk_iconst (v := (1 : Int32)) dX12_there_31 (by decide) ?_
      refine gk_iload_n dX12_there_32 rfl rfl ?_
      refine gk_ishl dX12_there_33 ?_
      refine gk_istore_n (L' := [some (gk_R 14 0), some (gk_I a1), some (gk_I a2), some (gk_I ((1 : Int32) <<< (a1 &&& 31))), none, none]) dX12_there_34 rfl (by decide) rfl rfl ?_
      refine gk_iload_n dX12_there_35 rfl rfl ?_
      refine gk_iload_n dX12_there_36 rfl rfl ?_
      refine gk_icmp_ne (tgt := 44) dX12_there_37 (by decide) h (fun h => ?_) (fun h => ?_)
      · refine gk_bipush (v := (-9 : Int32)) dX12_there_44 (by decide) ?_
        exact gk_weak [some (gk_R 14 0), none, some (gk_I a2), some (gk_I ((1 : Int32) <<< (a1 &&& 31))), none, none] (And.intro rfl (And.intro rfl (And.intro rfl True.intro))) (ok_X12_there_j46 a2 (((1 : Int32) <<< (a1 &&& 31))) ((-9 : Int32)) M8 h)
      · refine gk_iconst (v := (0 : Int32)) dX12_there_40 (by decide) ?_
        refine gk_goto (tgt := 46) dX12_there_41 (by decide) ?_
        exact gk_weak [some (gk_R 14 0), none, some (gk_I a2), some (gk_I ((1 : Int32) <<< (a1 &&& 31))), none, none] (And.intro rfl (And.intro rfl (And.intro rfl True.intro))) (ok_X12_there_j46 a2 (((1 : Int32) <<< (a1 &&& 31))) ((0 : Int32)) M8 h)
    · exact gk_weak [some (gk_R 14 0), none, none, none, none, none] (And.intro rfl True.intro) (ok_X12_there_j21 M6 h)
set_option maxRecDepth 100000 in
set_option maxHeartbeats 4000000 in
theorem ok_X12_back_j101 {K : gk_V → gk_M → Prop} (x5 : Int32) (M : gk_M) (h : gk_Sat gk_I (X12_back_j101 x5 M) K) : gk_G RX12 cX12_back 7 4 (some .int) none K 101 [some (gk_R 14 0), none, none, none, none, some (gk_I x5), none] [] M := by
  refine gk_aload_n dX12_back_101 rfl rfl ?_
  refine gk_callV (As := [gk_R 14 0]) (st := []) 2 (cr_X12_188 (by decide) rfl) (fun K' h' => ok_X12_close M K' h') rfl (by decide) (by decide) (fun _ => Nat.le_of_ble_eq_true rfl) dX12_back_102 h (fun _ M6 h => ?_)
  refine gk_iload dX12_back_105 rfl ?_
  exact gk_iret dX12_back_107 rfl h
set_option maxRecDepth 100000 in
set_option maxHeartbeats 4000000 in
theorem ok_X12_back_j87 {K : gk_V → gk_M → Prop} (κ38 : Int32 → Int32 → Int32 → Int32 → Int32 → Int32 → gk_M → Option (Int32 × gk_M)) (hκ38 : ∀ (x1 : Int32) (x2 : Int32) (x3 : Int32) (x4 : Int32) (x5 : Int32) (x6 : Int32) (M : gk_M), gk_Sat gk_I (κ38 x1 x2 x3 x4 x5 x6 M) K → gk_G RX12 cX12_back 7 4 (some .int) none K 38 [some (gk_R 14 0), some (gk_I x1), some (gk_I x2), some (gk_I x3), some (gk_I x4), some (gk_I x5), some (gk_I x6)] [] M) (x1 : Int32) (x2 : Int32) (x3 : Int32) (x4 : Int32) (x6 : Int32) (s0 : Int32) (M : gk_M) (h : gk_Sat gk_I (X12_back_j87 κ38 x1 x2 x3 x4 x6 s0 M) K) : gk_G RX12 cX12_back 7 4 (some .int) none K 87 [some (gk_R 14 0), some (gk_I x1), some (gk_I x2), some (gk_I x3), some (gk_I x4), none, some (gk_I x6)] [gk_I s0] M := by
  refine gk_istore (L' := [some (gk_R 14 0), some (gk_I x1), some (gk_I x2), some (gk_I x3), some (gk_I x4), some (gk_I s0), some (gk_I x6)]) dX12_back_87 (by decide) rfl rfl ?_
  refine gk_aload_n dX12_back_89 rfl rfl ?_
  refine gk_iconst (v := (1 : Int32)) dX12_back_90 (by decide) ?_
  refine gk_callI (As := [gk_R 14 0, gk_I (1 : Int32)]) (st := []) 3 (cr_X12_199 (by decide) rfl) (fun K' h' => ok_X12_daysOn (1 : Int32) M K' h') rfl (by decide) (by decide) (fun _ => Nat.le_of_ble_eq_true rfl) dX12_back_91 h (fun r13 M12 h => ?_)
  refine gk_pop dX12_back_94 rfl ?_
  refine gk_iinc (v := (x6 + (1 : Int32))) (L' := [some (gk_R 14 0), some (gk_I x1), some (gk_I x2), some (gk_I x3), some (gk_I x4), some (gk_I s0), some (gk_I (x6 + (1 : Int32)))]) dX12_back_95 rfl rfl (by decide) rfl rfl ?_
  refine gk_goto (tgt := 38) dX12_back_98 (by decide) ?_
  exact gk_weak [some (gk_R 14 0), some (gk_I x1), some (gk_I x2), some (gk_I x3), some (gk_I x4), some (gk_I s0), some (gk_I (x6 + (1 : Int32)))] (And.intro rfl (And.intro rfl (And.intro rfl (And.intro rfl (And.intro rfl (And.intro rfl (And.intro rfl True.intro))))))) (hκ38 x1 x2 x3 x4 s0 ((x6 + (1 : Int32))) M12 h)
set_option maxRecDepth 100000 in
set_option maxHeartbeats 4000000 in
theorem ok_X12_back_l38 {K : gk_V → gk_M → Prop} : ∀ (n : Nat) (x1 : Int32) (x2 : Int32) (x3 : Int32) (x4 : Int32) (x5 : Int32) (x6 : Int32) (M : gk_M), gk_Sat gk_I (X12_back_l38 n x1 x2 x3 x4 x5 x6 M) K → gk_G RX12 cX12_back 7 4 (some .int) none K 38 [some (gk_R 14 0), some (gk_I x1), some (gk_I x2), some (gk_I x3), some (gk_I x4), some (gk_I x5), some (gk_I x6)] [] M := by
  intro n
  induction n with
  | zero => intro x1 x2 x3 x4 x5 x6 M h; exact h.no.elim
  | succ n ih =>
    intro x1 x2 x3 x4 x5 x6 M h
    refine gk_iload dX12_back_38 rfl ?_
    refine gk_bipush (v := (40 : Int32)) dX12_back_40 (by decide) ?_
    refine gk_icmp_gt (tgt := 101) dX12_back_42 (by decide) h (fun h => ?_) (fun h => ?_)
    · exact gk_weak [some (gk_R 14 0), none, none, none, none, some (gk_I x5), none] (And.intro rfl (And.intro rfl True.intro)) (ok_X12_back_j101 x5 M h)
    · refine gk_iload dX12_back_45 rfl ?_
      refine gk_if_ge (tgt := 101) dX12_back_47 (by decide) h (fun h => ?_) (fun h => ?_)
      · exact gk_weak [some (gk_R 14 0), none, none, none, none, some (gk_I x5), none] (And.intro rfl (And.intro rfl True.intro)) (ok_X12_back_j101 x5 M h)
      · refine gk_aload_n dX12_back_50 rfl rfl ?_
        refine gk_iload_n dX12_back_51 rfl rfl ?_
        refine gk_callI (As := [gk_R 14 0, gk_I x3]) (st := []) 3 (cr_X12_218 (by decide) rfl) (fun K' h' => ok_X12_reachOn x3 M K' h') rfl (by decide) (by decide) (fun _ => Nat.le_of_ble_eq_true rfl) dX12_back_52 h (fun r9 M8 h => ?_)
        refine gk_istore_n (L' := [some (gk_R 14 0), some (gk_I x1), some (gk_I x2), some (gk_I r9), some (gk_I x4), some (gk_I x5), some (gk_I x6)]) dX12_back_55 rfl (by decide) rfl rfl ?_
        refine gk_aload_n dX12_back_56 rfl rfl ?_
        refine gk_iload dX12_back_57 rfl ?_
        refine gk_callI (As := [gk_R 14 0, gk_I x4]) (st := []) 3 (cr_X12_218 (by decide) rfl) (fun K' h' => ok_X12_reachOn x4 M8 K' h') rfl (by decide) (by decide) (fun _ => Nat.le_of_ble_eq_true rfl) dX12_back_59 h (fun r11 M10 h => ?_)
        refine gk_iload_n dX12_back_62 rfl rfl ?_
        refine gk_iconst (v := (1 : Int32)) dX12_back_63 (by decide) ?_
        refine gk_iload_n dX12_back_64 rfl rfl ?_
        refine gk_ishl dX12_back_65 ?_
        refine gk_iand dX12_back_66 ?_
        refine gk_ior dX12_back_67 ?_
        refine gk_istore (L' := [some (gk_R 14 0), some (gk_I x1), some (gk_I x2), some (gk_I r9), some (gk_I (r11 ||| (r9 &&& ((1 : Int32) <<< (x2 &&& 31))))), some (gk_I x5), some (gk_I x6)]) dX12_back_68 (by decide) rfl rfl ?_
        refine gk_iload dX12_back_70 rfl ?_
        refine gk_iload_n dX12_back_72 rfl rfl ?_
        refine gk_ishr dX12_back_73 ?_
        refine gk_iconst (v := (1 : Int32)) dX12_back_74 (by decide) ?_
        refine gk_iand dX12_back_75 ?_
        refine gk_iconst (v := (1 : Int32)) dX12_back_76 (by decide) ?_
        refine gk_icmp_ne (tgt := 85) dX12_back_77 (by decide) h (fun h => ?_) (fun h => ?_)
        · refine gk_bipush (v := (-9 : Int32)) dX12_back_85 (by decide) ?_
          exact gk_weak [some (gk_R 14 0), some (gk_I x1), some (gk_I x2), some (gk_I r9), some (gk_I (r11 ||| (r9 &&& ((1 : Int32) <<< (x2 &&& 31))))), none, some (gk_I x6)] (And.intro rfl (And.intro rfl (And.intro rfl (And.intro rfl (And.intro rfl (And.intro rfl True.intro)))))) (ok_X12_back_j87 (X12_back_l38 n) ih x1 x2 r9 ((r11 ||| (r9 &&& ((1 : Int32) <<< (x2 &&& 31))))) x6 ((-9 : Int32)) M10 h)
        · refine gk_iload dX12_back_80 rfl ?_
          refine gk_goto (tgt := 87) dX12_back_82 (by decide) ?_
          exact gk_weak [some (gk_R 14 0), some (gk_I x1), some (gk_I x2), some (gk_I r9), some (gk_I (r11 ||| (r9 &&& ((1 : Int32) <<< (x2 &&& 31))))), none, some (gk_I x6)] (And.intro rfl (And.intro rfl (And.intro rfl (And.intro rfl (And.intro rfl (And.intro rfl True.intro)))))) (ok_X12_back_j87 (X12_back_l38 n) ih x1 x2 r9 ((r11 ||| (r9 &&& ((1 : Int32) <<< (x2 &&& 31))))) x6 x6 M10 h)
set_option maxRecDepth 100000 in
set_option maxHeartbeats 4000000 in
theorem ok_X12_back (a1 : Int32) (a2 : Int32) (M : gk_M) (K : gk_V → gk_M → Prop) (h : gk_Sat gk_I (f_X12_back a1 a2 M) K) : gk_MS 4 yX12_back cX12_back 7 (some .int) [gk_R 14 0, gk_I a1, gk_I a2] M K := by

  refine gk_MS_of [some (gk_R 14 0), some (gk_I a1), some (gk_I a2), none, none, none, none] (by decide +kernel) (Nat.le_of_ble_eq_true rfl) (And.intro rfl (And.intro rfl (And.intro rfl True.intro))) ?_
  show gk_G RX12 cX12_back 7 4 (some .int) none K 0 [some (gk_R 14 0), some (gk_I a1), some (gk_I a2), none, none, none, none] [] M
  refine gk_aload_n dX12_back_0 rfl rfl ?_
  refine gk_iconst (v := (0 : Int32)) dX12_back_1 (by decide) ?_
  refine gk_putI fr_X12_65 si_14_13 (by decide) dX12_back_2 h (fun M1 h => ?_)
  refine gk_aload_n dX12_back_5 rfl rfl ?_
  refine gk_iload_n dX12_back_6 rfl rfl ?_
  refine gk_iload_n dX12_back_7 rfl rfl ?_
  refine gk_callI (As := [gk_R 14 0, gk_I a1, gk_I a2]) (st := []) 2 (cr_X12_202 (by decide) rfl) (fun K' h' => ok_X12_areTwo a1 a2 M1 K' h') rfl (by decide) (by decide) (fun _ => Nat.le_of_ble_eq_true rfl) dX12_back_8 h (fun r3 M2 h => ?_)
  refine gk_if_ne (tgt := 20) dX12_back_11 (by decide) h (fun h => ?_) (fun h => ?_)
  · refine gk_aload_n dX12_back_20 rfl rfl ?_
    refine gk_callV (As := [gk_R 14 0]) (st := []) 2 (cr_X12_182 (by decide) rfl) (fun K' h' => ok_X12_open0 M2 K' h') rfl (by decide) (by decide) (fun _ => Nat.le_of_ble_eq_true rfl) dX12_back_21 h (fun _ M4 h => ?_)
    refine gk_iconst (v := (1 : Int32)) dX12_back_24 (by decide) ?_
    refine gk_iload_n dX12_back_25 rfl rfl ?_
    refine gk_ishl dX12_back_26 ?_
    refine gk_istore_n (L' := [some (gk_R 14 0), some (gk_I a1), some (gk_I a2), some (gk_I ((1 : Int32) <<< (a1 &&& 31))), none, none, none]) dX12_back_27 rfl (by decide) rfl rfl ?_
    refine gk_iconst (v := (0 : Int32)) dX12_back_28 (by decide) ?_
    refine gk_istore (L' := [some (gk_R 14 0), some (gk_I a1), some (gk_I a2), some (gk_I ((1 : Int32) <<< (a1 &&& 31))), some (gk_I (0 : Int32)), none, none]) dX12_back_29 (by decide) rfl rfl ?_
    refine gk_bipush (v := (-9 : Int32)) dX12_back_31 (by decide) ?_
    refine gk_istore (L' := [some (gk_R 14 0), some (gk_I a1), some (gk_I a2), some (gk_I ((1 : Int32) <<< (a1 &&& 31))), some (gk_I (0 : Int32)), some (gk_I (-9 : Int32)), none]) dX12_back_33 (by decide) rfl rfl ?_
    refine gk_iconst (v := (1 : Int32)) dX12_back_35 (by decide) ?_
    refine gk_istore (L' := [some (gk_R 14 0), some (gk_I a1), some (gk_I a2), some (gk_I ((1 : Int32) <<< (a1 &&& 31))), some (gk_I (0 : Int32)), some (gk_I (-9 : Int32)), some (gk_I (1 : Int32))]) dX12_back_36 (by decide) rfl rfl ?_
    exact gk_weak [some (gk_R 14 0), some (gk_I a1), some (gk_I a2), some (gk_I ((1 : Int32) <<< (a1 &&& 31))), some (gk_I (0 : Int32)), some (gk_I (-9 : Int32)), some (gk_I (1 : Int32))] (And.intro rfl (And.intro rfl (And.intro rfl (And.intro rfl (And.intro rfl (And.intro rfl (And.intro rfl True.intro))))))) (ok_X12_back_l38 200 a1 a2 (((1 : Int32) <<< (a1 &&& 31))) ((0 : Int32)) ((-9 : Int32)) ((1 : Int32)) M4 h)
  · refine gk_aload_n dX12_back_14 rfl rfl ?_
    refine gk_iconst (v := (-1 : Int32)) dX12_back_15 (by decide) ?_
    refine gk_callI (As := [gk_R 14 0, gk_I (-1 : Int32)]) (st := []) 0 (cr_X12_134 (by decide) rfl) (fun K' h' => ok_X12_refuse (-1 : Int32) M2 K' h') rfl (by decide) (by decide) (fun _ => Nat.le_of_ble_eq_true rfl) dX12_back_16 h (fun r15 M14 h => ?_)
    exact gk_iret dX12_back_19 rfl h
set_option maxRecDepth 100000 in
set_option maxHeartbeats 4000000 in
theorem ok_X12_news_j96 {K : gk_V → gk_M → Prop} (x4 : Int32) (M : gk_M) (h : gk_Sat gk_I (X12_news_j96 x4 M) K) : gk_G RX12 cX12_news 6 4 (some .int) none K 96 [some (gk_R 14 0), none, none, none, some (gk_I x4), none] [] M := by
  refine gk_aload_n dX12_news_96 rfl rfl ?_
  refine gk_callV (As := [gk_R 14 0]) (st := []) 2 (cr_X12_188 (by decide) rfl) (fun K' h' => ok_X12_close M K' h') rfl (by decide) (by decide) (fun _ => Nat.le_of_ble_eq_true rfl) dX12_news_97 h (fun _ M6 h => ?_)
  refine gk_iload dX12_news_100 rfl ?_
  exact gk_iret dX12_news_102 rfl h
set_option maxRecDepth 100000 in
set_option maxHeartbeats 4000000 in
theorem ok_X12_news_j82 {K : gk_V → gk_M → Prop} (κ52 : Int32 → Int32 → Int32 → Int32 → gk_M → Option (Int32 × gk_M)) (hκ52 : ∀ (x2 : Int32) (x3 : Int32) (x4 : Int32) (x5 : Int32) (M : gk_M), gk_Sat gk_I (κ52 x2 x3 x4 x5 M) K → gk_G RX12 cX12_news 6 4 (some .int) none K 52 [some (gk_R 14 0), none, some (gk_I x2), some (gk_I x3), some (gk_I x4), some (gk_I x5)] [] M) (x2 : Int32) (x3 : Int32) (x5 : Int32) (s0 : Int32) (M : gk_M) (h : gk_Sat gk_I (X12_news_j82 κ52 x2 x3 x5 s0 M) K) : gk_G RX12 cX12_news 6 4 (some .int) none K 82 [some (gk_R 14 0), none, some (gk_I x2), some (gk_I x3), none, some (gk_I x5)] [gk_I s0] M := by
  refine gk_istore (L' := [some (gk_R 14 0), none, some (gk_I x2), some (gk_I x3), some (gk_I s0), some (gk_I x5)]) dX12_news_82 (by decide) rfl rfl ?_
  refine gk_aload_n dX12_news_84 rfl rfl ?_
  refine gk_iconst (v := (1 : Int32)) dX12_news_85 (by decide) ?_
  refine gk_callI (As := [gk_R 14 0, gk_I (1 : Int32)]) (st := []) 3 (cr_X12_199 (by decide) rfl) (fun K' h' => ok_X12_daysOn (1 : Int32) M K' h') rfl (by decide) (by decide) (fun _ => Nat.le_of_ble_eq_true rfl) dX12_news_86 h (fun r11 M10 h => ?_)
  refine gk_pop dX12_news_89 rfl ?_
  refine gk_iinc (v := (x5 + (1 : Int32))) (L' := [some (gk_R 14 0), none, some (gk_I x2), some (gk_I x3), some (gk_I s0), some (gk_I (x5 + (1 : Int32)))]) dX12_news_90 rfl rfl (by decide) rfl rfl ?_
  refine gk_goto (tgt := 52) dX12_news_93 (by decide) ?_
  exact gk_weak [some (gk_R 14 0), none, some (gk_I x2), some (gk_I x3), some (gk_I s0), some (gk_I (x5 + (1 : Int32)))] (And.intro rfl (And.intro rfl (And.intro rfl (And.intro rfl (And.intro rfl True.intro))))) (hκ52 x2 x3 s0 ((x5 + (1 : Int32))) M10 h)
set_option maxRecDepth 100000 in
set_option maxHeartbeats 4000000 in
theorem ok_X12_news_l52 {K : gk_V → gk_M → Prop} : ∀ (n : Nat) (x2 : Int32) (x3 : Int32) (x4 : Int32) (x5 : Int32) (M : gk_M), gk_Sat gk_I (X12_news_l52 n x2 x3 x4 x5 M) K → gk_G RX12 cX12_news 6 4 (some .int) none K 52 [some (gk_R 14 0), none, some (gk_I x2), some (gk_I x3), some (gk_I x4), some (gk_I x5)] [] M := by
  intro n
  induction n with
  | zero => intro x2 x3 x4 x5 M h; exact h.no.elim
  | succ n ih =>
    intro x2 x3 x4 x5 M h
    refine gk_iload dX12_news_52 rfl ?_
    refine gk_bipush (v := (40 : Int32)) dX12_news_54 (by decide) ?_
    refine gk_icmp_gt (tgt := 96) dX12_news_56 (by decide) h (fun h => ?_) (fun h => ?_)
    · exact gk_weak [some (gk_R 14 0), none, none, none, some (gk_I x4), none] (And.intro rfl (And.intro rfl True.intro)) (ok_X12_news_j96 x4 M h)
    · refine gk_iload dX12_news_59 rfl ?_
      refine gk_if_ge (tgt := 96) dX12_news_61 (by decide) h (fun h => ?_) (fun h => ?_)
      · exact gk_weak [some (gk_R 14 0), none, none, none, some (gk_I x4), none] (And.intro rfl (And.intro rfl True.intro)) (ok_X12_news_j96 x4 M h)
      · refine gk_aload_n dX12_news_64 rfl rfl ?_
        refine gk_iload_n dX12_news_65 rfl rfl ?_
        refine gk_callI (As := [gk_R 14 0, gk_I x3]) (st := []) 3 (cr_X12_218 (by decide) rfl) (fun K' h' => ok_X12_reachOn x3 M K' h') rfl (by decide) (by decide) (fun _ => Nat.le_of_ble_eq_true rfl) dX12_news_66 h (fun r9 M8 h => ?_)
        refine gk_istore_n (L' := [some (gk_R 14 0), none, some (gk_I x2), some (gk_I r9), some (gk_I x4), some (gk_I x5)]) dX12_news_69 rfl (by decide) rfl rfl ?_
        refine gk_iload_n dX12_news_70 rfl rfl ?_
        refine gk_iload_n dX12_news_71 rfl rfl ?_
        refine gk_icmp_ne (tgt := 80) dX12_news_72 (by decide) h (fun h => ?_) (fun h => ?_)
        · refine gk_bipush (v := (-9 : Int32)) dX12_news_80 (by decide) ?_
          exact gk_weak [some (gk_R 14 0), none, some (gk_I x2), some (gk_I r9), none, some (gk_I x5)] (And.intro rfl (And.intro rfl (And.intro rfl (And.intro rfl True.intro)))) (ok_X12_news_j82 (X12_news_l52 n) ih x2 r9 x5 ((-9 : Int32)) M8 h)
        · refine gk_iload dX12_news_75 rfl ?_
          refine gk_goto (tgt := 82) dX12_news_77 (by decide) ?_
          exact gk_weak [some (gk_R 14 0), none, some (gk_I x2), some (gk_I r9), none, some (gk_I x5)] (And.intro rfl (And.intro rfl (And.intro rfl (And.intro rfl True.intro)))) (ok_X12_news_j82 (X12_news_l52 n) ih x2 r9 x5 x5 M8 h)
set_option maxRecDepth 100000 in
set_option maxHeartbeats 4000000 in
theorem ok_X12_news_j47 {K : gk_V → gk_M → Prop} (x2 : Int32) (x3 : Int32) (s0 : Int32) (M : gk_M) (h : gk_Sat gk_I (X12_news_j47 x2 x3 s0 M) K) : gk_G RX12 cX12_news 6 4 (some .int) none K 47 [some (gk_R 14 0), none, some (gk_I x2), some (gk_I x3), none, none] [gk_I s0] M := by
  refine gk_istore (L' := [some (gk_R 14 0), none, some (gk_I x2), some (gk_I x3), some (gk_I s0), none]) dX12_news_47 (by decide) rfl rfl ?_
  refine gk_iconst (v := (1 : Int32)) dX12_news_49 (by decide) ?_
  refine gk_istore (L' := [some (gk_R 14 0), none, some (gk_I x2), some (gk_I x3), some (gk_I s0), some (gk_I (1 : Int32))]) dX12_news_50 (by decide) rfl rfl ?_
  exact gk_weak [some (gk_R 14 0), none, some (gk_I x2), some (gk_I x3), some (gk_I s0), some (gk_I (1 : Int32))] (And.intro rfl (And.intro rfl (And.intro rfl (And.intro rfl (And.intro rfl True.intro))))) (ok_X12_news_l52 200 x2 x3 s0 ((1 : Int32)) M h)
set_option maxRecDepth 100000 in
set_option maxHeartbeats 4000000 in
theorem ok_X12_news (a1 : Int32) (M : gk_M) (K : gk_V → gk_M → Prop) (h : gk_Sat gk_I (f_X12_news a1 M) K) : gk_MS 4 yX12_news cX12_news 6 (some .int) [gk_R 14 0, gk_I a1] M K := by

  refine gk_MS_of [some (gk_R 14 0), some (gk_I a1), none, none, none, none] (by decide +kernel) (Nat.le_of_ble_eq_true rfl) (And.intro rfl (And.intro rfl True.intro)) ?_
  show gk_G RX12 cX12_news 6 4 (some .int) none K 0 [some (gk_R 14 0), some (gk_I a1), none, none, none, none] [] M
  refine gk_aload_n dX12_news_0 rfl rfl ?_
  refine gk_iconst (v := (0 : Int32)) dX12_news_1 (by decide) ?_
  refine gk_putI fr_X12_65 si_14_13 (by decide) dX12_news_2 h (fun M1 h => ?_)
  refine gk_aload_n dX12_news_5 rfl rfl ?_
  refine gk_iload_n dX12_news_6 rfl rfl ?_
  refine gk_callI (As := [gk_R 14 0, gk_I a1]) (st := []) 1 (cr_X12_75 (by decide) rfl) (fun K' h' => ok_X12_isShip a1 M1 K' h') rfl (by decide) (by decide) (fun _ => Nat.le_of_ble_eq_true rfl) dX12_news_7 h (fun r3 M2 h => ?_)
  refine gk_if_ne (tgt := 19) dX12_news_10 (by decide) h (fun h => ?_) (fun h => ?_)
  · refine gk_aload_n dX12_news_19 rfl rfl ?_
    refine gk_callV (As := [gk_R 14 0]) (st := []) 2 (cr_X12_182 (by decide) rfl) (fun K' h' => ok_X12_open0 M2 K' h') rfl (by decide) (by decide) (fun _ => Nat.le_of_ble_eq_true rfl) dX12_news_20 h (fun _ M4 h => ?_)
    refine gk_iconst (v := (1 : Int32)) dX12_news_23 (by decide) ?_
    refine gk_aload_n dX12_news_24 rfl rfl ?_
    refine gk_getI fr_X12_68 si_14_0 (by decide) dX12_news_25 ?_
    refine gk_ishl dX12_news_28 ?_
    refine gk_iconst (v := (1 : Int32)) dX12_news_29 (by decide) ?_
    refine gk_isub dX12_news_30 ?_
    refine gk_istore_n (L' := [some (gk_R 14 0), some (gk_I a1), some (gk_I (((1 : Int32) <<< ((M4 14 0 0) &&& 31)) - (1 : Int32))), none, none, none]) dX12_news_31 rfl (by decide) rfl rfl ?_
    refine gk_iconst (v := (1 : Int32)) dX12_news_32 (by decide) ?_
    refine gk_iload_n dX12_news_33 rfl rfl ?_
    refine gk_ishl dX12_news_34 ?_
    refine gk_istore_n (L' := [some (gk_R 14 0), some (gk_I a1), some (gk_I (((1 : Int32) <<< ((M4 14 0 0) &&& 31)) - (1 : Int32))), some (gk_I ((1 : Int32) <<< (a1 &&& 31))), none, none]) dX12_news_35 rfl (by decide) rfl rfl ?_
    refine gk_iload_n dX12_news_36 rfl rfl ?_
    refine gk_iload_n dX12_news_37 rfl rfl ?_
    refine gk_icmp_ne (tgt := 45) dX12_news_38 (by decide) h (fun h => ?_) (fun h => ?_)
    · refine gk_bipush (v := (-9 : Int32)) dX12_news_45 (by decide) ?_
      exact gk_weak [some (gk_R 14 0), none, some (gk_I (((1 : Int32) <<< ((M4 14 0 0) &&& 31)) - (1 : Int32))), some (gk_I ((1 : Int32) <<< (a1 &&& 31))), none, none] (And.intro rfl (And.intro rfl (And.intro rfl True.intro))) (ok_X12_news_j47 ((((1 : Int32) <<< ((M4 14 0 0) &&& 31)) - (1 : Int32))) (((1 : Int32) <<< (a1 &&& 31))) ((-9 : Int32)) M4 h)
    · refine gk_iconst (v := (0 : Int32)) dX12_news_41 (by decide) ?_
      refine gk_goto (tgt := 47) dX12_news_42 (by decide) ?_
      exact gk_weak [some (gk_R 14 0), none, some (gk_I (((1 : Int32) <<< ((M4 14 0 0) &&& 31)) - (1 : Int32))), some (gk_I ((1 : Int32) <<< (a1 &&& 31))), none, none] (And.intro rfl (And.intro rfl (And.intro rfl True.intro))) (ok_X12_news_j47 ((((1 : Int32) <<< ((M4 14 0 0) &&& 31)) - (1 : Int32))) (((1 : Int32) <<< (a1 &&& 31))) ((0 : Int32)) M4 h)
  · refine gk_aload_n dX12_news_13 rfl rfl ?_
    refine gk_iconst (v := (-1 : Int32)) dX12_news_14 (by decide) ?_
    refine gk_callI (As := [gk_R 14 0, gk_I (-1 : Int32)]) (st := []) 0 (cr_X12_134 (by decide) rfl) (fun K' h' => ok_X12_refuse (-1 : Int32) M2 K' h') rfl (by decide) (by decide) (fun _ => Nat.le_of_ble_eq_true rfl) dX12_news_15 h (fun r13 M12 h => ?_)
    exact gk_iret dX12_news_18 rfl h
set_option maxRecDepth 100000 in
set_option maxHeartbeats 4000000 in
theorem ok_X12_know_l46 {K : gk_V → gk_M → Prop} : ∀ (n : Nat) (x2 : Int32) (x4 : Int32) (x5 : Int32) (M : gk_M), gk_Sat gk_I (X12_know_l46 n x2 x4 x5 M) K → gk_G RX12 cX12_know 6 4 (some .int) none K 46 [some (gk_R 14 0), none, some (gk_I x2), none, some (gk_I x4), some (gk_I x5)] [] M := by
  intro n
  induction n with
  | zero => intro x2 x4 x5 M h; exact h.no.elim
  | succ n ih =>
    intro x2 x4 x5 M h
    refine gk_iload dX12_know_46 rfl ?_
    refine gk_iload_n dX12_know_48 rfl rfl ?_
    refine gk_icmp_ge (tgt := 72) dX12_know_49 (by decide) h (fun h => ?_) (fun h => ?_)
    · refine gk_aload_n dX12_know_72 rfl rfl ?_
      refine gk_callV (As := [gk_R 14 0]) (st := []) 2 (cr_X12_188 (by decide) rfl) (fun K' h' => ok_X12_close M K' h') rfl (by decide) (by decide) (fun _ => Nat.le_of_ble_eq_true rfl) dX12_know_73 h (fun _ M6 h => ?_)
      refine gk_iload dX12_know_76 rfl ?_
      exact gk_iret dX12_know_78 rfl h
    · refine gk_aload_n dX12_know_52 rfl rfl ?_
      refine gk_iload dX12_know_53 rfl ?_
      refine gk_callI (As := [gk_R 14 0, gk_I x4]) (st := []) 3 (cr_X12_218 (by decide) rfl) (fun K' h' => ok_X12_reachOn x4 M K' h') rfl (by decide) (by decide) (fun _ => Nat.le_of_ble_eq_true rfl) dX12_know_55 h (fun r9 M8 h => ?_)
      refine gk_istore (L' := [some (gk_R 14 0), none, some (gk_I x2), none, some (gk_I r9), some (gk_I x5)]) dX12_know_58 (by decide) rfl rfl ?_
      refine gk_aload_n dX12_know_60 rfl rfl ?_
      refine gk_iconst (v := (1 : Int32)) dX12_know_61 (by decide) ?_
      refine gk_callI (As := [gk_R 14 0, gk_I (1 : Int32)]) (st := []) 3 (cr_X12_199 (by decide) rfl) (fun K' h' => ok_X12_daysOn (1 : Int32) M8 K' h') rfl (by decide) (by decide) (fun _ => Nat.le_of_ble_eq_true rfl) dX12_know_62 h (fun r11 M10 h => ?_)
      refine gk_pop dX12_know_65 rfl ?_
      refine gk_iinc (v := (x5 + (1 : Int32))) (L' := [some (gk_R 14 0), none, some (gk_I x2), none, some (gk_I r9), some (gk_I (x5 + (1 : Int32)))]) dX12_know_66 rfl rfl (by decide) rfl rfl ?_
      refine gk_goto (tgt := 46) dX12_know_69 (by decide) ?_
      exact gk_weak [some (gk_R 14 0), none, some (gk_I x2), none, some (gk_I r9), some (gk_I (x5 + (1 : Int32)))] (And.intro rfl (And.intro rfl (And.intro rfl (And.intro rfl True.intro)))) (ih x2 r9 ((x5 + (1 : Int32))) M10 h)
set_option maxRecDepth 100000 in
set_option maxHeartbeats 4000000 in
theorem ok_X12_know_j23 {K : gk_V → gk_M → Prop} (x1 : Int32) (x2 : Int32) (s0 : Int32) (M : gk_M) (h : gk_Sat gk_I (X12_know_j23 x1 x2 s0 M) K) : gk_G RX12 cX12_know 6 4 (some .int) none K 23 [some (gk_R 14 0), some (gk_I x1), some (gk_I x2), none, none, none] [gk_I s0] M := by
  refine gk_istore_n (L' := [some (gk_R 14 0), some (gk_I x1), some (gk_I x2), some (gk_I s0), none, none]) dX12_know_23 rfl (by decide) rfl rfl ?_
  refine gk_iload_n dX12_know_24 rfl rfl ?_
  refine gk_if_ge (tgt := 34) dX12_know_25 (by decide) h (fun h => ?_) (fun h => ?_)
  · refine gk_aload_n dX12_know_34 rfl rfl ?_
    refine gk_callV (As := [gk_R 14 0]) (st := []) 2 (cr_X12_182 (by decide) rfl) (fun K' h' => ok_X12_open0 M K' h') rfl (by decide) (by decide) (fun _ => Nat.le_of_ble_eq_true rfl) dX12_know_35 h (fun _ M4 h => ?_)
    refine gk_iconst (v := (1 : Int32)) dX12_know_38 (by decide) ?_
    refine gk_iload_n dX12_know_39 rfl rfl ?_
    refine gk_ishl dX12_know_40 ?_
    refine gk_istore (L' := [some (gk_R 14 0), some (gk_I x1), some (gk_I x2), some (gk_I s0), some (gk_I ((1 : Int32) <<< (x1 &&& 31))), none]) dX12_know_41 (by decide) rfl rfl ?_
    refine gk_iconst (v := (0 : Int32)) dX12_know_43 (by decide) ?_
    refine gk_istore (L' := [some (gk_R 14 0), some (gk_I x1), some (gk_I x2), some (gk_I s0), some (gk_I ((1 : Int32) <<< (x1 &&& 31))), some (gk_I (0 : Int32))]) dX12_know_44 (by decide) rfl rfl ?_
    exact gk_weak [some (gk_R 14 0), none, some (gk_I x2), none, some (gk_I ((1 : Int32) <<< (x1 &&& 31))), some (gk_I (0 : Int32))] (And.intro rfl (And.intro rfl (And.intro rfl (And.intro rfl True.intro)))) (ok_X12_know_l46 200 x2 (((1 : Int32) <<< (x1 &&& 31))) ((0 : Int32)) M4 h)
  · refine gk_aload_n dX12_know_28 rfl rfl ?_
    refine gk_iload_n dX12_know_29 rfl rfl ?_
    refine gk_callI (As := [gk_R 14 0, gk_I s0]) (st := []) 0 (cr_X12_134 (by decide) rfl) (fun K' h' => ok_X12_refuse s0 M K' h') rfl (by decide) (by decide) (fun _ => Nat.le_of_ble_eq_true rfl) dX12_know_30 h (fun r13 M12 h => ?_)
    exact gk_iret dX12_know_33 rfl h
set_option maxRecDepth 100000 in
set_option maxHeartbeats 4000000 in
theorem ok_X12_know (a1 : Int32) (a2 : Int32) (M : gk_M) (K : gk_V → gk_M → Prop) (h : gk_Sat gk_I (f_X12_know a1 a2 M) K) : gk_MS 4 yX12_know cX12_know 6 (some .int) [gk_R 14 0, gk_I a1, gk_I a2] M K := by

  refine gk_MS_of [some (gk_R 14 0), some (gk_I a1), some (gk_I a2), none, none, none] (by decide +kernel) (Nat.le_of_ble_eq_true rfl) (And.intro rfl (And.intro rfl (And.intro rfl True.intro))) ?_
  show gk_G RX12 cX12_know 6 4 (some .int) none K 0 [some (gk_R 14 0), some (gk_I a1), some (gk_I a2), none, none, none] [] M
  refine gk_aload_n dX12_know_0 rfl rfl ?_
  refine gk_iconst (v := (0 : Int32)) dX12_know_1 (by decide) ?_
  refine gk_putI fr_X12_65 si_14_13 (by decide) dX12_know_2 h (fun M1 h => ?_)
  refine gk_aload_n dX12_know_5 rfl rfl ?_
  refine gk_iload_n dX12_know_6 rfl rfl ?_
  refine gk_callI (As := [gk_R 14 0, gk_I a1]) (st := []) 1 (cr_X12_75 (by decide) rfl) (fun K' h' => ok_X12_isShip a1 M1 K' h') rfl (by decide) (by decide) (fun _ => Nat.le_of_ble_eq_true rfl) dX12_know_7 h (fun r3 M2 h => ?_)
  refine gk_if_eq (tgt := 22) dX12_know_10 (by decide) h (fun h => ?_) (fun h => ?_)
  · refine gk_iconst (v := (-1 : Int32)) dX12_know_22 (by decide) ?_
    exact gk_weak [some (gk_R 14 0), some (gk_I a1), some (gk_I a2), none, none, none] (And.intro rfl (And.intro rfl (And.intro rfl True.intro))) (ok_X12_know_j23 a1 a2 ((-1 : Int32)) M2 h)
  · refine gk_iload_n dX12_know_13 rfl rfl ?_
    refine gk_bipush (v := (40 : Int32)) dX12_know_14 (by decide) ?_
    refine gk_callI (As := [gk_I a2, gk_I (40 : Int32)]) (st := []) 0 (cr_X12_208 rfl) (fun K' h' => ok_X12_wrongDays a2 (40 : Int32) M2 K' h') rfl (by decide) (by decide) (fun _ => Nat.le_of_ble_eq_true rfl) dX12_know_16 h (fun r15 M14 h => ?_)
    refine gk_goto (tgt := 23) dX12_know_19 (by decide) ?_
    exact gk_weak [some (gk_R 14 0), some (gk_I a1), some (gk_I a2), none, none, none] (And.intro rfl (And.intro rfl (And.intro rfl True.intro))) (ok_X12_know_j23 a1 a2 r15 M14 h)
set_option maxRecDepth 100000 in
set_option maxHeartbeats 4000000 in
theorem ok_X12_lost_j79 {K : gk_V → gk_M → Prop} (κ9 : Int32 → Int32 → gk_M → Option (Int32 × gk_M)) (hκ9 : ∀ (x1 : Int32) (x2 : Int32) (M : gk_M), gk_Sat gk_I (κ9 x1 x2 M) K → gk_G RX12 cX12_lost 5 2 (some .int) none K 9 [some (gk_R 14 0), some (gk_I x1), some (gk_I x2), none, none] [] M) (x2 : Int32) (s0 : Int32) (s1 : Int32) (M : gk_M) (h : gk_Sat gk_I (X12_lost_j79 κ9 x2 s0 s1 M) K) : gk_G RX12 cX12_lost 5 2 (some .int) none K 79 [some (gk_R 14 0), none, some (gk_I x2), none, none] [gk_I s0, gk_I s1] M := by
  refine gk_ior dX12_lost_79 ?_
  refine gk_istore_n (L' := [some (gk_R 14 0), some (gk_I (s1 ||| s0)), some (gk_I x2), none, none]) dX12_lost_80 rfl (by decide) rfl rfl ?_
  refine gk_iinc (v := (x2 + (1 : Int32))) (L' := [some (gk_R 14 0), some (gk_I (s1 ||| s0)), some (gk_I (x2 + (1 : Int32))), none, none]) dX12_lost_81 rfl rfl (by decide) rfl rfl ?_
  refine gk_goto (tgt := 9) dX12_lost_84 (by decide) ?_
  exact gk_weak [some (gk_R 14 0), some (gk_I (s1 ||| s0)), some (gk_I (x2 + (1 : Int32))), none, none] (And.intro rfl (And.intro rfl (And.intro rfl True.intro))) (hκ9 ((s1 ||| s0)) ((x2 + (1 : Int32))) M h)
set_option maxRecDepth 100000 in
set_option maxHeartbeats 4000000 in
theorem ok_X12_lost_j60 {K : gk_V → gk_M → Prop} (κ9 : Int32 → Int32 → gk_M → Option (Int32 × gk_M)) (κ22 : Int32 → Int32 → Int32 → Int32 → gk_M → Option (Int32 × gk_M)) (hκ9 : ∀ (x1 : Int32) (x2 : Int32) (M : gk_M), gk_Sat gk_I (κ9 x1 x2 M) K → gk_G RX12 cX12_lost 5 2 (some .int) none K 9 [some (gk_R 14 0), some (gk_I x1), some (gk_I x2), none, none] [] M) (hκ22 : ∀ (x1 : Int32) (x2 : Int32) (x3 : Int32) (x4 : Int32) (M : gk_M), gk_Sat gk_I (κ22 x1 x2 x3 x4 M) K → gk_G RX12 cX12_lost 5 2 (some .int) none K 22 [some (gk_R 14 0), some (gk_I x1), some (gk_I x2), some (gk_I x3), some (gk_I x4)] [] M) (x1 : Int32) (x2 : Int32) (x4 : Int32) (s0 : Int32) (M : gk_M) (h : gk_Sat gk_I (X12_lost_j60 κ9 κ22 x1 x2 x4 s0 M) K) : gk_G RX12 cX12_lost 5 2 (some .int) none K 60 [some (gk_R 14 0), some (gk_I x1), some (gk_I x2), none, some (gk_I x4)] [gk_I s0] M := by
  refine gk_istore_n (L' := [some (gk_R 14 0), some (gk_I x1), some (gk_I x2), some (gk_I s0), some (gk_I x4)]) dX12_lost_60 rfl (by decide) rfl rfl ?_
  refine gk_iinc (v := (x4 + (1 : Int32))) (L' := [some (gk_R 14 0), some (gk_I x1), some (gk_I x2), some (gk_I s0), some (gk_I (x4 + (1 : Int32)))]) dX12_lost_61 rfl rfl (by decide) rfl rfl ?_
  refine gk_goto (tgt := 22) dX12_lost_64 (by decide) ?_
  exact gk_weak [some (gk_R 14 0), some (gk_I x1), some (gk_I x2), some (gk_I s0), some (gk_I (x4 + (1 : Int32)))] (And.intro rfl (And.intro rfl (And.intro rfl (And.intro rfl (And.intro rfl True.intro))))) (hκ22 x1 x2 s0 ((x4 + (1 : Int32))) M h)
set_option maxRecDepth 100000 in
set_option maxHeartbeats 4000000 in
theorem ok_X12_lost_j59 {K : gk_V → gk_M → Prop} (κ9 : Int32 → Int32 → gk_M → Option (Int32 × gk_M)) (κ22 : Int32 → Int32 → Int32 → Int32 → gk_M → Option (Int32 × gk_M)) (hκ9 : ∀ (x1 : Int32) (x2 : Int32) (M : gk_M), gk_Sat gk_I (κ9 x1 x2 M) K → gk_G RX12 cX12_lost 5 2 (some .int) none K 9 [some (gk_R 14 0), some (gk_I x1), some (gk_I x2), none, none] [] M) (hκ22 : ∀ (x1 : Int32) (x2 : Int32) (x3 : Int32) (x4 : Int32) (M : gk_M), gk_Sat gk_I (κ22 x1 x2 x3 x4 M) K → gk_G RX12 cX12_lost 5 2 (some .int) none K 22 [some (gk_R 14 0), some (gk_I x1), some (gk_I x2), some (gk_I x3), some (gk_I x4)] [] M) (x1 : Int32) (x2 : Int32) (x4 : Int32) (M : gk_M) (h : gk_Sat gk_I (X12_lost_j59 κ9 κ22 x1 x2 x4 M) K) : gk_G RX12 cX12_lost 5 2 (some .int) none K 59 [some (gk_R 14 0), some (gk_I x1), some (gk_I x2), none, some (gk_I x4)] [] M := by
  refine gk_iconst (v := (0 : Int32)) dX12_lost_59 (by decide) ?_
  exact gk_weak [some (gk_R 14 0), some (gk_I x1), some (gk_I x2), none, some (gk_I x4)] (And.intro rfl (And.intro rfl (And.intro rfl (And.intro rfl True.intro)))) (ok_X12_lost_j60 κ9 κ22 hκ9 hκ22 x1 x2 x4 ((0 : Int32)) M h)
set_option maxRecDepth 100000 in
set_option maxHeartbeats 4000000 in
theorem ok_X12_lost_j55 {K : gk_V → gk_M → Prop} (κ9 : Int32 → Int32 → gk_M → Option (Int32 × gk_M)) (κ22 : Int32 → Int32 → Int32 → Int32 → gk_M → Option (Int32 × gk_M)) (hκ9 : ∀ (x1 : Int32) (x2 : Int32) (M : gk_M), gk_Sat gk_I (κ9 x1 x2 M) K → gk_G RX12 cX12_lost 5 2 (some .int) none K 9 [some (gk_R 14 0), some (gk_I x1), some (gk_I x2), none, none] [] M) (hκ22 : ∀ (x1 : Int32) (x2 : Int32) (x3 : Int32) (x4 : Int32) (M : gk_M), gk_Sat gk_I (κ22 x1 x2 x3 x4 M) K → gk_G RX12 cX12_lost 5 2 (some .int) none K 22 [some (gk_R 14 0), some (gk_I x1), some (gk_I x2), some (gk_I x3), some (gk_I x4)] [] M) (x1 : Int32) (x2 : Int32) (x4 : Int32) (M : gk_M) (h : gk_Sat gk_I (X12_lost_j55 κ9 κ22 x1 x2 x4 M) K) : gk_G RX12 cX12_lost 5 2 (some .int) none K 55 [some (gk_R 14 0), some (gk_I x1), some (gk_I x2), none, some (gk_I x4)] [] M := by
  refine gk_iconst (v := (1 : Int32)) dX12_lost_55 (by decide) ?_
  refine gk_goto (tgt := 60) dX12_lost_56 (by decide) ?_
  exact gk_weak [some (gk_R 14 0), some (gk_I x1), some (gk_I x2), none, some (gk_I x4)] (And.intro rfl (And.intro rfl (And.intro rfl (And.intro rfl True.intro)))) (ok_X12_lost_j60 κ9 κ22 hκ9 hκ22 x1 x2 x4 ((1 : Int32)) M h)
set_option maxRecDepth 100000 in
set_option maxHeartbeats 4000000 in
theorem ok_X12_lost_l22 {K : gk_V → gk_M → Prop} (κ9 : Int32 → Int32 → gk_M → Option (Int32 × gk_M)) (hκ9 : ∀ (x1 : Int32) (x2 : Int32) (M : gk_M), gk_Sat gk_I (κ9 x1 x2 M) K → gk_G RX12 cX12_lost 5 2 (some .int) none K 9 [some (gk_R 14 0), some (gk_I x1), some (gk_I x2), none, none] [] M) : ∀ (n : Nat) (x1 : Int32) (x2 : Int32) (x3 : Int32) (x4 : Int32) (M : gk_M), gk_Sat gk_I (X12_lost_l22 κ9 n x1 x2 x3 x4 M) K → gk_G RX12 cX12_lost 5 2 (some .int) none K 22 [some (gk_R 14 0), some (gk_I x1), some (gk_I x2), some (gk_I x3), some (gk_I x4)] [] M := by
  intro n
  induction n with
  | zero => intro x1 x2 x3 x4 M h; exact h.no.elim
  | succ n ih =>
    intro x1 x2 x3 x4 M h
    refine gk_iload dX12_lost_22 rfl ?_
    refine gk_aload_n dX12_lost_24 rfl rfl ?_
    refine gk_getI fr_X12_68 si_14_0 (by decide) dX12_lost_25 ?_
    refine gk_icmp_ge (tgt := 67) dX12_lost_28 (by decide) h (fun h => ?_) (fun h => ?_)
    · refine gk_iload_n dX12_lost_67 rfl rfl ?_
      refine gk_iload_n dX12_lost_68 rfl rfl ?_
      refine gk_if_eq (tgt := 78) dX12_lost_69 (by decide) h (fun h => ?_) (fun h => ?_)
      · refine gk_iconst (v := (0 : Int32)) dX12_lost_78 (by decide) ?_
        exact gk_weak [some (gk_R 14 0), none, some (gk_I x2), none, none] (And.intro rfl (And.intro rfl True.intro)) (ok_X12_lost_j79 κ9 hκ9 x2 ((0 : Int32)) x1 M h)
      · refine gk_iconst (v := (1 : Int32)) dX12_lost_72 (by decide) ?_
        refine gk_iload_n dX12_lost_73 rfl rfl ?_
        refine gk_ishl dX12_lost_74 ?_
        refine gk_goto (tgt := 79) dX12_lost_75 (by decide) ?_
        exact gk_weak [some (gk_R 14 0), none, some (gk_I x2), none, none] (And.intro rfl (And.intro rfl True.intro)) (ok_X12_lost_j79 κ9 hκ9 x2 (((1 : Int32) <<< (x2 &&& 31))) x1 M h)
    · refine gk_iload_n dX12_lost_31 rfl rfl ?_
      refine gk_if_eq (tgt := 59) dX12_lost_32 (by decide) h (fun h => ?_) (fun h => ?_)
      · exact gk_weak [some (gk_R 14 0), some (gk_I x1), some (gk_I x2), none, some (gk_I x4)] (And.intro rfl (And.intro rfl (And.intro rfl (And.intro rfl True.intro)))) (ok_X12_lost_j59 κ9 (X12_lost_l22 κ9 n) hκ9 ih x1 x2 x4 M h)
      · refine gk_iload_n dX12_lost_35 rfl rfl ?_
        refine gk_iload dX12_lost_36 rfl ?_
        refine gk_icmp_eq (tgt := 55) dX12_lost_38 (by decide) h (fun h => ?_) (fun h => ?_)
        · exact gk_weak [some (gk_R 14 0), some (gk_I x1), some (gk_I x2), none, some (gk_I x4)] (And.intro rfl (And.intro rfl (And.intro rfl (And.intro rfl True.intro)))) (ok_X12_lost_j55 κ9 (X12_lost_l22 κ9 n) hκ9 ih x1 x2 x4 M h)
        · refine gk_aload_n dX12_lost_41 rfl rfl ?_
          refine gk_iload_n dX12_lost_42 rfl rfl ?_
          refine gk_iload dX12_lost_43 rfl ?_
          refine gk_callI (As := [gk_R 14 0, gk_I x2, gk_I x4]) (st := []) 1 (cr_X12_107 (by decide) rfl) (fun K' h' => ok_X12_farBetween x2 x4 M K' h') rfl (by decide) (by decide) (fun _ => Nat.le_of_ble_eq_true rfl) dX12_lost_45 h (fun r3 M2 h => ?_)
          refine gk_aload_n dX12_lost_48 rfl rfl ?_
          refine gk_getI fr_X12_13 si_14_2 (by decide) dX12_lost_49 ?_
          refine gk_icmp_le (tgt := 59) dX12_lost_52 (by decide) h (fun h => ?_) (fun h => ?_)
          · exact gk_weak [some (gk_R 14 0), some (gk_I x1), some (gk_I x2), none, some (gk_I x4)] (And.intro rfl (And.intro rfl (And.intro rfl (And.intro rfl True.intro)))) (ok_X12_lost_j59 κ9 (X12_lost_l22 κ9 n) hκ9 ih x1 x2 x4 M2 h)
          · exact gk_weak [some (gk_R 14 0), some (gk_I x1), some (gk_I x2), none, some (gk_I x4)] (And.intro rfl (And.intro rfl (And.intro rfl (And.intro rfl True.intro)))) (ok_X12_lost_j55 κ9 (X12_lost_l22 κ9 n) hκ9 ih x1 x2 x4 M2 h)
set_option maxRecDepth 100000 in
set_option maxHeartbeats 4000000 in
theorem ok_X12_lost_l9 {K : gk_V → gk_M → Prop} : ∀ (n : Nat) (x1 : Int32) (x2 : Int32) (M : gk_M), gk_Sat gk_I (X12_lost_l9 n x1 x2 M) K → gk_G RX12 cX12_lost 5 2 (some .int) none K 9 [some (gk_R 14 0), some (gk_I x1), some (gk_I x2), none, none] [] M := by
  intro n
  induction n with
  | zero => intro x1 x2 M h; exact h.no.elim
  | succ n ih =>
    intro x1 x2 M h
    refine gk_iload_n dX12_lost_9 rfl rfl ?_
    refine gk_aload_n dX12_lost_10 rfl rfl ?_
    refine gk_getI fr_X12_68 si_14_0 (by decide) dX12_lost_11 ?_
    refine gk_icmp_ge (tgt := 87) dX12_lost_14 (by decide) h (fun h => ?_) (fun h => ?_)
    · refine gk_iload_n dX12_lost_87 rfl rfl ?_
      exact gk_iret dX12_lost_88 rfl h
    · refine gk_iconst (v := (1 : Int32)) dX12_lost_17 (by decide) ?_
      refine gk_istore_n (L' := [some (gk_R 14 0), some (gk_I x1), some (gk_I x2), some (gk_I (1 : Int32)), none]) dX12_lost_18 rfl (by decide) rfl rfl ?_
      refine gk_iconst (v := (0 : Int32)) dX12_lost_19 (by decide) ?_
      refine gk_istore (L' := [some (gk_R 14 0), some (gk_I x1), some (gk_I x2), some (gk_I (1 : Int32)), some (gk_I (0 : Int32))]) dX12_lost_20 (by decide) rfl rfl ?_
      exact gk_weak [some (gk_R 14 0), some (gk_I x1), some (gk_I x2), some (gk_I (1 : Int32)), some (gk_I (0 : Int32))] (And.intro rfl (And.intro rfl (And.intro rfl (And.intro rfl (And.intro rfl True.intro))))) (ok_X12_lost_l22 (X12_lost_l9 n) ih 200 x1 x2 ((1 : Int32)) ((0 : Int32)) M h)
set_option maxRecDepth 100000 in
set_option maxHeartbeats 4000000 in
theorem ok_X12_lost  (M : gk_M) (K : gk_V → gk_M → Prop) (h : gk_Sat gk_I (f_X12_lost  M) K) : gk_MS 2 yX12_lost cX12_lost 5 (some .int) [gk_R 14 0] M K := by

  refine gk_MS_of [some (gk_R 14 0), none, none, none, none] (by decide +kernel) (Nat.le_of_ble_eq_true rfl) (And.intro rfl True.intro) ?_
  show gk_G RX12 cX12_lost 5 2 (some .int) none K 0 [some (gk_R 14 0), none, none, none, none] [] M
  refine gk_aload_n dX12_lost_0 rfl rfl ?_
  refine gk_iconst (v := (0 : Int32)) dX12_lost_1 (by decide) ?_
  refine gk_putI fr_X12_65 si_14_13 (by decide) dX12_lost_2 h (fun M1 h => ?_)
  refine gk_iconst (v := (0 : Int32)) dX12_lost_5 (by decide) ?_
  refine gk_istore_n (L' := [some (gk_R 14 0), some (gk_I (0 : Int32)), none, none, none]) dX12_lost_6 rfl (by decide) rfl rfl ?_
  refine gk_iconst (v := (0 : Int32)) dX12_lost_7 (by decide) ?_
  refine gk_istore_n (L' := [some (gk_R 14 0), some (gk_I (0 : Int32)), some (gk_I (0 : Int32)), none, none]) dX12_lost_8 rfl (by decide) rfl rfl ?_
  exact gk_weak [some (gk_R 14 0), some (gk_I (0 : Int32)), some (gk_I (0 : Int32)), none, none] (And.intro rfl (And.intro rfl (And.intro rfl True.intro))) (ok_X12_lost_l9 200 ((0 : Int32)) ((0 : Int32)) M1 h)
set_option maxRecDepth 100000 in
set_option maxHeartbeats 4000000 in
theorem ok_X12_groups_j61 {K : gk_V → gk_M → Prop} (κ9 : Int32 → Int32 → gk_M → Option (Int32 × gk_M)) (hκ9 : ∀ (x1 : Int32) (x2 : Int32) (M : gk_M), gk_Sat gk_I (κ9 x1 x2 M) K → gk_G RX12 cX12_groups 5 4 (some .int) none K 9 [some (gk_R 14 0), some (gk_I x1), some (gk_I x2), none, none] [] M) (x2 : Int32) (s0 : Int32) (s1 : Int32) (M : gk_M) (h : gk_Sat gk_I (X12_groups_j61 κ9 x2 s0 s1 M) K) : gk_G RX12 cX12_groups 5 4 (some .int) none K 61 [some (gk_R 14 0), none, some (gk_I x2), none, none] [gk_I s0, gk_I s1] M := by
  refine gk_iadd dX12_groups_61 ?_
  refine gk_istore_n (L' := [some (gk_R 14 0), some (gk_I (s1 + s0)), some (gk_I x2), none, none]) dX12_groups_62 rfl (by decide) rfl rfl ?_
  refine gk_iinc (v := (x2 + (1 : Int32))) (L' := [some (gk_R 14 0), some (gk_I (s1 + s0)), some (gk_I (x2 + (1 : Int32))), none, none]) dX12_groups_63 rfl rfl (by decide) rfl rfl ?_
  refine gk_goto (tgt := 9) dX12_groups_66 (by decide) ?_
  exact gk_weak [some (gk_R 14 0), some (gk_I (s1 + s0)), some (gk_I (x2 + (1 : Int32))), none, none] (And.intro rfl (And.intro rfl (And.intro rfl True.intro))) (hκ9 ((s1 + s0)) ((x2 + (1 : Int32))) M h)
set_option maxRecDepth 100000 in
set_option maxHeartbeats 4000000 in
theorem ok_X12_groups_l24 {K : gk_V → gk_M → Prop} (κ9 : Int32 → Int32 → gk_M → Option (Int32 × gk_M)) (hκ9 : ∀ (x1 : Int32) (x2 : Int32) (M : gk_M), gk_Sat gk_I (κ9 x1 x2 M) K → gk_G RX12 cX12_groups 5 4 (some .int) none K 9 [some (gk_R 14 0), some (gk_I x1), some (gk_I x2), none, none] [] M) : ∀ (n : Nat) (x1 : Int32) (x2 : Int32) (x3 : Int32) (x4 : Int32) (M : gk_M), gk_Sat gk_I (X12_groups_l24 κ9 n x1 x2 x3 x4 M) K → gk_G RX12 cX12_groups 5 4 (some .int) none K 24 [some (gk_R 14 0), some (gk_I x1), some (gk_I x2), some (gk_I x3), some (gk_I x4)] [] M := by
  intro n
  induction n with
  | zero => intro x1 x2 x3 x4 M h; exact h.no.elim
  | succ n ih =>
    intro x1 x2 x3 x4 M h
    refine gk_iload dX12_groups_24 rfl ?_
    refine gk_aload_n dX12_groups_26 rfl rfl ?_
    refine gk_getI fr_X12_68 si_14_0 (by decide) dX12_groups_27 ?_
    refine gk_icmp_ge (tgt := 45) dX12_groups_30 (by decide) h (fun h => ?_) (fun h => ?_)
    · refine gk_iload_n dX12_groups_45 rfl rfl ?_
      refine gk_iload_n dX12_groups_46 rfl rfl ?_
      refine gk_iconst (v := (1 : Int32)) dX12_groups_47 (by decide) ?_
      refine gk_iload_n dX12_groups_48 rfl rfl ?_
      refine gk_ishl dX12_groups_49 ?_
      refine gk_iconst (v := (1 : Int32)) dX12_groups_50 (by decide) ?_
      refine gk_isub dX12_groups_51 ?_
      refine gk_iand dX12_groups_52 ?_
      refine gk_if_ne (tgt := 60) dX12_groups_53 (by decide) h (fun h => ?_) (fun h => ?_)
      · refine gk_iconst (v := (0 : Int32)) dX12_groups_60 (by decide) ?_
        exact gk_weak [some (gk_R 14 0), none, some (gk_I x2), none, none] (And.intro rfl (And.intro rfl True.intro)) (ok_X12_groups_j61 κ9 hκ9 x2 ((0 : Int32)) x1 M h)
      · refine gk_iconst (v := (1 : Int32)) dX12_groups_56 (by decide) ?_
        refine gk_goto (tgt := 61) dX12_groups_57 (by decide) ?_
        exact gk_weak [some (gk_R 14 0), none, some (gk_I x2), none, none] (And.intro rfl (And.intro rfl True.intro)) (ok_X12_groups_j61 κ9 hκ9 x2 ((1 : Int32)) x1 M h)
    · refine gk_aload_n dX12_groups_33 rfl rfl ?_
      refine gk_iload_n dX12_groups_34 rfl rfl ?_
      refine gk_callI (As := [gk_R 14 0, gk_I x3]) (st := []) 3 (cr_X12_218 (by decide) rfl) (fun K' h' => ok_X12_reachOn x3 M K' h') rfl (by decide) (by decide) (fun _ => Nat.le_of_ble_eq_true rfl) dX12_groups_35 h (fun r3 M2 h => ?_)
      refine gk_istore_n (L' := [some (gk_R 14 0), some (gk_I x1), some (gk_I x2), some (gk_I r3), some (gk_I x4)]) dX12_groups_38 rfl (by decide) rfl rfl ?_
      refine gk_iinc (v := (x4 + (1 : Int32))) (L' := [some (gk_R 14 0), some (gk_I x1), some (gk_I x2), some (gk_I r3), some (gk_I (x4 + (1 : Int32)))]) dX12_groups_39 rfl rfl (by decide) rfl rfl ?_
      refine gk_goto (tgt := 24) dX12_groups_42 (by decide) ?_
      exact gk_weak [some (gk_R 14 0), some (gk_I x1), some (gk_I x2), some (gk_I r3), some (gk_I (x4 + (1 : Int32)))] (And.intro rfl (And.intro rfl (And.intro rfl (And.intro rfl (And.intro rfl True.intro))))) (ih x1 x2 r3 ((x4 + (1 : Int32))) M2 h)
set_option maxRecDepth 100000 in
set_option maxHeartbeats 4000000 in
theorem ok_X12_groups_l9 {K : gk_V → gk_M → Prop} : ∀ (n : Nat) (x1 : Int32) (x2 : Int32) (M : gk_M), gk_Sat gk_I (X12_groups_l9 n x1 x2 M) K → gk_G RX12 cX12_groups 5 4 (some .int) none K 9 [some (gk_R 14 0), some (gk_I x1), some (gk_I x2), none, none] [] M := by
  intro n
  induction n with
  | zero => intro x1 x2 M h; exact h.no.elim
  | succ n ih =>
    intro x1 x2 M h
    refine gk_iload_n dX12_groups_9 rfl rfl ?_
    refine gk_aload_n dX12_groups_10 rfl rfl ?_
    refine gk_getI fr_X12_68 si_14_0 (by decide) dX12_groups_11 ?_
    refine gk_icmp_ge (tgt := 69) dX12_groups_14 (by decide) h (fun h => ?_) (fun h => ?_)
    · refine gk_iload_n dX12_groups_69 rfl rfl ?_
      exact gk_iret dX12_groups_70 rfl h
    · refine gk_iconst (v := (1 : Int32)) dX12_groups_17 (by decide) ?_
      refine gk_iload_n dX12_groups_18 rfl rfl ?_
      refine gk_ishl dX12_groups_19 ?_
      refine gk_istore_n (L' := [some (gk_R 14 0), some (gk_I x1), some (gk_I x2), some (gk_I ((1 : Int32) <<< (x2 &&& 31))), none]) dX12_groups_20 rfl (by decide) rfl rfl ?_
      refine gk_iconst (v := (0 : Int32)) dX12_groups_21 (by decide) ?_
      refine gk_istore (L' := [some (gk_R 14 0), some (gk_I x1), some (gk_I x2), some (gk_I ((1 : Int32) <<< (x2 &&& 31))), some (gk_I (0 : Int32))]) dX12_groups_22 (by decide) rfl rfl ?_
      exact gk_weak [some (gk_R 14 0), some (gk_I x1), some (gk_I x2), some (gk_I ((1 : Int32) <<< (x2 &&& 31))), some (gk_I (0 : Int32))] (And.intro rfl (And.intro rfl (And.intro rfl (And.intro rfl (And.intro rfl True.intro))))) (ok_X12_groups_l24 (X12_groups_l9 n) ih 200 x1 x2 (((1 : Int32) <<< (x2 &&& 31))) ((0 : Int32)) M h)
set_option maxRecDepth 100000 in
set_option maxHeartbeats 4000000 in
theorem ok_X12_groups  (M : gk_M) (K : gk_V → gk_M → Prop) (h : gk_Sat gk_I (f_X12_groups  M) K) : gk_MS 4 yX12_groups cX12_groups 5 (some .int) [gk_R 14 0] M K := by

  refine gk_MS_of [some (gk_R 14 0), none, none, none, none] (by decide +kernel) (Nat.le_of_ble_eq_true rfl) (And.intro rfl True.intro) ?_
  show gk_G RX12 cX12_groups 5 4 (some .int) none K 0 [some (gk_R 14 0), none, none, none, none] [] M
  refine gk_aload_n dX12_groups_0 rfl rfl ?_
  refine gk_iconst (v := (0 : Int32)) dX12_groups_1 (by decide) ?_
  refine gk_putI fr_X12_65 si_14_13 (by decide) dX12_groups_2 h (fun M1 h => ?_)
  refine gk_iconst (v := (0 : Int32)) dX12_groups_5 (by decide) ?_
  refine gk_istore_n (L' := [some (gk_R 14 0), some (gk_I (0 : Int32)), none, none, none]) dX12_groups_6 rfl (by decide) rfl rfl ?_
  refine gk_iconst (v := (0 : Int32)) dX12_groups_7 (by decide) ?_
  refine gk_istore_n (L' := [some (gk_R 14 0), some (gk_I (0 : Int32)), some (gk_I (0 : Int32)), none, none]) dX12_groups_8 rfl (by decide) rfl rfl ?_
  exact gk_weak [some (gk_R 14 0), some (gk_I (0 : Int32)), some (gk_I (0 : Int32)), none, none] (And.intro rfl (And.intro rfl (And.intro rfl True.intro))) (ok_X12_groups_l9 200 ((0 : Int32)) ((0 : Int32)) M1 h)
set_option maxRecDepth 100000 in
set_option maxHeartbeats 4000000 in
theorem ok_X12_hungryIn_l4 {K : gk_V → gk_M → Prop} : ∀ (n : Nat) (x1 : Int32) (x2 : Int32) (x3 : Int32) (M : gk_M), gk_Sat gk_I (X12_hungryIn_l4 n x1 x2 x3 M) K → gk_G RX12 cX12_hungryIn 4 1 (some .int) none K 4 [some (gk_R 14 0), some (gk_I x1), some (gk_I x2), some (gk_I x3)] [] M := by
  intro n
  induction n with
  | zero => intro x1 x2 x3 M h; exact h.no.elim
  | succ n ih =>
    intro x1 x2 x3 M h
    refine gk_iload_n dX12_hungryIn_4 rfl rfl ?_
    refine gk_iload_n dX12_hungryIn_5 rfl rfl ?_
    refine gk_icmp_ge (tgt := 22) dX12_hungryIn_6 (by decide) h (fun h => ?_) (fun h => ?_)
    · refine gk_iload_n dX12_hungryIn_22 rfl rfl ?_
      exact gk_iret dX12_hungryIn_23 rfl h
    · refine gk_iload_n dX12_hungryIn_9 rfl rfl ?_
      refine gk_aload_n dX12_hungryIn_10 rfl rfl ?_
      refine gk_callI (As := [gk_R 14 0]) (st := [gk_I x2]) 0 (cr_X12_99 (by decide) rfl) (fun K' h' => ok_X12_eat M K' h') rfl (by decide) (by decide) (fun _ => Nat.le_of_ble_eq_true rfl) dX12_hungryIn_11 h (fun r2 M1 h => ?_)
      refine gk_iadd dX12_hungryIn_14 ?_
      refine gk_istore_n (L' := [some (gk_R 14 0), some (gk_I x1), some (gk_I (x2 + r2)), some (gk_I x3)]) dX12_hungryIn_15 rfl (by decide) rfl rfl ?_
      refine gk_iinc (v := (x3 + (1 : Int32))) (L' := [some (gk_R 14 0), some (gk_I x1), some (gk_I (x2 + r2)), some (gk_I (x3 + (1 : Int32)))]) dX12_hungryIn_16 rfl rfl (by decide) rfl rfl ?_
      refine gk_goto (tgt := 4) dX12_hungryIn_19 (by decide) ?_
      exact gk_weak [some (gk_R 14 0), some (gk_I x1), some (gk_I (x2 + r2)), some (gk_I (x3 + (1 : Int32)))] (And.intro rfl (And.intro rfl (And.intro rfl (And.intro rfl True.intro)))) (ih x1 ((x2 + r2)) ((x3 + (1 : Int32))) M1 h)
set_option maxRecDepth 100000 in
set_option maxHeartbeats 4000000 in
theorem ok_X12_hungryIn (a1 : Int32) (M : gk_M) (K : gk_V → gk_M → Prop) (h : gk_Sat gk_I (f_X12_hungryIn a1 M) K) : gk_MS 1 yX12_hungryIn cX12_hungryIn 4 (some .int) [gk_R 14 0, gk_I a1] M K := by

  refine gk_MS_of [some (gk_R 14 0), some (gk_I a1), none, none] (by decide +kernel) (Nat.le_of_ble_eq_true rfl) (And.intro rfl (And.intro rfl True.intro)) ?_
  show gk_G RX12 cX12_hungryIn 4 1 (some .int) none K 0 [some (gk_R 14 0), some (gk_I a1), none, none] [] M
  refine gk_iconst (v := (0 : Int32)) dX12_hungryIn_0 (by decide) ?_
  refine gk_istore_n (L' := [some (gk_R 14 0), some (gk_I a1), some (gk_I (0 : Int32)), none]) dX12_hungryIn_1 rfl (by decide) rfl rfl ?_
  refine gk_iconst (v := (0 : Int32)) dX12_hungryIn_2 (by decide) ?_
  refine gk_istore_n (L' := [some (gk_R 14 0), some (gk_I a1), some (gk_I (0 : Int32)), some (gk_I (0 : Int32))]) dX12_hungryIn_3 rfl (by decide) rfl rfl ?_
  exact gk_weak [some (gk_R 14 0), some (gk_I a1), some (gk_I (0 : Int32)), some (gk_I (0 : Int32))] (And.intro rfl (And.intro rfl (And.intro rfl (And.intro rfl True.intro)))) (ok_X12_hungryIn_l4 200 a1 ((0 : Int32)) ((0 : Int32)) M h)
set_option maxRecDepth 100000 in
set_option maxHeartbeats 4000000 in
theorem ok_X12_hungry (a1 : Int32) (M : gk_M) (K : gk_V → gk_M → Prop) (h : gk_Sat gk_I (f_X12_hungry a1 M) K) : gk_MS 3 yX12_hungry cX12_hungry 4 (some .int) [gk_R 14 0, gk_I a1] M K := by

  refine gk_MS_of [some (gk_R 14 0), some (gk_I a1), none, none] (by decide +kernel) (Nat.le_of_ble_eq_true rfl) (And.intro rfl (And.intro rfl True.intro)) ?_
  show gk_G RX12 cX12_hungry 4 3 (some .int) none K 0 [some (gk_R 14 0), some (gk_I a1), none, none] [] M
  refine gk_aload_n dX12_hungry_0 rfl rfl ?_
  refine gk_iconst (v := (0 : Int32)) dX12_hungry_1 (by decide) ?_
  refine gk_putI fr_X12_65 si_14_13 (by decide) dX12_hungry_2 h (fun M1 h => ?_)
  refine gk_iload_n dX12_hungry_5 rfl rfl ?_
  refine gk_bipush (v := (60 : Int32)) dX12_hungry_6 (by decide) ?_
  refine gk_callI (As := [gk_I a1, gk_I (60 : Int32)]) (st := []) 0 (cr_X12_208 rfl) (fun K' h' => ok_X12_wrongDays a1 (60 : Int32) M1 K' h') rfl (by decide) (by decide) (fun _ => Nat.le_of_ble_eq_true rfl) dX12_hungry_8 h (fun r3 M2 h => ?_)
  refine gk_istore_n (L' := [some (gk_R 14 0), some (gk_I a1), some (gk_I r3), none]) dX12_hungry_11 rfl (by decide) rfl rfl ?_
  refine gk_iload_n dX12_hungry_12 rfl rfl ?_
  refine gk_if_ge (tgt := 22) dX12_hungry_13 (by decide) h (fun h => ?_) (fun h => ?_)
  · refine gk_aload_n dX12_hungry_22 rfl rfl ?_
    refine gk_callV (As := [gk_R 14 0]) (st := []) 2 (cr_X12_182 (by decide) rfl) (fun K' h' => ok_X12_open0 M2 K' h') rfl (by decide) (by decide) (fun _ => Nat.le_of_ble_eq_true rfl) dX12_hungry_23 h (fun _ M4 h => ?_)
    refine gk_aload_n dX12_hungry_26 rfl rfl ?_
    refine gk_iload_n dX12_hungry_27 rfl rfl ?_
    refine gk_callI (As := [gk_R 14 0, gk_I a1]) (st := []) 1 (cr_X12_221 (by decide) rfl) (fun K' h' => ok_X12_hungryIn a1 M4 K' h') rfl (by decide) (by decide) (fun _ => Nat.le_of_ble_eq_true rfl) dX12_hungry_28 h (fun r7 M6 h => ?_)
    refine gk_istore_n (L' := [some (gk_R 14 0), some (gk_I a1), some (gk_I r3), some (gk_I r7)]) dX12_hungry_31 rfl (by decide) rfl rfl ?_
    refine gk_aload_n dX12_hungry_32 rfl rfl ?_
    refine gk_callV (As := [gk_R 14 0]) (st := []) 2 (cr_X12_188 (by decide) rfl) (fun K' h' => ok_X12_close M6 K' h') rfl (by decide) (by decide) (fun _ => Nat.le_of_ble_eq_true rfl) dX12_hungry_33 h (fun _ M8 h => ?_)
    refine gk_iload_n dX12_hungry_36 rfl rfl ?_
    exact gk_iret dX12_hungry_37 rfl h
  · refine gk_aload_n dX12_hungry_16 rfl rfl ?_
    refine gk_iload_n dX12_hungry_17 rfl rfl ?_
    refine gk_callI (As := [gk_R 14 0, gk_I r3]) (st := []) 0 (cr_X12_134 (by decide) rfl) (fun K' h' => ok_X12_refuse r3 M2 K' h') rfl (by decide) (by decide) (fun _ => Nat.le_of_ble_eq_true rfl) dX12_hungry_18 h (fun r11 M10 h => ?_)
    exact gk_iret dX12_hungry_21 rfl h
set_option maxRecDepth 100000 in
set_option maxHeartbeats 4000000 in
theorem ok_X12_lasts_j46 {K : gk_V → gk_M → Prop} (s0 : Int32) (M : gk_M) (h : gk_Sat gk_I (X12_lasts_j46 s0 M) K) : gk_G RX12 cX12_lasts 3 2 (some .int) none K 46 [none, none, none] [gk_I s0] M := by
  refine gk_istore_n (L' := [none, none, some (gk_I s0)]) dX12_lasts_46 rfl (by decide) rfl rfl ?_
  refine gk_iload_n dX12_lasts_47 rfl rfl ?_
  refine gk_bipush (v := (99 : Int32)) dX12_lasts_48 (by decide) ?_
  refine gk_icmp_le (tgt := 58) dX12_lasts_50 (by decide) h (fun h => ?_) (fun h => ?_)
  · refine gk_iload_n dX12_lasts_58 rfl rfl ?_
    exact gk_iret dX12_lasts_59 rfl h
  · refine gk_bipush (v := (99 : Int32)) dX12_lasts_53 (by decide) ?_
    refine gk_goto (tgt := 59) dX12_lasts_55 (by decide) ?_
    exact gk_iret dX12_lasts_59 rfl h
set_option maxRecDepth 100000 in
set_option maxHeartbeats 4000000 in
theorem ok_X12_lasts (a1 : Int32) (M : gk_M) (K : gk_V → gk_M → Prop) (h : gk_Sat gk_I (f_X12_lasts a1 M) K) : gk_MS 2 yX12_lasts cX12_lasts 3 (some .int) [gk_R 14 0, gk_I a1] M K := by

  refine gk_MS_of [some (gk_R 14 0), some (gk_I a1), none] (by decide +kernel) (Nat.le_of_ble_eq_true rfl) (And.intro rfl (And.intro rfl True.intro)) ?_
  show gk_G RX12 cX12_lasts 3 2 (some .int) none K 0 [some (gk_R 14 0), some (gk_I a1), none] [] M
  refine gk_aload_n dX12_lasts_0 rfl rfl ?_
  refine gk_iconst (v := (0 : Int32)) dX12_lasts_1 (by decide) ?_
  refine gk_putI fr_X12_65 si_14_13 (by decide) dX12_lasts_2 h (fun M1 h => ?_)
  refine gk_aload_n dX12_lasts_5 rfl rfl ?_
  refine gk_iload_n dX12_lasts_6 rfl rfl ?_
  refine gk_callI (As := [gk_R 14 0, gk_I a1]) (st := []) 1 (cr_X12_75 (by decide) rfl) (fun K' h' => ok_X12_isShip a1 M1 K' h') rfl (by decide) (by decide) (fun _ => Nat.le_of_ble_eq_true rfl) dX12_lasts_7 h (fun r3 M2 h => ?_)
  refine gk_if_ne (tgt := 19) dX12_lasts_10 (by decide) h (fun h => ?_) (fun h => ?_)
  · refine gk_aload_n dX12_lasts_19 rfl rfl ?_
    refine gk_get (v := gk_R 16 2) fr_X12_29 pf_14_9 (by decide) dX12_lasts_20 ?_
    refine gk_iload_n dX12_lasts_23 rfl rfl ?_
    refine gk_iald ga_16 (by decide) dX12_lasts_24 h (fun h hb4 => ?_)
    refine gk_if_ne (tgt := 33) dX12_lasts_25 (by decide) h (fun h => ?_) (fun h => ?_)
    · refine gk_aload_n dX12_lasts_33 rfl rfl ?_
      refine gk_get (v := gk_R 16 3) fr_X12_32 pf_14_10 (by decide) dX12_lasts_34 ?_
      refine gk_iload_n dX12_lasts_37 rfl rfl ?_
      refine gk_iald ga_16 (by decide) dX12_lasts_38 h (fun h hb5 => ?_)
      refine gk_aload_n dX12_lasts_39 rfl rfl ?_
      refine gk_get (v := gk_R 16 2) fr_X12_29 pf_14_9 (by decide) dX12_lasts_40 ?_
      refine gk_iload_n dX12_lasts_43 rfl rfl ?_
      refine gk_iald ga_16 (by decide) dX12_lasts_44 h (fun h hb6 => ?_)
      refine gk_idiv_g dX12_lasts_45 h (fun h => ?_)
      exact gk_weak [none, none, none] True.intro (ok_X12_lasts_j46 (((M2 16 3 (Int32.toNatClampNeg a1)) / (M2 16 2 (Int32.toNatClampNeg a1)))) M2 h)
    · refine gk_bipush (v := (99 : Int32)) dX12_lasts_28 (by decide) ?_
      refine gk_goto (tgt := 46) dX12_lasts_30 (by decide) ?_
      exact gk_weak [none, none, none] True.intro (ok_X12_lasts_j46 ((99 : Int32)) M2 h)
  · refine gk_aload_n dX12_lasts_13 rfl rfl ?_
    refine gk_iconst (v := (-1 : Int32)) dX12_lasts_14 (by decide) ?_
    refine gk_callI (As := [gk_R 14 0, gk_I (-1 : Int32)]) (st := []) 0 (cr_X12_134 (by decide) rfl) (fun K' h' => ok_X12_refuse (-1 : Int32) M2 K' h') rfl (by decide) (by decide) (fun _ => Nat.le_of_ble_eq_true rfl) dX12_lasts_15 h (fun r8 M7 h => ?_)
    exact gk_iret dX12_lasts_18 rfl h
set_option maxRecDepth 100000 in
set_option maxHeartbeats 4000000 in
theorem ok_X12_held (a0 : Int32) (a1 : Int32) (M : gk_M) (K : gk_V → gk_M → Prop) (h : gk_Sat gk_I (f_X12_held a0 a1 M) K) : gk_MS 0 yX12_held cX12_held 2 (some .int) [gk_I a0, gk_I a1] M K := by

  refine gk_MS_of [some (gk_I a0), some (gk_I a1)] (by decide +kernel) (Nat.le_of_ble_eq_true rfl) (And.intro rfl (And.intro rfl True.intro)) ?_
  show gk_G RX12 cX12_held 2 0 (some .int) none K 0 [some (gk_I a0), some (gk_I a1)] [] M
  refine gk_iload_n dX12_held_0 rfl rfl ?_
  refine gk_iload_n dX12_held_1 rfl rfl ?_
  refine gk_icmp_le (tgt := 9) dX12_held_2 (by decide) h (fun h => ?_) (fun h => ?_)
  · refine gk_iload_n dX12_held_9 rfl rfl ?_
    exact gk_iret dX12_held_10 rfl h
  · refine gk_iload_n dX12_held_5 rfl rfl ?_
    refine gk_goto (tgt := 10) dX12_held_6 (by decide) ?_
    exact gk_iret dX12_held_10 rfl h
set_option maxRecDepth 100000 in
set_option maxHeartbeats 4000000 in
theorem ok_X12_share_j112 {K : gk_V → gk_M → Prop} (x1 : Int32) (x2 : Int32) (x3 : Int32) (x5 : Int32) (s0 : Int32) (M : gk_M) (h : gk_Sat gk_I (X12_share_j112 x1 x2 x3 x5 s0 M) K) : gk_G RX12 cX12_share 8 3 (some .int) none K 112 [some (gk_R 14 0), some (gk_I x1), some (gk_I x2), some (gk_I x3), none, some (gk_I x5), none, none] [gk_I s0] M := by
  refine gk_istore (L' := [some (gk_R 14 0), some (gk_I x1), some (gk_I x2), some (gk_I x3), none, some (gk_I x5), some (gk_I s0), none]) dX12_share_112 (by decide) rfl rfl ?_
  refine gk_iload_n dX12_share_114 rfl rfl ?_
  refine gk_iload dX12_share_115 rfl ?_
  refine gk_isub dX12_share_117 ?_
  refine gk_iload dX12_share_118 rfl ?_
  refine gk_isub dX12_share_120 ?_
  refine gk_istore (L' := [some (gk_R 14 0), some (gk_I x1), some (gk_I x2), some (gk_I x3), none, some (gk_I x5), some (gk_I s0), some (gk_I ((x3 - s0) - x5))]) dX12_share_121 (by decide) rfl rfl ?_
  refine gk_aload_n dX12_share_123 rfl rfl ?_
  refine gk_get (v := gk_R 16 3) fr_X12_32 pf_14_10 (by decide) dX12_share_124 ?_
  refine gk_iload_n dX12_share_127 rfl rfl ?_
  refine gk_iload dX12_share_128 rfl ?_
  refine gk_iload dX12_share_130 rfl ?_
  refine gk_iadd dX12_share_132 ?_
  refine gk_sipush (v := (999 : Int32)) dX12_share_133 (by decide) ?_
  refine gk_callI (As := [gk_I (s0 + ((x3 - s0) - x5)), gk_I (999 : Int32)]) (st := [gk_I x1, gk_R 16 3]) 0 (cr_X12_224 rfl) (fun K' h' => ok_X12_held (s0 + ((x3 - s0) - x5)) (999 : Int32) M K' h') rfl (by decide) (by decide) (fun _ => Nat.le_of_ble_eq_true rfl) dX12_share_136 h (fun r13 M12 h => ?_)
  refine gk_iast ga_16 (by decide) dX12_share_139 h (fun M14 h => ?_)
  refine gk_aload_n dX12_share_140 rfl rfl ?_
  refine gk_get (v := gk_R 16 3) fr_X12_32 pf_14_10 (by decide) dX12_share_141 ?_
  refine gk_iload_n dX12_share_144 rfl rfl ?_
  refine gk_iload dX12_share_145 rfl ?_
  refine gk_sipush (v := (999 : Int32)) dX12_share_147 (by decide) ?_
  refine gk_callI (As := [gk_I x5, gk_I (999 : Int32)]) (st := [gk_I x2, gk_R 16 3]) 0 (cr_X12_224 rfl) (fun K' h' => ok_X12_held x5 (999 : Int32) M14 K' h') rfl (by decide) (by decide) (fun _ => Nat.le_of_ble_eq_true rfl) dX12_share_150 h (fun r16 M15 h => ?_)
  refine gk_iast ga_16 (by decide) dX12_share_153 h (fun M17 h => ?_)
  refine gk_aload_n dX12_share_154 rfl rfl ?_
  refine gk_get (v := gk_R 16 3) fr_X12_32 pf_14_10 (by decide) dX12_share_155 ?_
  refine gk_iload_n dX12_share_158 rfl rfl ?_
  refine gk_iald ga_16 (by decide) dX12_share_159 h (fun h hb18 => ?_)
  exact gk_iret dX12_share_160 rfl h
set_option maxRecDepth 100000 in
set_option maxHeartbeats 4000000 in
theorem ok_X12_share_j88 {K : gk_V → gk_M → Prop} (x1 : Int32) (x2 : Int32) (x3 : Int32) (x4 : Int32) (s0 : Int32) (M : gk_M) (h : gk_Sat gk_I (X12_share_j88 x1 x2 x3 x4 s0 M) K) : gk_G RX12 cX12_share 8 3 (some .int) none K 88 [some (gk_R 14 0), some (gk_I x1), some (gk_I x2), some (gk_I x3), some (gk_I x4), none, none, none] [gk_I s0] M := by
  refine gk_istore (L' := [some (gk_R 14 0), some (gk_I x1), some (gk_I x2), some (gk_I x3), some (gk_I x4), some (gk_I s0), none, none]) dX12_share_88 (by decide) rfl rfl ?_
  refine gk_iload dX12_share_90 rfl ?_
  refine gk_if_ne (tgt := 101) dX12_share_92 (by decide) h (fun h => ?_) (fun h => ?_)
  · refine gk_iload_n dX12_share_101 rfl rfl ?_
    refine gk_aload_n dX12_share_102 rfl rfl ?_
    refine gk_get (v := gk_R 16 2) fr_X12_29 pf_14_9 (by decide) dX12_share_103 ?_
    refine gk_iload_n dX12_share_106 rfl rfl ?_
    refine gk_iald ga_16 (by decide) dX12_share_107 h (fun h hb11 => ?_)
    refine gk_imul dX12_share_108 ?_
    refine gk_iload dX12_share_109 rfl ?_
    refine gk_idiv_g dX12_share_111 h (fun h => ?_)
    exact gk_weak [some (gk_R 14 0), some (gk_I x1), some (gk_I x2), some (gk_I x3), none, some (gk_I s0), none, none] (And.intro rfl (And.intro rfl (And.intro rfl (And.intro rfl (And.intro rfl True.intro))))) (ok_X12_share_j112 x1 x2 x3 s0 (((x3 * (M 16 2 (Int32.toNatClampNeg x1))) / x4)) M h)
  · refine gk_iload_n dX12_share_95 rfl rfl ?_
    refine gk_iconst (v := (2 : Int32)) dX12_share_96 (by decide) ?_
    refine gk_idiv dX12_share_97 (by decide) ?_
    refine gk_goto (tgt := 112) dX12_share_98 (by decide) ?_
    exact gk_weak [some (gk_R 14 0), some (gk_I x1), some (gk_I x2), some (gk_I x3), none, some (gk_I s0), none, none] (And.intro rfl (And.intro rfl (And.intro rfl (And.intro rfl (And.intro rfl True.intro))))) (ok_X12_share_j112 x1 x2 x3 s0 ((x3 / (2 : Int32))) M h)
set_option maxRecDepth 100000 in
set_option maxHeartbeats 4000000 in
theorem ok_X12_share (a1 : Int32) (a2 : Int32) (M : gk_M) (K : gk_V → gk_M → Prop) (h : gk_Sat gk_I (f_X12_share a1 a2 M) K) : gk_MS 3 yX12_share cX12_share 8 (some .int) [gk_R 14 0, gk_I a1, gk_I a2] M K := by

  refine gk_MS_of [some (gk_R 14 0), some (gk_I a1), some (gk_I a2), none, none, none, none, none] (by decide +kernel) (Nat.le_of_ble_eq_true rfl) (And.intro rfl (And.intro rfl (And.intro rfl True.intro))) ?_
  show gk_G RX12 cX12_share 8 3 (some .int) none K 0 [some (gk_R 14 0), some (gk_I a1), some (gk_I a2), none, none, none, none, none] [] M
  refine gk_aload_n dX12_share_0 rfl rfl ?_
  refine gk_iconst (v := (0 : Int32)) dX12_share_1 (by decide) ?_
  refine gk_putI fr_X12_65 si_14_13 (by decide) dX12_share_2 h (fun M1 h => ?_)
  refine gk_aload_n dX12_share_5 rfl rfl ?_
  refine gk_iload_n dX12_share_6 rfl rfl ?_
  refine gk_iload_n dX12_share_7 rfl rfl ?_
  refine gk_callI (As := [gk_R 14 0, gk_I a1, gk_I a2]) (st := []) 2 (cr_X12_202 (by decide) rfl) (fun K' h' => ok_X12_areTwo a1 a2 M1 K' h') rfl (by decide) (by decide) (fun _ => Nat.le_of_ble_eq_true rfl) dX12_share_8 h (fun r3 M2 h => ?_)
  refine gk_if_ne (tgt := 20) dX12_share_11 (by decide) h (fun h => ?_) (fun h => ?_)
  · refine gk_aload_n dX12_share_20 rfl rfl ?_
    refine gk_iload_n dX12_share_21 rfl rfl ?_
    refine gk_iload_n dX12_share_22 rfl rfl ?_
    refine gk_callI (As := [gk_R 14 0, gk_I a1, gk_I a2]) (st := []) 1 (cr_X12_107 (by decide) rfl) (fun K' h' => ok_X12_farBetween a1 a2 M2 K' h') rfl (by decide) (by decide) (fun _ => Nat.le_of_ble_eq_true rfl) dX12_share_23 h (fun r5 M4 h => ?_)
    refine gk_iconst (v := (1 : Int32)) dX12_share_26 (by decide) ?_
    refine gk_icmp_le (tgt := 37) dX12_share_27 (by decide) h (fun h => ?_) (fun h => ?_)
    · refine gk_aload_n dX12_share_37 rfl rfl ?_
      refine gk_get (v := gk_R 16 3) fr_X12_32 pf_14_10 (by decide) dX12_share_38 ?_
      refine gk_iload_n dX12_share_41 rfl rfl ?_
      refine gk_iald ga_16 (by decide) dX12_share_42 h (fun h hb6 => ?_)
      refine gk_aload_n dX12_share_43 rfl rfl ?_
      refine gk_get (v := gk_R 16 3) fr_X12_32 pf_14_10 (by decide) dX12_share_44 ?_
      refine gk_iload_n dX12_share_47 rfl rfl ?_
      refine gk_iald ga_16 (by decide) dX12_share_48 h (fun h hb7 => ?_)
      refine gk_iadd dX12_share_49 ?_
      refine gk_istore_n (L' := [some (gk_R 14 0), some (gk_I a1), some (gk_I a2), some (gk_I ((M4 16 3 (Int32.toNatClampNeg a1)) + (M4 16 3 (Int32.toNatClampNeg a2)))), none, none, none, none]) dX12_share_50 rfl (by decide) rfl rfl ?_
      refine gk_aload_n dX12_share_51 rfl rfl ?_
      refine gk_get (v := gk_R 16 2) fr_X12_29 pf_14_9 (by decide) dX12_share_52 ?_
      refine gk_iload_n dX12_share_55 rfl rfl ?_
      refine gk_iald ga_16 (by decide) dX12_share_56 h (fun h hb8 => ?_)
      refine gk_aload_n dX12_share_57 rfl rfl ?_
      refine gk_get (v := gk_R 16 2) fr_X12_29 pf_14_9 (by decide) dX12_share_58 ?_
      refine gk_iload_n dX12_share_61 rfl rfl ?_
      refine gk_iald ga_16 (by decide) dX12_share_62 h (fun h hb9 => ?_)
      refine gk_iadd dX12_share_63 ?_
      refine gk_istore (L' := [some (gk_R 14 0), some (gk_I a1), some (gk_I a2), some (gk_I ((M4 16 3 (Int32.toNatClampNeg a1)) + (M4 16 3 (Int32.toNatClampNeg a2)))), some (gk_I ((M4 16 2 (Int32.toNatClampNeg a1)) + (M4 16 2 (Int32.toNatClampNeg a2)))), none, none, none]) dX12_share_64 (by decide) rfl rfl ?_
      refine gk_iload dX12_share_66 rfl ?_
      refine gk_if_ne (tgt := 77) dX12_share_68 (by decide) h (fun h => ?_) (fun h => ?_)
      · refine gk_iload_n dX12_share_77 rfl rfl ?_
        refine gk_aload_n dX12_share_78 rfl rfl ?_
        refine gk_get (v := gk_R 16 2) fr_X12_29 pf_14_9 (by decide) dX12_share_79 ?_
        refine gk_iload_n dX12_share_82 rfl rfl ?_
        refine gk_iald ga_16 (by decide) dX12_share_83 h (fun h hb10 => ?_)
        refine gk_imul dX12_share_84 ?_
        refine gk_iload dX12_share_85 rfl ?_
        refine gk_idiv_g dX12_share_87 h (fun h => ?_)
        exact gk_weak [some (gk_R 14 0), some (gk_I a1), some (gk_I a2), some (gk_I ((M4 16 3 (Int32.toNatClampNeg a1)) + (M4 16 3 (Int32.toNatClampNeg a2)))), some (gk_I ((M4 16 2 (Int32.toNatClampNeg a1)) + (M4 16 2 (Int32.toNatClampNeg a2)))), none, none, none] (And.intro rfl (And.intro rfl (And.intro rfl (And.intro rfl (And.intro rfl True.intro))))) (ok_X12_share_j88 a1 a2 (((M4 16 3 (Int32.toNatClampNeg a1)) + (M4 16 3 (Int32.toNatClampNeg a2)))) (((M4 16 2 (Int32.toNatClampNeg a1)) + (M4 16 2 (Int32.toNatClampNeg a2)))) (((((M4 16 3 (Int32.toNatClampNeg a1)) + (M4 16 3 (Int32.toNatClampNeg a2))) * (M4 16 2 (Int32.toNatClampNeg a2))) / ((M4 16 2 (Int32.toNatClampNeg a1)) + (M4 16 2 (Int32.toNatClampNeg a2))))) M4 h)
      · refine gk_iload_n dX12_share_71 rfl rfl ?_
        refine gk_iconst (v := (2 : Int32)) dX12_share_72 (by decide) ?_
        refine gk_idiv dX12_share_73 (by decide) ?_
        refine gk_goto (tgt := 88) dX12_share_74 (by decide) ?_
        exact gk_weak [some (gk_R 14 0), some (gk_I a1), some (gk_I a2), some (gk_I ((M4 16 3 (Int32.toNatClampNeg a1)) + (M4 16 3 (Int32.toNatClampNeg a2)))), some (gk_I ((M4 16 2 (Int32.toNatClampNeg a1)) + (M4 16 2 (Int32.toNatClampNeg a2)))), none, none, none] (And.intro rfl (And.intro rfl (And.intro rfl (And.intro rfl (And.intro rfl True.intro))))) (ok_X12_share_j88 a1 a2 (((M4 16 3 (Int32.toNatClampNeg a1)) + (M4 16 3 (Int32.toNatClampNeg a2)))) (((M4 16 2 (Int32.toNatClampNeg a1)) + (M4 16 2 (Int32.toNatClampNeg a2)))) ((((M4 16 3 (Int32.toNatClampNeg a1)) + (M4 16 3 (Int32.toNatClampNeg a2))) / (2 : Int32))) M4 h)
    · refine gk_aload_n dX12_share_30 rfl rfl ?_
      refine gk_bipush (v := (-3 : Int32)) dX12_share_31 (by decide) ?_
      refine gk_callI (As := [gk_R 14 0, gk_I (-3 : Int32)]) (st := []) 0 (cr_X12_134 (by decide) rfl) (fun K' h' => ok_X12_refuse (-3 : Int32) M4 K' h') rfl (by decide) (by decide) (fun _ => Nat.le_of_ble_eq_true rfl) dX12_share_33 h (fun r20 M19 h => ?_)
      exact gk_iret dX12_share_36 rfl h
  · refine gk_aload_n dX12_share_14 rfl rfl ?_
    refine gk_iconst (v := (-1 : Int32)) dX12_share_15 (by decide) ?_
    refine gk_callI (As := [gk_R 14 0, gk_I (-1 : Int32)]) (st := []) 0 (cr_X12_134 (by decide) rfl) (fun K' h' => ok_X12_refuse (-1 : Int32) M2 K' h') rfl (by decide) (by decide) (fun _ => Nat.le_of_ble_eq_true rfl) dX12_share_16 h (fun r22 M21 h => ?_)
    exact gk_iret dX12_share_19 rfl h
set_option maxRecDepth 100000 in
set_option maxHeartbeats 4000000 in
theorem ok_X12_hungryWithout_j50 {K : gk_V → gk_M → Prop} (κ9 : Int32 → Int32 → Int32 → Int32 → gk_M → Option (Int32 × gk_M)) (hκ9 : ∀ (x1 : Int32) (x2 : Int32) (x3 : Int32) (x4 : Int32) (M : gk_M), gk_Sat gk_I (κ9 x1 x2 x3 x4 M) K → gk_G RX12 cX12_hungryWithout 5 3 (some .int) none K 9 [some (gk_R 14 0), some (gk_I x1), some (gk_I x2), some (gk_I x3), some (gk_I x4)] [] M) (x1 : Int32) (x2 : Int32) (x4 : Int32) (s0 : Int32) (M : gk_M) (h : gk_Sat gk_I (X12_hungryWithout_j50 κ9 x1 x2 x4 s0 M) K) : gk_G RX12 cX12_hungryWithout 5 3 (some .int) none K 50 [some (gk_R 14 0), some (gk_I x1), some (gk_I x2), none, some (gk_I x4)] [gk_I s0] M := by
  refine gk_istore_n (L' := [some (gk_R 14 0), some (gk_I x1), some (gk_I x2), some (gk_I s0), some (gk_I x4)]) dX12_hungryWithout_50 rfl (by decide) rfl rfl ?_
  refine gk_iinc (v := (x4 + (1 : Int32))) (L' := [some (gk_R 14 0), some (gk_I x1), some (gk_I x2), some (gk_I s0), some (gk_I (x4 + (1 : Int32)))]) dX12_hungryWithout_51 rfl rfl (by decide) rfl rfl ?_
  refine gk_goto (tgt := 9) dX12_hungryWithout_54 (by decide) ?_
  exact gk_weak [some (gk_R 14 0), some (gk_I x1), some (gk_I x2), some (gk_I s0), some (gk_I (x4 + (1 : Int32)))] (And.intro rfl (And.intro rfl (And.intro rfl (And.intro rfl (And.intro rfl True.intro))))) (hκ9 x1 x2 s0 ((x4 + (1 : Int32))) M h)
set_option maxRecDepth 100000 in
set_option maxHeartbeats 4000000 in
theorem ok_X12_hungryWithout_j49 {K : gk_V → gk_M → Prop} (κ9 : Int32 → Int32 → Int32 → Int32 → gk_M → Option (Int32 × gk_M)) (hκ9 : ∀ (x1 : Int32) (x2 : Int32) (x3 : Int32) (x4 : Int32) (M : gk_M), gk_Sat gk_I (κ9 x1 x2 x3 x4 M) K → gk_G RX12 cX12_hungryWithout 5 3 (some .int) none K 9 [some (gk_R 14 0), some (gk_I x1), some (gk_I x2), some (gk_I x3), some (gk_I x4)] [] M) (x1 : Int32) (x2 : Int32) (x3 : Int32) (x4 : Int32) (M : gk_M) (h : gk_Sat gk_I (X12_hungryWithout_j49 κ9 x1 x2 x3 x4 M) K) : gk_G RX12 cX12_hungryWithout 5 3 (some .int) none K 49 [some (gk_R 14 0), some (gk_I x1), some (gk_I x2), some (gk_I x3), some (gk_I x4)] [] M := by
  refine gk_iload_n dX12_hungryWithout_49 rfl rfl ?_
  exact gk_weak [some (gk_R 14 0), some (gk_I x1), some (gk_I x2), none, some (gk_I x4)] (And.intro rfl (And.intro rfl (And.intro rfl (And.intro rfl True.intro)))) (ok_X12_hungryWithout_j50 κ9 hκ9 x1 x2 x4 x3 M h)
set_option maxRecDepth 100000 in
set_option maxHeartbeats 4000000 in
theorem ok_X12_hungryWithout_j44 {K : gk_V → gk_M → Prop} (κ9 : Int32 → Int32 → Int32 → Int32 → gk_M → Option (Int32 × gk_M)) (hκ9 : ∀ (x1 : Int32) (x2 : Int32) (x3 : Int32) (x4 : Int32) (M : gk_M), gk_Sat gk_I (κ9 x1 x2 x3 x4 M) K → gk_G RX12 cX12_hungryWithout 5 3 (some .int) none K 9 [some (gk_R 14 0), some (gk_I x1), some (gk_I x2), some (gk_I x3), some (gk_I x4)] [] M) (x1 : Int32) (x2 : Int32) (x4 : Int32) (M : gk_M) (h : gk_Sat gk_I (X12_hungryWithout_j44 κ9 x1 x2 x4 M) K) : gk_G RX12 cX12_hungryWithout 5 3 (some .int) none K 44 [some (gk_R 14 0), some (gk_I x1), some (gk_I x2), none, some (gk_I x4)] [] M := by
  refine gk_iload dX12_hungryWithout_44 rfl ?_
  refine gk_goto (tgt := 50) dX12_hungryWithout_46 (by decide) ?_
  exact gk_weak [some (gk_R 14 0), some (gk_I x1), some (gk_I x2), none, some (gk_I x4)] (And.intro rfl (And.intro rfl (And.intro rfl (And.intro rfl True.intro)))) (ok_X12_hungryWithout_j50 κ9 hκ9 x1 x2 x4 x4 M h)
set_option maxRecDepth 100000 in
set_option maxHeartbeats 4000000 in
theorem ok_X12_hungryWithout_l9 {K : gk_V → gk_M → Prop} : ∀ (n : Nat) (x1 : Int32) (x2 : Int32) (x3 : Int32) (x4 : Int32) (M : gk_M), gk_Sat gk_I (X12_hungryWithout_l9 n x1 x2 x3 x4 M) K → gk_G RX12 cX12_hungryWithout 5 3 (some .int) none K 9 [some (gk_R 14 0), some (gk_I x1), some (gk_I x2), some (gk_I x3), some (gk_I x4)] [] M := by
  intro n
  induction n with
  | zero => intro x1 x2 x3 x4 M h; exact h.no.elim
  | succ n ih =>
    intro x1 x2 x3 x4 M h
    refine gk_iload dX12_hungryWithout_9 rfl ?_
    refine gk_aload_n dX12_hungryWithout_11 rfl rfl ?_
    refine gk_getI fr_X12_68 si_14_0 (by decide) dX12_hungryWithout_12 ?_
    refine gk_icmp_ge (tgt := 57) dX12_hungryWithout_15 (by decide) h (fun h => ?_) (fun h => ?_)
    · refine gk_aload_n dX12_hungryWithout_57 rfl rfl ?_
      refine gk_get (v := gk_R 16 2) fr_X12_29 pf_14_9 (by decide) dX12_hungryWithout_58 ?_
      refine gk_iload_n dX12_hungryWithout_61 rfl rfl ?_
      refine gk_aload_n dX12_hungryWithout_62 rfl rfl ?_
      refine gk_get (v := gk_R 16 2) fr_X12_29 pf_14_9 (by decide) dX12_hungryWithout_63 ?_
      refine gk_iload_n dX12_hungryWithout_66 rfl rfl ?_
      refine gk_iald ga_16 (by decide) dX12_hungryWithout_67 h (fun h hb3 => ?_)
      refine gk_aload_n dX12_hungryWithout_68 rfl rfl ?_
      refine gk_get (v := gk_R 16 2) fr_X12_29 pf_14_9 (by decide) dX12_hungryWithout_69 ?_
      refine gk_iload_n dX12_hungryWithout_72 rfl rfl ?_
      refine gk_iald ga_16 (by decide) dX12_hungryWithout_73 h (fun h hb4 => ?_)
      refine gk_iadd dX12_hungryWithout_74 ?_
      refine gk_bipush (v := (9 : Int32)) dX12_hungryWithout_75 (by decide) ?_
      refine gk_callI (As := [gk_I ((M 16 2 (Int32.toNatClampNeg x3)) + (M 16 2 (Int32.toNatClampNeg x1))), gk_I (9 : Int32)]) (st := [gk_I x3, gk_R 16 2]) 0 (cr_X12_224 rfl) (fun K' h' => ok_X12_held ((M 16 2 (Int32.toNatClampNeg x3)) + (M 16 2 (Int32.toNatClampNeg x1))) (9 : Int32) M K' h') rfl (by decide) (by decide) (fun _ => Nat.le_of_ble_eq_true rfl) dX12_hungryWithout_77 h (fun r6 M5 h => ?_)
      refine gk_iast ga_16 (by decide) dX12_hungryWithout_80 h (fun M7 h => ?_)
      refine gk_aload_n dX12_hungryWithout_81 rfl rfl ?_
      refine gk_get (v := gk_R 16 3) fr_X12_32 pf_14_10 (by decide) dX12_hungryWithout_82 ?_
      refine gk_iload_n dX12_hungryWithout_85 rfl rfl ?_
      refine gk_aload_n dX12_hungryWithout_86 rfl rfl ?_
      refine gk_get (v := gk_R 16 3) fr_X12_32 pf_14_10 (by decide) dX12_hungryWithout_87 ?_
      refine gk_iload_n dX12_hungryWithout_90 rfl rfl ?_
      refine gk_iald ga_16 (by decide) dX12_hungryWithout_91 h (fun h hb8 => ?_)
      refine gk_aload_n dX12_hungryWithout_92 rfl rfl ?_
      refine gk_get (v := gk_R 16 3) fr_X12_32 pf_14_10 (by decide) dX12_hungryWithout_93 ?_
      refine gk_iload_n dX12_hungryWithout_96 rfl rfl ?_
      refine gk_iald ga_16 (by decide) dX12_hungryWithout_97 h (fun h hb9 => ?_)
      refine gk_iadd dX12_hungryWithout_98 ?_
      refine gk_sipush (v := (999 : Int32)) dX12_hungryWithout_99 (by decide) ?_
      refine gk_callI (As := [gk_I ((M7 16 3 (Int32.toNatClampNeg x3)) + (M7 16 3 (Int32.toNatClampNeg x1))), gk_I (999 : Int32)]) (st := [gk_I x3, gk_R 16 3]) 0 (cr_X12_224 rfl) (fun K' h' => ok_X12_held ((M7 16 3 (Int32.toNatClampNeg x3)) + (M7 16 3 (Int32.toNatClampNeg x1))) (999 : Int32) M7 K' h') rfl (by decide) (by decide) (fun _ => Nat.le_of_ble_eq_true rfl) dX12_hungryWithout_102 h (fun r11 M10 h => ?_)
      refine gk_iast ga_16 (by decide) dX12_hungryWithout_105 h (fun M12 h => ?_)
      refine gk_aload_n dX12_hungryWithout_106 rfl rfl ?_
      refine gk_get (v := gk_R 16 2) fr_X12_29 pf_14_9 (by decide) dX12_hungryWithout_107 ?_
      refine gk_iload_n dX12_hungryWithout_110 rfl rfl ?_
      refine gk_iconst (v := (0 : Int32)) dX12_hungryWithout_111 (by decide) ?_
      refine gk_iast ga_16 (by decide) dX12_hungryWithout_112 h (fun M13 h => ?_)
      refine gk_aload_n dX12_hungryWithout_113 rfl rfl ?_
      refine gk_iload_n dX12_hungryWithout_114 rfl rfl ?_
      refine gk_callI (As := [gk_R 14 0, gk_I x2]) (st := []) 1 (cr_X12_221 (by decide) rfl) (fun K' h' => ok_X12_hungryIn x2 M13 K' h') rfl (by decide) (by decide) (fun _ => Nat.le_of_ble_eq_true rfl) dX12_hungryWithout_115 h (fun r15 M14 h => ?_)
      refine gk_istore (L' := [some (gk_R 14 0), some (gk_I x1), some (gk_I x2), some (gk_I x3), some (gk_I r15)]) dX12_hungryWithout_118 (by decide) rfl rfl ?_
      refine gk_aload_n dX12_hungryWithout_120 rfl rfl ?_
      refine gk_callV (As := [gk_R 14 0]) (st := []) 2 (cr_X12_188 (by decide) rfl) (fun K' h' => ok_X12_close M14 K' h') rfl (by decide) (by decide) (fun _ => Nat.le_of_ble_eq_true rfl) dX12_hungryWithout_121 h (fun _ M16 h => ?_)
      refine gk_iload dX12_hungryWithout_124 rfl ?_
      exact gk_iret dX12_hungryWithout_126 rfl h
    · refine gk_iload dX12_hungryWithout_18 rfl ?_
      refine gk_iload_n dX12_hungryWithout_20 rfl rfl ?_
      refine gk_icmp_eq (tgt := 49) dX12_hungryWithout_21 (by decide) h (fun h => ?_) (fun h => ?_)
      · exact gk_weak [some (gk_R 14 0), some (gk_I x1), some (gk_I x2), some (gk_I x3), some (gk_I x4)] (And.intro rfl (And.intro rfl (And.intro rfl (And.intro rfl (And.intro rfl True.intro))))) (ok_X12_hungryWithout_j49 (X12_hungryWithout_l9 n) ih x1 x2 x3 x4 M h)
      · refine gk_iload_n dX12_hungryWithout_24 rfl rfl ?_
        refine gk_if_lt (tgt := 44) dX12_hungryWithout_25 (by decide) h (fun h => ?_) (fun h => ?_)
        · exact gk_weak [some (gk_R 14 0), some (gk_I x1), some (gk_I x2), none, some (gk_I x4)] (And.intro rfl (And.intro rfl (And.intro rfl (And.intro rfl True.intro)))) (ok_X12_hungryWithout_j44 (X12_hungryWithout_l9 n) ih x1 x2 x4 M h)
        · refine gk_aload_n dX12_hungryWithout_28 rfl rfl ?_
          refine gk_iload_n dX12_hungryWithout_29 rfl rfl ?_
          refine gk_iload dX12_hungryWithout_30 rfl ?_
          refine gk_callI (As := [gk_R 14 0, gk_I x1, gk_I x4]) (st := []) 1 (cr_X12_107 (by decide) rfl) (fun K' h' => ok_X12_farBetween x1 x4 M K' h') rfl (by decide) (by decide) (fun _ => Nat.le_of_ble_eq_true rfl) dX12_hungryWithout_32 h (fun r19 M18 h => ?_)
          refine gk_aload_n dX12_hungryWithout_35 rfl rfl ?_
          refine gk_iload_n dX12_hungryWithout_36 rfl rfl ?_
          refine gk_iload_n dX12_hungryWithout_37 rfl rfl ?_
          refine gk_callI (As := [gk_R 14 0, gk_I x1, gk_I x3]) (st := [gk_I r19]) 1 (cr_X12_107 (by decide) rfl) (fun K' h' => ok_X12_farBetween x1 x3 M18 K' h') rfl (by decide) (by decide) (fun _ => Nat.le_of_ble_eq_true rfl) dX12_hungryWithout_38 h (fun r21 M20 h => ?_)
          refine gk_icmp_ge (tgt := 49) dX12_hungryWithout_41 (by decide) h (fun h => ?_) (fun h => ?_)
          · exact gk_weak [some (gk_R 14 0), some (gk_I x1), some (gk_I x2), some (gk_I x3), some (gk_I x4)] (And.intro rfl (And.intro rfl (And.intro rfl (And.intro rfl (And.intro rfl True.intro))))) (ok_X12_hungryWithout_j49 (X12_hungryWithout_l9 n) ih x1 x2 x3 x4 M20 h)
          · exact gk_weak [some (gk_R 14 0), some (gk_I x1), some (gk_I x2), none, some (gk_I x4)] (And.intro rfl (And.intro rfl (And.intro rfl (And.intro rfl True.intro)))) (ok_X12_hungryWithout_j44 (X12_hungryWithout_l9 n) ih x1 x2 x4 M20 h)
set_option maxRecDepth 100000 in
set_option maxHeartbeats 4000000 in
theorem ok_X12_hungryWithout (a1 : Int32) (a2 : Int32) (M : gk_M) (K : gk_V → gk_M → Prop) (h : gk_Sat gk_I (f_X12_hungryWithout a1 a2 M) K) : gk_MS 3 yX12_hungryWithout cX12_hungryWithout 5 (some .int) [gk_R 14 0, gk_I a1, gk_I a2] M K := by

  refine gk_MS_of [some (gk_R 14 0), some (gk_I a1), some (gk_I a2), none, none] (by decide +kernel) (Nat.le_of_ble_eq_true rfl) (And.intro rfl (And.intro rfl (And.intro rfl True.intro))) ?_
  show gk_G RX12 cX12_hungryWithout 5 3 (some .int) none K 0 [some (gk_R 14 0), some (gk_I a1), some (gk_I a2), none, none] [] M
  refine gk_aload_n dX12_hungryWithout_0 rfl rfl ?_
  refine gk_callV (As := [gk_R 14 0]) (st := []) 2 (cr_X12_182 (by decide) rfl) (fun K' h' => ok_X12_open0 M K' h') rfl (by decide) (by decide) (fun _ => Nat.le_of_ble_eq_true rfl) dX12_hungryWithout_1 h (fun _ M1 h => ?_)
  refine gk_iconst (v := (-1 : Int32)) dX12_hungryWithout_4 (by decide) ?_
  refine gk_istore_n (L' := [some (gk_R 14 0), some (gk_I a1), some (gk_I a2), some (gk_I (-1 : Int32)), none]) dX12_hungryWithout_5 rfl (by decide) rfl rfl ?_
  refine gk_iconst (v := (0 : Int32)) dX12_hungryWithout_6 (by decide) ?_
  refine gk_istore (L' := [some (gk_R 14 0), some (gk_I a1), some (gk_I a2), some (gk_I (-1 : Int32)), some (gk_I (0 : Int32))]) dX12_hungryWithout_7 (by decide) rfl rfl ?_
  exact gk_weak [some (gk_R 14 0), some (gk_I a1), some (gk_I a2), some (gk_I (-1 : Int32)), some (gk_I (0 : Int32))] (And.intro rfl (And.intro rfl (And.intro rfl (And.intro rfl (And.intro rfl True.intro))))) (ok_X12_hungryWithout_l9 200 a1 a2 ((-1 : Int32)) ((0 : Int32)) M1 h)
set_option maxRecDepth 100000 in
set_option maxHeartbeats 4000000 in
theorem ok_X12_givenUp_j93 {K : gk_V → gk_M → Prop} (κ60 : Int32 → Int32 → Int32 → Int32 → gk_M → Option (Int32 × gk_M)) (hκ60 : ∀ (x1 : Int32) (x2 : Int32) (x4 : Int32) (x5 : Int32) (M : gk_M), gk_Sat gk_I (κ60 x1 x2 x4 x5 M) K → gk_G RX12 cX12_givenUp 6 4 (some .int) none K 60 [some (gk_R 14 0), some (gk_I x1), some (gk_I x2), none, some (gk_I x4), some (gk_I x5)] [] M) (x1 : Int32) (x2 : Int32) (x5 : Int32) (s0 : Int32) (M : gk_M) (h : gk_Sat gk_I (X12_givenUp_j93 κ60 x1 x2 x5 s0 M) K) : gk_G RX12 cX12_givenUp 6 4 (some .int) none K 93 [some (gk_R 14 0), some (gk_I x1), some (gk_I x2), none, none, some (gk_I x5)] [gk_I s0] M := by
  refine gk_istore (L' := [some (gk_R 14 0), some (gk_I x1), some (gk_I x2), none, some (gk_I s0), some (gk_I x5)]) dX12_givenUp_93 (by decide) rfl rfl ?_
  refine gk_iinc (v := (x5 + (1 : Int32))) (L' := [some (gk_R 14 0), some (gk_I x1), some (gk_I x2), none, some (gk_I s0), some (gk_I (x5 + (1 : Int32)))]) dX12_givenUp_95 rfl rfl (by decide) rfl rfl ?_
  refine gk_goto (tgt := 60) dX12_givenUp_98 (by decide) ?_
  exact gk_weak [some (gk_R 14 0), some (gk_I x1), some (gk_I x2), none, some (gk_I s0), some (gk_I (x5 + (1 : Int32)))] (And.intro rfl (And.intro rfl (And.intro rfl (And.intro rfl (And.intro rfl True.intro))))) (hκ60 x1 x2 s0 ((x5 + (1 : Int32))) M h)
set_option maxRecDepth 100000 in
set_option maxHeartbeats 4000000 in
theorem ok_X12_givenUp_l60 {K : gk_V → gk_M → Prop} : ∀ (n : Nat) (x1 : Int32) (x2 : Int32) (x4 : Int32) (x5 : Int32) (M : gk_M), gk_Sat gk_I (X12_givenUp_l60 n x1 x2 x4 x5 M) K → gk_G RX12 cX12_givenUp 6 4 (some .int) none K 60 [some (gk_R 14 0), some (gk_I x1), some (gk_I x2), none, some (gk_I x4), some (gk_I x5)] [] M := by
  intro n
  induction n with
  | zero => intro x1 x2 x4 x5 M h; exact h.no.elim
  | succ n ih =>
    intro x1 x2 x4 x5 M h
    refine gk_iload dX12_givenUp_60 rfl ?_
    refine gk_aload_n dX12_givenUp_62 rfl rfl ?_
    refine gk_getI fr_X12_68 si_14_0 (by decide) dX12_givenUp_63 ?_
    refine gk_icmp_ge (tgt := 101) dX12_givenUp_66 (by decide) h (fun h => ?_) (fun h => ?_)
    · refine gk_iload_n dX12_givenUp_101 rfl rfl ?_
      refine gk_if_ne (tgt := 110) dX12_givenUp_102 (by decide) h (fun h => ?_) (fun h => ?_)
      · refine gk_aload_n dX12_givenUp_110 rfl rfl ?_
        refine gk_iload dX12_givenUp_111 rfl ?_
        refine gk_iload_n dX12_givenUp_113 rfl rfl ?_
        refine gk_callI (As := [gk_R 14 0, gk_I x4, gk_I x1]) (st := []) 3 (cr_X12_227 (by decide) rfl) (fun K' h' => ok_X12_hungryWithout x4 x1 M K' h') rfl (by decide) (by decide) (fun _ => Nat.le_of_ble_eq_true rfl) dX12_givenUp_114 h (fun r5 M4 h => ?_)
        exact gk_iret dX12_givenUp_117 rfl h
      · refine gk_iload dX12_givenUp_105 rfl ?_
        refine gk_goto (tgt := 117) dX12_givenUp_107 (by decide) ?_
        exact gk_iret dX12_givenUp_117 rfl h
    · refine gk_aload_n dX12_givenUp_69 rfl rfl ?_
      refine gk_iload dX12_givenUp_70 rfl ?_
      refine gk_iload_n dX12_givenUp_72 rfl rfl ?_
      refine gk_callI (As := [gk_R 14 0, gk_I x5, gk_I x1]) (st := []) 3 (cr_X12_227 (by decide) rfl) (fun K' h' => ok_X12_hungryWithout x5 x1 M K' h') rfl (by decide) (by decide) (fun _ => Nat.le_of_ble_eq_true rfl) dX12_givenUp_73 h (fun r7 M6 h => ?_)
      refine gk_aload_n dX12_givenUp_76 rfl rfl ?_
      refine gk_iload dX12_givenUp_77 rfl ?_
      refine gk_iload_n dX12_givenUp_79 rfl rfl ?_
      refine gk_callI (As := [gk_R 14 0, gk_I x4, gk_I x1]) (st := [gk_I r7]) 3 (cr_X12_227 (by decide) rfl) (fun K' h' => ok_X12_hungryWithout x4 x1 M6 K' h') rfl (by decide) (by decide) (fun _ => Nat.le_of_ble_eq_true rfl) dX12_givenUp_80 h (fun r9 M8 h => ?_)
      refine gk_icmp_ge (tgt := 91) dX12_givenUp_83 (by decide) h (fun h => ?_) (fun h => ?_)
      · refine gk_iload dX12_givenUp_91 rfl ?_
        exact gk_weak [some (gk_R 14 0), some (gk_I x1), some (gk_I x2), none, none, some (gk_I x5)] (And.intro rfl (And.intro rfl (And.intro rfl (And.intro rfl True.intro)))) (ok_X12_givenUp_j93 (X12_givenUp_l60 n) ih x1 x2 x5 x4 M8 h)
      · refine gk_iload dX12_givenUp_86 rfl ?_
        refine gk_goto (tgt := 93) dX12_givenUp_88 (by decide) ?_
        exact gk_weak [some (gk_R 14 0), some (gk_I x1), some (gk_I x2), none, none, some (gk_I x5)] (And.intro rfl (And.intro rfl (And.intro rfl (And.intro rfl True.intro)))) (ok_X12_givenUp_j93 (X12_givenUp_l60 n) ih x1 x2 x5 x5 M8 h)
set_option maxRecDepth 100000 in
set_option maxHeartbeats 4000000 in
theorem ok_X12_givenUp_j32 {K : gk_V → gk_M → Prop} (x1 : Int32) (x2 : Int32) (s0 : Int32) (M : gk_M) (h : gk_Sat gk_I (X12_givenUp_j32 x1 x2 s0 M) K) : gk_G RX12 cX12_givenUp 6 4 (some .int) none K 32 [some (gk_R 14 0), some (gk_I x1), some (gk_I x2), none, none, none] [gk_I s0] M := by
  refine gk_istore_n (L' := [some (gk_R 14 0), some (gk_I x1), some (gk_I x2), some (gk_I s0), none, none]) dX12_givenUp_32 rfl (by decide) rfl rfl ?_
  refine gk_iload_n dX12_givenUp_33 rfl rfl ?_
  refine gk_if_ge (tgt := 43) dX12_givenUp_34 (by decide) h (fun h => ?_) (fun h => ?_)
  · refine gk_aload_n dX12_givenUp_43 rfl rfl ?_
    refine gk_getI fr_X12_68 si_14_0 (by decide) dX12_givenUp_44 ?_
    refine gk_iconst (v := (2 : Int32)) dX12_givenUp_47 (by decide) ?_
    refine gk_icmp_ge (tgt := 54) dX12_givenUp_48 (by decide) h (fun h => ?_) (fun h => ?_)
    · refine gk_iconst (v := (0 : Int32)) dX12_givenUp_54 (by decide) ?_
      refine gk_istore (L' := [some (gk_R 14 0), some (gk_I x1), some (gk_I x2), some (gk_I s0), some (gk_I (0 : Int32)), none]) dX12_givenUp_55 (by decide) rfl rfl ?_
      refine gk_iconst (v := (1 : Int32)) dX12_givenUp_57 (by decide) ?_
      refine gk_istore (L' := [some (gk_R 14 0), some (gk_I x1), some (gk_I x2), some (gk_I s0), some (gk_I (0 : Int32)), some (gk_I (1 : Int32))]) dX12_givenUp_58 (by decide) rfl rfl ?_
      exact gk_weak [some (gk_R 14 0), some (gk_I x1), some (gk_I x2), none, some (gk_I (0 : Int32)), some (gk_I (1 : Int32))] (And.intro rfl (And.intro rfl (And.intro rfl (And.intro rfl (And.intro rfl True.intro))))) (ok_X12_givenUp_l60 200 x1 x2 ((0 : Int32)) ((1 : Int32)) M h)
    · refine gk_bipush (v := (-9 : Int32)) dX12_givenUp_51 (by decide) ?_
      exact gk_iret dX12_givenUp_53 rfl h
  · refine gk_aload_n dX12_givenUp_37 rfl rfl ?_
    refine gk_iload_n dX12_givenUp_38 rfl rfl ?_
    refine gk_callI (As := [gk_R 14 0, gk_I s0]) (st := []) 0 (cr_X12_134 (by decide) rfl) (fun K' h' => ok_X12_refuse s0 M K' h') rfl (by decide) (by decide) (fun _ => Nat.le_of_ble_eq_true rfl) dX12_givenUp_39 h (fun r11 M10 h => ?_)
    exact gk_iret dX12_givenUp_42 rfl h
set_option maxRecDepth 100000 in
set_option maxHeartbeats 4000000 in
theorem ok_X12_givenUp_j31 {K : gk_V → gk_M → Prop} (x1 : Int32) (x2 : Int32) (x3 : Int32) (M : gk_M) (h : gk_Sat gk_I (X12_givenUp_j31 x1 x2 x3 M) K) : gk_G RX12 cX12_givenUp 6 4 (some .int) none K 31 [some (gk_R 14 0), some (gk_I x1), some (gk_I x2), some (gk_I x3), none, none] [] M := by
  refine gk_iload_n dX12_givenUp_31 rfl rfl ?_
  exact gk_weak [some (gk_R 14 0), some (gk_I x1), some (gk_I x2), none, none, none] (And.intro rfl (And.intro rfl (And.intro rfl True.intro))) (ok_X12_givenUp_j32 x1 x2 x3 M h)
set_option maxRecDepth 100000 in
set_option maxHeartbeats 4000000 in
theorem ok_X12_givenUp (a1 : Int32) (a2 : Int32) (M : gk_M) (K : gk_V → gk_M → Prop) (h : gk_Sat gk_I (f_X12_givenUp a1 a2 M) K) : gk_MS 4 yX12_givenUp cX12_givenUp 6 (some .int) [gk_R 14 0, gk_I a1, gk_I a2] M K := by

  refine gk_MS_of [some (gk_R 14 0), some (gk_I a1), some (gk_I a2), none, none, none] (by decide +kernel) (Nat.le_of_ble_eq_true rfl) (And.intro rfl (And.intro rfl (And.intro rfl True.intro))) ?_
  show gk_G RX12 cX12_givenUp 6 4 (some .int) none K 0 [some (gk_R 14 0), some (gk_I a1), some (gk_I a2), none, none, none] [] M
  refine gk_aload_n dX12_givenUp_0 rfl rfl ?_
  refine gk_iconst (v := (0 : Int32)) dX12_givenUp_1 (by decide) ?_
  refine gk_putI fr_X12_65 si_14_13 (by decide) dX12_givenUp_2 h (fun M1 h => ?_)
  refine gk_iload_n dX12_givenUp_5 rfl rfl ?_
  refine gk_bipush (v := (60 : Int32)) dX12_givenUp_6 (by decide) ?_
  refine gk_callI (As := [gk_I a1, gk_I (60 : Int32)]) (st := []) 0 (cr_X12_208 rfl) (fun K' h' => ok_X12_wrongDays a1 (60 : Int32) M1 K' h') rfl (by decide) (by decide) (fun _ => Nat.le_of_ble_eq_true rfl) dX12_givenUp_8 h (fun r3 M2 h => ?_)
  refine gk_istore_n (L' := [some (gk_R 14 0), some (gk_I a1), some (gk_I a2), some (gk_I r3), none, none]) dX12_givenUp_11 rfl (by decide) rfl rfl ?_
  refine gk_iload_n dX12_givenUp_12 rfl rfl ?_
  refine gk_if_ne (tgt := 31) dX12_givenUp_13 (by decide) h (fun h => ?_) (fun h => ?_)
  · exact gk_weak [some (gk_R 14 0), some (gk_I a1), some (gk_I a2), some (gk_I r3), none, none] (And.intro rfl (And.intro rfl (And.intro rfl (And.intro rfl True.intro)))) (ok_X12_givenUp_j31 a1 a2 r3 M2 h)
  · refine gk_iload_n dX12_givenUp_16 rfl rfl ?_
    refine gk_i2l dX12_givenUp_17 ?_
    refine gk_lconst (v := (0 : Int64)) dX12_givenUp_18 (by decide) ?_
    refine gk_lconst (v := (1 : Int64)) dX12_givenUp_19 (by decide) ?_
    refine gk_callI (As := [gk_L (Int32.toInt64 a2), gk_L (0 : Int64), gk_L (1 : Int64)]) (st := []) 0 (cr_X12_71 rfl) (fun K' h' => ok_X12_in (Int32.toInt64 a2) (0 : Int64) (1 : Int64) M2 K' h') rfl (by decide) (by decide) (fun _ => Nat.le_of_ble_eq_true rfl) dX12_givenUp_20 h (fun r13 M12 h => ?_)
    refine gk_if_ne (tgt := 31) dX12_givenUp_23 (by decide) h (fun h => ?_) (fun h => ?_)
    · exact gk_weak [some (gk_R 14 0), some (gk_I a1), some (gk_I a2), some (gk_I r3), none, none] (And.intro rfl (And.intro rfl (And.intro rfl (And.intro rfl True.intro)))) (ok_X12_givenUp_j31 a1 a2 r3 M12 h)
    · refine gk_bipush (v := (-2 : Int32)) dX12_givenUp_26 (by decide) ?_
      refine gk_goto (tgt := 32) dX12_givenUp_28 (by decide) ?_
      exact gk_weak [some (gk_R 14 0), some (gk_I a1), some (gk_I a2), none, none, none] (And.intro rfl (And.intro rfl (And.intro rfl True.intro))) (ok_X12_givenUp_j32 a1 a2 ((-2 : Int32)) M12 h)
set_option maxRecDepth 100000 in
set_option maxHeartbeats 4000000 in
theorem ok_X12_home_j240 {K : gk_V → gk_M → Prop} (κ121 : Int32 → Int32 → Int32 → Int32 → Int32 → Int32 → Int32 → Int32 → gk_M → Option (Int32 × gk_M)) (κ130 : Int32 → Int32 → Int32 → Int32 → Int32 → Int32 → Int32 → Int32 → Int32 → gk_M → Option (Int32 × gk_M)) (hκ121 : ∀ (x1 : Int32) (x2 : Int32) (x3 : Int32) (x4 : Int32) (x6 : Int32) (x7 : Int32) (x8 : Int32) (x9 : Int32) (M : gk_M), gk_Sat gk_I (κ121 x1 x2 x3 x4 x6 x7 x8 x9 M) K → gk_G RX12 cX12_home 15 4 (some .int) none K 121 [some (gk_R 14 0), some (gk_I x1), some (gk_I x2), some (gk_I x3), some (gk_I x4), none, some (gk_I x6), some (gk_I x7), some (gk_I x8), some (gk_I x9), none, none, none, none, none] [] M) (hκ130 : ∀ (x1 : Int32) (x2 : Int32) (x3 : Int32) (x4 : Int32) (x6 : Int32) (x7 : Int32) (x8 : Int32) (x9 : Int32) (x10 : Int32) (M : gk_M), gk_Sat gk_I (κ130 x1 x2 x3 x4 x6 x7 x8 x9 x10 M) K → gk_G RX12 cX12_home 15 4 (some .int) none K 130 [some (gk_R 14 0), some (gk_I x1), some (gk_I x2), some (gk_I x3), some (gk_I x4), none, some (gk_I x6), some (gk_I x7), some (gk_I x8), some (gk_I x9), some (gk_I x10), none, none, none, none] [] M) (x1 : Int32) (x2 : Int32) (x3 : Int32) (x4 : Int32) (x7 : Int32) (x8 : Int32) (x9 : Int32) (x10 : Int32) (s0 : Int32) (M : gk_M) (h : gk_Sat gk_I (X12_home_j240 κ121 κ130 x1 x2 x3 x4 x7 x8 x9 x10 s0 M) K) : gk_G RX12 cX12_home 15 4 (some .int) none K 240 [some (gk_R 14 0), some (gk_I x1), some (gk_I x2), some (gk_I x3), some (gk_I x4), none, none, some (gk_I x7), some (gk_I x8), some (gk_I x9), some (gk_I x10), none, none, none, none] [gk_I s0] M := by
  refine gk_istore (L' := [some (gk_R 14 0), some (gk_I x1), some (gk_I x2), some (gk_I x3), some (gk_I x4), none, some (gk_I s0), some (gk_I x7), some (gk_I x8), some (gk_I x9), some (gk_I x10), none, none, none, none]) dX12_home_240 (by decide) rfl rfl ?_
  refine gk_iinc (v := (x10 + (1 : Int32))) (L' := [some (gk_R 14 0), some (gk_I x1), some (gk_I x2), some (gk_I x3), some (gk_I x4), none, some (gk_I s0), some (gk_I x7), some (gk_I x8), some (gk_I x9), some (gk_I (x10 + (1 : Int32))), none, none, none, none]) dX12_home_242 rfl rfl (by decide) rfl rfl ?_
  refine gk_goto (tgt := 130) dX12_home_245 (by decide) ?_
  exact gk_weak [some (gk_R 14 0), some (gk_I x1), some (gk_I x2), some (gk_I x3), some (gk_I x4), none, some (gk_I s0), some (gk_I x7), some (gk_I x8), some (gk_I x9), some (gk_I (x10 + (1 : Int32))), none, none, none, none] (And.intro rfl (And.intro rfl (And.intro rfl (And.intro rfl (And.intro rfl (And.intro rfl (And.intro rfl (And.intro rfl (And.intro rfl (And.intro rfl True.intro)))))))))) (hκ130 x1 x2 x3 x4 s0 x7 x8 x9 ((x10 + (1 : Int32))) M h)
set_option maxRecDepth 100000 in
set_option maxHeartbeats 4000000 in
theorem ok_X12_home_j226 {K : gk_V → gk_M → Prop} (κ121 : Int32 → Int32 → Int32 → Int32 → Int32 → Int32 → Int32 → Int32 → gk_M → Option (Int32 × gk_M)) (κ130 : Int32 → Int32 → Int32 → Int32 → Int32 → Int32 → Int32 → Int32 → Int32 → gk_M → Option (Int32 × gk_M)) (hκ121 : ∀ (x1 : Int32) (x2 : Int32) (x3 : Int32) (x4 : Int32) (x6 : Int32) (x7 : Int32) (x8 : Int32) (x9 : Int32) (M : gk_M), gk_Sat gk_I (κ121 x1 x2 x3 x4 x6 x7 x8 x9 M) K → gk_G RX12 cX12_home 15 4 (some .int) none K 121 [some (gk_R 14 0), some (gk_I x1), some (gk_I x2), some (gk_I x3), some (gk_I x4), none, some (gk_I x6), some (gk_I x7), some (gk_I x8), some (gk_I x9), none, none, none, none, none] [] M) (hκ130 : ∀ (x1 : Int32) (x2 : Int32) (x3 : Int32) (x4 : Int32) (x6 : Int32) (x7 : Int32) (x8 : Int32) (x9 : Int32) (x10 : Int32) (M : gk_M), gk_Sat gk_I (κ130 x1 x2 x3 x4 x6 x7 x8 x9 x10 M) K → gk_G RX12 cX12_home 15 4 (some .int) none K 130 [some (gk_R 14 0), some (gk_I x1), some (gk_I x2), some (gk_I x3), some (gk_I x4), none, some (gk_I x6), some (gk_I x7), some (gk_I x8), some (gk_I x9), some (gk_I x10), none, none, none, none] [] M) (x1 : Int32) (x2 : Int32) (x3 : Int32) (x4 : Int32) (x6 : Int32) (x7 : Int32) (x9 : Int32) (x10 : Int32) (x13 : Int32) (x14 : Int32) (s0 : Int32) (M : gk_M) (h : gk_Sat gk_I (X12_home_j226 κ121 κ130 x1 x2 x3 x4 x6 x7 x9 x10 x13 x14 s0 M) K) : gk_G RX12 cX12_home 15 4 (some .int) none K 226 [some (gk_R 14 0), some (gk_I x1), some (gk_I x2), some (gk_I x3), some (gk_I x4), none, some (gk_I x6), some (gk_I x7), none, some (gk_I x9), some (gk_I x10), none, none, some (gk_I x13), some (gk_I x14)] [gk_I s0] M := by
  refine gk_istore (L' := [some (gk_R 14 0), some (gk_I x1), some (gk_I x2), some (gk_I x3), some (gk_I x4), none, some (gk_I x6), some (gk_I x7), some (gk_I s0), some (gk_I x9), some (gk_I x10), none, none, some (gk_I x13), some (gk_I x14)]) dX12_home_226 (by decide) rfl rfl ?_
  refine gk_iload dX12_home_228 rfl ?_
  refine gk_if_eq (tgt := 238) dX12_home_230 (by decide) h (fun h => ?_) (fun h => ?_)
  · refine gk_iload dX12_home_238 rfl ?_
    exact gk_weak [some (gk_R 14 0), some (gk_I x1), some (gk_I x2), some (gk_I x3), some (gk_I x4), none, none, some (gk_I x7), some (gk_I s0), some (gk_I x9), some (gk_I x10), none, none, none, none] (And.intro rfl (And.intro rfl (And.intro rfl (And.intro rfl (And.intro rfl (And.intro rfl (And.intro rfl (And.intro rfl (And.intro rfl True.intro))))))))) (ok_X12_home_j240 κ121 κ130 hκ121 hκ130 x1 x2 x3 x4 x7 s0 x9 x10 x6 M h)
  · refine gk_iload dX12_home_233 rfl ?_
    refine gk_goto (tgt := 240) dX12_home_235 (by decide) ?_
    exact gk_weak [some (gk_R 14 0), some (gk_I x1), some (gk_I x2), some (gk_I x3), some (gk_I x4), none, none, some (gk_I x7), some (gk_I s0), some (gk_I x9), some (gk_I x10), none, none, none, none] (And.intro rfl (And.intro rfl (And.intro rfl (And.intro rfl (And.intro rfl (And.intro rfl (And.intro rfl (And.intro rfl (And.intro rfl True.intro))))))))) (ok_X12_home_j240 κ121 κ130 hκ121 hκ130 x1 x2 x3 x4 x7 s0 x9 x10 x13 M h)
set_option maxRecDepth 100000 in
set_option maxHeartbeats 4000000 in
theorem ok_X12_home_j212 {K : gk_V → gk_M → Prop} (κ121 : Int32 → Int32 → Int32 → Int32 → Int32 → Int32 → Int32 → Int32 → gk_M → Option (Int32 × gk_M)) (κ130 : Int32 → Int32 → Int32 → Int32 → Int32 → Int32 → Int32 → Int32 → Int32 → gk_M → Option (Int32 × gk_M)) (hκ121 : ∀ (x1 : Int32) (x2 : Int32) (x3 : Int32) (x4 : Int32) (x6 : Int32) (x7 : Int32) (x8 : Int32) (x9 : Int32) (M : gk_M), gk_Sat gk_I (κ121 x1 x2 x3 x4 x6 x7 x8 x9 M) K → gk_G RX12 cX12_home 15 4 (some .int) none K 121 [some (gk_R 14 0), some (gk_I x1), some (gk_I x2), some (gk_I x3), some (gk_I x4), none, some (gk_I x6), some (gk_I x7), some (gk_I x8), some (gk_I x9), none, none, none, none, none] [] M) (hκ130 : ∀ (x1 : Int32) (x2 : Int32) (x3 : Int32) (x4 : Int32) (x6 : Int32) (x7 : Int32) (x8 : Int32) (x9 : Int32) (x10 : Int32) (M : gk_M), gk_Sat gk_I (κ130 x1 x2 x3 x4 x6 x7 x8 x9 x10 M) K → gk_G RX12 cX12_home 15 4 (some .int) none K 130 [some (gk_R 14 0), some (gk_I x1), some (gk_I x2), some (gk_I x3), some (gk_I x4), none, some (gk_I x6), some (gk_I x7), some (gk_I x8), some (gk_I x9), some (gk_I x10), none, none, none, none] [] M) (x1 : Int32) (x2 : Int32) (x3 : Int32) (x4 : Int32) (x6 : Int32) (x8 : Int32) (x9 : Int32) (x10 : Int32) (x13 : Int32) (x14 : Int32) (s0 : Int32) (M : gk_M) (h : gk_Sat gk_I (X12_home_j212 κ121 κ130 x1 x2 x3 x4 x6 x8 x9 x10 x13 x14 s0 M) K) : gk_G RX12 cX12_home 15 4 (some .int) none K 212 [some (gk_R 14 0), some (gk_I x1), some (gk_I x2), some (gk_I x3), some (gk_I x4), none, some (gk_I x6), none, some (gk_I x8), some (gk_I x9), some (gk_I x10), none, none, some (gk_I x13), some (gk_I x14)] [gk_I s0] M := by
  refine gk_istore (L' := [some (gk_R 14 0), some (gk_I x1), some (gk_I x2), some (gk_I x3), some (gk_I x4), none, some (gk_I x6), some (gk_I s0), some (gk_I x8), some (gk_I x9), some (gk_I x10), none, none, some (gk_I x13), some (gk_I x14)]) dX12_home_212 (by decide) rfl rfl ?_
  refine gk_iload dX12_home_214 rfl ?_
  refine gk_if_eq (tgt := 224) dX12_home_216 (by decide) h (fun h => ?_) (fun h => ?_)
  · refine gk_iload dX12_home_224 rfl ?_
    exact gk_weak [some (gk_R 14 0), some (gk_I x1), some (gk_I x2), some (gk_I x3), some (gk_I x4), none, some (gk_I x6), some (gk_I s0), none, some (gk_I x9), some (gk_I x10), none, none, some (gk_I x13), some (gk_I x14)] (And.intro rfl (And.intro rfl (And.intro rfl (And.intro rfl (And.intro rfl (And.intro rfl (And.intro rfl (And.intro rfl (And.intro rfl (And.intro rfl (And.intro rfl True.intro))))))))))) (ok_X12_home_j226 κ121 κ130 hκ121 hκ130 x1 x2 x3 x4 x6 s0 x9 x10 x13 x14 x8 M h)
  · refine gk_iload dX12_home_219 rfl ?_
    refine gk_goto (tgt := 226) dX12_home_221 (by decide) ?_
    exact gk_weak [some (gk_R 14 0), some (gk_I x1), some (gk_I x2), some (gk_I x3), some (gk_I x4), none, some (gk_I x6), some (gk_I s0), none, some (gk_I x9), some (gk_I x10), none, none, some (gk_I x13), some (gk_I x14)] (And.intro rfl (And.intro rfl (And.intro rfl (And.intro rfl (And.intro rfl (And.intro rfl (And.intro rfl (And.intro rfl (And.intro rfl (And.intro rfl (And.intro rfl True.intro))))))))))) (ok_X12_home_j226 κ121 κ130 hκ121 hκ130 x1 x2 x3 x4 x6 s0 x9 x10 x13 x14 x9 M h)
set_option maxRecDepth 100000 in
set_option maxHeartbeats 4000000 in
theorem ok_X12_home_j198 {K : gk_V → gk_M → Prop} (κ121 : Int32 → Int32 → Int32 → Int32 → Int32 → Int32 → Int32 → Int32 → gk_M → Option (Int32 × gk_M)) (κ130 : Int32 → Int32 → Int32 → Int32 → Int32 → Int32 → Int32 → Int32 → Int32 → gk_M → Option (Int32 × gk_M)) (hκ121 : ∀ (x1 : Int32) (x2 : Int32) (x3 : Int32) (x4 : Int32) (x6 : Int32) (x7 : Int32) (x8 : Int32) (x9 : Int32) (M : gk_M), gk_Sat gk_I (κ121 x1 x2 x3 x4 x6 x7 x8 x9 M) K → gk_G RX12 cX12_home 15 4 (some .int) none K 121 [some (gk_R 14 0), some (gk_I x1), some (gk_I x2), some (gk_I x3), some (gk_I x4), none, some (gk_I x6), some (gk_I x7), some (gk_I x8), some (gk_I x9), none, none, none, none, none] [] M) (hκ130 : ∀ (x1 : Int32) (x2 : Int32) (x3 : Int32) (x4 : Int32) (x6 : Int32) (x7 : Int32) (x8 : Int32) (x9 : Int32) (x10 : Int32) (M : gk_M), gk_Sat gk_I (κ130 x1 x2 x3 x4 x6 x7 x8 x9 x10 M) K → gk_G RX12 cX12_home 15 4 (some .int) none K 130 [some (gk_R 14 0), some (gk_I x1), some (gk_I x2), some (gk_I x3), some (gk_I x4), none, some (gk_I x6), some (gk_I x7), some (gk_I x8), some (gk_I x9), some (gk_I x10), none, none, none, none] [] M) (x1 : Int32) (x2 : Int32) (x3 : Int32) (x4 : Int32) (x6 : Int32) (x7 : Int32) (x8 : Int32) (x9 : Int32) (x10 : Int32) (x13 : Int32) (s0 : Int32) (M : gk_M) (h : gk_Sat gk_I (X12_home_j198 κ121 κ130 x1 x2 x3 x4 x6 x7 x8 x9 x10 x13 s0 M) K) : gk_G RX12 cX12_home 15 4 (some .int) none K 198 [some (gk_R 14 0), some (gk_I x1), some (gk_I x2), some (gk_I x3), some (gk_I x4), none, some (gk_I x6), some (gk_I x7), some (gk_I x8), some (gk_I x9), some (gk_I x10), none, none, some (gk_I x13), none] [gk_I s0] M := by
  refine gk_istore (L' := [some (gk_R 14 0), some (gk_I x1), some (gk_I x2), some (gk_I x3), some (gk_I x4), none, some (gk_I x6), some (gk_I x7), some (gk_I x8), some (gk_I x9), some (gk_I x10), none, none, some (gk_I x13), some (gk_I s0)]) dX12_home_198 (by decide) rfl rfl ?_
  refine gk_iload dX12_home_200 rfl ?_
  refine gk_if_eq (tgt := 210) dX12_home_202 (by decide) h (fun h => ?_) (fun h => ?_)
  · refine gk_iload dX12_home_210 rfl ?_
    exact gk_weak [some (gk_R 14 0), some (gk_I x1), some (gk_I x2), some (gk_I x3), some (gk_I x4), none, some (gk_I x6), none, some (gk_I x8), some (gk_I x9), some (gk_I x10), none, none, some (gk_I x13), some (gk_I s0)] (And.intro rfl (And.intro rfl (And.intro rfl (And.intro rfl (And.intro rfl (And.intro rfl (And.intro rfl (And.intro rfl (And.intro rfl (And.intro rfl (And.intro rfl True.intro))))))))))) (ok_X12_home_j212 κ121 κ130 hκ121 hκ130 x1 x2 x3 x4 x6 x8 x9 x10 x13 s0 x7 M h)
  · refine gk_iload dX12_home_205 rfl ?_
    refine gk_goto (tgt := 212) dX12_home_207 (by decide) ?_
    exact gk_weak [some (gk_R 14 0), some (gk_I x1), some (gk_I x2), some (gk_I x3), some (gk_I x4), none, some (gk_I x6), none, some (gk_I x8), some (gk_I x9), some (gk_I x10), none, none, some (gk_I x13), some (gk_I s0)] (And.intro rfl (And.intro rfl (And.intro rfl (And.intro rfl (And.intro rfl (And.intro rfl (And.intro rfl (And.intro rfl (And.intro rfl (And.intro rfl (And.intro rfl True.intro))))))))))) (ok_X12_home_j212 κ121 κ130 hκ121 hκ130 x1 x2 x3 x4 x6 x8 x9 x10 x13 s0 x10 M h)
set_option maxRecDepth 100000 in
set_option maxHeartbeats 4000000 in
theorem ok_X12_home_j193 {K : gk_V → gk_M → Prop} (κ121 : Int32 → Int32 → Int32 → Int32 → Int32 → Int32 → Int32 → Int32 → gk_M → Option (Int32 × gk_M)) (κ130 : Int32 → Int32 → Int32 → Int32 → Int32 → Int32 → Int32 → Int32 → Int32 → gk_M → Option (Int32 × gk_M)) (hκ121 : ∀ (x1 : Int32) (x2 : Int32) (x3 : Int32) (x4 : Int32) (x6 : Int32) (x7 : Int32) (x8 : Int32) (x9 : Int32) (M : gk_M), gk_Sat gk_I (κ121 x1 x2 x3 x4 x6 x7 x8 x9 M) K → gk_G RX12 cX12_home 15 4 (some .int) none K 121 [some (gk_R 14 0), some (gk_I x1), some (gk_I x2), some (gk_I x3), some (gk_I x4), none, some (gk_I x6), some (gk_I x7), some (gk_I x8), some (gk_I x9), none, none, none, none, none] [] M) (hκ130 : ∀ (x1 : Int32) (x2 : Int32) (x3 : Int32) (x4 : Int32) (x6 : Int32) (x7 : Int32) (x8 : Int32) (x9 : Int32) (x10 : Int32) (M : gk_M), gk_Sat gk_I (κ130 x1 x2 x3 x4 x6 x7 x8 x9 x10 M) K → gk_G RX12 cX12_home 15 4 (some .int) none K 130 [some (gk_R 14 0), some (gk_I x1), some (gk_I x2), some (gk_I x3), some (gk_I x4), none, some (gk_I x6), some (gk_I x7), some (gk_I x8), some (gk_I x9), some (gk_I x10), none, none, none, none] [] M) (x1 : Int32) (x2 : Int32) (x3 : Int32) (x4 : Int32) (x6 : Int32) (x7 : Int32) (x8 : Int32) (x9 : Int32) (x10 : Int32) (x13 : Int32) (M : gk_M) (h : gk_Sat gk_I (X12_home_j193 κ121 κ130 x1 x2 x3 x4 x6 x7 x8 x9 x10 x13 M) K) : gk_G RX12 cX12_home 15 4 (some .int) none K 193 [some (gk_R 14 0), some (gk_I x1), some (gk_I x2), some (gk_I x3), some (gk_I x4), none, some (gk_I x6), some (gk_I x7), some (gk_I x8), some (gk_I x9), some (gk_I x10), none, none, some (gk_I x13), none] [] M := by
  refine gk_iconst (v := (1 : Int32)) dX12_home_193 (by decide) ?_
  refine gk_goto (tgt := 198) dX12_home_194 (by decide) ?_
  exact gk_weak [some (gk_R 14 0), some (gk_I x1), some (gk_I x2), some (gk_I x3), some (gk_I x4), none, some (gk_I x6), some (gk_I x7), some (gk_I x8), some (gk_I x9), some (gk_I x10), none, none, some (gk_I x13), none] (And.intro rfl (And.intro rfl (And.intro rfl (And.intro rfl (And.intro rfl (And.intro rfl (And.intro rfl (And.intro rfl (And.intro rfl (And.intro rfl (And.intro rfl True.intro))))))))))) (ok_X12_home_j198 κ121 κ130 hκ121 hκ130 x1 x2 x3 x4 x6 x7 x8 x9 x10 x13 ((1 : Int32)) M h)
set_option maxRecDepth 100000 in
set_option maxHeartbeats 4000000 in
theorem ok_X12_home_j179 {K : gk_V → gk_M → Prop} (κ121 : Int32 → Int32 → Int32 → Int32 → Int32 → Int32 → Int32 → Int32 → gk_M → Option (Int32 × gk_M)) (κ130 : Int32 → Int32 → Int32 → Int32 → Int32 → Int32 → Int32 → Int32 → Int32 → gk_M → Option (Int32 × gk_M)) (hκ121 : ∀ (x1 : Int32) (x2 : Int32) (x3 : Int32) (x4 : Int32) (x6 : Int32) (x7 : Int32) (x8 : Int32) (x9 : Int32) (M : gk_M), gk_Sat gk_I (κ121 x1 x2 x3 x4 x6 x7 x8 x9 M) K → gk_G RX12 cX12_home 15 4 (some .int) none K 121 [some (gk_R 14 0), some (gk_I x1), some (gk_I x2), some (gk_I x3), some (gk_I x4), none, some (gk_I x6), some (gk_I x7), some (gk_I x8), some (gk_I x9), none, none, none, none, none] [] M) (hκ130 : ∀ (x1 : Int32) (x2 : Int32) (x3 : Int32) (x4 : Int32) (x6 : Int32) (x7 : Int32) (x8 : Int32) (x9 : Int32) (x10 : Int32) (M : gk_M), gk_Sat gk_I (κ130 x1 x2 x3 x4 x6 x7 x8 x9 x10 M) K → gk_G RX12 cX12_home 15 4 (some .int) none K 130 [some (gk_R 14 0), some (gk_I x1), some (gk_I x2), some (gk_I x3), some (gk_I x4), none, some (gk_I x6), some (gk_I x7), some (gk_I x8), some (gk_I x9), some (gk_I x10), none, none, none, none] [] M) (x1 : Int32) (x2 : Int32) (x3 : Int32) (x4 : Int32) (x6 : Int32) (x7 : Int32) (x8 : Int32) (x9 : Int32) (x10 : Int32) (s0 : Int32) (M : gk_M) (h : gk_Sat gk_I (X12_home_j179 κ121 κ130 x1 x2 x3 x4 x6 x7 x8 x9 x10 s0 M) K) : gk_G RX12 cX12_home 15 4 (some .int) none K 179 [some (gk_R 14 0), some (gk_I x1), some (gk_I x2), some (gk_I x3), some (gk_I x4), none, some (gk_I x6), some (gk_I x7), some (gk_I x8), some (gk_I x9), some (gk_I x10), none, none, none, none] [gk_I s0] M := by
  refine gk_istore (L' := [some (gk_R 14 0), some (gk_I x1), some (gk_I x2), some (gk_I x3), some (gk_I x4), none, some (gk_I x6), some (gk_I x7), some (gk_I x8), some (gk_I x9), some (gk_I x10), none, none, some (gk_I s0), none]) dX12_home_179 (by decide) rfl rfl ?_
  refine gk_iload dX12_home_181 rfl ?_
  refine gk_if_lt (tgt := 193) dX12_home_183 (by decide) h (fun h => ?_) (fun h => ?_)
  · exact gk_weak [some (gk_R 14 0), some (gk_I x1), some (gk_I x2), some (gk_I x3), some (gk_I x4), none, some (gk_I x6), some (gk_I x7), some (gk_I x8), some (gk_I x9), some (gk_I x10), none, none, some (gk_I s0), none] (And.intro rfl (And.intro rfl (And.intro rfl (And.intro rfl (And.intro rfl (And.intro rfl (And.intro rfl (And.intro rfl (And.intro rfl (And.intro rfl (And.intro rfl True.intro))))))))))) (ok_X12_home_j193 κ121 κ130 hκ121 hκ130 x1 x2 x3 x4 x6 x7 x8 x9 x10 s0 M h)
  · refine gk_iload dX12_home_186 rfl ?_
    refine gk_iload dX12_home_188 rfl ?_
    refine gk_icmp_ge (tgt := 197) dX12_home_190 (by decide) h (fun h => ?_) (fun h => ?_)
    · refine gk_iconst (v := (0 : Int32)) dX12_home_197 (by decide) ?_
      exact gk_weak [some (gk_R 14 0), some (gk_I x1), some (gk_I x2), some (gk_I x3), some (gk_I x4), none, some (gk_I x6), some (gk_I x7), some (gk_I x8), some (gk_I x9), some (gk_I x10), none, none, some (gk_I s0), none] (And.intro rfl (And.intro rfl (And.intro rfl (And.intro rfl (And.intro rfl (And.intro rfl (And.intro rfl (And.intro rfl (And.intro rfl (And.intro rfl (And.intro rfl True.intro))))))))))) (ok_X12_home_j198 κ121 κ130 hκ121 hκ130 x1 x2 x3 x4 x6 x7 x8 x9 x10 s0 ((0 : Int32)) M h)
    · exact gk_weak [some (gk_R 14 0), some (gk_I x1), some (gk_I x2), some (gk_I x3), some (gk_I x4), none, some (gk_I x6), some (gk_I x7), some (gk_I x8), some (gk_I x9), some (gk_I x10), none, none, some (gk_I s0), none] (And.intro rfl (And.intro rfl (And.intro rfl (And.intro rfl (And.intro rfl (And.intro rfl (And.intro rfl (And.intro rfl (And.intro rfl (And.intro rfl (And.intro rfl True.intro))))))))))) (ok_X12_home_j193 κ121 κ130 hκ121 hκ130 x1 x2 x3 x4 x6 x7 x8 x9 x10 s0 M h)
set_option maxRecDepth 100000 in
set_option maxHeartbeats 4000000 in
theorem ok_X12_home_l130 {K : gk_V → gk_M → Prop} (κ121 : Int32 → Int32 → Int32 → Int32 → Int32 → Int32 → Int32 → Int32 → gk_M → Option (Int32 × gk_M)) (hκ121 : ∀ (x1 : Int32) (x2 : Int32) (x3 : Int32) (x4 : Int32) (x6 : Int32) (x7 : Int32) (x8 : Int32) (x9 : Int32) (M : gk_M), gk_Sat gk_I (κ121 x1 x2 x3 x4 x6 x7 x8 x9 M) K → gk_G RX12 cX12_home 15 4 (some .int) none K 121 [some (gk_R 14 0), some (gk_I x1), some (gk_I x2), some (gk_I x3), some (gk_I x4), none, some (gk_I x6), some (gk_I x7), some (gk_I x8), some (gk_I x9), none, none, none, none, none] [] M) : ∀ (n : Nat) (x1 : Int32) (x2 : Int32) (x3 : Int32) (x4 : Int32) (x6 : Int32) (x7 : Int32) (x8 : Int32) (x9 : Int32) (x10 : Int32) (M : gk_M), gk_Sat gk_I (X12_home_l130 κ121 n x1 x2 x3 x4 x6 x7 x8 x9 x10 M) K → gk_G RX12 cX12_home 15 4 (some .int) none K 130 [some (gk_R 14 0), some (gk_I x1), some (gk_I x2), some (gk_I x3), some (gk_I x4), none, some (gk_I x6), some (gk_I x7), some (gk_I x8), some (gk_I x9), some (gk_I x10), none, none, none, none] [] M := by
  intro n
  induction n with
  | zero => intro x1 x2 x3 x4 x6 x7 x8 x9 x10 M h; exact h.no.elim
  | succ n ih =>
    intro x1 x2 x3 x4 x6 x7 x8 x9 x10 M h
    refine gk_iload dX12_home_130 rfl ?_
    refine gk_aload_n dX12_home_132 rfl rfl ?_
    refine gk_getI fr_X12_68 si_14_0 (by decide) dX12_home_133 ?_
    refine gk_icmp_ge (tgt := 248) dX12_home_136 (by decide) h (fun h => ?_) (fun h => ?_)
    · refine gk_aload_n dX12_home_248 rfl rfl ?_
      refine gk_iconst (v := (1 : Int32)) dX12_home_249 (by decide) ?_
      refine gk_callI (As := [gk_R 14 0, gk_I (1 : Int32)]) (st := []) 3 (cr_X12_199 (by decide) rfl) (fun K' h' => ok_X12_daysOn (1 : Int32) M K' h') rfl (by decide) (by decide) (fun _ => Nat.le_of_ble_eq_true rfl) dX12_home_250 h (fun r7 M6 h => ?_)
      refine gk_pop dX12_home_253 rfl ?_
      refine gk_iinc (v := (x9 + (1 : Int32))) (L' := [some (gk_R 14 0), some (gk_I x1), some (gk_I x2), some (gk_I x3), some (gk_I x4), none, some (gk_I x6), some (gk_I x7), some (gk_I x8), some (gk_I (x9 + (1 : Int32))), some (gk_I x10), none, none, none, none]) dX12_home_254 rfl rfl (by decide) rfl rfl ?_
      refine gk_goto (tgt := 121) dX12_home_257 (by decide) ?_
      exact gk_weak [some (gk_R 14 0), some (gk_I x1), some (gk_I x2), some (gk_I x3), some (gk_I x4), none, some (gk_I x6), some (gk_I x7), some (gk_I x8), some (gk_I (x9 + (1 : Int32))), none, none, none, none, none] (And.intro rfl (And.intro rfl (And.intro rfl (And.intro rfl (And.intro rfl (And.intro rfl (And.intro rfl (And.intro rfl (And.intro rfl True.intro))))))))) (hκ121 x1 x2 x3 x4 x6 x7 x8 ((x9 + (1 : Int32))) M6 h)
    · refine gk_aload_n dX12_home_139 rfl rfl ?_
      refine gk_get (v := gk_R 16 4) fr_X12_35 pf_14_11 (by decide) dX12_home_140 ?_
      refine gk_iload dX12_home_143 rfl ?_
      refine gk_iald ga_16 (by decide) dX12_home_145 h (fun h hb8 => ?_)
      refine gk_iload_n dX12_home_146 rfl rfl ?_
      refine gk_callI (As := [gk_I (M 16 4 (Int32.toNatClampNeg x10)), gk_I x1]) (st := []) 0 (cr_X12_103 rfl) (fun K' h' => ok_X12_apart (M 16 4 (Int32.toNatClampNeg x10)) x1 M K' h') rfl (by decide) (by decide) (fun _ => Nat.le_of_ble_eq_true rfl) dX12_home_147 h (fun r10 M9 h => ?_)
      refine gk_istore (L' := [some (gk_R 14 0), some (gk_I x1), some (gk_I x2), some (gk_I x3), some (gk_I x4), none, some (gk_I x6), some (gk_I x7), some (gk_I x8), some (gk_I x9), some (gk_I x10), some (gk_I r10), none, none, none]) dX12_home_150 (by decide) rfl rfl ?_
      refine gk_aload_n dX12_home_152 rfl rfl ?_
      refine gk_get (v := gk_R 16 5) fr_X12_38 pf_14_12 (by decide) dX12_home_153 ?_
      refine gk_iload dX12_home_156 rfl ?_
      refine gk_iald ga_16 (by decide) dX12_home_158 h (fun h hb11 => ?_)
      refine gk_iload_n dX12_home_159 rfl rfl ?_
      refine gk_callI (As := [gk_I (M9 16 5 (Int32.toNatClampNeg x10)), gk_I x2]) (st := []) 0 (cr_X12_103 rfl) (fun K' h' => ok_X12_apart (M9 16 5 (Int32.toNatClampNeg x10)) x2 M9 K' h') rfl (by decide) (by decide) (fun _ => Nat.le_of_ble_eq_true rfl) dX12_home_160 h (fun r13 M12 h => ?_)
      refine gk_istore (L' := [some (gk_R 14 0), some (gk_I x1), some (gk_I x2), some (gk_I x3), some (gk_I x4), none, some (gk_I x6), some (gk_I x7), some (gk_I x8), some (gk_I x9), some (gk_I x10), some (gk_I r10), some (gk_I r13), none, none]) dX12_home_163 (by decide) rfl rfl ?_
      refine gk_iload dX12_home_165 rfl ?_
      refine gk_iload dX12_home_167 rfl ?_
      refine gk_icmp_le (tgt := 177) dX12_home_169 (by decide) h (fun h => ?_) (fun h => ?_)
      · refine gk_iload dX12_home_177 rfl ?_
        exact gk_weak [some (gk_R 14 0), some (gk_I x1), some (gk_I x2), some (gk_I x3), some (gk_I x4), none, some (gk_I x6), some (gk_I x7), some (gk_I x8), some (gk_I x9), some (gk_I x10), none, none, none, none] (And.intro rfl (And.intro rfl (And.intro rfl (And.intro rfl (And.intro rfl (And.intro rfl (And.intro rfl (And.intro rfl (And.intro rfl (And.intro rfl True.intro)))))))))) (ok_X12_home_j179 κ121 (X12_home_l130 κ121 n) hκ121 ih x1 x2 x3 x4 x6 x7 x8 x9 x10 r13 M12 h)
      · refine gk_iload dX12_home_172 rfl ?_
        refine gk_goto (tgt := 179) dX12_home_174 (by decide) ?_
        exact gk_weak [some (gk_R 14 0), some (gk_I x1), some (gk_I x2), some (gk_I x3), some (gk_I x4), none, some (gk_I x6), some (gk_I x7), some (gk_I x8), some (gk_I x9), some (gk_I x10), none, none, none, none] (And.intro rfl (And.intro rfl (And.intro rfl (And.intro rfl (And.intro rfl (And.intro rfl (And.intro rfl (And.intro rfl (And.intro rfl (And.intro rfl True.intro)))))))))) (ok_X12_home_j179 κ121 (X12_home_l130 κ121 n) hκ121 ih x1 x2 x3 x4 x6 x7 x8 x9 x10 r10 M12 h)
set_option maxRecDepth 100000 in
set_option maxHeartbeats 4000000 in
theorem ok_X12_home_l121 {K : gk_V → gk_M → Prop} : ∀ (n : Nat) (x1 : Int32) (x2 : Int32) (x3 : Int32) (x4 : Int32) (x6 : Int32) (x7 : Int32) (x8 : Int32) (x9 : Int32) (M : gk_M), gk_Sat gk_I (X12_home_l121 n x1 x2 x3 x4 x6 x7 x8 x9 M) K → gk_G RX12 cX12_home 15 4 (some .int) none K 121 [some (gk_R 14 0), some (gk_I x1), some (gk_I x2), some (gk_I x3), some (gk_I x4), none, some (gk_I x6), some (gk_I x7), some (gk_I x8), some (gk_I x9), none, none, none, none, none] [] M := by
  intro n
  induction n with
  | zero => intro x1 x2 x3 x4 x6 x7 x8 x9 M h; exact h.no.elim
  | succ n ih =>
    intro x1 x2 x3 x4 x6 x7 x8 x9 M h
    refine gk_iload dX12_home_121 rfl ?_
    refine gk_iload_n dX12_home_123 rfl rfl ?_
    refine gk_icmp_gt (tgt := 260) dX12_home_124 (by decide) h (fun h => ?_) (fun h => ?_)
    · refine gk_aload_n dX12_home_260 rfl rfl ?_
      refine gk_callV (As := [gk_R 14 0]) (st := []) 2 (cr_X12_188 (by decide) rfl) (fun K' h' => ok_X12_close M K' h') rfl (by decide) (by decide) (fun _ => Nat.le_of_ble_eq_true rfl) dX12_home_261 h (fun _ M4 h => ?_)
      refine gk_iload dX12_home_264 rfl ?_
      refine gk_if_ne (tgt := 274) dX12_home_266 (by decide) h (fun h => ?_) (fun h => ?_)
      · refine gk_iload dX12_home_274 rfl ?_
        refine gk_iconst (v := (1 : Int32)) dX12_home_276 (by decide) ?_
        refine gk_icmp_ne (tgt := 285) dX12_home_277 (by decide) h (fun h => ?_) (fun h => ?_)
        · refine gk_iload dX12_home_285 rfl ?_
          exact gk_iret dX12_home_287 rfl h
        · refine gk_iload dX12_home_280 rfl ?_
          refine gk_goto (tgt := 287) dX12_home_282 (by decide) ?_
          exact gk_iret dX12_home_287 rfl h
      · refine gk_iload dX12_home_269 rfl ?_
        refine gk_goto (tgt := 287) dX12_home_271 (by decide) ?_
        exact gk_iret dX12_home_287 rfl h
    · refine gk_iconst (v := (0 : Int32)) dX12_home_127 (by decide) ?_
      refine gk_istore (L' := [some (gk_R 14 0), some (gk_I x1), some (gk_I x2), some (gk_I x3), some (gk_I x4), none, some (gk_I x6), some (gk_I x7), some (gk_I x8), some (gk_I x9), some (gk_I (0 : Int32)), none, none, none, none]) dX12_home_128 (by decide) rfl rfl ?_
      exact gk_weak [some (gk_R 14 0), some (gk_I x1), some (gk_I x2), some (gk_I x3), some (gk_I x4), none, some (gk_I x6), some (gk_I x7), some (gk_I x8), some (gk_I x9), some (gk_I (0 : Int32)), none, none, none, none] (And.intro rfl (And.intro rfl (And.intro rfl (And.intro rfl (And.intro rfl (And.intro rfl (And.intro rfl (And.intro rfl (And.intro rfl (And.intro rfl True.intro)))))))))) (ok_X12_home_l130 (X12_home_l121 n) ih 200 x1 x2 x3 x4 x6 x7 x8 x9 ((0 : Int32)) M h)
set_option maxRecDepth 100000 in
set_option maxHeartbeats 4000000 in
theorem ok_X12_home_j81 {K : gk_V → gk_M → Prop} (x1 : Int32) (x2 : Int32) (x3 : Int32) (x4 : Int32) (s0 : Int32) (M : gk_M) (h : gk_Sat gk_I (X12_home_j81 x1 x2 x3 x4 s0 M) K) : gk_G RX12 cX12_home 15 4 (some .int) none K 81 [some (gk_R 14 0), some (gk_I x1), some (gk_I x2), some (gk_I x3), some (gk_I x4), none, none, none, none, none, none, none, none, none, none] [gk_I s0] M := by
  refine gk_istore (L' := [some (gk_R 14 0), some (gk_I x1), some (gk_I x2), some (gk_I x3), some (gk_I x4), some (gk_I s0), none, none, none, none, none, none, none, none, none]) dX12_home_81 (by decide) rfl rfl ?_
  refine gk_iload dX12_home_83 rfl ?_
  refine gk_if_ge (tgt := 95) dX12_home_85 (by decide) h (fun h => ?_) (fun h => ?_)
  · refine gk_aload_n dX12_home_95 rfl rfl ?_
    refine gk_getI fr_X12_68 si_14_0 (by decide) dX12_home_96 ?_
    refine gk_if_ne (tgt := 105) dX12_home_99 (by decide) h (fun h => ?_) (fun h => ?_)
    · refine gk_aload_n dX12_home_105 rfl rfl ?_
      refine gk_callV (As := [gk_R 14 0]) (st := []) 2 (cr_X12_182 (by decide) rfl) (fun K' h' => ok_X12_open0 M K' h') rfl (by decide) (by decide) (fun _ => Nat.le_of_ble_eq_true rfl) dX12_home_106 h (fun _ M2 h => ?_)
      refine gk_iconst (v := (-1 : Int32)) dX12_home_109 (by decide) ?_
      refine gk_istore (L' := [some (gk_R 14 0), some (gk_I x1), some (gk_I x2), some (gk_I x3), some (gk_I x4), some (gk_I s0), some (gk_I (-1 : Int32)), none, none, none, none, none, none, none, none]) dX12_home_110 (by decide) rfl rfl ?_
      refine gk_iconst (v := (0 : Int32)) dX12_home_112 (by decide) ?_
      refine gk_istore (L' := [some (gk_R 14 0), some (gk_I x1), some (gk_I x2), some (gk_I x3), some (gk_I x4), some (gk_I s0), some (gk_I (-1 : Int32)), some (gk_I (0 : Int32)), none, none, none, none, none, none, none]) dX12_home_113 (by decide) rfl rfl ?_
      refine gk_iconst (v := (0 : Int32)) dX12_home_115 (by decide) ?_
      refine gk_istore (L' := [some (gk_R 14 0), some (gk_I x1), some (gk_I x2), some (gk_I x3), some (gk_I x4), some (gk_I s0), some (gk_I (-1 : Int32)), some (gk_I (0 : Int32)), some (gk_I (0 : Int32)), none, none, none, none, none, none]) dX12_home_116 (by decide) rfl rfl ?_
      refine gk_iconst (v := (0 : Int32)) dX12_home_118 (by decide) ?_
      refine gk_istore (L' := [some (gk_R 14 0), some (gk_I x1), some (gk_I x2), some (gk_I x3), some (gk_I x4), some (gk_I s0), some (gk_I (-1 : Int32)), some (gk_I (0 : Int32)), some (gk_I (0 : Int32)), some (gk_I (0 : Int32)), none, none, none, none, none]) dX12_home_119 (by decide) rfl rfl ?_
      exact gk_weak [some (gk_R 14 0), some (gk_I x1), some (gk_I x2), some (gk_I x3), some (gk_I x4), none, some (gk_I (-1 : Int32)), some (gk_I (0 : Int32)), some (gk_I (0 : Int32)), some (gk_I (0 : Int32)), none, none, none, none, none] (And.intro rfl (And.intro rfl (And.intro rfl (And.intro rfl (And.intro rfl (And.intro rfl (And.intro rfl (And.intro rfl (And.intro rfl True.intro))))))))) (ok_X12_home_l121 200 x1 x2 x3 x4 ((-1 : Int32)) ((0 : Int32)) ((0 : Int32)) ((0 : Int32)) M2 h)
    · refine gk_bipush (v := (-9 : Int32)) dX12_home_102 (by decide) ?_
      exact gk_iret dX12_home_104 rfl h
  · refine gk_aload_n dX12_home_88 rfl rfl ?_
    refine gk_iload dX12_home_89 rfl ?_
    refine gk_callI (As := [gk_R 14 0, gk_I s0]) (st := []) 0 (cr_X12_134 (by decide) rfl) (fun K' h' => ok_X12_refuse s0 M K' h') rfl (by decide) (by decide) (fun _ => Nat.le_of_ble_eq_true rfl) dX12_home_91 h (fun r15 M14 h => ?_)
    exact gk_iret dX12_home_94 rfl h
set_option maxRecDepth 100000 in
set_option maxHeartbeats 4000000 in
theorem ok_X12_home_j79 {K : gk_V → gk_M → Prop} (x1 : Int32) (x2 : Int32) (x3 : Int32) (x4 : Int32) (x5 : Int32) (M : gk_M) (h : gk_Sat gk_I (X12_home_j79 x1 x2 x3 x4 x5 M) K) : gk_G RX12 cX12_home 15 4 (some .int) none K 79 [some (gk_R 14 0), some (gk_I x1), some (gk_I x2), some (gk_I x3), some (gk_I x4), some (gk_I x5), none, none, none, none, none, none, none, none, none] [] M := by
  refine gk_iload dX12_home_79 rfl ?_
  exact gk_weak [some (gk_R 14 0), some (gk_I x1), some (gk_I x2), some (gk_I x3), some (gk_I x4), none, none, none, none, none, none, none, none, none, none] (And.intro rfl (And.intro rfl (And.intro rfl (And.intro rfl (And.intro rfl True.intro))))) (ok_X12_home_j81 x1 x2 x3 x4 x5 M h)
set_option maxRecDepth 100000 in
set_option maxHeartbeats 4000000 in
theorem ok_X12_home_j54 {K : gk_V → gk_M → Prop} (x1 : Int32) (x2 : Int32) (x3 : Int32) (x4 : Int32) (s0 : Int32) (M : gk_M) (h : gk_Sat gk_I (X12_home_j54 x1 x2 x3 x4 s0 M) K) : gk_G RX12 cX12_home 15 4 (some .int) none K 54 [some (gk_R 14 0), some (gk_I x1), some (gk_I x2), some (gk_I x3), some (gk_I x4), none, none, none, none, none, none, none, none, none, none] [gk_I s0] M := by
  refine gk_istore (L' := [some (gk_R 14 0), some (gk_I x1), some (gk_I x2), some (gk_I x3), some (gk_I x4), some (gk_I s0), none, none, none, none, none, none, none, none, none]) dX12_home_54 (by decide) rfl rfl ?_
  refine gk_iload dX12_home_56 rfl ?_
  refine gk_if_ne (tgt := 79) dX12_home_58 (by decide) h (fun h => ?_) (fun h => ?_)
  · exact gk_weak [some (gk_R 14 0), some (gk_I x1), some (gk_I x2), some (gk_I x3), some (gk_I x4), some (gk_I s0), none, none, none, none, none, none, none, none, none] (And.intro rfl (And.intro rfl (And.intro rfl (And.intro rfl (And.intro rfl (And.intro rfl True.intro)))))) (ok_X12_home_j79 x1 x2 x3 x4 s0 M h)
  · refine gk_iload dX12_home_61 rfl ?_
    refine gk_i2l dX12_home_63 ?_
    refine gk_lconst (v := (0 : Int64)) dX12_home_64 (by decide) ?_
    refine gk_ldc2 dX12_home_65 kc_X12_206 ?_
    refine gk_callI (As := [gk_L (Int32.toInt64 x4), gk_L (0 : Int64), gk_L (2 : Int64)]) (st := []) 0 (cr_X12_71 rfl) (fun K' h' => ok_X12_in (Int32.toInt64 x4) (0 : Int64) (2 : Int64) M K' h') rfl (by decide) (by decide) (fun _ => Nat.le_of_ble_eq_true rfl) dX12_home_68 h (fun r17 M16 h => ?_)
    refine gk_if_ne (tgt := 79) dX12_home_71 (by decide) h (fun h => ?_) (fun h => ?_)
    · exact gk_weak [some (gk_R 14 0), some (gk_I x1), some (gk_I x2), some (gk_I x3), some (gk_I x4), some (gk_I s0), none, none, none, none, none, none, none, none, none] (And.intro rfl (And.intro rfl (And.intro rfl (And.intro rfl (And.intro rfl (And.intro rfl True.intro)))))) (ok_X12_home_j79 x1 x2 x3 x4 s0 M16 h)
    · refine gk_bipush (v := (-2 : Int32)) dX12_home_74 (by decide) ?_
      refine gk_goto (tgt := 81) dX12_home_76 (by decide) ?_
      exact gk_weak [some (gk_R 14 0), some (gk_I x1), some (gk_I x2), some (gk_I x3), some (gk_I x4), none, none, none, none, none, none, none, none, none, none] (And.intro rfl (And.intro rfl (And.intro rfl (And.intro rfl (And.intro rfl True.intro))))) (ok_X12_home_j81 x1 x2 x3 x4 ((-2 : Int32)) M16 h)
set_option maxRecDepth 100000 in
set_option maxHeartbeats 4000000 in
theorem ok_X12_home_j23 {K : gk_V → gk_M → Prop} (x1 : Int32) (x2 : Int32) (x3 : Int32) (x4 : Int32) (M : gk_M) (h : gk_Sat gk_I (X12_home_j23 x1 x2 x3 x4 M) K) : gk_G RX12 cX12_home 15 4 (some .int) none K 23 [some (gk_R 14 0), some (gk_I x1), some (gk_I x2), some (gk_I x3), some (gk_I x4), none, none, none, none, none, none, none, none, none, none] [] M := by
  refine gk_bipush (v := (-4 : Int32)) dX12_home_23 (by decide) ?_
  refine gk_goto (tgt := 54) dX12_home_25 (by decide) ?_
  exact gk_weak [some (gk_R 14 0), some (gk_I x1), some (gk_I x2), some (gk_I x3), some (gk_I x4), none, none, none, none, none, none, none, none, none, none] (And.intro rfl (And.intro rfl (And.intro rfl (And.intro rfl (And.intro rfl True.intro))))) (ok_X12_home_j54 x1 x2 x3 x4 ((-4 : Int32)) M h)
set_option maxRecDepth 100000 in
set_option maxHeartbeats 4000000 in
theorem ok_X12_home_j48 {K : gk_V → gk_M → Prop} (x1 : Int32) (x2 : Int32) (x3 : Int32) (x4 : Int32) (M : gk_M) (h : gk_Sat gk_I (X12_home_j48 x1 x2 x3 x4 M) K) : gk_G RX12 cX12_home 15 4 (some .int) none K 48 [some (gk_R 14 0), some (gk_I x1), some (gk_I x2), some (gk_I x3), some (gk_I x4), none, none, none, none, none, none, none, none, none, none] [] M := by
  refine gk_bipush (v := (-6 : Int32)) dX12_home_48 (by decide) ?_
  refine gk_goto (tgt := 54) dX12_home_50 (by decide) ?_
  exact gk_weak [some (gk_R 14 0), some (gk_I x1), some (gk_I x2), some (gk_I x3), some (gk_I x4), none, none, none, none, none, none, none, none, none, none] (And.intro rfl (And.intro rfl (And.intro rfl (And.intro rfl (And.intro rfl True.intro))))) (ok_X12_home_j54 x1 x2 x3 x4 ((-6 : Int32)) M h)
set_option maxRecDepth 100000 in
set_option maxHeartbeats 4000000 in
theorem ok_X12_home (a1 : Int32) (a2 : Int32) (a3 : Int32) (a4 : Int32) (M : gk_M) (K : gk_V → gk_M → Prop) (h : gk_Sat gk_I (f_X12_home a1 a2 a3 a4 M) K) : gk_MS 4 yX12_home cX12_home 15 (some .int) [gk_R 14 0, gk_I a1, gk_I a2, gk_I a3, gk_I a4] M K := by

  refine gk_MS_of [some (gk_R 14 0), some (gk_I a1), some (gk_I a2), some (gk_I a3), some (gk_I a4), none, none, none, none, none, none, none, none, none, none] (by decide +kernel) (Nat.le_of_ble_eq_true rfl) (And.intro rfl (And.intro rfl (And.intro rfl (And.intro rfl (And.intro rfl True.intro))))) ?_
  show gk_G RX12 cX12_home 15 4 (some .int) none K 0 [some (gk_R 14 0), some (gk_I a1), some (gk_I a2), some (gk_I a3), some (gk_I a4), none, none, none, none, none, none, none, none, none, none] [] M
  refine gk_aload_n dX12_home_0 rfl rfl ?_
  refine gk_iconst (v := (0 : Int32)) dX12_home_1 (by decide) ?_
  refine gk_putI fr_X12_65 si_14_13 (by decide) dX12_home_2 h (fun M1 h => ?_)
  refine gk_iload_n dX12_home_5 rfl rfl ?_
  refine gk_if_lt (tgt := 23) dX12_home_6 (by decide) h (fun h => ?_) (fun h => ?_)
  · exact gk_weak [some (gk_R 14 0), some (gk_I a1), some (gk_I a2), some (gk_I a3), some (gk_I a4), none, none, none, none, none, none, none, none, none, none] (And.intro rfl (And.intro rfl (And.intro rfl (And.intro rfl (And.intro rfl True.intro))))) (ok_X12_home_j23 a1 a2 a3 a4 M1 h)
  · refine gk_iload_n dX12_home_9 rfl rfl ?_
    refine gk_sipush (v := (-9999 : Int32)) dX12_home_10 (by decide) ?_
    refine gk_icmp_lt (tgt := 23) dX12_home_13 (by decide) h (fun h => ?_) (fun h => ?_)
    · exact gk_weak [some (gk_R 14 0), some (gk_I a1), some (gk_I a2), some (gk_I a3), some (gk_I a4), none, none, none, none, none, none, none, none, none, none] (And.intro rfl (And.intro rfl (And.intro rfl (And.intro rfl (And.intro rfl True.intro))))) (ok_X12_home_j23 a1 a2 a3 a4 M1 h)
    · refine gk_iload_n dX12_home_16 rfl rfl ?_
      refine gk_sipush (v := (-9999 : Int32)) dX12_home_17 (by decide) ?_
      refine gk_icmp_ge (tgt := 28) dX12_home_20 (by decide) h (fun h => ?_) (fun h => ?_)
      · refine gk_iload_n dX12_home_28 rfl rfl ?_
        refine gk_bipush (v := (60 : Int32)) dX12_home_29 (by decide) ?_
        refine gk_icmp_gt (tgt := 48) dX12_home_31 (by decide) h (fun h => ?_) (fun h => ?_)
        · exact gk_weak [some (gk_R 14 0), some (gk_I a1), some (gk_I a2), some (gk_I a3), some (gk_I a4), none, none, none, none, none, none, none, none, none, none] (And.intro rfl (And.intro rfl (And.intro rfl (And.intro rfl (And.intro rfl True.intro))))) (ok_X12_home_j48 a1 a2 a3 a4 M1 h)
        · refine gk_iload_n dX12_home_34 rfl rfl ?_
          refine gk_sipush (v := (9999 : Int32)) dX12_home_35 (by decide) ?_
          refine gk_icmp_gt (tgt := 48) dX12_home_38 (by decide) h (fun h => ?_) (fun h => ?_)
          · exact gk_weak [some (gk_R 14 0), some (gk_I a1), some (gk_I a2), some (gk_I a3), some (gk_I a4), none, none, none, none, none, none, none, none, none, none] (And.intro rfl (And.intro rfl (And.intro rfl (And.intro rfl (And.intro rfl True.intro))))) (ok_X12_home_j48 a1 a2 a3 a4 M1 h)
          · refine gk_iload_n dX12_home_41 rfl rfl ?_
            refine gk_sipush (v := (9999 : Int32)) dX12_home_42 (by decide) ?_
            refine gk_icmp_le (tgt := 53) dX12_home_45 (by decide) h (fun h => ?_) (fun h => ?_)
            · refine gk_iconst (v := (0 : Int32)) dX12_home_53 (by decide) ?_
              exact gk_weak [some (gk_R 14 0), some (gk_I a1), some (gk_I a2), some (gk_I a3), some (gk_I a4), none, none, none, none, none, none, none, none, none, none] (And.intro rfl (And.intro rfl (And.intro rfl (And.intro rfl (And.intro rfl True.intro))))) (ok_X12_home_j54 a1 a2 a3 a4 ((0 : Int32)) M1 h)
            · exact gk_weak [some (gk_R 14 0), some (gk_I a1), some (gk_I a2), some (gk_I a3), some (gk_I a4), none, none, none, none, none, none, none, none, none, none] (And.intro rfl (And.intro rfl (And.intro rfl (And.intro rfl (And.intro rfl True.intro))))) (ok_X12_home_j48 a1 a2 a3 a4 M1 h)
      · exact gk_weak [some (gk_R 14 0), some (gk_I a1), some (gk_I a2), some (gk_I a3), some (gk_I a4), none, none, none, none, none, none, none, none, none, none] (And.intro rfl (And.intro rfl (And.intro rfl (And.intro rfl (And.intro rfl True.intro))))) (ok_X12_home_j23 a1 a2 a3 a4 M1 h)
set_option maxRecDepth 100000 in
set_option maxHeartbeats 4000000 in
theorem ok_X12_kinds_j132 {K : gk_V → gk_M → Prop} (κ68 : Int32 → Int32 → Int32 → Int32 → Int32 → Int32 → Int32 → gk_M → Option (Int32 × gk_M)) (hκ68 : ∀ (x1 : Int32) (x2 : Int32) (x3 : Int32) (x4 : Int32) (x5 : Int32) (x7 : Int32) (x8 : Int32) (M : gk_M), gk_Sat gk_I (κ68 x1 x2 x3 x4 x5 x7 x8 M) K → gk_G RX12 cX12_kinds 9 4 (some .int) none K 68 [some (gk_R 14 0), some (gk_I x1), some (gk_I x2), some (gk_I x3), some (gk_I x4), some (gk_I x5), none, some (gk_I x7), some (gk_I x8)] [] M) (x1 : Int32) (x2 : Int32) (x3 : Int32) (x4 : Int32) (x5 : Int32) (x8 : Int32) (s0 : Int32) (s1 : Int32) (M : gk_M) (h : gk_Sat gk_I (X12_kinds_j132 κ68 x1 x2 x3 x4 x5 x8 s0 s1 M) K) : gk_G RX12 cX12_kinds 9 4 (some .int) none K 132 [some (gk_R 14 0), some (gk_I x1), some (gk_I x2), some (gk_I x3), some (gk_I x4), some (gk_I x5), none, none, some (gk_I x8)] [gk_I s0, gk_I s1] M := by
  refine gk_ior dX12_kinds_132 ?_
  refine gk_istore (L' := [some (gk_R 14 0), some (gk_I x1), some (gk_I x2), some (gk_I x3), some (gk_I x4), some (gk_I x5), none, some (gk_I (s1 ||| s0)), some (gk_I x8)]) dX12_kinds_133 (by decide) rfl rfl ?_
  refine gk_aload_n dX12_kinds_135 rfl rfl ?_
  refine gk_callV (As := [gk_R 14 0]) (st := []) 2 (cr_X12_188 (by decide) rfl) (fun K' h' => ok_X12_close M K' h') rfl (by decide) (by decide) (fun _ => Nat.le_of_ble_eq_true rfl) dX12_kinds_136 h (fun _ M11 h => ?_)
  refine gk_iinc (v := (x8 + (1 : Int32))) (L' := [some (gk_R 14 0), some (gk_I x1), some (gk_I x2), some (gk_I x3), some (gk_I x4), some (gk_I x5), none, some (gk_I (s1 ||| s0)), some (gk_I (x8 + (1 : Int32)))]) dX12_kinds_139 rfl rfl (by decide) rfl rfl ?_
  refine gk_goto (tgt := 68) dX12_kinds_142 (by decide) ?_
  exact gk_weak [some (gk_R 14 0), some (gk_I x1), some (gk_I x2), some (gk_I x3), some (gk_I x4), some (gk_I x5), none, some (gk_I (s1 ||| s0)), some (gk_I (x8 + (1 : Int32)))] (And.intro rfl (And.intro rfl (And.intro rfl (And.intro rfl (And.intro rfl (And.intro rfl (And.intro rfl (And.intro rfl True.intro)))))))) (hκ68 x1 x2 x3 x4 x5 ((s1 ||| s0)) ((x8 + (1 : Int32))) M11 h)
set_option maxRecDepth 100000 in
set_option maxHeartbeats 4000000 in
theorem ok_X12_kinds_j131 {K : gk_V → gk_M → Prop} (κ68 : Int32 → Int32 → Int32 → Int32 → Int32 → Int32 → Int32 → gk_M → Option (Int32 × gk_M)) (hκ68 : ∀ (x1 : Int32) (x2 : Int32) (x3 : Int32) (x4 : Int32) (x5 : Int32) (x7 : Int32) (x8 : Int32) (M : gk_M), gk_Sat gk_I (κ68 x1 x2 x3 x4 x5 x7 x8 M) K → gk_G RX12 cX12_kinds 9 4 (some .int) none K 68 [some (gk_R 14 0), some (gk_I x1), some (gk_I x2), some (gk_I x3), some (gk_I x4), some (gk_I x5), none, some (gk_I x7), some (gk_I x8)] [] M) (x1 : Int32) (x2 : Int32) (x3 : Int32) (x4 : Int32) (x5 : Int32) (x8 : Int32) (s0 : Int32) (M : gk_M) (h : gk_Sat gk_I (X12_kinds_j131 κ68 x1 x2 x3 x4 x5 x8 s0 M) K) : gk_G RX12 cX12_kinds 9 4 (some .int) none K 131 [some (gk_R 14 0), some (gk_I x1), some (gk_I x2), some (gk_I x3), some (gk_I x4), some (gk_I x5), none, none, some (gk_I x8)] [gk_I s0] M := by
  refine gk_iconst (v := (0 : Int32)) dX12_kinds_131 (by decide) ?_
  exact gk_weak [some (gk_R 14 0), some (gk_I x1), some (gk_I x2), some (gk_I x3), some (gk_I x4), some (gk_I x5), none, none, some (gk_I x8)] (And.intro rfl (And.intro rfl (And.intro rfl (And.intro rfl (And.intro rfl (And.intro rfl (And.intro rfl True.intro))))))) (ok_X12_kinds_j132 κ68 hκ68 x1 x2 x3 x4 x5 x8 ((0 : Int32)) s0 M h)
set_option maxRecDepth 100000 in
set_option maxHeartbeats 4000000 in
theorem ok_X12_kinds_l68 {K : gk_V → gk_M → Prop} : ∀ (n : Nat) (x1 : Int32) (x2 : Int32) (x3 : Int32) (x4 : Int32) (x5 : Int32) (x7 : Int32) (x8 : Int32) (M : gk_M), gk_Sat gk_I (X12_kinds_l68 n x1 x2 x3 x4 x5 x7 x8 M) K → gk_G RX12 cX12_kinds 9 4 (some .int) none K 68 [some (gk_R 14 0), some (gk_I x1), some (gk_I x2), some (gk_I x3), some (gk_I x4), some (gk_I x5), none, some (gk_I x7), some (gk_I x8)] [] M := by
  intro n
  induction n with
  | zero => intro x1 x2 x3 x4 x5 x7 x8 M h; exact h.no.elim
  | succ n ih =>
    intro x1 x2 x3 x4 x5 x7 x8 M h
    refine gk_iload dX12_kinds_68 rfl ?_
    refine gk_bipush (v := (6 : Int32)) dX12_kinds_70 (by decide) ?_
    refine gk_icmp_ge (tgt := 145) dX12_kinds_72 (by decide) h (fun h => ?_) (fun h => ?_)
    · refine gk_iload dX12_kinds_145 rfl ?_
      exact gk_iret dX12_kinds_147 rfl h
    · refine gk_aload_n dX12_kinds_75 rfl rfl ?_
      refine gk_callV (As := [gk_R 14 0]) (st := []) 2 (cr_X12_182 (by decide) rfl) (fun K' h' => ok_X12_open0 M K' h') rfl (by decide) (by decide) (fun _ => Nat.le_of_ble_eq_true rfl) dX12_kinds_76 h (fun _ M4 h => ?_)
      refine gk_aload_n dX12_kinds_79 rfl rfl ?_
      refine gk_get (v := gk_R 16 0) fr_X12_23 pf_14_7 (by decide) dX12_kinds_80 ?_
      refine gk_iload_n dX12_kinds_83 rfl rfl ?_
      refine gk_iload dX12_kinds_84 rfl ?_
      refine gk_iast ga_16 (by decide) dX12_kinds_86 h (fun M6 h => ?_)
      refine gk_aload_n dX12_kinds_87 rfl rfl ?_
      refine gk_get (v := gk_R 16 1) fr_X12_26 pf_14_8 (by decide) dX12_kinds_88 ?_
      refine gk_iload_n dX12_kinds_91 rfl rfl ?_
      refine gk_iload_n dX12_kinds_92 rfl rfl ?_
      refine gk_iast ga_16 (by decide) dX12_kinds_93 h (fun M7 h => ?_)
      refine gk_aload_n dX12_kinds_94 rfl rfl ?_
      refine gk_iload_n dX12_kinds_95 rfl rfl ?_
      refine gk_callI (As := [gk_R 14 0, gk_I x3]) (st := []) 3 (cr_X12_199 (by decide) rfl) (fun K' h' => ok_X12_daysOn x3 M7 K' h') rfl (by decide) (by decide) (fun _ => Nat.le_of_ble_eq_true rfl) dX12_kinds_96 h (fun r9 M8 h => ?_)
      refine gk_pop dX12_kinds_99 rfl ?_
      refine gk_iload dX12_kinds_100 rfl ?_
      refine gk_aload_n dX12_kinds_102 rfl rfl ?_
      refine gk_get (v := gk_R 16 4) fr_X12_35 pf_14_11 (by decide) dX12_kinds_103 ?_
      refine gk_iload_n dX12_kinds_106 rfl rfl ?_
      refine gk_iald ga_16 (by decide) dX12_kinds_107 h (fun h hb10 => ?_)
      refine gk_iload dX12_kinds_108 rfl ?_
      refine gk_icmp_ne (tgt := 131) dX12_kinds_110 (by decide) h (fun h => ?_) (fun h => ?_)
      · exact gk_weak [some (gk_R 14 0), some (gk_I x1), some (gk_I x2), some (gk_I x3), some (gk_I x4), some (gk_I x5), none, none, some (gk_I x8)] (And.intro rfl (And.intro rfl (And.intro rfl (And.intro rfl (And.intro rfl (And.intro rfl (And.intro rfl True.intro))))))) (ok_X12_kinds_j131 (X12_kinds_l68 n) ih x1 x2 x3 x4 x5 x8 x7 M8 h)
      · refine gk_aload_n dX12_kinds_113 rfl rfl ?_
        refine gk_get (v := gk_R 16 5) fr_X12_38 pf_14_12 (by decide) dX12_kinds_114 ?_
        refine gk_iload_n dX12_kinds_117 rfl rfl ?_
        refine gk_iald ga_16 (by decide) dX12_kinds_118 h (fun h hb13 => ?_)
        refine gk_iload dX12_kinds_119 rfl ?_
        refine gk_icmp_ne (tgt := 131) dX12_kinds_121 (by decide) h (fun h => ?_) (fun h => ?_)
        · exact gk_weak [some (gk_R 14 0), some (gk_I x1), some (gk_I x2), some (gk_I x3), some (gk_I x4), some (gk_I x5), none, none, some (gk_I x8)] (And.intro rfl (And.intro rfl (And.intro rfl (And.intro rfl (And.intro rfl (And.intro rfl (And.intro rfl True.intro))))))) (ok_X12_kinds_j131 (X12_kinds_l68 n) ih x1 x2 x3 x4 x5 x8 x7 M8 h)
        · refine gk_iconst (v := (1 : Int32)) dX12_kinds_124 (by decide) ?_
          refine gk_iload dX12_kinds_125 rfl ?_
          refine gk_ishl dX12_kinds_127 ?_
          refine gk_goto (tgt := 132) dX12_kinds_128 (by decide) ?_
          exact gk_weak [some (gk_R 14 0), some (gk_I x1), some (gk_I x2), some (gk_I x3), some (gk_I x4), some (gk_I x5), none, none, some (gk_I x8)] (And.intro rfl (And.intro rfl (And.intro rfl (And.intro rfl (And.intro rfl (And.intro rfl (And.intro rfl True.intro))))))) (ok_X12_kinds_j132 (X12_kinds_l68 n) ih x1 x2 x3 x4 x5 x8 (((1 : Int32) <<< (x8 &&& 31))) x7 M8 h)
set_option maxRecDepth 100000 in
set_option maxHeartbeats 4000000 in
theorem ok_X12_kinds_j48 {K : gk_V → gk_M → Prop} (x1 : Int32) (x2 : Int32) (x3 : Int32) (x4 : Int32) (x5 : Int32) (s0 : Int32) (M : gk_M) (h : gk_Sat gk_I (X12_kinds_j48 x1 x2 x3 x4 x5 s0 M) K) : gk_G RX12 cX12_kinds 9 4 (some .int) none K 48 [some (gk_R 14 0), some (gk_I x1), some (gk_I x2), some (gk_I x3), some (gk_I x4), some (gk_I x5), none, none, none] [gk_I s0] M := by
  refine gk_istore (L' := [some (gk_R 14 0), some (gk_I x1), some (gk_I x2), some (gk_I x3), some (gk_I x4), some (gk_I x5), some (gk_I s0), none, none]) dX12_kinds_48 (by decide) rfl rfl ?_
  refine gk_iload dX12_kinds_50 rfl ?_
  refine gk_if_ge (tgt := 62) dX12_kinds_52 (by decide) h (fun h => ?_) (fun h => ?_)
  · refine gk_iconst (v := (0 : Int32)) dX12_kinds_62 (by decide) ?_
    refine gk_istore (L' := [some (gk_R 14 0), some (gk_I x1), some (gk_I x2), some (gk_I x3), some (gk_I x4), some (gk_I x5), some (gk_I s0), some (gk_I (0 : Int32)), none]) dX12_kinds_63 (by decide) rfl rfl ?_
    refine gk_iconst (v := (0 : Int32)) dX12_kinds_65 (by decide) ?_
    refine gk_istore (L' := [some (gk_R 14 0), some (gk_I x1), some (gk_I x2), some (gk_I x3), some (gk_I x4), some (gk_I x5), some (gk_I s0), some (gk_I (0 : Int32)), some (gk_I (0 : Int32))]) dX12_kinds_66 (by decide) rfl rfl ?_
    exact gk_weak [some (gk_R 14 0), some (gk_I x1), some (gk_I x2), some (gk_I x3), some (gk_I x4), some (gk_I x5), none, some (gk_I (0 : Int32)), some (gk_I (0 : Int32))] (And.intro rfl (And.intro rfl (And.intro rfl (And.intro rfl (And.intro rfl (And.intro rfl (And.intro rfl (And.intro rfl True.intro)))))))) (ok_X12_kinds_l68 200 x1 x2 x3 x4 x5 ((0 : Int32)) ((0 : Int32)) M h)
  · refine gk_aload_n dX12_kinds_55 rfl rfl ?_
    refine gk_iload dX12_kinds_56 rfl ?_
    refine gk_callI (As := [gk_R 14 0, gk_I s0]) (st := []) 0 (cr_X12_134 (by decide) rfl) (fun K' h' => ok_X12_refuse s0 M K' h') rfl (by decide) (by decide) (fun _ => Nat.le_of_ble_eq_true rfl) dX12_kinds_58 h (fun r15 M14 h => ?_)
    exact gk_iret dX12_kinds_61 rfl h
set_option maxRecDepth 100000 in
set_option maxHeartbeats 4000000 in
theorem ok_X12_kinds_j25 {K : gk_V → gk_M → Prop} (x1 : Int32) (x2 : Int32) (x3 : Int32) (x4 : Int32) (x5 : Int32) (M : gk_M) (h : gk_Sat gk_I (X12_kinds_j25 x1 x2 x3 x4 x5 M) K) : gk_G RX12 cX12_kinds 9 4 (some .int) none K 25 [some (gk_R 14 0), some (gk_I x1), some (gk_I x2), some (gk_I x3), some (gk_I x4), some (gk_I x5), none, none, none] [] M := by
  refine gk_bipush (v := (-4 : Int32)) dX12_kinds_25 (by decide) ?_
  refine gk_goto (tgt := 48) dX12_kinds_27 (by decide) ?_
  exact gk_weak [some (gk_R 14 0), some (gk_I x1), some (gk_I x2), some (gk_I x3), some (gk_I x4), some (gk_I x5), none, none, none] (And.intro rfl (And.intro rfl (And.intro rfl (And.intro rfl (And.intro rfl (And.intro rfl True.intro)))))) (ok_X12_kinds_j48 x1 x2 x3 x4 x5 ((-4 : Int32)) M h)
set_option maxRecDepth 100000 in
set_option maxHeartbeats 4000000 in
theorem ok_X12_kinds_j42 {K : gk_V → gk_M → Prop} (x1 : Int32) (x2 : Int32) (x3 : Int32) (x4 : Int32) (x5 : Int32) (M : gk_M) (h : gk_Sat gk_I (X12_kinds_j42 x1 x2 x3 x4 x5 M) K) : gk_G RX12 cX12_kinds 9 4 (some .int) none K 42 [some (gk_R 14 0), some (gk_I x1), some (gk_I x2), some (gk_I x3), some (gk_I x4), some (gk_I x5), none, none, none] [] M := by
  refine gk_bipush (v := (-6 : Int32)) dX12_kinds_42 (by decide) ?_
  refine gk_goto (tgt := 48) dX12_kinds_44 (by decide) ?_
  exact gk_weak [some (gk_R 14 0), some (gk_I x1), some (gk_I x2), some (gk_I x3), some (gk_I x4), some (gk_I x5), none, none, none] (And.intro rfl (And.intro rfl (And.intro rfl (And.intro rfl (And.intro rfl (And.intro rfl True.intro)))))) (ok_X12_kinds_j48 x1 x2 x3 x4 x5 ((-6 : Int32)) M h)
set_option maxRecDepth 100000 in
set_option maxHeartbeats 4000000 in
theorem ok_X12_kinds (a1 : Int32) (a2 : Int32) (a3 : Int32) (a4 : Int32) (a5 : Int32) (M : gk_M) (K : gk_V → gk_M → Prop) (h : gk_Sat gk_I (f_X12_kinds a1 a2 a3 a4 a5 M) K) : gk_MS 4 yX12_kinds cX12_kinds 9 (some .int) [gk_R 14 0, gk_I a1, gk_I a2, gk_I a3, gk_I a4, gk_I a5] M K := by

  refine gk_MS_of [some (gk_R 14 0), some (gk_I a1), some (gk_I a2), some (gk_I a3), some (gk_I a4), some (gk_I a5), none, none, none] (by decide +kernel) (Nat.le_of_ble_eq_true rfl) (And.intro rfl (And.intro rfl (And.intro rfl (And.intro rfl (And.intro rfl (And.intro rfl True.intro)))))) ?_
  show gk_G RX12 cX12_kinds 9 4 (some .int) none K 0 [some (gk_R 14 0), some (gk_I a1), some (gk_I a2), some (gk_I a3), some (gk_I a4), some (gk_I a5), none, none, none] [] M
  refine gk_aload_n dX12_kinds_0 rfl rfl ?_
  refine gk_iconst (v := (0 : Int32)) dX12_kinds_1 (by decide) ?_
  refine gk_putI fr_X12_65 si_14_13 (by decide) dX12_kinds_2 h (fun M1 h => ?_)
  refine gk_aload_n dX12_kinds_5 rfl rfl ?_
  refine gk_iload_n dX12_kinds_6 rfl rfl ?_
  refine gk_callI (As := [gk_R 14 0, gk_I a1]) (st := []) 1 (cr_X12_75 (by decide) rfl) (fun K' h' => ok_X12_isShip a1 M1 K' h') rfl (by decide) (by decide) (fun _ => Nat.le_of_ble_eq_true rfl) dX12_kinds_7 h (fun r3 M2 h => ?_)
  refine gk_if_ne (tgt := 17) dX12_kinds_10 (by decide) h (fun h => ?_) (fun h => ?_)
  · refine gk_iload_n dX12_kinds_17 rfl rfl ?_
    refine gk_if_lt (tgt := 25) dX12_kinds_18 (by decide) h (fun h => ?_) (fun h => ?_)
    · exact gk_weak [some (gk_R 14 0), some (gk_I a1), some (gk_I a2), some (gk_I a3), some (gk_I a4), some (gk_I a5), none, none, none] (And.intro rfl (And.intro rfl (And.intro rfl (And.intro rfl (And.intro rfl (And.intro rfl True.intro)))))) (ok_X12_kinds_j25 a1 a2 a3 a4 a5 M2 h)
    · refine gk_iload_n dX12_kinds_21 rfl rfl ?_
      refine gk_if_ge (tgt := 30) dX12_kinds_22 (by decide) h (fun h => ?_) (fun h => ?_)
      · refine gk_iload_n dX12_kinds_30 rfl rfl ?_
        refine gk_bipush (v := (30 : Int32)) dX12_kinds_31 (by decide) ?_
        refine gk_icmp_gt (tgt := 42) dX12_kinds_33 (by decide) h (fun h => ?_) (fun h => ?_)
        · exact gk_weak [some (gk_R 14 0), some (gk_I a1), some (gk_I a2), some (gk_I a3), some (gk_I a4), some (gk_I a5), none, none, none] (And.intro rfl (And.intro rfl (And.intro rfl (And.intro rfl (And.intro rfl (And.intro rfl True.intro)))))) (ok_X12_kinds_j42 a1 a2 a3 a4 a5 M2 h)
        · refine gk_iload_n dX12_kinds_36 rfl rfl ?_
          refine gk_bipush (v := (9 : Int32)) dX12_kinds_37 (by decide) ?_
          refine gk_icmp_le (tgt := 47) dX12_kinds_39 (by decide) h (fun h => ?_) (fun h => ?_)
          · refine gk_iconst (v := (0 : Int32)) dX12_kinds_47 (by decide) ?_
            exact gk_weak [some (gk_R 14 0), some (gk_I a1), some (gk_I a2), some (gk_I a3), some (gk_I a4), some (gk_I a5), none, none, none] (And.intro rfl (And.intro rfl (And.intro rfl (And.intro rfl (And.intro rfl (And.intro rfl True.intro)))))) (ok_X12_kinds_j48 a1 a2 a3 a4 a5 ((0 : Int32)) M2 h)
          · exact gk_weak [some (gk_R 14 0), some (gk_I a1), some (gk_I a2), some (gk_I a3), some (gk_I a4), some (gk_I a5), none, none, none] (And.intro rfl (And.intro rfl (And.intro rfl (And.intro rfl (And.intro rfl (And.intro rfl True.intro)))))) (ok_X12_kinds_j42 a1 a2 a3 a4 a5 M2 h)
      · exact gk_weak [some (gk_R 14 0), some (gk_I a1), some (gk_I a2), some (gk_I a3), some (gk_I a4), some (gk_I a5), none, none, none] (And.intro rfl (And.intro rfl (And.intro rfl (And.intro rfl (And.intro rfl (And.intro rfl True.intro)))))) (ok_X12_kinds_j25 a1 a2 a3 a4 a5 M2 h)
  · refine gk_iconst (v := (-1 : Int32)) dX12_kinds_13 (by decide) ?_
    refine gk_goto (tgt := 48) dX12_kinds_14 (by decide) ?_
    exact gk_weak [some (gk_R 14 0), some (gk_I a1), some (gk_I a2), some (gk_I a3), some (gk_I a4), some (gk_I a5), none, none, none] (And.intro rfl (And.intro rfl (And.intro rfl (And.intro rfl (And.intro rfl (And.intro rfl True.intro)))))) (ok_X12_kinds_j48 a1 a2 a3 a4 a5 ((-1 : Int32)) M2 h)
set_option maxRecDepth 100000 in
set_option maxHeartbeats 4000000 in
theorem ok_X12_row_j35 {K : gk_V → gk_M → Prop}  (M : gk_M) (h : gk_Sat gk_I (X12_row_j35  M) K) : gk_G RX12 cX12_row 2 1 (some .int) none K 35 [some (gk_R 14 0), none] [] M := by
  refine gk_aload_n dX12_row_35 rfl rfl ?_
  refine gk_bipush (v := (-6 : Int32)) dX12_row_36 (by decide) ?_
  refine gk_callI (As := [gk_R 14 0, gk_I (-6 : Int32)]) (st := []) 0 (cr_X12_134 (by decide) rfl) (fun K' h' => ok_X12_refuse (-6 : Int32) M K' h') rfl (by decide) (by decide) (fun _ => Nat.le_of_ble_eq_true rfl) dX12_row_38 h (fun r3 M2 h => ?_)
  exact gk_iret dX12_row_41 rfl h
set_option maxRecDepth 100000 in
set_option maxHeartbeats 4000000 in
theorem ok_X12_row (a1 : Int32) (M : gk_M) (K : gk_V → gk_M → Prop) (h : gk_Sat gk_I (f_X12_row a1 M) K) : gk_MS 1 yX12_row cX12_row 2 (some .int) [gk_R 14 0, gk_I a1] M K := by

  refine gk_MS_of [some (gk_R 14 0), some (gk_I a1)] (by decide +kernel) (Nat.le_of_ble_eq_true rfl) (And.intro rfl (And.intro rfl True.intro)) ?_
  show gk_G RX12 cX12_row 2 1 (some .int) none K 0 [some (gk_R 14 0), some (gk_I a1)] [] M
  refine gk_aload_n dX12_row_0 rfl rfl ?_
  refine gk_iconst (v := (0 : Int32)) dX12_row_1 (by decide) ?_
  refine gk_putI fr_X12_65 si_14_13 (by decide) dX12_row_2 h (fun M1 h => ?_)
  refine gk_iload_n dX12_row_5 rfl rfl ?_
  refine gk_sipush (v := (-999 : Int32)) dX12_row_6 (by decide) ?_
  refine gk_icmp_ge (tgt := 19) dX12_row_9 (by decide) h (fun h => ?_) (fun h => ?_)
  · refine gk_iload_n dX12_row_19 rfl rfl ?_
    refine gk_sipush (v := (999 : Int32)) dX12_row_20 (by decide) ?_
    refine gk_icmp_gt (tgt := 35) dX12_row_23 (by decide) h (fun h => ?_) (fun h => ?_)
    · exact gk_weak [some (gk_R 14 0), none] (And.intro rfl True.intro) (ok_X12_row_j35 M1 h)
    · refine gk_aload_n dX12_row_26 rfl rfl ?_
      refine gk_getI fr_X12_230 si_14_32 (by decide) dX12_row_27 ?_
      refine gk_bipush (v := (12 : Int32)) dX12_row_30 (by decide) ?_
      refine gk_icmp_ne (tgt := 42) dX12_row_32 (by decide) h (fun h => ?_) (fun h => ?_)
      · refine gk_aload_n dX12_row_42 rfl rfl ?_
        refine gk_get (v := gk_R 22 0) fr_X12_62 pf_14_31 (by decide) dX12_row_43 ?_
        refine gk_aload_n dX12_row_46 rfl rfl ?_
        refine gk_getI fr_X12_230 si_14_32 (by decide) dX12_row_47 ?_
        refine gk_iload_n dX12_row_50 rfl rfl ?_
        refine gk_iast ga_22 (by decide) dX12_row_51 h (fun M4 h => ?_)
        refine gk_aload_n dX12_row_52 rfl rfl ?_
        refine gk_dup dX12_row_53 rfl ?_
        refine gk_getI fr_X12_230 si_14_32 (by decide) dX12_row_54 ?_
        refine gk_iconst (v := (1 : Int32)) dX12_row_57 (by decide) ?_
        refine gk_iadd dX12_row_58 ?_
        refine gk_putI fr_X12_230 si_14_32 (by decide) dX12_row_59 h (fun M5 h => ?_)
        refine gk_aload_n dX12_row_62 rfl rfl ?_
        refine gk_getI fr_X12_230 si_14_32 (by decide) dX12_row_63 ?_
        exact gk_iret dX12_row_66 rfl h
      · exact gk_weak [some (gk_R 14 0), none] (And.intro rfl True.intro) (ok_X12_row_j35 M1 h)
  · refine gk_aload_n dX12_row_12 rfl rfl ?_
    refine gk_bipush (v := (-4 : Int32)) dX12_row_13 (by decide) ?_
    refine gk_callI (As := [gk_R 14 0, gk_I (-4 : Int32)]) (st := []) 0 (cr_X12_134 (by decide) rfl) (fun K' h' => ok_X12_refuse (-4 : Int32) M1 K' h') rfl (by decide) (by decide) (fun _ => Nat.le_of_ble_eq_true rfl) dX12_row_15 h (fun r7 M6 h => ?_)
    exact gk_iret dX12_row_18 rfl h
set_option maxRecDepth 100000 in
set_option maxHeartbeats 4000000 in
theorem ok_X12_judge_j104 {K : gk_V → gk_M → Prop} (x3 : Int32) (M : gk_M) (h : gk_Sat gk_I (X12_judge_j104 x3 M) K) : gk_G RX12 cX12_judge 5 4 (some .int) none K 104 [some (gk_R 14 0), none, none, some (gk_I x3), none] [] M := by
  refine gk_aload_n dX12_judge_104 rfl rfl ?_
  refine gk_callV (As := [gk_R 14 0]) (st := []) 2 (cr_X12_188 (by decide) rfl) (fun K' h' => ok_X12_close M K' h') rfl (by decide) (by decide) (fun _ => Nat.le_of_ble_eq_true rfl) dX12_judge_105 h (fun _ M7 h => ?_)
  refine gk_iload_n dX12_judge_108 rfl rfl ?_
  exact gk_iret dX12_judge_109 rfl h
set_option maxRecDepth 100000 in
set_option maxHeartbeats 4000000 in
theorem ok_X12_judge_j88 {K : gk_V → gk_M → Prop} (κ39 : Int32 → Int32 → Int32 → Int32 → gk_M → Option (Int32 × gk_M)) (hκ39 : ∀ (x1 : Int32) (x2 : Int32) (x3 : Int32) (x4 : Int32) (M : gk_M), gk_Sat gk_I (κ39 x1 x2 x3 x4 M) K → gk_G RX12 cX12_judge 5 4 (some .int) none K 39 [some (gk_R 14 0), some (gk_I x1), some (gk_I x2), some (gk_I x3), some (gk_I x4)] [] M) (x1 : Int32) (x2 : Int32) (x4 : Int32) (s0 : Int32) (M : gk_M) (h : gk_Sat gk_I (X12_judge_j88 κ39 x1 x2 x4 s0 M) K) : gk_G RX12 cX12_judge 5 4 (some .int) none K 88 [some (gk_R 14 0), some (gk_I x1), some (gk_I x2), none, some (gk_I x4)] [gk_I s0] M := by
  refine gk_istore_n (L' := [some (gk_R 14 0), some (gk_I x1), some (gk_I x2), some (gk_I s0), some (gk_I x4)]) dX12_judge_88 rfl (by decide) rfl rfl ?_
  refine gk_aload_n dX12_judge_89 rfl rfl ?_
  refine gk_iload dX12_judge_90 rfl ?_
  refine gk_iconst (v := (2 : Int32)) dX12_judge_92 (by decide) ?_
  refine gk_irem dX12_judge_93 (by decide) ?_
  refine gk_callI (As := [gk_R 14 0, gk_I (x4 - x4 / (2 : Int32) * (2 : Int32))]) (st := []) 3 (cr_X12_199 (by decide) rfl) (fun K' h' => ok_X12_daysOn (x4 - x4 / (2 : Int32) * (2 : Int32)) M K' h') rfl (by decide) (by decide) (fun _ => Nat.le_of_ble_eq_true rfl) dX12_judge_94 h (fun r12 M11 h => ?_)
  refine gk_pop dX12_judge_97 rfl ?_
  refine gk_iinc (v := (x4 + (1 : Int32))) (L' := [some (gk_R 14 0), some (gk_I x1), some (gk_I x2), some (gk_I s0), some (gk_I (x4 + (1 : Int32)))]) dX12_judge_98 rfl rfl (by decide) rfl rfl ?_
  refine gk_goto (tgt := 39) dX12_judge_101 (by decide) ?_
  exact gk_weak [some (gk_R 14 0), some (gk_I x1), some (gk_I x2), some (gk_I s0), some (gk_I (x4 + (1 : Int32)))] (And.intro rfl (And.intro rfl (And.intro rfl (And.intro rfl (And.intro rfl True.intro))))) (hκ39 x1 x2 s0 ((x4 + (1 : Int32))) M11 h)
set_option maxRecDepth 100000 in
set_option maxHeartbeats 4000000 in
theorem ok_X12_judge_j78 {K : gk_V → gk_M → Prop} (κ39 : Int32 → Int32 → Int32 → Int32 → gk_M → Option (Int32 × gk_M)) (hκ39 : ∀ (x1 : Int32) (x2 : Int32) (x3 : Int32) (x4 : Int32) (M : gk_M), gk_Sat gk_I (κ39 x1 x2 x3 x4 M) K → gk_G RX12 cX12_judge 5 4 (some .int) none K 39 [some (gk_R 14 0), some (gk_I x1), some (gk_I x2), some (gk_I x3), some (gk_I x4)] [] M) (x1 : Int32) (x2 : Int32) (x4 : Int32) (s0 : Int32) (s1 : Int32) (M : gk_M) (h : gk_Sat gk_I (X12_judge_j78 κ39 x1 x2 x4 s0 s1 M) K) : gk_G RX12 cX12_judge 5 4 (some .int) none K 78 [some (gk_R 14 0), some (gk_I x1), some (gk_I x2), none, some (gk_I x4)] [gk_I s0, gk_I s1] M := by
  refine gk_icmp_ne (tgt := 86) dX12_judge_78 (by decide) h (fun h => ?_) (fun h => ?_)
  · refine gk_iload dX12_judge_86 rfl ?_
    exact gk_weak [some (gk_R 14 0), some (gk_I x1), some (gk_I x2), none, some (gk_I x4)] (And.intro rfl (And.intro rfl (And.intro rfl (And.intro rfl True.intro)))) (ok_X12_judge_j88 κ39 hκ39 x1 x2 x4 x4 M h)
  · refine gk_bipush (v := (-9 : Int32)) dX12_judge_81 (by decide) ?_
    refine gk_goto (tgt := 88) dX12_judge_83 (by decide) ?_
    exact gk_weak [some (gk_R 14 0), some (gk_I x1), some (gk_I x2), none, some (gk_I x4)] (And.intro rfl (And.intro rfl (And.intro rfl (And.intro rfl True.intro)))) (ok_X12_judge_j88 κ39 hκ39 x1 x2 x4 ((-9 : Int32)) M h)
set_option maxRecDepth 100000 in
set_option maxHeartbeats 4000000 in
theorem ok_X12_judge_l39 {K : gk_V → gk_M → Prop} : ∀ (n : Nat) (x1 : Int32) (x2 : Int32) (x3 : Int32) (x4 : Int32) (M : gk_M), gk_Sat gk_I (X12_judge_l39 n x1 x2 x3 x4 M) K → gk_G RX12 cX12_judge 5 4 (some .int) none K 39 [some (gk_R 14 0), some (gk_I x1), some (gk_I x2), some (gk_I x3), some (gk_I x4)] [] M := by
  intro n
  induction n with
  | zero => intro x1 x2 x3 x4 M h; exact h.no.elim
  | succ n ih =>
    intro x1 x2 x3 x4 M h
    refine gk_iload dX12_judge_39 rfl ?_
    refine gk_iload_n dX12_judge_41 rfl rfl ?_
    refine gk_icmp_ge (tgt := 104) dX12_judge_42 (by decide) h (fun h => ?_) (fun h => ?_)
    · exact gk_weak [some (gk_R 14 0), none, none, some (gk_I x3), none] (And.intro rfl (And.intro rfl True.intro)) (ok_X12_judge_j104 x3 M h)
    · refine gk_iload_n dX12_judge_45 rfl rfl ?_
      refine gk_if_ge (tgt := 104) dX12_judge_46 (by decide) h (fun h => ?_) (fun h => ?_)
      · exact gk_weak [some (gk_R 14 0), none, none, some (gk_I x3), none] (And.intro rfl (And.intro rfl True.intro)) (ok_X12_judge_j104 x3 M h)
      · refine gk_aload_n dX12_judge_49 rfl rfl ?_
        refine gk_get (v := gk_R 22 0) fr_X12_62 pf_14_31 (by decide) dX12_judge_50 ?_
        refine gk_iload dX12_judge_53 rfl ?_
        refine gk_iald ga_22 (by decide) dX12_judge_55 h (fun h hb9 => ?_)
        refine gk_iload dX12_judge_56 rfl ?_
        refine gk_iconst (v := (2 : Int32)) dX12_judge_58 (by decide) ?_
        refine gk_irem dX12_judge_59 (by decide) ?_
        refine gk_if_ne (tgt := 72) dX12_judge_60 (by decide) h (fun h => ?_) (fun h => ?_)
        · refine gk_aload_n dX12_judge_72 rfl rfl ?_
          refine gk_get (v := gk_R 16 5) fr_X12_38 pf_14_12 (by decide) dX12_judge_73 ?_
          refine gk_iload_n dX12_judge_76 rfl rfl ?_
          refine gk_iald ga_16 (by decide) dX12_judge_77 h (fun h hb10 => ?_)
          exact gk_weak [some (gk_R 14 0), some (gk_I x1), some (gk_I x2), none, some (gk_I x4)] (And.intro rfl (And.intro rfl (And.intro rfl (And.intro rfl True.intro)))) (ok_X12_judge_j78 (X12_judge_l39 n) ih x1 x2 x4 ((M 16 5 (Int32.toNatClampNeg x1))) ((M 22 0 (Int32.toNatClampNeg x4))) M h)
        · refine gk_aload_n dX12_judge_63 rfl rfl ?_
          refine gk_get (v := gk_R 16 4) fr_X12_35 pf_14_11 (by decide) dX12_judge_64 ?_
          refine gk_iload_n dX12_judge_67 rfl rfl ?_
          refine gk_iald ga_16 (by decide) dX12_judge_68 h (fun h hb13 => ?_)
          refine gk_goto (tgt := 78) dX12_judge_69 (by decide) ?_
          exact gk_weak [some (gk_R 14 0), some (gk_I x1), some (gk_I x2), none, some (gk_I x4)] (And.intro rfl (And.intro rfl (And.intro rfl (And.intro rfl True.intro)))) (ok_X12_judge_j78 (X12_judge_l39 n) ih x1 x2 x4 ((M 16 4 (Int32.toNatClampNeg x1))) ((M 22 0 (Int32.toNatClampNeg x4))) M h)
set_option maxRecDepth 100000 in
set_option maxHeartbeats 4000000 in
theorem ok_X12_judge (a1 : Int32) (M : gk_M) (K : gk_V → gk_M → Prop) (h : gk_Sat gk_I (f_X12_judge a1 M) K) : gk_MS 4 yX12_judge cX12_judge 5 (some .int) [gk_R 14 0, gk_I a1] M K := by

  refine gk_MS_of [some (gk_R 14 0), some (gk_I a1), none, none, none] (by decide +kernel) (Nat.le_of_ble_eq_true rfl) (And.intro rfl (And.intro rfl True.intro)) ?_
  show gk_G RX12 cX12_judge 5 4 (some .int) none K 0 [some (gk_R 14 0), some (gk_I a1), none, none, none] [] M
  refine gk_aload_n dX12_judge_0 rfl rfl ?_
  refine gk_iconst (v := (0 : Int32)) dX12_judge_1 (by decide) ?_
  refine gk_putI fr_X12_65 si_14_13 (by decide) dX12_judge_2 h (fun M1 h => ?_)
  refine gk_aload_n dX12_judge_5 rfl rfl ?_
  refine gk_iload_n dX12_judge_6 rfl rfl ?_
  refine gk_callI (As := [gk_R 14 0, gk_I a1]) (st := []) 1 (cr_X12_75 (by decide) rfl) (fun K' h' => ok_X12_isShip a1 M1 K' h') rfl (by decide) (by decide) (fun _ => Nat.le_of_ble_eq_true rfl) dX12_judge_7 h (fun r3 M2 h => ?_)
  refine gk_if_ne (tgt := 19) dX12_judge_10 (by decide) h (fun h => ?_) (fun h => ?_)
  · refine gk_aload_n dX12_judge_19 rfl rfl ?_
    refine gk_getI fr_X12_230 si_14_32 (by decide) dX12_judge_20 ?_
    refine gk_istore_n (L' := [some (gk_R 14 0), some (gk_I a1), some (gk_I (M2 14 0 32)), none, none]) dX12_judge_23 rfl (by decide) rfl rfl ?_
    refine gk_aload_n dX12_judge_24 rfl rfl ?_
    refine gk_iconst (v := (0 : Int32)) dX12_judge_25 (by decide) ?_
    refine gk_putI fr_X12_230 si_14_32 (by decide) dX12_judge_26 h (fun M4 h => ?_)
    refine gk_aload_n dX12_judge_29 rfl rfl ?_
    refine gk_callV (As := [gk_R 14 0]) (st := []) 2 (cr_X12_182 (by decide) rfl) (fun K' h' => ok_X12_open0 M4 K' h') rfl (by decide) (by decide) (fun _ => Nat.le_of_ble_eq_true rfl) dX12_judge_30 h (fun _ M5 h => ?_)
    refine gk_bipush (v := (-9 : Int32)) dX12_judge_33 (by decide) ?_
    refine gk_istore_n (L' := [some (gk_R 14 0), some (gk_I a1), some (gk_I (M2 14 0 32)), some (gk_I (-9 : Int32)), none]) dX12_judge_35 rfl (by decide) rfl rfl ?_
    refine gk_iconst (v := (0 : Int32)) dX12_judge_36 (by decide) ?_
    refine gk_istore (L' := [some (gk_R 14 0), some (gk_I a1), some (gk_I (M2 14 0 32)), some (gk_I (-9 : Int32)), some (gk_I (0 : Int32))]) dX12_judge_37 (by decide) rfl rfl ?_
    exact gk_weak [some (gk_R 14 0), some (gk_I a1), some (gk_I (M2 14 0 32)), some (gk_I (-9 : Int32)), some (gk_I (0 : Int32))] (And.intro rfl (And.intro rfl (And.intro rfl (And.intro rfl (And.intro rfl True.intro))))) (ok_X12_judge_l39 200 a1 ((M2 14 0 32)) ((-9 : Int32)) ((0 : Int32)) M5 h)
  · refine gk_aload_n dX12_judge_13 rfl rfl ?_
    refine gk_iconst (v := (-1 : Int32)) dX12_judge_14 (by decide) ?_
    refine gk_callI (As := [gk_R 14 0, gk_I (-1 : Int32)]) (st := []) 0 (cr_X12_134 (by decide) rfl) (fun K' h' => ok_X12_refuse (-1 : Int32) M2 K' h') rfl (by decide) (by decide) (fun _ => Nat.le_of_ble_eq_true rfl) dX12_judge_15 h (fun r15 M14 h => ?_)
    exact gk_iret dX12_judge_18 rfl h
set_option maxRecDepth 100000 in
set_option maxHeartbeats 4000000 in
theorem ok_X12_draw (a1 : Int32) (M : gk_M) (K : gk_V → gk_M → Prop) (h : gk_Sat gk_I (f_X12_draw a1 M) K) : gk_MS 0 yX12_draw cX12_draw 2 (some .int) [gk_R 14 0, gk_I a1] M K := by

  refine gk_MS_of [some (gk_R 14 0), some (gk_I a1)] (by decide +kernel) (Nat.le_of_ble_eq_true rfl) (And.intro rfl (And.intro rfl True.intro)) ?_
  show gk_G RX12 cX12_draw 2 0 (some .int) none K 0 [some (gk_R 14 0), some (gk_I a1)] [] M
  refine gk_aload_n dX12_draw_0 rfl rfl ?_
  refine gk_aload_n dX12_draw_1 rfl rfl ?_
  refine gk_getI fr_X12_233 si_14_33 (by decide) dX12_draw_2 ?_
  refine gk_ldc dX12_draw_5 kc_X12_236 ?_
  refine gk_imul dX12_draw_7 ?_
  refine gk_sipush (v := (12345 : Int32)) dX12_draw_8 (by decide) ?_
  refine gk_iadd dX12_draw_11 ?_
  refine gk_putI fr_X12_233 si_14_33 (by decide) dX12_draw_12 h (fun M1 h => ?_)
  refine gk_aload_n dX12_draw_15 rfl rfl ?_
  refine gk_getI fr_X12_233 si_14_33 (by decide) dX12_draw_16 ?_
  refine gk_ldc dX12_draw_19 kc_X12_237 ?_
  refine gk_iand dX12_draw_21 ?_
  refine gk_ldc dX12_draw_22 kc_X12_238 ?_
  refine gk_idiv dX12_draw_24 (by decide) ?_
  refine gk_iload_n dX12_draw_25 rfl rfl ?_
  refine gk_irem_g dX12_draw_26 h (fun h => ?_)
  exact gk_iret dX12_draw_27 rfl h
set_option maxRecDepth 100000 in
set_option maxHeartbeats 4000000 in
theorem ok_X12_lots_j260 {K : gk_V → gk_M → Prop} (κ214 : Int32 → Int32 → Int32 → Int32 → gk_M → Option (Int32 × gk_M)) (κ229 : Int32 → Int32 → Int32 → Int32 → Int32 → gk_M → Option (Int32 × gk_M)) (hκ214 : ∀ (x3 : Int32) (x5 : Int32) (x8 : Int32) (x9 : Int32) (M : gk_M), gk_Sat gk_I (κ214 x3 x5 x8 x9 M) K → gk_G RX12 cX12_lots 12 3 (some .int) none K 214 [some (gk_R 14 0), none, none, some (gk_I x3), none, some (gk_I x5), none, none, some (gk_I x8), some (gk_I x9), none, none] [] M) (hκ229 : ∀ (x3 : Int32) (x5 : Int32) (x8 : Int32) (x9 : Int32) (x10 : Int32) (M : gk_M), gk_Sat gk_I (κ229 x3 x5 x8 x9 x10 M) K → gk_G RX12 cX12_lots 12 3 (some .int) none K 229 [some (gk_R 14 0), none, none, some (gk_I x3), none, some (gk_I x5), none, none, some (gk_I x8), some (gk_I x9), some (gk_I x10), none] [] M) (x3 : Int32) (x5 : Int32) (x9 : Int32) (x10 : Int32) (s0 : Int32) (s1 : Int32) (M : gk_M) (h : gk_Sat gk_I (X12_lots_j260 κ214 κ229 x3 x5 x9 x10 s0 s1 M) K) : gk_G RX12 cX12_lots 12 3 (some .int) none K 260 [some (gk_R 14 0), none, none, some (gk_I x3), none, some (gk_I x5), none, none, none, some (gk_I x9), some (gk_I x10), none] [gk_I s0, gk_I s1] M := by
  refine gk_iadd dX12_lots_260 ?_
  refine gk_istore (L' := [some (gk_R 14 0), none, none, some (gk_I x3), none, some (gk_I x5), none, none, some (gk_I (s1 + s0)), some (gk_I x9), some (gk_I x10), none]) dX12_lots_261 (by decide) rfl rfl ?_
  refine gk_iinc (v := (x10 + (1 : Int32))) (L' := [some (gk_R 14 0), none, none, some (gk_I x3), none, some (gk_I x5), none, none, some (gk_I (s1 + s0)), some (gk_I x9), some (gk_I (x10 + (1 : Int32))), none]) dX12_lots_263 rfl rfl (by decide) rfl rfl ?_
  refine gk_goto (tgt := 229) dX12_lots_266 (by decide) ?_
  exact gk_weak [some (gk_R 14 0), none, none, some (gk_I x3), none, some (gk_I x5), none, none, some (gk_I (s1 + s0)), some (gk_I x9), some (gk_I (x10 + (1 : Int32))), none] (And.intro rfl (And.intro rfl (And.intro rfl (And.intro rfl (And.intro rfl (And.intro rfl True.intro)))))) (hκ229 x3 x5 ((s1 + s0)) x9 ((x10 + (1 : Int32))) M h)
set_option maxRecDepth 100000 in
set_option maxHeartbeats 4000000 in
theorem ok_X12_lots_l229 {K : gk_V → gk_M → Prop} (κ214 : Int32 → Int32 → Int32 → Int32 → gk_M → Option (Int32 × gk_M)) (hκ214 : ∀ (x3 : Int32) (x5 : Int32) (x8 : Int32) (x9 : Int32) (M : gk_M), gk_Sat gk_I (κ214 x3 x5 x8 x9 M) K → gk_G RX12 cX12_lots 12 3 (some .int) none K 214 [some (gk_R 14 0), none, none, some (gk_I x3), none, some (gk_I x5), none, none, some (gk_I x8), some (gk_I x9), none, none] [] M) : ∀ (n : Nat) (x3 : Int32) (x5 : Int32) (x8 : Int32) (x9 : Int32) (x10 : Int32) (M : gk_M), gk_Sat gk_I (X12_lots_l229 κ214 n x3 x5 x8 x9 x10 M) K → gk_G RX12 cX12_lots 12 3 (some .int) none K 229 [some (gk_R 14 0), none, none, some (gk_I x3), none, some (gk_I x5), none, none, some (gk_I x8), some (gk_I x9), some (gk_I x10), none] [] M := by
  intro n
  induction n with
  | zero => intro x3 x5 x8 x9 x10 M h; exact h.no.elim
  | succ n ih =>
    intro x3 x5 x8 x9 x10 M h
    refine gk_iload dX12_lots_229 rfl ?_
    refine gk_aload_n dX12_lots_231 rfl rfl ?_
    refine gk_getI fr_X12_68 si_14_0 (by decide) dX12_lots_232 ?_
    refine gk_icmp_ge (tgt := 269) dX12_lots_235 (by decide) h (fun h => ?_) (fun h => ?_)
    · refine gk_iinc (v := (x9 + (1 : Int32))) (L' := [some (gk_R 14 0), none, none, some (gk_I x3), none, some (gk_I x5), none, none, some (gk_I x8), some (gk_I (x9 + (1 : Int32))), some (gk_I x10), none]) dX12_lots_269 rfl rfl (by decide) rfl rfl ?_
      refine gk_goto (tgt := 214) dX12_lots_272 (by decide) ?_
      exact gk_weak [some (gk_R 14 0), none, none, some (gk_I x3), none, some (gk_I x5), none, none, some (gk_I x8), some (gk_I (x9 + (1 : Int32))), none, none] (And.intro rfl (And.intro rfl (And.intro rfl (And.intro rfl (And.intro rfl True.intro))))) (hκ214 x3 x5 x8 ((x9 + (1 : Int32))) M h)
    · refine gk_iload dX12_lots_238 rfl ?_
      refine gk_aload_n dX12_lots_240 rfl rfl ?_
      refine gk_iload dX12_lots_241 rfl ?_
      refine gk_iload dX12_lots_243 rfl ?_
      refine gk_callI (As := [gk_R 14 0, gk_I x9, gk_I x10]) (st := [gk_I x8]) 1 (cr_X12_107 (by decide) rfl) (fun K' h' => ok_X12_farBetween x9 x10 M K' h') rfl (by decide) (by decide) (fun _ => Nat.le_of_ble_eq_true rfl) dX12_lots_245 h (fun r10 M9 h => ?_)
      refine gk_aload_n dX12_lots_248 rfl rfl ?_
      refine gk_getI fr_X12_13 si_14_2 (by decide) dX12_lots_249 ?_
      refine gk_icmp_gt (tgt := 259) dX12_lots_252 (by decide) h (fun h => ?_) (fun h => ?_)
      · refine gk_iconst (v := (0 : Int32)) dX12_lots_259 (by decide) ?_
        exact gk_weak [some (gk_R 14 0), none, none, some (gk_I x3), none, some (gk_I x5), none, none, none, some (gk_I x9), some (gk_I x10), none] (And.intro rfl (And.intro rfl (And.intro rfl (And.intro rfl (And.intro rfl True.intro))))) (ok_X12_lots_j260 κ214 (X12_lots_l229 κ214 n) hκ214 ih x3 x5 x9 x10 ((0 : Int32)) x8 M9 h)
      · refine gk_iconst (v := (1 : Int32)) dX12_lots_255 (by decide) ?_
        refine gk_goto (tgt := 260) dX12_lots_256 (by decide) ?_
        exact gk_weak [some (gk_R 14 0), none, none, some (gk_I x3), none, some (gk_I x5), none, none, none, some (gk_I x9), some (gk_I x10), none] (And.intro rfl (And.intro rfl (And.intro rfl (And.intro rfl (And.intro rfl True.intro))))) (ok_X12_lots_j260 κ214 (X12_lots_l229 κ214 n) hκ214 ih x3 x5 x9 x10 ((1 : Int32)) x8 M9 h)
set_option maxRecDepth 100000 in
set_option maxHeartbeats 4000000 in
theorem ok_X12_lots_l214 {K : gk_V → gk_M → Prop} : ∀ (n : Nat) (x3 : Int32) (x5 : Int32) (x8 : Int32) (x9 : Int32) (M : gk_M), gk_Sat gk_I (X12_lots_l214 n x3 x5 x8 x9 M) K → gk_G RX12 cX12_lots 12 3 (some .int) none K 214 [some (gk_R 14 0), none, none, some (gk_I x3), none, some (gk_I x5), none, none, some (gk_I x8), some (gk_I x9), none, none] [] M := by
  intro n
  induction n with
  | zero => intro x3 x5 x8 x9 M h; exact h.no.elim
  | succ n ih =>
    intro x3 x5 x8 x9 M h
    refine gk_iload dX12_lots_214 rfl ?_
    refine gk_aload_n dX12_lots_216 rfl rfl ?_
    refine gk_getI fr_X12_68 si_14_0 (by decide) dX12_lots_217 ?_
    refine gk_icmp_ge (tgt := 275) dX12_lots_220 (by decide) h (fun h => ?_) (fun h => ?_)
    · refine gk_aload_n dX12_lots_275 rfl rfl ?_
      refine gk_callV (As := [gk_R 14 0]) (st := []) 2 (cr_X12_188 (by decide) rfl) (fun K' h' => ok_X12_close M K' h') rfl (by decide) (by decide) (fun _ => Nat.le_of_ble_eq_true rfl) dX12_lots_276 h (fun _ M7 h => ?_)
      refine gk_iload_n dX12_lots_279 rfl rfl ?_
      refine gk_if_ne (tgt := 288) dX12_lots_280 (by decide) h (fun h => ?_) (fun h => ?_)
      · refine gk_iload dX12_lots_288 rfl ?_
        exact gk_iret dX12_lots_290 rfl h
      · refine gk_iload dX12_lots_283 rfl ?_
        refine gk_goto (tgt := 290) dX12_lots_285 (by decide) ?_
        exact gk_iret dX12_lots_290 rfl h
    · refine gk_iload dX12_lots_223 rfl ?_
      refine gk_iconst (v := (1 : Int32)) dX12_lots_225 (by decide) ?_
      refine gk_iadd dX12_lots_226 ?_
      refine gk_istore (L' := [some (gk_R 14 0), none, none, some (gk_I x3), none, some (gk_I x5), none, none, some (gk_I x8), some (gk_I x9), some (gk_I (x9 + (1 : Int32))), none]) dX12_lots_227 (by decide) rfl rfl ?_
      exact gk_weak [some (gk_R 14 0), none, none, some (gk_I x3), none, some (gk_I x5), none, none, some (gk_I x8), some (gk_I x9), some (gk_I (x9 + (1 : Int32))), none] (And.intro rfl (And.intro rfl (And.intro rfl (And.intro rfl (And.intro rfl (And.intro rfl True.intro)))))) (ok_X12_lots_l229 (X12_lots_l214 n) ih 200 x3 x5 x8 x9 ((x9 + (1 : Int32))) M h)
set_option maxRecDepth 100000 in
set_option maxHeartbeats 4000000 in
theorem ok_X12_lots_l106 {K : gk_V → gk_M → Prop} (κ77 : Int32 → Int32 → Int32 → Int32 → Int32 → Int32 → gk_M → Option (Int32 × gk_M)) (hκ77 : ∀ (x1 : Int32) (x3 : Int32) (x5 : Int32) (x6 : Int32) (x7 : Int32) (x8 : Int32) (M : gk_M), gk_Sat gk_I (κ77 x1 x3 x5 x6 x7 x8 M) K → gk_G RX12 cX12_lots 12 3 (some .int) none K 77 [some (gk_R 14 0), some (gk_I x1), none, some (gk_I x3), none, some (gk_I x5), some (gk_I x6), some (gk_I x7), some (gk_I x8), none, none, none] [] M) : ∀ (n : Nat) (x1 : Int32) (x3 : Int32) (x5 : Int32) (x6 : Int32) (x7 : Int32) (x8 : Int32) (x9 : Int32) (x10 : Int32) (x11 : Int32) (M : gk_M), gk_Sat gk_I (X12_lots_l106 κ77 n x1 x3 x5 x6 x7 x8 x9 x10 x11 M) K → gk_G RX12 cX12_lots 12 3 (some .int) none K 106 [some (gk_R 14 0), some (gk_I x1), none, some (gk_I x3), none, some (gk_I x5), some (gk_I x6), some (gk_I x7), some (gk_I x8), some (gk_I x9), some (gk_I x10), some (gk_I x11)] [] M := by
  intro n
  induction n with
  | zero => intro x1 x3 x5 x6 x7 x8 x9 x10 x11 M h; exact h.no.elim
  | succ n ih =>
    intro x1 x3 x5 x6 x7 x8 x9 x10 x11 M h
    refine gk_iload dX12_lots_106 rfl ?_
    refine gk_aload_n dX12_lots_108 rfl rfl ?_
    refine gk_getI fr_X12_68 si_14_0 (by decide) dX12_lots_109 ?_
    refine gk_icmp_ge (tgt := 175) dX12_lots_112 (by decide) h (fun h => ?_) (fun h => ?_)
    · refine gk_iload dX12_lots_175 rfl ?_
      refine gk_istore (L' := [some (gk_R 14 0), some (gk_I x1), none, some (gk_I x3), none, some (gk_I x5), some (gk_I x9), some (gk_I x7), some (gk_I x8), some (gk_I x9), some (gk_I x10), some (gk_I x11)]) dX12_lots_177 (by decide) rfl rfl ?_
      refine gk_iload dX12_lots_179 rfl ?_
      refine gk_istore (L' := [some (gk_R 14 0), some (gk_I x1), none, some (gk_I x3), none, some (gk_I x5), some (gk_I x9), some (gk_I x10), some (gk_I x8), some (gk_I x9), some (gk_I x10), some (gk_I x11)]) dX12_lots_181 (by decide) rfl rfl ?_
      refine gk_iload dX12_lots_183 rfl ?_
      refine gk_aload_n dX12_lots_185 rfl rfl ?_
      refine gk_callI (As := [gk_R 14 0]) (st := [gk_I x5]) 0 (cr_X12_99 (by decide) rfl) (fun K' h' => ok_X12_eat M K' h') rfl (by decide) (by decide) (fun _ => Nat.le_of_ble_eq_true rfl) dX12_lots_186 h (fun r16 M15 h => ?_)
      refine gk_iadd dX12_lots_189 ?_
      refine gk_istore (L' := [some (gk_R 14 0), some (gk_I x1), none, some (gk_I x3), none, some (gk_I (x5 + r16)), some (gk_I x9), some (gk_I x10), some (gk_I x8), some (gk_I x9), some (gk_I x10), some (gk_I x11)]) dX12_lots_190 (by decide) rfl rfl ?_
      refine gk_aload_n dX12_lots_192 rfl rfl ?_
      refine gk_dup dX12_lots_193 rfl ?_
      refine gk_getI fr_X12_79 si_14_3 (by decide) dX12_lots_194 ?_
      refine gk_iconst (v := (1 : Int32)) dX12_lots_197 (by decide) ?_
      refine gk_iadd dX12_lots_198 ?_
      refine gk_putI fr_X12_79 si_14_3 (by decide) dX12_lots_199 h (fun M17 h => ?_)
      refine gk_iinc (v := (x8 + (1 : Int32))) (L' := [some (gk_R 14 0), some (gk_I x1), none, some (gk_I x3), none, some (gk_I (x5 + r16)), some (gk_I x9), some (gk_I x10), some (gk_I (x8 + (1 : Int32))), some (gk_I x9), some (gk_I x10), some (gk_I x11)]) dX12_lots_202 rfl rfl (by decide) rfl rfl ?_
      refine gk_goto (tgt := 77) dX12_lots_205 (by decide) ?_
      exact gk_weak [some (gk_R 14 0), some (gk_I x1), none, some (gk_I x3), none, some (gk_I (x5 + r16)), some (gk_I x9), some (gk_I x10), some (gk_I (x8 + (1 : Int32))), none, none, none] (And.intro rfl (And.intro rfl (And.intro rfl (And.intro rfl (And.intro rfl (And.intro rfl (And.intro rfl True.intro))))))) (hκ77 x1 x3 ((x5 + r16)) x9 x10 ((x8 + (1 : Int32))) M17 h)
    · refine gk_aload_n dX12_lots_115 rfl rfl ?_
      refine gk_aload_n dX12_lots_116 rfl rfl ?_
      refine gk_get (v := gk_R 16 0) fr_X12_23 pf_14_7 (by decide) dX12_lots_117 ?_
      refine gk_iload dX12_lots_120 rfl ?_
      refine gk_iald ga_16 (by decide) dX12_lots_122 h (fun h hb18 => ?_)
      refine gk_aload_n dX12_lots_123 rfl rfl ?_
      refine gk_get (v := gk_R 16 1) fr_X12_26 pf_14_8 (by decide) dX12_lots_124 ?_
      refine gk_iload dX12_lots_127 rfl ?_
      refine gk_iald ga_16 (by decide) dX12_lots_129 h (fun h hb19 => ?_)
      refine gk_iload dX12_lots_130 rfl ?_
      refine gk_iload dX12_lots_132 rfl ?_
      refine gk_iload dX12_lots_134 rfl ?_
      refine gk_iload dX12_lots_136 rfl ?_
      refine gk_callV (As := [gk_R 14 0, gk_I (M 16 0 (Int32.toNatClampNeg x11)), gk_I (M 16 1 (Int32.toNatClampNeg x11)), gk_I x9, gk_I x10, gk_I x6, gk_I x7]) (st := []) 0 (cr_X12_88 (by decide) rfl) (fun K' h' => ok_X12_driftBy (M 16 0 (Int32.toNatClampNeg x11)) (M 16 1 (Int32.toNatClampNeg x11)) x9 x10 x6 x7 M K' h') rfl (by decide) (by decide) (fun _ => Nat.le_of_ble_eq_true rfl) dX12_lots_138 h (fun _ M20 h => ?_)
      refine gk_aload_n dX12_lots_141 rfl rfl ?_
      refine gk_get (v := gk_R 16 4) fr_X12_35 pf_14_11 (by decide) dX12_lots_142 ?_
      refine gk_iload dX12_lots_145 rfl ?_
      refine gk_dup2 dX12_lots_147 rfl rfl ?_
      refine gk_iald ga_16 (by decide) dX12_lots_148 h (fun h hb22 => ?_)
      refine gk_aload_n dX12_lots_149 rfl rfl ?_
      refine gk_getI fr_X12_82 si_14_15 (by decide) dX12_lots_150 ?_
      refine gk_iadd dX12_lots_153 ?_
      refine gk_iast ga_16 (by decide) dX12_lots_154 h (fun M23 h => ?_)
      refine gk_aload_n dX12_lots_155 rfl rfl ?_
      refine gk_get (v := gk_R 16 5) fr_X12_38 pf_14_12 (by decide) dX12_lots_156 ?_
      refine gk_iload dX12_lots_159 rfl ?_
      refine gk_dup2 dX12_lots_161 rfl rfl ?_
      refine gk_iald ga_16 (by decide) dX12_lots_162 h (fun h hb24 => ?_)
      refine gk_aload_n dX12_lots_163 rfl rfl ?_
      refine gk_getI fr_X12_85 si_14_16 (by decide) dX12_lots_164 ?_
      refine gk_iadd dX12_lots_167 ?_
      refine gk_iast ga_16 (by decide) dX12_lots_168 h (fun M25 h => ?_)
      refine gk_iinc (v := (x11 + (1 : Int32))) (L' := [some (gk_R 14 0), some (gk_I x1), none, some (gk_I x3), none, some (gk_I x5), some (gk_I x6), some (gk_I x7), some (gk_I x8), some (gk_I x9), some (gk_I x10), some (gk_I (x11 + (1 : Int32)))]) dX12_lots_169 rfl rfl (by decide) rfl rfl ?_
      refine gk_goto (tgt := 106) dX12_lots_172 (by decide) ?_
      exact gk_weak [some (gk_R 14 0), some (gk_I x1), none, some (gk_I x3), none, some (gk_I x5), some (gk_I x6), some (gk_I x7), some (gk_I x8), some (gk_I x9), some (gk_I x10), some (gk_I (x11 + (1 : Int32)))] (And.intro rfl (And.intro rfl (And.intro rfl (And.intro rfl (And.intro rfl (And.intro rfl (And.intro rfl (And.intro rfl (And.intro rfl (And.intro rfl True.intro)))))))))) (ih x1 x3 x5 x6 x7 x8 x9 x10 ((x11 + (1 : Int32))) M25 h)
set_option maxRecDepth 100000 in
set_option maxHeartbeats 4000000 in
theorem ok_X12_lots_l77 {K : gk_V → gk_M → Prop} : ∀ (n : Nat) (x1 : Int32) (x3 : Int32) (x5 : Int32) (x6 : Int32) (x7 : Int32) (x8 : Int32) (M : gk_M), gk_Sat gk_I (X12_lots_l77 n x1 x3 x5 x6 x7 x8 M) K → gk_G RX12 cX12_lots 12 3 (some .int) none K 77 [some (gk_R 14 0), some (gk_I x1), none, some (gk_I x3), none, some (gk_I x5), some (gk_I x6), some (gk_I x7), some (gk_I x8), none, none, none] [] M := by
  intro n
  induction n with
  | zero => intro x1 x3 x5 x6 x7 x8 M h; exact h.no.elim
  | succ n ih =>
    intro x1 x3 x5 x6 x7 x8 M h
    refine gk_iload dX12_lots_77 rfl ?_
    refine gk_iload_n dX12_lots_79 rfl rfl ?_
    refine gk_icmp_ge (tgt := 208) dX12_lots_80 (by decide) h (fun h => ?_) (fun h => ?_)
    · refine gk_iconst (v := (0 : Int32)) dX12_lots_208 (by decide) ?_
      refine gk_istore (L' := [some (gk_R 14 0), some (gk_I x1), none, some (gk_I x3), none, some (gk_I x5), some (gk_I x6), some (gk_I x7), some (gk_I (0 : Int32)), none, none, none]) dX12_lots_209 (by decide) rfl rfl ?_
      refine gk_iconst (v := (0 : Int32)) dX12_lots_211 (by decide) ?_
      refine gk_istore (L' := [some (gk_R 14 0), some (gk_I x1), none, some (gk_I x3), none, some (gk_I x5), some (gk_I x6), some (gk_I x7), some (gk_I (0 : Int32)), some (gk_I (0 : Int32)), none, none]) dX12_lots_212 (by decide) rfl rfl ?_
      exact gk_weak [some (gk_R 14 0), none, none, some (gk_I x3), none, some (gk_I x5), none, none, some (gk_I (0 : Int32)), some (gk_I (0 : Int32)), none, none] (And.intro rfl (And.intro rfl (And.intro rfl (And.intro rfl (And.intro rfl True.intro))))) (ok_X12_lots_l214 200 x3 x5 ((0 : Int32)) ((0 : Int32)) M h)
    · refine gk_aload_n dX12_lots_83 rfl rfl ?_
      refine gk_bipush (v := (9 : Int32)) dX12_lots_84 (by decide) ?_
      refine gk_callI (As := [gk_R 14 0, gk_I (9 : Int32)]) (st := []) 0 (cr_X12_239 (by decide) rfl) (fun K' h' => ok_X12_draw (9 : Int32) M K' h') rfl (by decide) (by decide) (fun _ => Nat.le_of_ble_eq_true rfl) dX12_lots_86 h (fun r12 M11 h => ?_)
      refine gk_iconst (v := (4 : Int32)) dX12_lots_89 (by decide) ?_
      refine gk_isub dX12_lots_90 ?_
      refine gk_istore (L' := [some (gk_R 14 0), some (gk_I x1), none, some (gk_I x3), none, some (gk_I x5), some (gk_I x6), some (gk_I x7), some (gk_I x8), some (gk_I (r12 - (4 : Int32))), none, none]) dX12_lots_91 (by decide) rfl rfl ?_
      refine gk_aload_n dX12_lots_93 rfl rfl ?_
      refine gk_bipush (v := (9 : Int32)) dX12_lots_94 (by decide) ?_
      refine gk_callI (As := [gk_R 14 0, gk_I (9 : Int32)]) (st := []) 0 (cr_X12_239 (by decide) rfl) (fun K' h' => ok_X12_draw (9 : Int32) M11 K' h') rfl (by decide) (by decide) (fun _ => Nat.le_of_ble_eq_true rfl) dX12_lots_96 h (fun r14 M13 h => ?_)
      refine gk_iconst (v := (4 : Int32)) dX12_lots_99 (by decide) ?_
      refine gk_isub dX12_lots_100 ?_
      refine gk_istore (L' := [some (gk_R 14 0), some (gk_I x1), none, some (gk_I x3), none, some (gk_I x5), some (gk_I x6), some (gk_I x7), some (gk_I x8), some (gk_I (r12 - (4 : Int32))), some (gk_I (r14 - (4 : Int32))), none]) dX12_lots_101 (by decide) rfl rfl ?_
      refine gk_iconst (v := (0 : Int32)) dX12_lots_103 (by decide) ?_
      refine gk_istore (L' := [some (gk_R 14 0), some (gk_I x1), none, some (gk_I x3), none, some (gk_I x5), some (gk_I x6), some (gk_I x7), some (gk_I x8), some (gk_I (r12 - (4 : Int32))), some (gk_I (r14 - (4 : Int32))), some (gk_I (0 : Int32))]) dX12_lots_104 (by decide) rfl rfl ?_
      exact gk_weak [some (gk_R 14 0), some (gk_I x1), none, some (gk_I x3), none, some (gk_I x5), some (gk_I x6), some (gk_I x7), some (gk_I x8), some (gk_I (r12 - (4 : Int32))), some (gk_I (r14 - (4 : Int32))), some (gk_I (0 : Int32))] (And.intro rfl (And.intro rfl (And.intro rfl (And.intro rfl (And.intro rfl (And.intro rfl (And.intro rfl (And.intro rfl (And.intro rfl (And.intro rfl True.intro)))))))))) (ok_X12_lots_l106 (X12_lots_l77 n) ih 200 x1 x3 x5 x6 x7 x8 ((r12 - (4 : Int32))) ((r14 - (4 : Int32))) ((0 : Int32)) M13 h)
set_option maxRecDepth 100000 in
set_option maxHeartbeats 4000000 in
theorem ok_X12_lots_j42 {K : gk_V → gk_M → Prop} (x1 : Int32) (x2 : Int32) (x3 : Int32) (s0 : Int32) (M : gk_M) (h : gk_Sat gk_I (X12_lots_j42 x1 x2 x3 s0 M) K) : gk_G RX12 cX12_lots 12 3 (some .int) none K 42 [some (gk_R 14 0), some (gk_I x1), some (gk_I x2), some (gk_I x3), none, none, none, none, none, none, none, none] [gk_I s0] M := by
  refine gk_istore (L' := [some (gk_R 14 0), some (gk_I x1), some (gk_I x2), some (gk_I x3), some (gk_I s0), none, none, none, none, none, none, none]) dX12_lots_42 (by decide) rfl rfl ?_
  refine gk_iload dX12_lots_44 rfl ?_
  refine gk_if_ge (tgt := 56) dX12_lots_46 (by decide) h (fun h => ?_) (fun h => ?_)
  · refine gk_aload_n dX12_lots_56 rfl rfl ?_
    refine gk_callV (As := [gk_R 14 0]) (st := []) 2 (cr_X12_182 (by decide) rfl) (fun K' h' => ok_X12_open0 M K' h') rfl (by decide) (by decide) (fun _ => Nat.le_of_ble_eq_true rfl) dX12_lots_57 h (fun _ M4 h => ?_)
    refine gk_aload_n dX12_lots_60 rfl rfl ?_
    refine gk_iload_n dX12_lots_61 rfl rfl ?_
    refine gk_putI fr_X12_233 si_14_33 (by decide) dX12_lots_62 h (fun M6 h => ?_)
    refine gk_iconst (v := (0 : Int32)) dX12_lots_65 (by decide) ?_
    refine gk_istore (L' := [some (gk_R 14 0), some (gk_I x1), some (gk_I x2), some (gk_I x3), some (gk_I s0), some (gk_I (0 : Int32)), none, none, none, none, none, none]) dX12_lots_66 (by decide) rfl rfl ?_
    refine gk_iconst (v := (0 : Int32)) dX12_lots_68 (by decide) ?_
    refine gk_istore (L' := [some (gk_R 14 0), some (gk_I x1), some (gk_I x2), some (gk_I x3), some (gk_I s0), some (gk_I (0 : Int32)), some (gk_I (0 : Int32)), none, none, none, none, none]) dX12_lots_69 (by decide) rfl rfl ?_
    refine gk_iconst (v := (0 : Int32)) dX12_lots_71 (by decide) ?_
    refine gk_istore (L' := [some (gk_R 14 0), some (gk_I x1), some (gk_I x2), some (gk_I x3), some (gk_I s0), some (gk_I (0 : Int32)), some (gk_I (0 : Int32)), some (gk_I (0 : Int32)), none, none, none, none]) dX12_lots_72 (by decide) rfl rfl ?_
    refine gk_iconst (v := (0 : Int32)) dX12_lots_74 (by decide) ?_
    refine gk_istore (L' := [some (gk_R 14 0), some (gk_I x1), some (gk_I x2), some (gk_I x3), some (gk_I s0), some (gk_I (0 : Int32)), some (gk_I (0 : Int32)), some (gk_I (0 : Int32)), some (gk_I (0 : Int32)), none, none, none]) dX12_lots_75 (by decide) rfl rfl ?_
    exact gk_weak [some (gk_R 14 0), some (gk_I x1), none, some (gk_I x3), none, some (gk_I (0 : Int32)), some (gk_I (0 : Int32)), some (gk_I (0 : Int32)), some (gk_I (0 : Int32)), none, none, none] (And.intro rfl (And.intro rfl (And.intro rfl (And.intro rfl (And.intro rfl (And.intro rfl (And.intro rfl True.intro))))))) (ok_X12_lots_l77 200 x1 x3 ((0 : Int32)) ((0 : Int32)) ((0 : Int32)) ((0 : Int32)) M6 h)
  · refine gk_aload_n dX12_lots_49 rfl rfl ?_
    refine gk_iload dX12_lots_50 rfl ?_
    refine gk_callI (As := [gk_R 14 0, gk_I s0]) (st := []) 0 (cr_X12_134 (by decide) rfl) (fun K' h' => ok_X12_refuse s0 M K' h') rfl (by decide) (by decide) (fun _ => Nat.le_of_ble_eq_true rfl) dX12_lots_52 h (fun r27 M26 h => ?_)
    exact gk_iret dX12_lots_55 rfl h
set_option maxRecDepth 100000 in
set_option maxHeartbeats 4000000 in
theorem ok_X12_lots (a1 : Int32) (a2 : Int32) (a3 : Int32) (M : gk_M) (K : gk_V → gk_M → Prop) (h : gk_Sat gk_I (f_X12_lots a1 a2 a3 M) K) : gk_MS 3 yX12_lots cX12_lots 12 (some .int) [gk_R 14 0, gk_I a1, gk_I a2, gk_I a3] M K := by

  refine gk_MS_of [some (gk_R 14 0), some (gk_I a1), some (gk_I a2), some (gk_I a3), none, none, none, none, none, none, none, none] (by decide +kernel) (Nat.le_of_ble_eq_true rfl) (And.intro rfl (And.intro rfl (And.intro rfl (And.intro rfl True.intro)))) ?_
  show gk_G RX12 cX12_lots 12 3 (some .int) none K 0 [some (gk_R 14 0), some (gk_I a1), some (gk_I a2), some (gk_I a3), none, none, none, none, none, none, none, none] [] M
  refine gk_aload_n dX12_lots_0 rfl rfl ?_
  refine gk_iconst (v := (0 : Int32)) dX12_lots_1 (by decide) ?_
  refine gk_putI fr_X12_65 si_14_13 (by decide) dX12_lots_2 h (fun M1 h => ?_)
  refine gk_iload_n dX12_lots_5 rfl rfl ?_
  refine gk_iconst (v := (1 : Int32)) dX12_lots_6 (by decide) ?_
  refine gk_icmp_ge (tgt := 15) dX12_lots_7 (by decide) h (fun h => ?_) (fun h => ?_)
  · refine gk_iload_n dX12_lots_15 rfl rfl ?_
    refine gk_bipush (v := (40 : Int32)) dX12_lots_16 (by decide) ?_
    refine gk_icmp_le (tgt := 26) dX12_lots_18 (by decide) h (fun h => ?_) (fun h => ?_)
    · refine gk_iload_n dX12_lots_26 rfl rfl ?_
      refine gk_i2l dX12_lots_27 ?_
      refine gk_lconst (v := (0 : Int64)) dX12_lots_28 (by decide) ?_
      refine gk_lconst (v := (1 : Int64)) dX12_lots_29 (by decide) ?_
      refine gk_callI (As := [gk_L (Int32.toInt64 a3), gk_L (0 : Int64), gk_L (1 : Int64)]) (st := []) 0 (cr_X12_71 rfl) (fun K' h' => ok_X12_in (Int32.toInt64 a3) (0 : Int64) (1 : Int64) M1 K' h') rfl (by decide) (by decide) (fun _ => Nat.le_of_ble_eq_true rfl) dX12_lots_30 h (fun r3 M2 h => ?_)
      refine gk_if_ne (tgt := 41) dX12_lots_33 (by decide) h (fun h => ?_) (fun h => ?_)
      · refine gk_iconst (v := (0 : Int32)) dX12_lots_41 (by decide) ?_
        exact gk_weak [some (gk_R 14 0), some (gk_I a1), some (gk_I a2), some (gk_I a3), none, none, none, none, none, none, none, none] (And.intro rfl (And.intro rfl (And.intro rfl (And.intro rfl True.intro)))) (ok_X12_lots_j42 a1 a2 a3 ((0 : Int32)) M2 h)
      · refine gk_bipush (v := (-2 : Int32)) dX12_lots_36 (by decide) ?_
        refine gk_goto (tgt := 42) dX12_lots_38 (by decide) ?_
        exact gk_weak [some (gk_R 14 0), some (gk_I a1), some (gk_I a2), some (gk_I a3), none, none, none, none, none, none, none, none] (And.intro rfl (And.intro rfl (And.intro rfl (And.intro rfl True.intro)))) (ok_X12_lots_j42 a1 a2 a3 ((-2 : Int32)) M2 h)
    · refine gk_bipush (v := (-6 : Int32)) dX12_lots_21 (by decide) ?_
      refine gk_goto (tgt := 42) dX12_lots_23 (by decide) ?_
      exact gk_weak [some (gk_R 14 0), some (gk_I a1), some (gk_I a2), some (gk_I a3), none, none, none, none, none, none, none, none] (And.intro rfl (And.intro rfl (And.intro rfl (And.intro rfl True.intro)))) (ok_X12_lots_j42 a1 a2 a3 ((-6 : Int32)) M1 h)
  · refine gk_bipush (v := (-4 : Int32)) dX12_lots_10 (by decide) ?_
    refine gk_goto (tgt := 42) dX12_lots_12 (by decide) ?_
    exact gk_weak [some (gk_R 14 0), some (gk_I a1), some (gk_I a2), some (gk_I a3), none, none, none, none, none, none, none, none] (And.intro rfl (And.intro rfl (And.intro rfl (And.intro rfl True.intro)))) (ok_X12_lots_j42 a1 a2 a3 ((-4 : Int32)) M1 h)
set_option maxRecDepth 100000 in
set_option maxHeartbeats 4000000 in
theorem ok_X12_sumOf_l4 {K : gk_V → gk_M → Prop} : ∀ (n : Nat) (x1 : Nat) (x2 : Int32) (x3 : Int32) (M : gk_M), gk_Sat gk_I (X12_sumOf_l4 n x1 x2 x3 M) K → gk_G RX12 cX12_sumOf 4 0 (some .int) none K 4 [some (gk_R 14 0), some (gk_R 16 x1), some (gk_I x2), some (gk_I x3)] [] M := by
  intro n
  induction n with
  | zero => intro x1 x2 x3 M h; exact h.no.elim
  | succ n ih =>
    intro x1 x2 x3 M h
    have hgx1 := h.gd
    have h := hgx1.2
    have hx1 := gk_lt_of hgx1.1
    refine gk_iload_n dX12_sumOf_4 rfl rfl ?_
    refine gk_aload_n dX12_sumOf_5 rfl rfl ?_
    refine gk_getI fr_X12_68 si_14_0 (by decide) dX12_sumOf_6 ?_
    refine gk_icmp_ge (tgt := 24) dX12_sumOf_9 (by decide) h (fun h => ?_) (fun h => ?_)
    · refine gk_iload_n dX12_sumOf_24 rfl rfl ?_
      exact gk_iret dX12_sumOf_25 rfl h
    · refine gk_iload_n dX12_sumOf_12 rfl rfl ?_
      refine gk_aload_n dX12_sumOf_13 rfl rfl ?_
      refine gk_iload_n dX12_sumOf_14 rfl rfl ?_
      refine gk_iald ga_16 hx1 dX12_sumOf_15 h (fun h hb1 => ?_)
      refine gk_iadd dX12_sumOf_16 ?_
      refine gk_istore_n (L' := [some (gk_R 14 0), some (gk_R 16 x1), some (gk_I (x2 + (M 16 x1 (Int32.toNatClampNeg x3)))), some (gk_I x3)]) dX12_sumOf_17 rfl (by decide) rfl rfl ?_
      refine gk_iinc (v := (x3 + (1 : Int32))) (L' := [some (gk_R 14 0), some (gk_R 16 x1), some (gk_I (x2 + (M 16 x1 (Int32.toNatClampNeg x3)))), some (gk_I (x3 + (1 : Int32)))]) dX12_sumOf_18 rfl rfl (by decide) rfl rfl ?_
      refine gk_goto (tgt := 4) dX12_sumOf_21 (by decide) ?_
      exact gk_weak [some (gk_R 14 0), some (gk_R 16 x1), some (gk_I (x2 + (M 16 x1 (Int32.toNatClampNeg x3)))), some (gk_I (x3 + (1 : Int32)))] (And.intro rfl (And.intro rfl (And.intro rfl (And.intro rfl True.intro)))) (ih x1 ((x2 + (M 16 x1 (Int32.toNatClampNeg x3)))) ((x3 + (1 : Int32))) M h)
set_option maxRecDepth 100000 in
set_option maxHeartbeats 4000000 in
theorem ok_X12_sumOf (a1 : Nat) (M : gk_M) (K : gk_V → gk_M → Prop) (h : gk_Sat gk_I (f_X12_sumOf a1 M) K) : gk_MS 0 yX12_sumOf cX12_sumOf 4 (some .int) [gk_R 14 0, gk_R 16 a1] M K := by
  have hga1 := h.gd
  have h := hga1.2
  have ha1 := gk_lt_of hga1.1
  refine gk_MS_of [some (gk_R 14 0), some (gk_R 16 a1), none, none] (by decide +kernel) (Nat.le_of_ble_eq_true rfl) (And.intro rfl (And.intro rfl True.intro)) ?_
  show gk_G RX12 cX12_sumOf 4 0 (some .int) none K 0 [some (gk_R 14 0), some (gk_R 16 a1), none, none] [] M
  refine gk_iconst (v := (0 : Int32)) dX12_sumOf_0 (by decide) ?_
  refine gk_istore_n (L' := [some (gk_R 14 0), some (gk_R 16 a1), some (gk_I (0 : Int32)), none]) dX12_sumOf_1 rfl (by decide) rfl rfl ?_
  refine gk_iconst (v := (0 : Int32)) dX12_sumOf_2 (by decide) ?_
  refine gk_istore_n (L' := [some (gk_R 14 0), some (gk_R 16 a1), some (gk_I (0 : Int32)), some (gk_I (0 : Int32))]) dX12_sumOf_3 rfl (by decide) rfl rfl ?_
  exact gk_weak [some (gk_R 14 0), some (gk_R 16 a1), some (gk_I (0 : Int32)), some (gk_I (0 : Int32))] (And.intro rfl (And.intro rfl (And.intro rfl (And.intro rfl True.intro)))) (ok_X12_sumOf_l4 200 a1 ((0 : Int32)) ((0 : Int32)) M h)
set_option maxRecDepth 100000 in
set_option maxHeartbeats 4000000 in
theorem ok_X12_openLeads_j39 {K : gk_V → gk_M → Prop} (κ4 : Int32 → Int32 → gk_M → Option (Int32 × gk_M)) (κ16 : Int32 → Int32 → Int32 → gk_M → Option (Int32 × gk_M)) (hκ4 : ∀ (x1 : Int32) (x2 : Int32) (M : gk_M), gk_Sat gk_I (κ4 x1 x2 M) K → gk_G RX12 cX12_openLeads 4 3 (some .int) none K 4 [some (gk_R 14 0), some (gk_I x1), some (gk_I x2), none] [] M) (hκ16 : ∀ (x1 : Int32) (x2 : Int32) (x3 : Int32) (M : gk_M), gk_Sat gk_I (κ16 x1 x2 x3 M) K → gk_G RX12 cX12_openLeads 4 3 (some .int) none K 16 [some (gk_R 14 0), some (gk_I x1), some (gk_I x2), some (gk_I x3)] [] M) (x2 : Int32) (x3 : Int32) (s0 : Int32) (s1 : Int32) (M : gk_M) (h : gk_Sat gk_I (X12_openLeads_j39 κ4 κ16 x2 x3 s0 s1 M) K) : gk_G RX12 cX12_openLeads 4 3 (some .int) none K 39 [some (gk_R 14 0), none, some (gk_I x2), some (gk_I x3)] [gk_I s0, gk_I s1] M := by
  refine gk_iadd dX12_openLeads_39 ?_
  refine gk_istore_n (L' := [some (gk_R 14 0), some (gk_I (s1 + s0)), some (gk_I x2), some (gk_I x3)]) dX12_openLeads_40 rfl (by decide) rfl rfl ?_
  refine gk_iinc (v := (x3 + (1 : Int32))) (L' := [some (gk_R 14 0), some (gk_I (s1 + s0)), some (gk_I x2), some (gk_I (x3 + (1 : Int32)))]) dX12_openLeads_41 rfl rfl (by decide) rfl rfl ?_
  refine gk_goto (tgt := 16) dX12_openLeads_44 (by decide) ?_
  exact gk_weak [some (gk_R 14 0), some (gk_I (s1 + s0)), some (gk_I x2), some (gk_I (x3 + (1 : Int32)))] (And.intro rfl (And.intro rfl (And.intro rfl (And.intro rfl True.intro)))) (hκ16 ((s1 + s0)) x2 ((x3 + (1 : Int32))) M h)
set_option maxRecDepth 100000 in
set_option maxHeartbeats 4000000 in
theorem ok_X12_openLeads_l16 {K : gk_V → gk_M → Prop} (κ4 : Int32 → Int32 → gk_M → Option (Int32 × gk_M)) (hκ4 : ∀ (x1 : Int32) (x2 : Int32) (M : gk_M), gk_Sat gk_I (κ4 x1 x2 M) K → gk_G RX12 cX12_openLeads 4 3 (some .int) none K 4 [some (gk_R 14 0), some (gk_I x1), some (gk_I x2), none] [] M) : ∀ (n : Nat) (x1 : Int32) (x2 : Int32) (x3 : Int32) (M : gk_M), gk_Sat gk_I (X12_openLeads_l16 κ4 n x1 x2 x3 M) K → gk_G RX12 cX12_openLeads 4 3 (some .int) none K 16 [some (gk_R 14 0), some (gk_I x1), some (gk_I x2), some (gk_I x3)] [] M := by
  intro n
  induction n with
  | zero => intro x1 x2 x3 M h; exact h.no.elim
  | succ n ih =>
    intro x1 x2 x3 M h
    refine gk_iload_n dX12_openLeads_16 rfl rfl ?_
    refine gk_aload_n dX12_openLeads_17 rfl rfl ?_
    refine gk_getI fr_X12_68 si_14_0 (by decide) dX12_openLeads_18 ?_
    refine gk_icmp_ge (tgt := 47) dX12_openLeads_21 (by decide) h (fun h => ?_) (fun h => ?_)
    · refine gk_iinc (v := (x2 + (1 : Int32))) (L' := [some (gk_R 14 0), some (gk_I x1), some (gk_I (x2 + (1 : Int32))), some (gk_I x3)]) dX12_openLeads_47 rfl rfl (by decide) rfl rfl ?_
      refine gk_goto (tgt := 4) dX12_openLeads_50 (by decide) ?_
      exact gk_weak [some (gk_R 14 0), some (gk_I x1), some (gk_I (x2 + (1 : Int32))), none] (And.intro rfl (And.intro rfl (And.intro rfl True.intro))) (hκ4 x1 ((x2 + (1 : Int32))) M h)
    · refine gk_iload_n dX12_openLeads_24 rfl rfl ?_
      refine gk_aload_n dX12_openLeads_25 rfl rfl ?_
      refine gk_iload_n dX12_openLeads_26 rfl rfl ?_
      refine gk_iload_n dX12_openLeads_27 rfl rfl ?_
      refine gk_callI (As := [gk_R 14 0, gk_I x2, gk_I x3]) (st := [gk_I x1]) 2 (cr_X12_215 (by decide) rfl) (fun K' h' => ok_X12_isOpen x2 x3 M K' h') rfl (by decide) (by decide) (fun _ => Nat.le_of_ble_eq_true rfl) dX12_openLeads_28 h (fun r2 M1 h => ?_)
      refine gk_if_eq (tgt := 38) dX12_openLeads_31 (by decide) h (fun h => ?_) (fun h => ?_)
      · refine gk_iconst (v := (0 : Int32)) dX12_openLeads_38 (by decide) ?_
        exact gk_weak [some (gk_R 14 0), none, some (gk_I x2), some (gk_I x3)] (And.intro rfl (And.intro rfl (And.intro rfl True.intro))) (ok_X12_openLeads_j39 κ4 (X12_openLeads_l16 κ4 n) hκ4 ih x2 x3 ((0 : Int32)) x1 M1 h)
      · refine gk_iconst (v := (1 : Int32)) dX12_openLeads_34 (by decide) ?_
        refine gk_goto (tgt := 39) dX12_openLeads_35 (by decide) ?_
        exact gk_weak [some (gk_R 14 0), none, some (gk_I x2), some (gk_I x3)] (And.intro rfl (And.intro rfl (And.intro rfl True.intro))) (ok_X12_openLeads_j39 κ4 (X12_openLeads_l16 κ4 n) hκ4 ih x2 x3 ((1 : Int32)) x1 M1 h)
set_option maxRecDepth 100000 in
set_option maxHeartbeats 4000000 in
theorem ok_X12_openLeads_l4 {K : gk_V → gk_M → Prop} : ∀ (n : Nat) (x1 : Int32) (x2 : Int32) (M : gk_M), gk_Sat gk_I (X12_openLeads_l4 n x1 x2 M) K → gk_G RX12 cX12_openLeads 4 3 (some .int) none K 4 [some (gk_R 14 0), some (gk_I x1), some (gk_I x2), none] [] M := by
  intro n
  induction n with
  | zero => intro x1 x2 M h; exact h.no.elim
  | succ n ih =>
    intro x1 x2 M h
    refine gk_iload_n dX12_openLeads_4 rfl rfl ?_
    refine gk_aload_n dX12_openLeads_5 rfl rfl ?_
    refine gk_getI fr_X12_68 si_14_0 (by decide) dX12_openLeads_6 ?_
    refine gk_icmp_ge (tgt := 53) dX12_openLeads_9 (by decide) h (fun h => ?_) (fun h => ?_)
    · refine gk_iload_n dX12_openLeads_53 rfl rfl ?_
      exact gk_iret dX12_openLeads_54 rfl h
    · refine gk_iload_n dX12_openLeads_12 rfl rfl ?_
      refine gk_iconst (v := (1 : Int32)) dX12_openLeads_13 (by decide) ?_
      refine gk_iadd dX12_openLeads_14 ?_
      refine gk_istore_n (L' := [some (gk_R 14 0), some (gk_I x1), some (gk_I x2), some (gk_I (x2 + (1 : Int32)))]) dX12_openLeads_15 rfl (by decide) rfl rfl ?_
      exact gk_weak [some (gk_R 14 0), some (gk_I x1), some (gk_I x2), some (gk_I (x2 + (1 : Int32)))] (And.intro rfl (And.intro rfl (And.intro rfl (And.intro rfl True.intro)))) (ok_X12_openLeads_l16 (X12_openLeads_l4 n) ih 200 x1 x2 ((x2 + (1 : Int32))) M h)
set_option maxRecDepth 100000 in
set_option maxHeartbeats 4000000 in
theorem ok_X12_openLeads  (M : gk_M) (K : gk_V → gk_M → Prop) (h : gk_Sat gk_I (f_X12_openLeads  M) K) : gk_MS 3 yX12_openLeads cX12_openLeads 4 (some .int) [gk_R 14 0] M K := by

  refine gk_MS_of [some (gk_R 14 0), none, none, none] (by decide +kernel) (Nat.le_of_ble_eq_true rfl) (And.intro rfl True.intro) ?_
  show gk_G RX12 cX12_openLeads 4 3 (some .int) none K 0 [some (gk_R 14 0), none, none, none] [] M
  refine gk_iconst (v := (0 : Int32)) dX12_openLeads_0 (by decide) ?_
  refine gk_istore_n (L' := [some (gk_R 14 0), some (gk_I (0 : Int32)), none, none]) dX12_openLeads_1 rfl (by decide) rfl rfl ?_
  refine gk_iconst (v := (0 : Int32)) dX12_openLeads_2 (by decide) ?_
  refine gk_istore_n (L' := [some (gk_R 14 0), some (gk_I (0 : Int32)), some (gk_I (0 : Int32)), none]) dX12_openLeads_3 rfl (by decide) rfl rfl ?_
  exact gk_weak [some (gk_R 14 0), some (gk_I (0 : Int32)), some (gk_I (0 : Int32)), none] (And.intro rfl (And.intro rfl (And.intro rfl True.intro))) (ok_X12_openLeads_l4 200 ((0 : Int32)) ((0 : Int32)) M h)
set_option maxRecDepth 100000 in
set_option maxHeartbeats 4000000 in
theorem ok_X12_count (a1 : Int32) (M : gk_M) (K : gk_V → gk_M → Prop) (h : gk_Sat gk_I (f_X12_count a1 M) K) : gk_MS 4 yX12_count cX12_count 2 (some .int) [gk_R 14 0, gk_I a1] M K := by

  refine gk_MS_of [some (gk_R 14 0), some (gk_I a1)] (by decide +kernel) (Nat.le_of_ble_eq_true rfl) (And.intro rfl (And.intro rfl True.intro)) ?_
  show gk_G RX12 cX12_count 2 4 (some .int) none K 0 [some (gk_R 14 0), some (gk_I a1)] [] M
  refine gk_aload_n dX12_count_0 rfl rfl ?_
  refine gk_iconst (v := (0 : Int32)) dX12_count_1 (by decide) ?_
  refine gk_putI fr_X12_65 si_14_13 (by decide) dX12_count_2 h (fun M1 h => ?_)
  refine gk_iload_n dX12_count_5 rfl rfl ?_
  rcases Decidable.em (a1 = (0 : Int32)) with e0 | e0
  · refine gk_tabIn (tgt := 60) dX12_count_6 (0 : Int32) e0 (by decide) (by decide) rfl (by decide) ?_
    have h := h.ite.1 e0
    refine gk_aload_n dX12_count_60 rfl rfl ?_
    refine gk_getI fr_X12_68 si_14_0 (by decide) dX12_count_61 ?_
    exact gk_iret dX12_count_64 rfl h
  · have h := h.ite.2 e0
    rcases Decidable.em (a1 = (1 : Int32)) with e1 | e1
    · refine gk_tabIn (tgt := 65) dX12_count_6 (1 : Int32) e1 (by decide) (by decide) rfl (by decide) ?_
      have h := h.ite.1 e1
      refine gk_aload_n dX12_count_65 rfl rfl ?_
      refine gk_getI fr_X12_79 si_14_3 (by decide) dX12_count_66 ?_
      exact gk_iret dX12_count_69 rfl h
    · have h := h.ite.2 e1
      rcases Decidable.em (a1 = (2 : Int32)) with e2 | e2
      · refine gk_tabIn (tgt := 70) dX12_count_6 (2 : Int32) e2 (by decide) (by decide) rfl (by decide) ?_
        have h := h.ite.1 e2
        refine gk_aload_n dX12_count_70 rfl rfl ?_
        refine gk_getI fr_X12_7 si_14_1 (by decide) dX12_count_71 ?_
        exact gk_iret dX12_count_74 rfl h
      · have h := h.ite.2 e2
        rcases Decidable.em (a1 = (3 : Int32)) with e3 | e3
        · refine gk_tabIn (tgt := 75) dX12_count_6 (3 : Int32) e3 (by decide) (by decide) rfl (by decide) ?_
          have h := h.ite.1 e3
          refine gk_aload_n dX12_count_75 rfl rfl ?_
          refine gk_getI fr_X12_13 si_14_2 (by decide) dX12_count_76 ?_
          exact gk_iret dX12_count_79 rfl h
        · have h := h.ite.2 e3
          rcases Decidable.em (a1 = (4 : Int32)) with e4 | e4
          · refine gk_tabIn (tgt := 80) dX12_count_6 (4 : Int32) e4 (by decide) (by decide) rfl (by decide) ?_
            have h := h.ite.1 e4
            refine gk_aload_n dX12_count_80 rfl rfl ?_
            refine gk_aload_n dX12_count_81 rfl rfl ?_
            refine gk_get (v := gk_R 16 3) fr_X12_32 pf_14_10 (by decide) dX12_count_82 ?_
            refine gk_callI (As := [gk_R 14 0, gk_R 16 3]) (st := []) 0 (cr_X12_242 (by decide) rfl) (fun K' h' => ok_X12_sumOf 3 M1 K' h') rfl (by decide) (by decide) (fun _ => Nat.le_of_ble_eq_true rfl) dX12_count_85 h (fun r3 M2 h => ?_)
            exact gk_iret dX12_count_88 rfl h
          · have h := h.ite.2 e4
            rcases Decidable.em (a1 = (5 : Int32)) with e5 | e5
            · refine gk_tabIn (tgt := 89) dX12_count_6 (5 : Int32) e5 (by decide) (by decide) rfl (by decide) ?_
              have h := h.ite.1 e5
              refine gk_aload_n dX12_count_89 rfl rfl ?_
              refine gk_aload_n dX12_count_90 rfl rfl ?_
              refine gk_get (v := gk_R 16 2) fr_X12_29 pf_14_9 (by decide) dX12_count_91 ?_
              refine gk_callI (As := [gk_R 14 0, gk_R 16 2]) (st := []) 0 (cr_X12_242 (by decide) rfl) (fun K' h' => ok_X12_sumOf 2 M1 K' h') rfl (by decide) (by decide) (fun _ => Nat.le_of_ble_eq_true rfl) dX12_count_94 h (fun r5 M4 h => ?_)
              exact gk_iret dX12_count_97 rfl h
            · have h := h.ite.2 e5
              rcases Decidable.em (a1 = (6 : Int32)) with e6 | e6
              · refine gk_tabIn (tgt := 98) dX12_count_6 (6 : Int32) e6 (by decide) (by decide) rfl (by decide) ?_
                have h := h.ite.1 e6
                refine gk_aload_n dX12_count_98 rfl rfl ?_
                refine gk_getI fr_X12_124 si_14_4 (by decide) dX12_count_99 ?_
                exact gk_iret dX12_count_102 rfl h
              · have h := h.ite.2 e6
                rcases Decidable.em (a1 = (7 : Int32)) with e7 | e7
                · refine gk_tabIn (tgt := 103) dX12_count_6 (7 : Int32) e7 (by decide) (by decide) rfl (by decide) ?_
                  have h := h.ite.1 e7
                  refine gk_aload_n dX12_count_103 rfl rfl ?_
                  refine gk_callI (As := [gk_R 14 0]) (st := []) 3 (cr_X12_246 (by decide) rfl) (fun K' h' => ok_X12_openLeads M1 K' h') rfl (by decide) (by decide) (fun _ => Nat.le_of_ble_eq_true rfl) dX12_count_104 h (fun r7 M6 h => ?_)
                  exact gk_iret dX12_count_107 rfl h
                · have h := h.ite.2 e7
                  rcases Decidable.em (a1 = (8 : Int32)) with e8 | e8
                  · refine gk_tabIn (tgt := 108) dX12_count_6 (8 : Int32) e8 (by decide) (by decide) rfl (by decide) ?_
                    have h := h.ite.1 e8
                    refine gk_aload_n dX12_count_108 rfl rfl ?_
                    refine gk_getI fr_X12_137 si_14_24 (by decide) dX12_count_109 ?_
                    exact gk_iret dX12_count_112 rfl h
                  · have h := h.ite.2 e8
                    rcases Decidable.em (a1 = (9 : Int32)) with e9 | e9
                    · refine gk_tabIn (tgt := 113) dX12_count_6 (9 : Int32) e9 (by decide) (by decide) rfl (by decide) ?_
                      have h := h.ite.1 e9
                      refine gk_aload_n dX12_count_113 rfl rfl ?_
                      refine gk_getI fr_X12_230 si_14_32 (by decide) dX12_count_114 ?_
                      exact gk_iret dX12_count_117 rfl h
                    · have h := h.ite.2 e9
                      have q0 : (a1).toInt ≠ 0 := gk_ne_toInt e0
                      have q1 : (a1).toInt ≠ 1 := gk_ne_toInt e1
                      have q2 : (a1).toInt ≠ 2 := gk_ne_toInt e2
                      have q3 : (a1).toInt ≠ 3 := gk_ne_toInt e3
                      have q4 : (a1).toInt ≠ 4 := gk_ne_toInt e4
                      have q5 : (a1).toInt ≠ 5 := gk_ne_toInt e5
                      have q6 : (a1).toInt ≠ 6 := gk_ne_toInt e6
                      have q7 : (a1).toInt ≠ 7 := gk_ne_toInt e7
                      have q8 : (a1).toInt ≠ 8 := gk_ne_toInt e8
                      have q9 : (a1).toInt ≠ 9 := gk_ne_toInt e9
                      refine gk_tabOut (tgt := 118) dX12_count_6 (by omega) (by decide) ?_
                      refine gk_iload_n dX12_count_118 rfl rfl ?_
                      refine gk_i2l dX12_count_119 ?_
                      refine gk_ldc2 dX12_count_120 kc_X12_249 ?_
                      refine gk_ldc2 dX12_count_123 kc_X12_251 ?_
                      refine gk_callI (As := [gk_L (Int32.toInt64 a1), gk_L (11 : Int64), gk_L (16 : Int64)]) (st := []) 0 (cr_X12_71 rfl) (fun K' h' => ok_X12_in (Int32.toInt64 a1) (11 : Int64) (16 : Int64) M1 K' h') rfl (by decide) (by decide) (fun _ => Nat.le_of_ble_eq_true rfl) dX12_count_126 h (fun r9 M8 h => ?_)
                      refine gk_if_eq (tgt := 144) dX12_count_129 (by decide) h (fun h => ?_) (fun h => ?_)
                      · refine gk_bipush (v := (-9 : Int32)) dX12_count_144 (by decide) ?_
                        exact gk_iret dX12_count_146 rfl h
                      · refine gk_aload_n dX12_count_132 rfl rfl ?_
                        refine gk_get (v := gk_R 17 0) fr_X12_41 pf_14_14 (by decide) dX12_count_133 ?_
                        refine gk_iload_n dX12_count_136 rfl rfl ?_
                        refine gk_bipush (v := (10 : Int32)) dX12_count_137 (by decide) ?_
                        refine gk_isub dX12_count_139 ?_
                        refine gk_iald ga_17 (by decide) dX12_count_140 h (fun h hb10 => ?_)
                        refine gk_goto (tgt := 146) dX12_count_141 (by decide) ?_
                        exact gk_iret dX12_count_146 rfl h
