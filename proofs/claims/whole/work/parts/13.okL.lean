set_option maxRecDepth 100000 in
set_option maxHeartbeats 4000000 in
theorem ok_L_law_j1069 {K : gk_V → gk_M → Prop} (Ls : Nat) (xs : Nat → Int32) (κ18 : Int32 → gk_M → Option (Int32 × gk_M)) (hκ18 : ∀ (x3 : Int32) (M : gk_M), gk_Sat gk_I (κ18 x3 M) K → gk_G RL cL_law 4 7 (some .boolean) (some (Ls, xs)) K 18 [some (gk_R 23 0), some (gk_R 6 0), some (gk_R 14 0), some (gk_I x3)] [] M) (x3 : Int32) (M : gk_M) (h : gk_Sat gk_I (L_law_j1069 Ls xs κ18 x3 M) K) : gk_G RL cL_law 4 7 (some .boolean) (some (Ls, xs)) K 1069 [some (gk_R 23 0), some (gk_R 6 0), some (gk_R 14 0), some (gk_I x3)] [] M := by
  refine gk_iinc (v := (x3 + (6 : Int32))) (L' := [some (gk_R 23 0), some (gk_R 6 0), some (gk_R 14 0), some (gk_I (x3 + (6 : Int32)))]) dL_law_1069 rfl rfl (by decide) rfl rfl ?_
  refine gk_goto (tgt := 18) dL_law_1072 (by decide) ?_
  exact gk_weak [some (gk_R 23 0), some (gk_R 6 0), some (gk_R 14 0), some (gk_I (x3 + (6 : Int32)))] (And.intro rfl (And.intro rfl (And.intro rfl (And.intro rfl True.intro)))) (hκ18 ((x3 + (6 : Int32))) M h)
set_option maxRecDepth 100000 in
set_option maxHeartbeats 4000000 in
theorem ok_L_law_l18 {K : gk_V → gk_M → Prop} (Ls : Nat) (xs : Nat → Int32) : ∀ (n : Nat) (x3 : Int32) (M : gk_M), gk_Sat gk_I (L_law_l18 Ls xs n x3 M) K → gk_G RL cL_law 4 7 (some .boolean) (some (Ls, xs)) K 18 [some (gk_R 23 0), some (gk_R 6 0), some (gk_R 14 0), some (gk_I x3)] [] M := by
  intro n
  induction n with
  | zero => intro x3 M h; exact h.no.elim
  | succ n ih =>
    intro x3 M h
    refine gk_iload_n dL_law_18 rfl rfl ?_
    refine gk_aload_n dL_law_19 rfl rfl ?_
    refine gk_slen rfl dL_law_20 ?_
    refine gk_bipush (v := (6 : Int32)) dL_law_21 (by decide) ?_
    refine gk_isub dL_law_23 ?_
    refine gk_icmp_gt (tgt := 1075) dL_law_24 (by decide) h (fun h => ?_) (fun h => ?_)
    · refine gk_iconst (v := (1 : Int32)) dL_law_1075 (by decide) ?_
      exact gk_zret dL_law_1076 rfl h
    · refine gk_aload_n dL_law_27 rfl rfl ?_
      refine gk_iload_n dL_law_28 rfl rfl ?_
      refine gk_sld rfl dL_law_29 h (fun h hb1 => ?_)
      refine gk_bipush (v := (31 : Int32)) dL_law_30 (by decide) ?_
      refine gk_iand dL_law_32 ?_
      rcases Decidable.em (((xs (Int32.toNatClampNeg x3)) &&& (31 : Int32)) = (0 : Int32)) with e0 | e0
      · refine gk_tabIn (tgt := 168) dL_law_33 (0 : Int32) e0 (by decide) (by decide) rfl (by decide) ?_
        have h := h.ite.1 e0
        refine gk_aload_n dL_law_168 rfl rfl ?_
        refine gk_aload_n dL_law_169 rfl rfl ?_
        refine gk_iload_n dL_law_170 rfl rfl ?_
        refine gk_iconst (v := (1 : Int32)) dL_law_171 (by decide) ?_
        refine gk_iadd dL_law_172 ?_
        refine gk_sld rfl dL_law_173 h (fun h hb2 => ?_)
        refine gk_callI (As := [gk_R 6 0, gk_I (xs (Int32.toNatClampNeg (x3 + (1 : Int32))))]) (st := []) 1 (cr_L_13 (by decide) rfl) (fun K' h' => ok_X11_feed (xs (Int32.toNatClampNeg (x3 + (1 : Int32)))) M K' h') rfl (by decide) (by decide) (fun _ => Nat.le_of_ble_eq_true rfl) dL_law_174 h (fun r4 M3 h => ?_)
        refine gk_aload_n dL_law_177 rfl rfl ?_
        refine gk_aload_n dL_law_178 rfl rfl ?_
        refine gk_iload_n dL_law_179 rfl rfl ?_
        refine gk_iconst (v := (1 : Int32)) dL_law_180 (by decide) ?_
        refine gk_iadd dL_law_181 ?_
        refine gk_sld rfl dL_law_182 h (fun h hb5 => ?_)
        refine gk_callI (As := [gk_R 14 0, gk_I (xs (Int32.toNatClampNeg (x3 + (1 : Int32))))]) (st := [gk_I r4]) 1 (cr_L_17 (by decide) rfl) (fun K' h' => ok_X12_feed (xs (Int32.toNatClampNeg (x3 + (1 : Int32)))) M3 K' h') rfl (by decide) (by decide) (fun _ => Nat.le_of_ble_eq_true rfl) dL_law_183 h (fun r7 M6 h => ?_)
        refine gk_icmp_eq (tgt := 1069) dL_law_186 (by decide) h (fun h => ?_) (fun h => ?_)
        · exact gk_weak [some (gk_R 23 0), some (gk_R 6 0), some (gk_R 14 0), some (gk_I x3)] (And.intro rfl (And.intro rfl (And.intro rfl (And.intro rfl True.intro)))) (ok_L_law_j1069 Ls xs (L_law_l18 Ls xs n) ih x3 M6 h)
        · refine gk_iconst (v := (0 : Int32)) dL_law_189 (by decide) ?_
          exact gk_zret dL_law_190 rfl h
      · have h := h.ite.2 e0
        rcases Decidable.em (((xs (Int32.toNatClampNeg x3)) &&& (31 : Int32)) = (1 : Int32)) with e1 | e1
        · refine gk_tabIn (tgt := 191) dL_law_33 (1 : Int32) e1 (by decide) (by decide) rfl (by decide) ?_
          have h := h.ite.1 e1
          refine gk_aload_n dL_law_191 rfl rfl ?_
          refine gk_callI (As := [gk_R 6 0]) (st := []) 6 (cr_L_18 (by decide) rfl) (fun K' h' => ok_X11_pack M K' h') rfl (by decide) (by decide) (fun _ => Nat.le_of_ble_eq_true rfl) dL_law_192 h (fun r9 M8 h => ?_)
          refine gk_aload_n dL_law_195 rfl rfl ?_
          refine gk_callI (As := [gk_R 14 0]) (st := [gk_I r9]) 5 (cr_L_22 (by decide) rfl) (fun K' h' => ok_X12_pack M8 K' h') rfl (by decide) (by decide) (fun _ => Nat.le_of_ble_eq_true rfl) dL_law_196 h (fun r11 M10 h => ?_)
          refine gk_icmp_eq (tgt := 1069) dL_law_199 (by decide) h (fun h => ?_) (fun h => ?_)
          · exact gk_weak [some (gk_R 23 0), some (gk_R 6 0), some (gk_R 14 0), some (gk_I x3)] (And.intro rfl (And.intro rfl (And.intro rfl (And.intro rfl True.intro)))) (ok_L_law_j1069 Ls xs (L_law_l18 Ls xs n) ih x3 M10 h)
          · refine gk_iconst (v := (0 : Int32)) dL_law_202 (by decide) ?_
            exact gk_zret dL_law_203 rfl h
        · have h := h.ite.2 e1
          rcases Decidable.em (((xs (Int32.toNatClampNeg x3)) &&& (31 : Int32)) = (2 : Int32)) with e2 | e2
          · refine gk_tabIn (tgt := 204) dL_law_33 (2 : Int32) e2 (by decide) (by decide) rfl (by decide) ?_
            have h := h.ite.1 e2
            refine gk_aload_n dL_law_204 rfl rfl ?_
            refine gk_aload_n dL_law_205 rfl rfl ?_
            refine gk_iload_n dL_law_206 rfl rfl ?_
            refine gk_iconst (v := (1 : Int32)) dL_law_207 (by decide) ?_
            refine gk_iadd dL_law_208 ?_
            refine gk_sld rfl dL_law_209 h (fun h hb12 => ?_)
            refine gk_aload_n dL_law_210 rfl rfl ?_
            refine gk_iload_n dL_law_211 rfl rfl ?_
            refine gk_iconst (v := (2 : Int32)) dL_law_212 (by decide) ?_
            refine gk_iadd dL_law_213 ?_
            refine gk_sld rfl dL_law_214 h (fun h hb13 => ?_)
            refine gk_callI (As := [gk_R 6 0, gk_I (xs (Int32.toNatClampNeg (x3 + (1 : Int32)))), gk_I (xs (Int32.toNatClampNeg (x3 + (2 : Int32))))]) (st := []) 4 (cr_L_23 (by decide) rfl) (fun K' h' => ok_X11_ship (xs (Int32.toNatClampNeg (x3 + (1 : Int32)))) (xs (Int32.toNatClampNeg (x3 + (2 : Int32)))) M K' h') rfl (by decide) (by decide) (fun _ => Nat.le_of_ble_eq_true rfl) dL_law_215 h (fun r15 M14 h => ?_)
            refine gk_aload_n dL_law_218 rfl rfl ?_
            refine gk_aload_n dL_law_219 rfl rfl ?_
            refine gk_iload_n dL_law_220 rfl rfl ?_
            refine gk_iconst (v := (1 : Int32)) dL_law_221 (by decide) ?_
            refine gk_iadd dL_law_222 ?_
            refine gk_sld rfl dL_law_223 h (fun h hb16 => ?_)
            refine gk_aload_n dL_law_224 rfl rfl ?_
            refine gk_iload_n dL_law_225 rfl rfl ?_
            refine gk_iconst (v := (2 : Int32)) dL_law_226 (by decide) ?_
            refine gk_iadd dL_law_227 ?_
            refine gk_sld rfl dL_law_228 h (fun h hb17 => ?_)
            refine gk_callI (As := [gk_R 14 0, gk_I (xs (Int32.toNatClampNeg (x3 + (1 : Int32)))), gk_I (xs (Int32.toNatClampNeg (x3 + (2 : Int32))))]) (st := [gk_I r15]) 2 (cr_L_27 (by decide) rfl) (fun K' h' => ok_X12_ship (xs (Int32.toNatClampNeg (x3 + (1 : Int32)))) (xs (Int32.toNatClampNeg (x3 + (2 : Int32)))) M14 K' h') rfl (by decide) (by decide) (fun _ => Nat.le_of_ble_eq_true rfl) dL_law_229 h (fun r19 M18 h => ?_)
            refine gk_icmp_eq (tgt := 1069) dL_law_232 (by decide) h (fun h => ?_) (fun h => ?_)
            · exact gk_weak [some (gk_R 23 0), some (gk_R 6 0), some (gk_R 14 0), some (gk_I x3)] (And.intro rfl (And.intro rfl (And.intro rfl (And.intro rfl True.intro)))) (ok_L_law_j1069 Ls xs (L_law_l18 Ls xs n) ih x3 M18 h)
            · refine gk_iconst (v := (0 : Int32)) dL_law_235 (by decide) ?_
              exact gk_zret dL_law_236 rfl h
          · have h := h.ite.2 e2
            rcases Decidable.em (((xs (Int32.toNatClampNeg x3)) &&& (31 : Int32)) = (3 : Int32)) with e3 | e3
            · refine gk_tabIn (tgt := 237) dL_law_33 (3 : Int32) e3 (by decide) (by decide) rfl (by decide) ?_
              have h := h.ite.1 e3
              refine gk_aload_n dL_law_237 rfl rfl ?_
              refine gk_aload_n dL_law_238 rfl rfl ?_
              refine gk_iload_n dL_law_239 rfl rfl ?_
              refine gk_iconst (v := (1 : Int32)) dL_law_240 (by decide) ?_
              refine gk_iadd dL_law_241 ?_
              refine gk_sld rfl dL_law_242 h (fun h hb20 => ?_)
              refine gk_callI (As := [gk_R 6 0, gk_I (xs (Int32.toNatClampNeg (x3 + (1 : Int32))))]) (st := []) 1 (cr_L_28 (by decide) rfl) (fun K' h' => ok_X11_wind (xs (Int32.toNatClampNeg (x3 + (1 : Int32)))) M K' h') rfl (by decide) (by decide) (fun _ => Nat.le_of_ble_eq_true rfl) dL_law_243 h (fun r22 M21 h => ?_)
              refine gk_aload_n dL_law_246 rfl rfl ?_
              refine gk_aload_n dL_law_247 rfl rfl ?_
              refine gk_iload_n dL_law_248 rfl rfl ?_
              refine gk_iconst (v := (1 : Int32)) dL_law_249 (by decide) ?_
              refine gk_iadd dL_law_250 ?_
              refine gk_sld rfl dL_law_251 h (fun h hb23 => ?_)
              refine gk_callI (As := [gk_R 14 0, gk_I (xs (Int32.toNatClampNeg (x3 + (1 : Int32))))]) (st := [gk_I r22]) 1 (cr_L_31 (by decide) rfl) (fun K' h' => ok_X12_wind (xs (Int32.toNatClampNeg (x3 + (1 : Int32)))) M21 K' h') rfl (by decide) (by decide) (fun _ => Nat.le_of_ble_eq_true rfl) dL_law_252 h (fun r25 M24 h => ?_)
              refine gk_icmp_eq (tgt := 1069) dL_law_255 (by decide) h (fun h => ?_) (fun h => ?_)
              · exact gk_weak [some (gk_R 23 0), some (gk_R 6 0), some (gk_R 14 0), some (gk_I x3)] (And.intro rfl (And.intro rfl (And.intro rfl (And.intro rfl True.intro)))) (ok_L_law_j1069 Ls xs (L_law_l18 Ls xs n) ih x3 M24 h)
              · refine gk_iconst (v := (0 : Int32)) dL_law_258 (by decide) ?_
                exact gk_zret dL_law_259 rfl h
            · have h := h.ite.2 e3
              rcases Decidable.em (((xs (Int32.toNatClampNeg x3)) &&& (31 : Int32)) = (4 : Int32)) with e4 | e4
              · refine gk_tabIn (tgt := 260) dL_law_33 (4 : Int32) e4 (by decide) (by decide) rfl (by decide) ?_
                have h := h.ite.1 e4
                refine gk_aload_n dL_law_260 rfl rfl ?_
                refine gk_aload_n dL_law_261 rfl rfl ?_
                refine gk_iload_n dL_law_262 rfl rfl ?_
                refine gk_iconst (v := (1 : Int32)) dL_law_263 (by decide) ?_
                refine gk_iadd dL_law_264 ?_
                refine gk_sld rfl dL_law_265 h (fun h hb26 => ?_)
                refine gk_aload_n dL_law_266 rfl rfl ?_
                refine gk_iload_n dL_law_267 rfl rfl ?_
                refine gk_iconst (v := (2 : Int32)) dL_law_268 (by decide) ?_
                refine gk_iadd dL_law_269 ?_
                refine gk_sld rfl dL_law_270 h (fun h hb27 => ?_)
                refine gk_aload_n dL_law_271 rfl rfl ?_
                refine gk_iload_n dL_law_272 rfl rfl ?_
                refine gk_iconst (v := (3 : Int32)) dL_law_273 (by decide) ?_
                refine gk_iadd dL_law_274 ?_
                refine gk_sld rfl dL_law_275 h (fun h hb28 => ?_)
                refine gk_callI (As := [gk_R 6 0, gk_I (xs (Int32.toNatClampNeg (x3 + (1 : Int32)))), gk_I (xs (Int32.toNatClampNeg (x3 + (2 : Int32)))), gk_I (xs (Int32.toNatClampNeg (x3 + (3 : Int32))))]) (st := []) 3 (cr_L_32 (by decide) rfl) (fun K' h' => ok_X11_blow (xs (Int32.toNatClampNeg (x3 + (1 : Int32)))) (xs (Int32.toNatClampNeg (x3 + (2 : Int32)))) (xs (Int32.toNatClampNeg (x3 + (3 : Int32)))) M K' h') rfl (by decide) (by decide) (fun _ => Nat.le_of_ble_eq_true rfl) dL_law_276 h (fun r30 M29 h => ?_)
                refine gk_aload_n dL_law_279 rfl rfl ?_
                refine gk_aload_n dL_law_280 rfl rfl ?_
                refine gk_iload_n dL_law_281 rfl rfl ?_
                refine gk_iconst (v := (1 : Int32)) dL_law_282 (by decide) ?_
                refine gk_iadd dL_law_283 ?_
                refine gk_sld rfl dL_law_284 h (fun h hb31 => ?_)
                refine gk_aload_n dL_law_285 rfl rfl ?_
                refine gk_iload_n dL_law_286 rfl rfl ?_
                refine gk_iconst (v := (2 : Int32)) dL_law_287 (by decide) ?_
                refine gk_iadd dL_law_288 ?_
                refine gk_sld rfl dL_law_289 h (fun h hb32 => ?_)
                refine gk_aload_n dL_law_290 rfl rfl ?_
                refine gk_iload_n dL_law_291 rfl rfl ?_
                refine gk_iconst (v := (3 : Int32)) dL_law_292 (by decide) ?_
                refine gk_iadd dL_law_293 ?_
                refine gk_sld rfl dL_law_294 h (fun h hb33 => ?_)
                refine gk_callI (As := [gk_R 14 0, gk_I (xs (Int32.toNatClampNeg (x3 + (1 : Int32)))), gk_I (xs (Int32.toNatClampNeg (x3 + (2 : Int32)))), gk_I (xs (Int32.toNatClampNeg (x3 + (3 : Int32))))]) (st := [gk_I r30]) 1 (cr_L_36 (by decide) rfl) (fun K' h' => ok_X12_blow (xs (Int32.toNatClampNeg (x3 + (1 : Int32)))) (xs (Int32.toNatClampNeg (x3 + (2 : Int32)))) (xs (Int32.toNatClampNeg (x3 + (3 : Int32)))) M29 K' h') rfl (by decide) (by decide) (fun _ => Nat.le_of_ble_eq_true rfl) dL_law_295 h (fun r35 M34 h => ?_)
                refine gk_icmp_eq (tgt := 1069) dL_law_298 (by decide) h (fun h => ?_) (fun h => ?_)
                · exact gk_weak [some (gk_R 23 0), some (gk_R 6 0), some (gk_R 14 0), some (gk_I x3)] (And.intro rfl (And.intro rfl (And.intro rfl (And.intro rfl True.intro)))) (ok_L_law_j1069 Ls xs (L_law_l18 Ls xs n) ih x3 M34 h)
                · refine gk_iconst (v := (0 : Int32)) dL_law_301 (by decide) ?_
                  exact gk_zret dL_law_302 rfl h
              · have h := h.ite.2 e4
                rcases Decidable.em (((xs (Int32.toNatClampNeg x3)) &&& (31 : Int32)) = (5 : Int32)) with e5 | e5
                · refine gk_tabIn (tgt := 303) dL_law_33 (5 : Int32) e5 (by decide) (by decide) rfl (by decide) ?_
                  have h := h.ite.1 e5
                  refine gk_aload_n dL_law_303 rfl rfl ?_
                  refine gk_aload_n dL_law_304 rfl rfl ?_
                  refine gk_iload_n dL_law_305 rfl rfl ?_
                  refine gk_iconst (v := (1 : Int32)) dL_law_306 (by decide) ?_
                  refine gk_iadd dL_law_307 ?_
                  refine gk_sld rfl dL_law_308 h (fun h hb36 => ?_)
                  refine gk_aload_n dL_law_309 rfl rfl ?_
                  refine gk_iload_n dL_law_310 rfl rfl ?_
                  refine gk_iconst (v := (2 : Int32)) dL_law_311 (by decide) ?_
                  refine gk_iadd dL_law_312 ?_
                  refine gk_sld rfl dL_law_313 h (fun h hb37 => ?_)
                  refine gk_callI (As := [gk_R 6 0, gk_I (xs (Int32.toNatClampNeg (x3 + (1 : Int32)))), gk_I (xs (Int32.toNatClampNeg (x3 + (2 : Int32))))]) (st := []) 1 (cr_L_37 (by decide) rfl) (fun K' h' => ok_X11_set (xs (Int32.toNatClampNeg (x3 + (1 : Int32)))) (xs (Int32.toNatClampNeg (x3 + (2 : Int32)))) M K' h') rfl (by decide) (by decide) (fun _ => Nat.le_of_ble_eq_true rfl) dL_law_314 h (fun r39 M38 h => ?_)
                  refine gk_aload_n dL_law_317 rfl rfl ?_
                  refine gk_aload_n dL_law_318 rfl rfl ?_
                  refine gk_iload_n dL_law_319 rfl rfl ?_
                  refine gk_iconst (v := (1 : Int32)) dL_law_320 (by decide) ?_
                  refine gk_iadd dL_law_321 ?_
                  refine gk_sld rfl dL_law_322 h (fun h hb40 => ?_)
                  refine gk_aload_n dL_law_323 rfl rfl ?_
                  refine gk_iload_n dL_law_324 rfl rfl ?_
                  refine gk_iconst (v := (2 : Int32)) dL_law_325 (by decide) ?_
                  refine gk_iadd dL_law_326 ?_
                  refine gk_sld rfl dL_law_327 h (fun h hb41 => ?_)
                  refine gk_callI (As := [gk_R 14 0, gk_I (xs (Int32.toNatClampNeg (x3 + (1 : Int32)))), gk_I (xs (Int32.toNatClampNeg (x3 + (2 : Int32))))]) (st := [gk_I r39]) 1 (cr_L_40 (by decide) rfl) (fun K' h' => ok_X12_set (xs (Int32.toNatClampNeg (x3 + (1 : Int32)))) (xs (Int32.toNatClampNeg (x3 + (2 : Int32)))) M38 K' h') rfl (by decide) (by decide) (fun _ => Nat.le_of_ble_eq_true rfl) dL_law_328 h (fun r43 M42 h => ?_)
                  refine gk_icmp_eq (tgt := 1069) dL_law_331 (by decide) h (fun h => ?_) (fun h => ?_)
                  · exact gk_weak [some (gk_R 23 0), some (gk_R 6 0), some (gk_R 14 0), some (gk_I x3)] (And.intro rfl (And.intro rfl (And.intro rfl (And.intro rfl True.intro)))) (ok_L_law_j1069 Ls xs (L_law_l18 Ls xs n) ih x3 M42 h)
                  · refine gk_iconst (v := (0 : Int32)) dL_law_334 (by decide) ?_
                    exact gk_zret dL_law_335 rfl h
                · have h := h.ite.2 e5
                  rcases Decidable.em (((xs (Int32.toNatClampNeg x3)) &&& (31 : Int32)) = (6 : Int32)) with e6 | e6
                  · refine gk_tabIn (tgt := 336) dL_law_33 (6 : Int32) e6 (by decide) (by decide) rfl (by decide) ?_
                    have h := h.ite.1 e6
                    refine gk_aload_n dL_law_336 rfl rfl ?_
                    refine gk_aload_n dL_law_337 rfl rfl ?_
                    refine gk_iload_n dL_law_338 rfl rfl ?_
                    refine gk_iconst (v := (1 : Int32)) dL_law_339 (by decide) ?_
                    refine gk_iadd dL_law_340 ?_
                    refine gk_sld rfl dL_law_341 h (fun h hb44 => ?_)
                    refine gk_callI (As := [gk_R 6 0, gk_I (xs (Int32.toNatClampNeg (x3 + (1 : Int32))))]) (st := []) 5 (cr_L_41 (by decide) rfl) (fun K' h' => ok_X11_go (xs (Int32.toNatClampNeg (x3 + (1 : Int32)))) M K' h') rfl (by decide) (by decide) (fun _ => Nat.le_of_ble_eq_true rfl) dL_law_342 h (fun r46 M45 h => ?_)
                    refine gk_aload_n dL_law_345 rfl rfl ?_
                    refine gk_aload_n dL_law_346 rfl rfl ?_
                    refine gk_iload_n dL_law_347 rfl rfl ?_
                    refine gk_iconst (v := (1 : Int32)) dL_law_348 (by decide) ?_
                    refine gk_iadd dL_law_349 ?_
                    refine gk_sld rfl dL_law_350 h (fun h hb47 => ?_)
                    refine gk_callI (As := [gk_R 14 0, gk_I (xs (Int32.toNatClampNeg (x3 + (1 : Int32))))]) (st := [gk_I r46]) 4 (cr_L_44 (by decide) rfl) (fun K' h' => ok_X12_go (xs (Int32.toNatClampNeg (x3 + (1 : Int32)))) M45 K' h') rfl (by decide) (by decide) (fun _ => Nat.le_of_ble_eq_true rfl) dL_law_351 h (fun r49 M48 h => ?_)
                    refine gk_icmp_eq (tgt := 1069) dL_law_354 (by decide) h (fun h => ?_) (fun h => ?_)
                    · exact gk_weak [some (gk_R 23 0), some (gk_R 6 0), some (gk_R 14 0), some (gk_I x3)] (And.intro rfl (And.intro rfl (And.intro rfl (And.intro rfl True.intro)))) (ok_L_law_j1069 Ls xs (L_law_l18 Ls xs n) ih x3 M48 h)
                    · refine gk_iconst (v := (0 : Int32)) dL_law_357 (by decide) ?_
                      exact gk_zret dL_law_358 rfl h
                  · have h := h.ite.2 e6
                    rcases Decidable.em (((xs (Int32.toNatClampNeg x3)) &&& (31 : Int32)) = (7 : Int32)) with e7 | e7
                    · refine gk_tabIn (tgt := 359) dL_law_33 (7 : Int32) e7 (by decide) (by decide) rfl (by decide) ?_
                      have h := h.ite.1 e7
                      refine gk_aload_n dL_law_359 rfl rfl ?_
                      refine gk_aload_n dL_law_360 rfl rfl ?_
                      refine gk_iload_n dL_law_361 rfl rfl ?_
                      refine gk_iconst (v := (1 : Int32)) dL_law_362 (by decide) ?_
                      refine gk_iadd dL_law_363 ?_
                      refine gk_sld rfl dL_law_364 h (fun h hb50 => ?_)
                      refine gk_aload_n dL_law_365 rfl rfl ?_
                      refine gk_iload_n dL_law_366 rfl rfl ?_
                      refine gk_iconst (v := (2 : Int32)) dL_law_367 (by decide) ?_
                      refine gk_iadd dL_law_368 ?_
                      refine gk_sld rfl dL_law_369 h (fun h hb51 => ?_)
                      refine gk_callI (As := [gk_R 6 0, gk_I (xs (Int32.toNatClampNeg (x3 + (1 : Int32)))), gk_I (xs (Int32.toNatClampNeg (x3 + (2 : Int32))))]) (st := []) 3 (cr_L_45 (by decide) rfl) (fun K' h' => ok_X11_far (xs (Int32.toNatClampNeg (x3 + (1 : Int32)))) (xs (Int32.toNatClampNeg (x3 + (2 : Int32)))) M K' h') rfl (by decide) (by decide) (fun _ => Nat.le_of_ble_eq_true rfl) dL_law_370 h (fun r53 M52 h => ?_)
                      refine gk_aload_n dL_law_373 rfl rfl ?_
                      refine gk_aload_n dL_law_374 rfl rfl ?_
                      refine gk_iload_n dL_law_375 rfl rfl ?_
                      refine gk_iconst (v := (1 : Int32)) dL_law_376 (by decide) ?_
                      refine gk_iadd dL_law_377 ?_
                      refine gk_sld rfl dL_law_378 h (fun h hb54 => ?_)
                      refine gk_aload_n dL_law_379 rfl rfl ?_
                      refine gk_iload_n dL_law_380 rfl rfl ?_
                      refine gk_iconst (v := (2 : Int32)) dL_law_381 (by decide) ?_
                      refine gk_iadd dL_law_382 ?_
                      refine gk_sld rfl dL_law_383 h (fun h hb55 => ?_)
                      refine gk_callI (As := [gk_R 14 0, gk_I (xs (Int32.toNatClampNeg (x3 + (1 : Int32)))), gk_I (xs (Int32.toNatClampNeg (x3 + (2 : Int32))))]) (st := [gk_I r53]) 3 (cr_L_48 (by decide) rfl) (fun K' h' => ok_X12_far (xs (Int32.toNatClampNeg (x3 + (1 : Int32)))) (xs (Int32.toNatClampNeg (x3 + (2 : Int32)))) M52 K' h') rfl (by decide) (by decide) (fun _ => Nat.le_of_ble_eq_true rfl) dL_law_384 h (fun r57 M56 h => ?_)
                      refine gk_icmp_eq (tgt := 1069) dL_law_387 (by decide) h (fun h => ?_) (fun h => ?_)
                      · exact gk_weak [some (gk_R 23 0), some (gk_R 6 0), some (gk_R 14 0), some (gk_I x3)] (And.intro rfl (And.intro rfl (And.intro rfl (And.intro rfl True.intro)))) (ok_L_law_j1069 Ls xs (L_law_l18 Ls xs n) ih x3 M56 h)
                      · refine gk_iconst (v := (0 : Int32)) dL_law_390 (by decide) ?_
                        exact gk_zret dL_law_391 rfl h
                    · have h := h.ite.2 e7
                      rcases Decidable.em (((xs (Int32.toNatClampNeg x3)) &&& (31 : Int32)) = (8 : Int32)) with e8 | e8
                      · refine gk_tabIn (tgt := 392) dL_law_33 (8 : Int32) e8 (by decide) (by decide) rfl (by decide) ?_
                        have h := h.ite.1 e8
                        refine gk_aload_n dL_law_392 rfl rfl ?_
                        refine gk_aload_n dL_law_393 rfl rfl ?_
                        refine gk_iload_n dL_law_394 rfl rfl ?_
                        refine gk_iconst (v := (1 : Int32)) dL_law_395 (by decide) ?_
                        refine gk_iadd dL_law_396 ?_
                        refine gk_sld rfl dL_law_397 h (fun h hb58 => ?_)
                        refine gk_aload_n dL_law_398 rfl rfl ?_
                        refine gk_iload_n dL_law_399 rfl rfl ?_
                        refine gk_iconst (v := (2 : Int32)) dL_law_400 (by decide) ?_
                        refine gk_iadd dL_law_401 ?_
                        refine gk_sld rfl dL_law_402 h (fun h hb59 => ?_)
                        refine gk_aload_n dL_law_403 rfl rfl ?_
                        refine gk_iload_n dL_law_404 rfl rfl ?_
                        refine gk_iconst (v := (3 : Int32)) dL_law_405 (by decide) ?_
                        refine gk_iadd dL_law_406 ?_
                        refine gk_sld rfl dL_law_407 h (fun h hb60 => ?_)
                        refine gk_callI (As := [gk_R 6 0, gk_I (xs (Int32.toNatClampNeg (x3 + (1 : Int32)))), gk_I (xs (Int32.toNatClampNeg (x3 + (2 : Int32)))), gk_I (xs (Int32.toNatClampNeg (x3 + (3 : Int32))))]) (st := []) 3 (cr_L_49 (by decide) rfl) (fun K' h' => ok_X11_open (xs (Int32.toNatClampNeg (x3 + (1 : Int32)))) (xs (Int32.toNatClampNeg (x3 + (2 : Int32)))) (xs (Int32.toNatClampNeg (x3 + (3 : Int32)))) M K' h') rfl (by decide) (by decide) (fun _ => Nat.le_of_ble_eq_true rfl) dL_law_408 h (fun r62 M61 h => ?_)
                        refine gk_aload_n dL_law_411 rfl rfl ?_
                        refine gk_aload_n dL_law_412 rfl rfl ?_
                        refine gk_iload_n dL_law_413 rfl rfl ?_
                        refine gk_iconst (v := (1 : Int32)) dL_law_414 (by decide) ?_
                        refine gk_iadd dL_law_415 ?_
                        refine gk_sld rfl dL_law_416 h (fun h hb63 => ?_)
                        refine gk_aload_n dL_law_417 rfl rfl ?_
                        refine gk_iload_n dL_law_418 rfl rfl ?_
                        refine gk_iconst (v := (2 : Int32)) dL_law_419 (by decide) ?_
                        refine gk_iadd dL_law_420 ?_
                        refine gk_sld rfl dL_law_421 h (fun h hb64 => ?_)
                        refine gk_aload_n dL_law_422 rfl rfl ?_
                        refine gk_iload_n dL_law_423 rfl rfl ?_
                        refine gk_iconst (v := (3 : Int32)) dL_law_424 (by decide) ?_
                        refine gk_iadd dL_law_425 ?_
                        refine gk_sld rfl dL_law_426 h (fun h hb65 => ?_)
                        refine gk_callI (As := [gk_R 14 0, gk_I (xs (Int32.toNatClampNeg (x3 + (1 : Int32)))), gk_I (xs (Int32.toNatClampNeg (x3 + (2 : Int32)))), gk_I (xs (Int32.toNatClampNeg (x3 + (3 : Int32))))]) (st := [gk_I r62]) 3 (cr_L_52 (by decide) rfl) (fun K' h' => ok_X12_open (xs (Int32.toNatClampNeg (x3 + (1 : Int32)))) (xs (Int32.toNatClampNeg (x3 + (2 : Int32)))) (xs (Int32.toNatClampNeg (x3 + (3 : Int32)))) M61 K' h') rfl (by decide) (by decide) (fun _ => Nat.le_of_ble_eq_true rfl) dL_law_427 h (fun r67 M66 h => ?_)
                        refine gk_icmp_eq (tgt := 1069) dL_law_430 (by decide) h (fun h => ?_) (fun h => ?_)
                        · exact gk_weak [some (gk_R 23 0), some (gk_R 6 0), some (gk_R 14 0), some (gk_I x3)] (And.intro rfl (And.intro rfl (And.intro rfl (And.intro rfl True.intro)))) (ok_L_law_j1069 Ls xs (L_law_l18 Ls xs n) ih x3 M66 h)
                        · refine gk_iconst (v := (0 : Int32)) dL_law_433 (by decide) ?_
                          exact gk_zret dL_law_434 rfl h
                      · have h := h.ite.2 e8
                        rcases Decidable.em (((xs (Int32.toNatClampNeg x3)) &&& (31 : Int32)) = (9 : Int32)) with e9 | e9
                        · refine gk_tabIn (tgt := 435) dL_law_33 (9 : Int32) e9 (by decide) (by decide) rfl (by decide) ?_
                          have h := h.ite.1 e9
                          refine gk_aload_n dL_law_435 rfl rfl ?_
                          refine gk_aload_n dL_law_436 rfl rfl ?_
                          refine gk_iload_n dL_law_437 rfl rfl ?_
                          refine gk_iconst (v := (1 : Int32)) dL_law_438 (by decide) ?_
                          refine gk_iadd dL_law_439 ?_
                          refine gk_sld rfl dL_law_440 h (fun h hb68 => ?_)
                          refine gk_aload_n dL_law_441 rfl rfl ?_
                          refine gk_iload_n dL_law_442 rfl rfl ?_
                          refine gk_iconst (v := (2 : Int32)) dL_law_443 (by decide) ?_
                          refine gk_iadd dL_law_444 ?_
                          refine gk_sld rfl dL_law_445 h (fun h hb69 => ?_)
                          refine gk_callL (As := [gk_R 6 0, gk_I (xs (Int32.toNatClampNeg (x3 + (1 : Int32)))), gk_I (xs (Int32.toNatClampNeg (x3 + (2 : Int32))))]) (st := []) 5 (cr_L_53 (by decide) rfl) (fun K' h' => ok_X11_behind (xs (Int32.toNatClampNeg (x3 + (1 : Int32)))) (xs (Int32.toNatClampNeg (x3 + (2 : Int32)))) M K' h') rfl (by decide) (by decide) (fun _ => Nat.le_of_ble_eq_true rfl) dL_law_446 h (fun r71 M70 h => ?_)
                          refine gk_aload_n dL_law_449 rfl rfl ?_
                          refine gk_aload_n dL_law_450 rfl rfl ?_
                          refine gk_iload_n dL_law_451 rfl rfl ?_
                          refine gk_iconst (v := (1 : Int32)) dL_law_452 (by decide) ?_
                          refine gk_iadd dL_law_453 ?_
                          refine gk_sld rfl dL_law_454 h (fun h hb72 => ?_)
                          refine gk_aload_n dL_law_455 rfl rfl ?_
                          refine gk_iload_n dL_law_456 rfl rfl ?_
                          refine gk_iconst (v := (2 : Int32)) dL_law_457 (by decide) ?_
                          refine gk_iadd dL_law_458 ?_
                          refine gk_sld rfl dL_law_459 h (fun h hb73 => ?_)
                          refine gk_callL (As := [gk_R 14 0, gk_I (xs (Int32.toNatClampNeg (x3 + (1 : Int32)))), gk_I (xs (Int32.toNatClampNeg (x3 + (2 : Int32))))]) (st := [gk_L r71]) 4 (cr_L_57 (by decide) rfl) (fun K' h' => ok_X12_behind (xs (Int32.toNatClampNeg (x3 + (1 : Int32)))) (xs (Int32.toNatClampNeg (x3 + (2 : Int32)))) M70 K' h') rfl (by decide) (by decide) (fun _ => Nat.le_of_ble_eq_true rfl) dL_law_460 h (fun r75 M74 h => ?_)
                          refine gk_lcmp dL_law_463 ?_
                          refine gk_if_eq (tgt := 1069) dL_law_464 (by decide) h (fun h => ?_) (fun h => ?_)
                          · exact gk_weak [some (gk_R 23 0), some (gk_R 6 0), some (gk_R 14 0), some (gk_I x3)] (And.intro rfl (And.intro rfl (And.intro rfl (And.intro rfl True.intro)))) (ok_L_law_j1069 Ls xs (L_law_l18 Ls xs n) ih x3 M74 h)
                          · refine gk_iconst (v := (0 : Int32)) dL_law_467 (by decide) ?_
                            exact gk_zret dL_law_468 rfl h
                        · have h := h.ite.2 e9
                          rcases Decidable.em (((xs (Int32.toNatClampNeg x3)) &&& (31 : Int32)) = (10 : Int32)) with e10 | e10
                          · refine gk_tabIn (tgt := 469) dL_law_33 (10 : Int32) e10 (by decide) (by decide) rfl (by decide) ?_
                            have h := h.ite.1 e10
                            refine gk_aload_n dL_law_469 rfl rfl ?_
                            refine gk_aload_n dL_law_470 rfl rfl ?_
                            refine gk_iload_n dL_law_471 rfl rfl ?_
                            refine gk_iconst (v := (1 : Int32)) dL_law_472 (by decide) ?_
                            refine gk_iadd dL_law_473 ?_
                            refine gk_sld rfl dL_law_474 h (fun h hb76 => ?_)
                            refine gk_aload_n dL_law_475 rfl rfl ?_
                            refine gk_iload_n dL_law_476 rfl rfl ?_
                            refine gk_iconst (v := (2 : Int32)) dL_law_477 (by decide) ?_
                            refine gk_iadd dL_law_478 ?_
                            refine gk_sld rfl dL_law_479 h (fun h hb77 => ?_)
                            refine gk_callI (As := [gk_R 6 0, gk_I (xs (Int32.toNatClampNeg (x3 + (1 : Int32)))), gk_I (xs (Int32.toNatClampNeg (x3 + (2 : Int32))))]) (st := []) 5 (cr_L_58 (by decide) rfl) (fun K' h' => ok_X11_meet (xs (Int32.toNatClampNeg (x3 + (1 : Int32)))) (xs (Int32.toNatClampNeg (x3 + (2 : Int32)))) M K' h') rfl (by decide) (by decide) (fun _ => Nat.le_of_ble_eq_true rfl) dL_law_480 h (fun r79 M78 h => ?_)
                            refine gk_aload_n dL_law_483 rfl rfl ?_
                            refine gk_aload_n dL_law_484 rfl rfl ?_
                            refine gk_iload_n dL_law_485 rfl rfl ?_
                            refine gk_iconst (v := (1 : Int32)) dL_law_486 (by decide) ?_
                            refine gk_iadd dL_law_487 ?_
                            refine gk_sld rfl dL_law_488 h (fun h hb80 => ?_)
                            refine gk_aload_n dL_law_489 rfl rfl ?_
                            refine gk_iload_n dL_law_490 rfl rfl ?_
                            refine gk_iconst (v := (2 : Int32)) dL_law_491 (by decide) ?_
                            refine gk_iadd dL_law_492 ?_
                            refine gk_sld rfl dL_law_493 h (fun h hb81 => ?_)
                            refine gk_callI (As := [gk_R 14 0, gk_I (xs (Int32.toNatClampNeg (x3 + (1 : Int32)))), gk_I (xs (Int32.toNatClampNeg (x3 + (2 : Int32))))]) (st := [gk_I r79]) 4 (cr_L_61 (by decide) rfl) (fun K' h' => ok_X12_meet (xs (Int32.toNatClampNeg (x3 + (1 : Int32)))) (xs (Int32.toNatClampNeg (x3 + (2 : Int32)))) M78 K' h') rfl (by decide) (by decide) (fun _ => Nat.le_of_ble_eq_true rfl) dL_law_494 h (fun r83 M82 h => ?_)
                            refine gk_icmp_eq (tgt := 1069) dL_law_497 (by decide) h (fun h => ?_) (fun h => ?_)
                            · exact gk_weak [some (gk_R 23 0), some (gk_R 6 0), some (gk_R 14 0), some (gk_I x3)] (And.intro rfl (And.intro rfl (And.intro rfl (And.intro rfl True.intro)))) (ok_L_law_j1069 Ls xs (L_law_l18 Ls xs n) ih x3 M82 h)
                            · refine gk_iconst (v := (0 : Int32)) dL_law_500 (by decide) ?_
                              exact gk_zret dL_law_501 rfl h
                          · have h := h.ite.2 e10
                            rcases Decidable.em (((xs (Int32.toNatClampNeg x3)) &&& (31 : Int32)) = (11 : Int32)) with e11 | e11
                            · refine gk_tabIn (tgt := 502) dL_law_33 (11 : Int32) e11 (by decide) (by decide) rfl (by decide) ?_
                              have h := h.ite.1 e11
                              refine gk_aload_n dL_law_502 rfl rfl ?_
                              refine gk_aload_n dL_law_503 rfl rfl ?_
                              refine gk_iload_n dL_law_504 rfl rfl ?_
                              refine gk_iconst (v := (1 : Int32)) dL_law_505 (by decide) ?_
                              refine gk_iadd dL_law_506 ?_
                              refine gk_sld rfl dL_law_507 h (fun h hb84 => ?_)
                              refine gk_aload_n dL_law_508 rfl rfl ?_
                              refine gk_iload_n dL_law_509 rfl rfl ?_
                              refine gk_iconst (v := (2 : Int32)) dL_law_510 (by decide) ?_
                              refine gk_iadd dL_law_511 ?_
                              refine gk_sld rfl dL_law_512 h (fun h hb85 => ?_)
                              refine gk_aload_n dL_law_513 rfl rfl ?_
                              refine gk_iload_n dL_law_514 rfl rfl ?_
                              refine gk_iconst (v := (3 : Int32)) dL_law_515 (by decide) ?_
                              refine gk_iadd dL_law_516 ?_
                              refine gk_sld rfl dL_law_517 h (fun h hb86 => ?_)
                              refine gk_aload_n dL_law_518 rfl rfl ?_
                              refine gk_iload_n dL_law_519 rfl rfl ?_
                              refine gk_iconst (v := (4 : Int32)) dL_law_520 (by decide) ?_
                              refine gk_iadd dL_law_521 ?_
                              refine gk_sld rfl dL_law_522 h (fun h hb87 => ?_)
                              refine gk_callI (As := [gk_R 6 0, gk_I (xs (Int32.toNatClampNeg (x3 + (1 : Int32)))), gk_I (xs (Int32.toNatClampNeg (x3 + (2 : Int32)))), gk_I (xs (Int32.toNatClampNeg (x3 + (3 : Int32)))), gk_I (xs (Int32.toNatClampNeg (x3 + (4 : Int32))))]) (st := []) 5 (cr_L_62 (by decide) rfl) (fun K' h' => ok_X11_nearest (xs (Int32.toNatClampNeg (x3 + (1 : Int32)))) (xs (Int32.toNatClampNeg (x3 + (2 : Int32)))) (xs (Int32.toNatClampNeg (x3 + (3 : Int32)))) (xs (Int32.toNatClampNeg (x3 + (4 : Int32)))) M K' h') rfl (by decide) (by decide) (fun _ => Nat.le_of_ble_eq_true rfl) dL_law_523 h (fun r89 M88 h => ?_)
                              refine gk_aload_n dL_law_526 rfl rfl ?_
                              refine gk_aload_n dL_law_527 rfl rfl ?_
                              refine gk_iload_n dL_law_528 rfl rfl ?_
                              refine gk_iconst (v := (1 : Int32)) dL_law_529 (by decide) ?_
                              refine gk_iadd dL_law_530 ?_
                              refine gk_sld rfl dL_law_531 h (fun h hb90 => ?_)
                              refine gk_aload_n dL_law_532 rfl rfl ?_
                              refine gk_iload_n dL_law_533 rfl rfl ?_
                              refine gk_iconst (v := (2 : Int32)) dL_law_534 (by decide) ?_
                              refine gk_iadd dL_law_535 ?_
                              refine gk_sld rfl dL_law_536 h (fun h hb91 => ?_)
                              refine gk_aload_n dL_law_537 rfl rfl ?_
                              refine gk_iload_n dL_law_538 rfl rfl ?_
                              refine gk_iconst (v := (3 : Int32)) dL_law_539 (by decide) ?_
                              refine gk_iadd dL_law_540 ?_
                              refine gk_sld rfl dL_law_541 h (fun h hb92 => ?_)
                              refine gk_aload_n dL_law_542 rfl rfl ?_
                              refine gk_iload_n dL_law_543 rfl rfl ?_
                              refine gk_iconst (v := (4 : Int32)) dL_law_544 (by decide) ?_
                              refine gk_iadd dL_law_545 ?_
                              refine gk_sld rfl dL_law_546 h (fun h hb93 => ?_)
                              refine gk_callI (As := [gk_R 14 0, gk_I (xs (Int32.toNatClampNeg (x3 + (1 : Int32)))), gk_I (xs (Int32.toNatClampNeg (x3 + (2 : Int32)))), gk_I (xs (Int32.toNatClampNeg (x3 + (3 : Int32)))), gk_I (xs (Int32.toNatClampNeg (x3 + (4 : Int32))))]) (st := [gk_I r89]) 4 (cr_L_66 (by decide) rfl) (fun K' h' => ok_X12_nearest (xs (Int32.toNatClampNeg (x3 + (1 : Int32)))) (xs (Int32.toNatClampNeg (x3 + (2 : Int32)))) (xs (Int32.toNatClampNeg (x3 + (3 : Int32)))) (xs (Int32.toNatClampNeg (x3 + (4 : Int32)))) M88 K' h') rfl (by decide) (by decide) (fun _ => Nat.le_of_ble_eq_true rfl) dL_law_547 h (fun r95 M94 h => ?_)
                              refine gk_icmp_eq (tgt := 1069) dL_law_550 (by decide) h (fun h => ?_) (fun h => ?_)
                              · exact gk_weak [some (gk_R 23 0), some (gk_R 6 0), some (gk_R 14 0), some (gk_I x3)] (And.intro rfl (And.intro rfl (And.intro rfl (And.intro rfl True.intro)))) (ok_L_law_j1069 Ls xs (L_law_l18 Ls xs n) ih x3 M94 h)
                              · refine gk_iconst (v := (0 : Int32)) dL_law_553 (by decide) ?_
                                exact gk_zret dL_law_554 rfl h
                            · have h := h.ite.2 e11
                              rcases Decidable.em (((xs (Int32.toNatClampNeg x3)) &&& (31 : Int32)) = (12 : Int32)) with e12 | e12
                              · refine gk_tabIn (tgt := 555) dL_law_33 (12 : Int32) e12 (by decide) (by decide) rfl (by decide) ?_
                                have h := h.ite.1 e12
                                refine gk_aload_n dL_law_555 rfl rfl ?_
                                refine gk_aload_n dL_law_556 rfl rfl ?_
                                refine gk_iload_n dL_law_557 rfl rfl ?_
                                refine gk_iconst (v := (1 : Int32)) dL_law_558 (by decide) ?_
                                refine gk_iadd dL_law_559 ?_
                                refine gk_sld rfl dL_law_560 h (fun h hb96 => ?_)
                                refine gk_aload_n dL_law_561 rfl rfl ?_
                                refine gk_iload_n dL_law_562 rfl rfl ?_
                                refine gk_iconst (v := (2 : Int32)) dL_law_563 (by decide) ?_
                                refine gk_iadd dL_law_564 ?_
                                refine gk_sld rfl dL_law_565 h (fun h hb97 => ?_)
                                refine gk_callI (As := [gk_R 6 0, gk_I (xs (Int32.toNatClampNeg (x3 + (1 : Int32)))), gk_I (xs (Int32.toNatClampNeg (x3 + (2 : Int32))))]) (st := []) 6 (cr_L_67 (by decide) rfl) (fun K' h' => ok_X11_there (xs (Int32.toNatClampNeg (x3 + (1 : Int32)))) (xs (Int32.toNatClampNeg (x3 + (2 : Int32)))) M K' h') rfl (by decide) (by decide) (fun _ => Nat.le_of_ble_eq_true rfl) dL_law_566 h (fun r99 M98 h => ?_)
                                refine gk_aload_n dL_law_569 rfl rfl ?_
                                refine gk_aload_n dL_law_570 rfl rfl ?_
                                refine gk_iload_n dL_law_571 rfl rfl ?_
                                refine gk_iconst (v := (1 : Int32)) dL_law_572 (by decide) ?_
                                refine gk_iadd dL_law_573 ?_
                                refine gk_sld rfl dL_law_574 h (fun h hb100 => ?_)
                                refine gk_aload_n dL_law_575 rfl rfl ?_
                                refine gk_iload_n dL_law_576 rfl rfl ?_
                                refine gk_iconst (v := (2 : Int32)) dL_law_577 (by decide) ?_
                                refine gk_iadd dL_law_578 ?_
                                refine gk_sld rfl dL_law_579 h (fun h hb101 => ?_)
                                refine gk_callI (As := [gk_R 14 0, gk_I (xs (Int32.toNatClampNeg (x3 + (1 : Int32)))), gk_I (xs (Int32.toNatClampNeg (x3 + (2 : Int32))))]) (st := [gk_I r99]) 4 (cr_L_70 (by decide) rfl) (fun K' h' => ok_X12_there (xs (Int32.toNatClampNeg (x3 + (1 : Int32)))) (xs (Int32.toNatClampNeg (x3 + (2 : Int32)))) M98 K' h') rfl (by decide) (by decide) (fun _ => Nat.le_of_ble_eq_true rfl) dL_law_580 h (fun r103 M102 h => ?_)
                                refine gk_icmp_eq (tgt := 1069) dL_law_583 (by decide) h (fun h => ?_) (fun h => ?_)
                                · exact gk_weak [some (gk_R 23 0), some (gk_R 6 0), some (gk_R 14 0), some (gk_I x3)] (And.intro rfl (And.intro rfl (And.intro rfl (And.intro rfl True.intro)))) (ok_L_law_j1069 Ls xs (L_law_l18 Ls xs n) ih x3 M102 h)
                                · refine gk_iconst (v := (0 : Int32)) dL_law_586 (by decide) ?_
                                  exact gk_zret dL_law_587 rfl h
                              · have h := h.ite.2 e12
                                rcases Decidable.em (((xs (Int32.toNatClampNeg x3)) &&& (31 : Int32)) = (13 : Int32)) with e13 | e13
                                · refine gk_tabIn (tgt := 588) dL_law_33 (13 : Int32) e13 (by decide) (by decide) rfl (by decide) ?_
                                  have h := h.ite.1 e13
                                  refine gk_aload_n dL_law_588 rfl rfl ?_
                                  refine gk_aload_n dL_law_589 rfl rfl ?_
                                  refine gk_iload_n dL_law_590 rfl rfl ?_
                                  refine gk_iconst (v := (1 : Int32)) dL_law_591 (by decide) ?_
                                  refine gk_iadd dL_law_592 ?_
                                  refine gk_sld rfl dL_law_593 h (fun h hb104 => ?_)
                                  refine gk_aload_n dL_law_594 rfl rfl ?_
                                  refine gk_iload_n dL_law_595 rfl rfl ?_
                                  refine gk_iconst (v := (2 : Int32)) dL_law_596 (by decide) ?_
                                  refine gk_iadd dL_law_597 ?_
                                  refine gk_sld rfl dL_law_598 h (fun h hb105 => ?_)
                                  refine gk_callI (As := [gk_R 6 0, gk_I (xs (Int32.toNatClampNeg (x3 + (1 : Int32)))), gk_I (xs (Int32.toNatClampNeg (x3 + (2 : Int32))))]) (st := []) 6 (cr_L_71 (by decide) rfl) (fun K' h' => ok_X11_back (xs (Int32.toNatClampNeg (x3 + (1 : Int32)))) (xs (Int32.toNatClampNeg (x3 + (2 : Int32)))) M K' h') rfl (by decide) (by decide) (fun _ => Nat.le_of_ble_eq_true rfl) dL_law_599 h (fun r107 M106 h => ?_)
                                  refine gk_aload_n dL_law_602 rfl rfl ?_
                                  refine gk_aload_n dL_law_603 rfl rfl ?_
                                  refine gk_iload_n dL_law_604 rfl rfl ?_
                                  refine gk_iconst (v := (1 : Int32)) dL_law_605 (by decide) ?_
                                  refine gk_iadd dL_law_606 ?_
                                  refine gk_sld rfl dL_law_607 h (fun h hb108 => ?_)
                                  refine gk_aload_n dL_law_608 rfl rfl ?_
                                  refine gk_iload_n dL_law_609 rfl rfl ?_
                                  refine gk_iconst (v := (2 : Int32)) dL_law_610 (by decide) ?_
                                  refine gk_iadd dL_law_611 ?_
                                  refine gk_sld rfl dL_law_612 h (fun h hb109 => ?_)
                                  refine gk_callI (As := [gk_R 14 0, gk_I (xs (Int32.toNatClampNeg (x3 + (1 : Int32)))), gk_I (xs (Int32.toNatClampNeg (x3 + (2 : Int32))))]) (st := [gk_I r107]) 4 (cr_L_74 (by decide) rfl) (fun K' h' => ok_X12_back (xs (Int32.toNatClampNeg (x3 + (1 : Int32)))) (xs (Int32.toNatClampNeg (x3 + (2 : Int32)))) M106 K' h') rfl (by decide) (by decide) (fun _ => Nat.le_of_ble_eq_true rfl) dL_law_613 h (fun r111 M110 h => ?_)
                                  refine gk_icmp_eq (tgt := 1069) dL_law_616 (by decide) h (fun h => ?_) (fun h => ?_)
                                  · exact gk_weak [some (gk_R 23 0), some (gk_R 6 0), some (gk_R 14 0), some (gk_I x3)] (And.intro rfl (And.intro rfl (And.intro rfl (And.intro rfl True.intro)))) (ok_L_law_j1069 Ls xs (L_law_l18 Ls xs n) ih x3 M110 h)
                                  · refine gk_iconst (v := (0 : Int32)) dL_law_619 (by decide) ?_
                                    exact gk_zret dL_law_620 rfl h
                                · have h := h.ite.2 e13
                                  rcases Decidable.em (((xs (Int32.toNatClampNeg x3)) &&& (31 : Int32)) = (14 : Int32)) with e14 | e14
                                  · refine gk_tabIn (tgt := 621) dL_law_33 (14 : Int32) e14 (by decide) (by decide) rfl (by decide) ?_
                                    have h := h.ite.1 e14
                                    refine gk_aload_n dL_law_621 rfl rfl ?_
                                    refine gk_aload_n dL_law_622 rfl rfl ?_
                                    refine gk_iload_n dL_law_623 rfl rfl ?_
                                    refine gk_iconst (v := (1 : Int32)) dL_law_624 (by decide) ?_
                                    refine gk_iadd dL_law_625 ?_
                                    refine gk_sld rfl dL_law_626 h (fun h hb112 => ?_)
                                    refine gk_callI (As := [gk_R 6 0, gk_I (xs (Int32.toNatClampNeg (x3 + (1 : Int32))))]) (st := []) 6 (cr_L_75 (by decide) rfl) (fun K' h' => ok_X11_news (xs (Int32.toNatClampNeg (x3 + (1 : Int32)))) M K' h') rfl (by decide) (by decide) (fun _ => Nat.le_of_ble_eq_true rfl) dL_law_627 h (fun r114 M113 h => ?_)
                                    refine gk_aload_n dL_law_630 rfl rfl ?_
                                    refine gk_aload_n dL_law_631 rfl rfl ?_
                                    refine gk_iload_n dL_law_632 rfl rfl ?_
                                    refine gk_iconst (v := (1 : Int32)) dL_law_633 (by decide) ?_
                                    refine gk_iadd dL_law_634 ?_
                                    refine gk_sld rfl dL_law_635 h (fun h hb115 => ?_)
                                    refine gk_callI (As := [gk_R 14 0, gk_I (xs (Int32.toNatClampNeg (x3 + (1 : Int32))))]) (st := [gk_I r114]) 4 (cr_L_78 (by decide) rfl) (fun K' h' => ok_X12_news (xs (Int32.toNatClampNeg (x3 + (1 : Int32)))) M113 K' h') rfl (by decide) (by decide) (fun _ => Nat.le_of_ble_eq_true rfl) dL_law_636 h (fun r117 M116 h => ?_)
                                    refine gk_icmp_eq (tgt := 1069) dL_law_639 (by decide) h (fun h => ?_) (fun h => ?_)
                                    · exact gk_weak [some (gk_R 23 0), some (gk_R 6 0), some (gk_R 14 0), some (gk_I x3)] (And.intro rfl (And.intro rfl (And.intro rfl (And.intro rfl True.intro)))) (ok_L_law_j1069 Ls xs (L_law_l18 Ls xs n) ih x3 M116 h)
                                    · refine gk_iconst (v := (0 : Int32)) dL_law_642 (by decide) ?_
                                      exact gk_zret dL_law_643 rfl h
                                  · have h := h.ite.2 e14
                                    rcases Decidable.em (((xs (Int32.toNatClampNeg x3)) &&& (31 : Int32)) = (15 : Int32)) with e15 | e15
                                    · refine gk_tabIn (tgt := 644) dL_law_33 (15 : Int32) e15 (by decide) (by decide) rfl (by decide) ?_
                                      have h := h.ite.1 e15
                                      refine gk_aload_n dL_law_644 rfl rfl ?_
                                      refine gk_aload_n dL_law_645 rfl rfl ?_
                                      refine gk_iload_n dL_law_646 rfl rfl ?_
                                      refine gk_iconst (v := (1 : Int32)) dL_law_647 (by decide) ?_
                                      refine gk_iadd dL_law_648 ?_
                                      refine gk_sld rfl dL_law_649 h (fun h hb118 => ?_)
                                      refine gk_aload_n dL_law_650 rfl rfl ?_
                                      refine gk_iload_n dL_law_651 rfl rfl ?_
                                      refine gk_iconst (v := (2 : Int32)) dL_law_652 (by decide) ?_
                                      refine gk_iadd dL_law_653 ?_
                                      refine gk_sld rfl dL_law_654 h (fun h hb119 => ?_)
                                      refine gk_callI (As := [gk_R 6 0, gk_I (xs (Int32.toNatClampNeg (x3 + (1 : Int32)))), gk_I (xs (Int32.toNatClampNeg (x3 + (2 : Int32))))]) (st := []) 5 (cr_L_79 (by decide) rfl) (fun K' h' => ok_X11_know (xs (Int32.toNatClampNeg (x3 + (1 : Int32)))) (xs (Int32.toNatClampNeg (x3 + (2 : Int32)))) M K' h') rfl (by decide) (by decide) (fun _ => Nat.le_of_ble_eq_true rfl) dL_law_655 h (fun r121 M120 h => ?_)
                                      refine gk_aload_n dL_law_658 rfl rfl ?_
                                      refine gk_aload_n dL_law_659 rfl rfl ?_
                                      refine gk_iload_n dL_law_660 rfl rfl ?_
                                      refine gk_iconst (v := (1 : Int32)) dL_law_661 (by decide) ?_
                                      refine gk_iadd dL_law_662 ?_
                                      refine gk_sld rfl dL_law_663 h (fun h hb122 => ?_)
                                      refine gk_aload_n dL_law_664 rfl rfl ?_
                                      refine gk_iload_n dL_law_665 rfl rfl ?_
                                      refine gk_iconst (v := (2 : Int32)) dL_law_666 (by decide) ?_
                                      refine gk_iadd dL_law_667 ?_
                                      refine gk_sld rfl dL_law_668 h (fun h hb123 => ?_)
                                      refine gk_callI (As := [gk_R 14 0, gk_I (xs (Int32.toNatClampNeg (x3 + (1 : Int32)))), gk_I (xs (Int32.toNatClampNeg (x3 + (2 : Int32))))]) (st := [gk_I r121]) 4 (cr_L_82 (by decide) rfl) (fun K' h' => ok_X12_know (xs (Int32.toNatClampNeg (x3 + (1 : Int32)))) (xs (Int32.toNatClampNeg (x3 + (2 : Int32)))) M120 K' h') rfl (by decide) (by decide) (fun _ => Nat.le_of_ble_eq_true rfl) dL_law_669 h (fun r125 M124 h => ?_)
                                      refine gk_icmp_eq (tgt := 1069) dL_law_672 (by decide) h (fun h => ?_) (fun h => ?_)
                                      · exact gk_weak [some (gk_R 23 0), some (gk_R 6 0), some (gk_R 14 0), some (gk_I x3)] (And.intro rfl (And.intro rfl (And.intro rfl (And.intro rfl True.intro)))) (ok_L_law_j1069 Ls xs (L_law_l18 Ls xs n) ih x3 M124 h)
                                      · refine gk_iconst (v := (0 : Int32)) dL_law_675 (by decide) ?_
                                        exact gk_zret dL_law_676 rfl h
                                    · have h := h.ite.2 e15
                                      rcases Decidable.em (((xs (Int32.toNatClampNeg x3)) &&& (31 : Int32)) = (16 : Int32)) with e16 | e16
                                      · refine gk_tabIn (tgt := 677) dL_law_33 (16 : Int32) e16 (by decide) (by decide) rfl (by decide) ?_
                                        have h := h.ite.1 e16
                                        refine gk_aload_n dL_law_677 rfl rfl ?_
                                        refine gk_callI (As := [gk_R 6 0]) (st := []) 4 (cr_L_83 (by decide) rfl) (fun K' h' => ok_X11_lost M K' h') rfl (by decide) (by decide) (fun _ => Nat.le_of_ble_eq_true rfl) dL_law_678 h (fun r127 M126 h => ?_)
                                        refine gk_aload_n dL_law_681 rfl rfl ?_
                                        refine gk_callI (As := [gk_R 14 0]) (st := [gk_I r127]) 2 (cr_L_86 (by decide) rfl) (fun K' h' => ok_X12_lost M126 K' h') rfl (by decide) (by decide) (fun _ => Nat.le_of_ble_eq_true rfl) dL_law_682 h (fun r129 M128 h => ?_)
                                        refine gk_icmp_eq (tgt := 1069) dL_law_685 (by decide) h (fun h => ?_) (fun h => ?_)
                                        · exact gk_weak [some (gk_R 23 0), some (gk_R 6 0), some (gk_R 14 0), some (gk_I x3)] (And.intro rfl (And.intro rfl (And.intro rfl (And.intro rfl True.intro)))) (ok_L_law_j1069 Ls xs (L_law_l18 Ls xs n) ih x3 M128 h)
                                        · refine gk_iconst (v := (0 : Int32)) dL_law_688 (by decide) ?_
                                          exact gk_zret dL_law_689 rfl h
                                      · have h := h.ite.2 e16
                                        rcases Decidable.em (((xs (Int32.toNatClampNeg x3)) &&& (31 : Int32)) = (17 : Int32)) with e17 | e17
                                        · refine gk_tabIn (tgt := 690) dL_law_33 (17 : Int32) e17 (by decide) (by decide) rfl (by decide) ?_
                                          have h := h.ite.1 e17
                                          refine gk_aload_n dL_law_690 rfl rfl ?_
                                          refine gk_callI (As := [gk_R 6 0]) (st := []) 5 (cr_L_87 (by decide) rfl) (fun K' h' => ok_X11_groups M K' h') rfl (by decide) (by decide) (fun _ => Nat.le_of_ble_eq_true rfl) dL_law_691 h (fun r131 M130 h => ?_)
                                          refine gk_aload_n dL_law_694 rfl rfl ?_
                                          refine gk_callI (As := [gk_R 14 0]) (st := [gk_I r131]) 4 (cr_L_90 (by decide) rfl) (fun K' h' => ok_X12_groups M130 K' h') rfl (by decide) (by decide) (fun _ => Nat.le_of_ble_eq_true rfl) dL_law_695 h (fun r133 M132 h => ?_)
                                          refine gk_icmp_eq (tgt := 1069) dL_law_698 (by decide) h (fun h => ?_) (fun h => ?_)
                                          · exact gk_weak [some (gk_R 23 0), some (gk_R 6 0), some (gk_R 14 0), some (gk_I x3)] (And.intro rfl (And.intro rfl (And.intro rfl (And.intro rfl True.intro)))) (ok_L_law_j1069 Ls xs (L_law_l18 Ls xs n) ih x3 M132 h)
                                          · refine gk_iconst (v := (0 : Int32)) dL_law_701 (by decide) ?_
                                            exact gk_zret dL_law_702 rfl h
                                        · have h := h.ite.2 e17
                                          rcases Decidable.em (((xs (Int32.toNatClampNeg x3)) &&& (31 : Int32)) = (18 : Int32)) with e18 | e18
                                          · refine gk_tabIn (tgt := 703) dL_law_33 (18 : Int32) e18 (by decide) (by decide) rfl (by decide) ?_
                                            have h := h.ite.1 e18
                                            refine gk_aload_n dL_law_703 rfl rfl ?_
                                            refine gk_aload_n dL_law_704 rfl rfl ?_
                                            refine gk_iload_n dL_law_705 rfl rfl ?_
                                            refine gk_iconst (v := (1 : Int32)) dL_law_706 (by decide) ?_
                                            refine gk_iadd dL_law_707 ?_
                                            refine gk_sld rfl dL_law_708 h (fun h hb134 => ?_)
                                            refine gk_callI (As := [gk_R 6 0, gk_I (xs (Int32.toNatClampNeg (x3 + (1 : Int32))))]) (st := []) 2 (cr_L_91 (by decide) rfl) (fun K' h' => ok_X11_hungry (xs (Int32.toNatClampNeg (x3 + (1 : Int32)))) M K' h') rfl (by decide) (by decide) (fun _ => Nat.le_of_ble_eq_true rfl) dL_law_709 h (fun r136 M135 h => ?_)
                                            refine gk_aload_n dL_law_712 rfl rfl ?_
                                            refine gk_aload_n dL_law_713 rfl rfl ?_
                                            refine gk_iload_n dL_law_714 rfl rfl ?_
                                            refine gk_iconst (v := (1 : Int32)) dL_law_715 (by decide) ?_
                                            refine gk_iadd dL_law_716 ?_
                                            refine gk_sld rfl dL_law_717 h (fun h hb137 => ?_)
                                            refine gk_callI (As := [gk_R 14 0, gk_I (xs (Int32.toNatClampNeg (x3 + (1 : Int32))))]) (st := [gk_I r136]) 3 (cr_L_94 (by decide) rfl) (fun K' h' => ok_X12_hungry (xs (Int32.toNatClampNeg (x3 + (1 : Int32)))) M135 K' h') rfl (by decide) (by decide) (fun _ => Nat.le_of_ble_eq_true rfl) dL_law_718 h (fun r139 M138 h => ?_)
                                            refine gk_icmp_eq (tgt := 1069) dL_law_721 (by decide) h (fun h => ?_) (fun h => ?_)
                                            · exact gk_weak [some (gk_R 23 0), some (gk_R 6 0), some (gk_R 14 0), some (gk_I x3)] (And.intro rfl (And.intro rfl (And.intro rfl (And.intro rfl True.intro)))) (ok_L_law_j1069 Ls xs (L_law_l18 Ls xs n) ih x3 M138 h)
                                            · refine gk_iconst (v := (0 : Int32)) dL_law_724 (by decide) ?_
                                              exact gk_zret dL_law_725 rfl h
                                          · have h := h.ite.2 e18
                                            rcases Decidable.em (((xs (Int32.toNatClampNeg x3)) &&& (31 : Int32)) = (19 : Int32)) with e19 | e19
                                            · refine gk_tabIn (tgt := 726) dL_law_33 (19 : Int32) e19 (by decide) (by decide) rfl (by decide) ?_
                                              have h := h.ite.1 e19
                                              refine gk_aload_n dL_law_726 rfl rfl ?_
                                              refine gk_aload_n dL_law_727 rfl rfl ?_
                                              refine gk_iload_n dL_law_728 rfl rfl ?_
                                              refine gk_iconst (v := (1 : Int32)) dL_law_729 (by decide) ?_
                                              refine gk_iadd dL_law_730 ?_
                                              refine gk_sld rfl dL_law_731 h (fun h hb140 => ?_)
                                              refine gk_callI (As := [gk_R 6 0, gk_I (xs (Int32.toNatClampNeg (x3 + (1 : Int32))))]) (st := []) 2 (cr_L_95 (by decide) rfl) (fun K' h' => ok_X11_lasts (xs (Int32.toNatClampNeg (x3 + (1 : Int32)))) M K' h') rfl (by decide) (by decide) (fun _ => Nat.le_of_ble_eq_true rfl) dL_law_732 h (fun r142 M141 h => ?_)
                                              refine gk_aload_n dL_law_735 rfl rfl ?_
                                              refine gk_aload_n dL_law_736 rfl rfl ?_
                                              refine gk_iload_n dL_law_737 rfl rfl ?_
                                              refine gk_iconst (v := (1 : Int32)) dL_law_738 (by decide) ?_
                                              refine gk_iadd dL_law_739 ?_
                                              refine gk_sld rfl dL_law_740 h (fun h hb143 => ?_)
                                              refine gk_callI (As := [gk_R 14 0, gk_I (xs (Int32.toNatClampNeg (x3 + (1 : Int32))))]) (st := [gk_I r142]) 2 (cr_L_98 (by decide) rfl) (fun K' h' => ok_X12_lasts (xs (Int32.toNatClampNeg (x3 + (1 : Int32)))) M141 K' h') rfl (by decide) (by decide) (fun _ => Nat.le_of_ble_eq_true rfl) dL_law_741 h (fun r145 M144 h => ?_)
                                              refine gk_icmp_eq (tgt := 1069) dL_law_744 (by decide) h (fun h => ?_) (fun h => ?_)
                                              · exact gk_weak [some (gk_R 23 0), some (gk_R 6 0), some (gk_R 14 0), some (gk_I x3)] (And.intro rfl (And.intro rfl (And.intro rfl (And.intro rfl True.intro)))) (ok_L_law_j1069 Ls xs (L_law_l18 Ls xs n) ih x3 M144 h)
                                              · refine gk_iconst (v := (0 : Int32)) dL_law_747 (by decide) ?_
                                                exact gk_zret dL_law_748 rfl h
                                            · have h := h.ite.2 e19
                                              rcases Decidable.em (((xs (Int32.toNatClampNeg x3)) &&& (31 : Int32)) = (20 : Int32)) with e20 | e20
                                              · refine gk_tabIn (tgt := 749) dL_law_33 (20 : Int32) e20 (by decide) (by decide) rfl (by decide) ?_
                                                have h := h.ite.1 e20
                                                refine gk_aload_n dL_law_749 rfl rfl ?_
                                                refine gk_aload_n dL_law_750 rfl rfl ?_
                                                refine gk_iload_n dL_law_751 rfl rfl ?_
                                                refine gk_iconst (v := (1 : Int32)) dL_law_752 (by decide) ?_
                                                refine gk_iadd dL_law_753 ?_
                                                refine gk_sld rfl dL_law_754 h (fun h hb146 => ?_)
                                                refine gk_aload_n dL_law_755 rfl rfl ?_
                                                refine gk_iload_n dL_law_756 rfl rfl ?_
                                                refine gk_iconst (v := (2 : Int32)) dL_law_757 (by decide) ?_
                                                refine gk_iadd dL_law_758 ?_
                                                refine gk_sld rfl dL_law_759 h (fun h hb147 => ?_)
                                                refine gk_callI (As := [gk_R 6 0, gk_I (xs (Int32.toNatClampNeg (x3 + (1 : Int32)))), gk_I (xs (Int32.toNatClampNeg (x3 + (2 : Int32))))]) (st := []) 3 (cr_L_99 (by decide) rfl) (fun K' h' => ok_X11_share (xs (Int32.toNatClampNeg (x3 + (1 : Int32)))) (xs (Int32.toNatClampNeg (x3 + (2 : Int32)))) M K' h') rfl (by decide) (by decide) (fun _ => Nat.le_of_ble_eq_true rfl) dL_law_760 h (fun r149 M148 h => ?_)
                                                refine gk_aload_n dL_law_763 rfl rfl ?_
                                                refine gk_aload_n dL_law_764 rfl rfl ?_
                                                refine gk_iload_n dL_law_765 rfl rfl ?_
                                                refine gk_iconst (v := (1 : Int32)) dL_law_766 (by decide) ?_
                                                refine gk_iadd dL_law_767 ?_
                                                refine gk_sld rfl dL_law_768 h (fun h hb150 => ?_)
                                                refine gk_aload_n dL_law_769 rfl rfl ?_
                                                refine gk_iload_n dL_law_770 rfl rfl ?_
                                                refine gk_iconst (v := (2 : Int32)) dL_law_771 (by decide) ?_
                                                refine gk_iadd dL_law_772 ?_
                                                refine gk_sld rfl dL_law_773 h (fun h hb151 => ?_)
                                                refine gk_callI (As := [gk_R 14 0, gk_I (xs (Int32.toNatClampNeg (x3 + (1 : Int32)))), gk_I (xs (Int32.toNatClampNeg (x3 + (2 : Int32))))]) (st := [gk_I r149]) 3 (cr_L_102 (by decide) rfl) (fun K' h' => ok_X12_share (xs (Int32.toNatClampNeg (x3 + (1 : Int32)))) (xs (Int32.toNatClampNeg (x3 + (2 : Int32)))) M148 K' h') rfl (by decide) (by decide) (fun _ => Nat.le_of_ble_eq_true rfl) dL_law_774 h (fun r153 M152 h => ?_)
                                                refine gk_icmp_eq (tgt := 1069) dL_law_777 (by decide) h (fun h => ?_) (fun h => ?_)
                                                · exact gk_weak [some (gk_R 23 0), some (gk_R 6 0), some (gk_R 14 0), some (gk_I x3)] (And.intro rfl (And.intro rfl (And.intro rfl (And.intro rfl True.intro)))) (ok_L_law_j1069 Ls xs (L_law_l18 Ls xs n) ih x3 M152 h)
                                                · refine gk_iconst (v := (0 : Int32)) dL_law_780 (by decide) ?_
                                                  exact gk_zret dL_law_781 rfl h
                                              · have h := h.ite.2 e20
                                                rcases Decidable.em (((xs (Int32.toNatClampNeg x3)) &&& (31 : Int32)) = (21 : Int32)) with e21 | e21
                                                · refine gk_tabIn (tgt := 782) dL_law_33 (21 : Int32) e21 (by decide) (by decide) rfl (by decide) ?_
                                                  have h := h.ite.1 e21
                                                  refine gk_aload_n dL_law_782 rfl rfl ?_
                                                  refine gk_aload_n dL_law_783 rfl rfl ?_
                                                  refine gk_iload_n dL_law_784 rfl rfl ?_
                                                  refine gk_iconst (v := (1 : Int32)) dL_law_785 (by decide) ?_
                                                  refine gk_iadd dL_law_786 ?_
                                                  refine gk_sld rfl dL_law_787 h (fun h hb154 => ?_)
                                                  refine gk_aload_n dL_law_788 rfl rfl ?_
                                                  refine gk_iload_n dL_law_789 rfl rfl ?_
                                                  refine gk_iconst (v := (2 : Int32)) dL_law_790 (by decide) ?_
                                                  refine gk_iadd dL_law_791 ?_
                                                  refine gk_sld rfl dL_law_792 h (fun h hb155 => ?_)
                                                  refine gk_callI (As := [gk_R 6 0, gk_I (xs (Int32.toNatClampNeg (x3 + (1 : Int32)))), gk_I (xs (Int32.toNatClampNeg (x3 + (2 : Int32))))]) (st := []) 5 (cr_L_103 (by decide) rfl) (fun K' h' => ok_X11_givenUp (xs (Int32.toNatClampNeg (x3 + (1 : Int32)))) (xs (Int32.toNatClampNeg (x3 + (2 : Int32)))) M K' h') rfl (by decide) (by decide) (fun _ => Nat.le_of_ble_eq_true rfl) dL_law_793 h (fun r157 M156 h => ?_)
                                                  refine gk_aload_n dL_law_796 rfl rfl ?_
                                                  refine gk_aload_n dL_law_797 rfl rfl ?_
                                                  refine gk_iload_n dL_law_798 rfl rfl ?_
                                                  refine gk_iconst (v := (1 : Int32)) dL_law_799 (by decide) ?_
                                                  refine gk_iadd dL_law_800 ?_
                                                  refine gk_sld rfl dL_law_801 h (fun h hb158 => ?_)
                                                  refine gk_aload_n dL_law_802 rfl rfl ?_
                                                  refine gk_iload_n dL_law_803 rfl rfl ?_
                                                  refine gk_iconst (v := (2 : Int32)) dL_law_804 (by decide) ?_
                                                  refine gk_iadd dL_law_805 ?_
                                                  refine gk_sld rfl dL_law_806 h (fun h hb159 => ?_)
                                                  refine gk_callI (As := [gk_R 14 0, gk_I (xs (Int32.toNatClampNeg (x3 + (1 : Int32)))), gk_I (xs (Int32.toNatClampNeg (x3 + (2 : Int32))))]) (st := [gk_I r157]) 4 (cr_L_106 (by decide) rfl) (fun K' h' => ok_X12_givenUp (xs (Int32.toNatClampNeg (x3 + (1 : Int32)))) (xs (Int32.toNatClampNeg (x3 + (2 : Int32)))) M156 K' h') rfl (by decide) (by decide) (fun _ => Nat.le_of_ble_eq_true rfl) dL_law_807 h (fun r161 M160 h => ?_)
                                                  refine gk_icmp_eq (tgt := 1069) dL_law_810 (by decide) h (fun h => ?_) (fun h => ?_)
                                                  · exact gk_weak [some (gk_R 23 0), some (gk_R 6 0), some (gk_R 14 0), some (gk_I x3)] (And.intro rfl (And.intro rfl (And.intro rfl (And.intro rfl True.intro)))) (ok_L_law_j1069 Ls xs (L_law_l18 Ls xs n) ih x3 M160 h)
                                                  · refine gk_iconst (v := (0 : Int32)) dL_law_813 (by decide) ?_
                                                    exact gk_zret dL_law_814 rfl h
                                                · have h := h.ite.2 e21
                                                  rcases Decidable.em (((xs (Int32.toNatClampNeg x3)) &&& (31 : Int32)) = (22 : Int32)) with e22 | e22
                                                  · refine gk_tabIn (tgt := 815) dL_law_33 (22 : Int32) e22 (by decide) (by decide) rfl (by decide) ?_
                                                    have h := h.ite.1 e22
                                                    refine gk_aload_n dL_law_815 rfl rfl ?_
                                                    refine gk_aload_n dL_law_816 rfl rfl ?_
                                                    refine gk_iload_n dL_law_817 rfl rfl ?_
                                                    refine gk_iconst (v := (1 : Int32)) dL_law_818 (by decide) ?_
                                                    refine gk_iadd dL_law_819 ?_
                                                    refine gk_sld rfl dL_law_820 h (fun h hb162 => ?_)
                                                    refine gk_aload_n dL_law_821 rfl rfl ?_
                                                    refine gk_iload_n dL_law_822 rfl rfl ?_
                                                    refine gk_iconst (v := (2 : Int32)) dL_law_823 (by decide) ?_
                                                    refine gk_iadd dL_law_824 ?_
                                                    refine gk_sld rfl dL_law_825 h (fun h hb163 => ?_)
                                                    refine gk_aload_n dL_law_826 rfl rfl ?_
                                                    refine gk_iload_n dL_law_827 rfl rfl ?_
                                                    refine gk_iconst (v := (3 : Int32)) dL_law_828 (by decide) ?_
                                                    refine gk_iadd dL_law_829 ?_
                                                    refine gk_sld rfl dL_law_830 h (fun h hb164 => ?_)
                                                    refine gk_aload_n dL_law_831 rfl rfl ?_
                                                    refine gk_iload_n dL_law_832 rfl rfl ?_
                                                    refine gk_iconst (v := (4 : Int32)) dL_law_833 (by decide) ?_
                                                    refine gk_iadd dL_law_834 ?_
                                                    refine gk_sld rfl dL_law_835 h (fun h hb165 => ?_)
                                                    refine gk_callI (As := [gk_R 6 0, gk_I (xs (Int32.toNatClampNeg (x3 + (1 : Int32)))), gk_I (xs (Int32.toNatClampNeg (x3 + (2 : Int32)))), gk_I (xs (Int32.toNatClampNeg (x3 + (3 : Int32)))), gk_I (xs (Int32.toNatClampNeg (x3 + (4 : Int32))))]) (st := []) 5 (cr_L_107 (by decide) rfl) (fun K' h' => ok_X11_home (xs (Int32.toNatClampNeg (x3 + (1 : Int32)))) (xs (Int32.toNatClampNeg (x3 + (2 : Int32)))) (xs (Int32.toNatClampNeg (x3 + (3 : Int32)))) (xs (Int32.toNatClampNeg (x3 + (4 : Int32)))) M K' h') rfl (by decide) (by decide) (fun _ => Nat.le_of_ble_eq_true rfl) dL_law_836 h (fun r167 M166 h => ?_)
                                                    refine gk_aload_n dL_law_839 rfl rfl ?_
                                                    refine gk_aload_n dL_law_840 rfl rfl ?_
                                                    refine gk_iload_n dL_law_841 rfl rfl ?_
                                                    refine gk_iconst (v := (1 : Int32)) dL_law_842 (by decide) ?_
                                                    refine gk_iadd dL_law_843 ?_
                                                    refine gk_sld rfl dL_law_844 h (fun h hb168 => ?_)
                                                    refine gk_aload_n dL_law_845 rfl rfl ?_
                                                    refine gk_iload_n dL_law_846 rfl rfl ?_
                                                    refine gk_iconst (v := (2 : Int32)) dL_law_847 (by decide) ?_
                                                    refine gk_iadd dL_law_848 ?_
                                                    refine gk_sld rfl dL_law_849 h (fun h hb169 => ?_)
                                                    refine gk_aload_n dL_law_850 rfl rfl ?_
                                                    refine gk_iload_n dL_law_851 rfl rfl ?_
                                                    refine gk_iconst (v := (3 : Int32)) dL_law_852 (by decide) ?_
                                                    refine gk_iadd dL_law_853 ?_
                                                    refine gk_sld rfl dL_law_854 h (fun h hb170 => ?_)
                                                    refine gk_aload_n dL_law_855 rfl rfl ?_
                                                    refine gk_iload_n dL_law_856 rfl rfl ?_
                                                    refine gk_iconst (v := (4 : Int32)) dL_law_857 (by decide) ?_
                                                    refine gk_iadd dL_law_858 ?_
                                                    refine gk_sld rfl dL_law_859 h (fun h hb171 => ?_)
                                                    refine gk_callI (As := [gk_R 14 0, gk_I (xs (Int32.toNatClampNeg (x3 + (1 : Int32)))), gk_I (xs (Int32.toNatClampNeg (x3 + (2 : Int32)))), gk_I (xs (Int32.toNatClampNeg (x3 + (3 : Int32)))), gk_I (xs (Int32.toNatClampNeg (x3 + (4 : Int32))))]) (st := [gk_I r167]) 4 (cr_L_110 (by decide) rfl) (fun K' h' => ok_X12_home (xs (Int32.toNatClampNeg (x3 + (1 : Int32)))) (xs (Int32.toNatClampNeg (x3 + (2 : Int32)))) (xs (Int32.toNatClampNeg (x3 + (3 : Int32)))) (xs (Int32.toNatClampNeg (x3 + (4 : Int32)))) M166 K' h') rfl (by decide) (by decide) (fun _ => Nat.le_of_ble_eq_true rfl) dL_law_860 h (fun r173 M172 h => ?_)
                                                    refine gk_icmp_eq (tgt := 1069) dL_law_863 (by decide) h (fun h => ?_) (fun h => ?_)
                                                    · exact gk_weak [some (gk_R 23 0), some (gk_R 6 0), some (gk_R 14 0), some (gk_I x3)] (And.intro rfl (And.intro rfl (And.intro rfl (And.intro rfl True.intro)))) (ok_L_law_j1069 Ls xs (L_law_l18 Ls xs n) ih x3 M172 h)
                                                    · refine gk_iconst (v := (0 : Int32)) dL_law_866 (by decide) ?_
                                                      exact gk_zret dL_law_867 rfl h
                                                  · have h := h.ite.2 e22
                                                    rcases Decidable.em (((xs (Int32.toNatClampNeg x3)) &&& (31 : Int32)) = (23 : Int32)) with e23 | e23
                                                    · refine gk_tabIn (tgt := 868) dL_law_33 (23 : Int32) e23 (by decide) (by decide) rfl (by decide) ?_
                                                      have h := h.ite.1 e23
                                                      refine gk_aload_n dL_law_868 rfl rfl ?_
                                                      refine gk_aload_n dL_law_869 rfl rfl ?_
                                                      refine gk_iload_n dL_law_870 rfl rfl ?_
                                                      refine gk_iconst (v := (1 : Int32)) dL_law_871 (by decide) ?_
                                                      refine gk_iadd dL_law_872 ?_
                                                      refine gk_sld rfl dL_law_873 h (fun h hb174 => ?_)
                                                      refine gk_aload_n dL_law_874 rfl rfl ?_
                                                      refine gk_iload_n dL_law_875 rfl rfl ?_
                                                      refine gk_iconst (v := (2 : Int32)) dL_law_876 (by decide) ?_
                                                      refine gk_iadd dL_law_877 ?_
                                                      refine gk_sld rfl dL_law_878 h (fun h hb175 => ?_)
                                                      refine gk_aload_n dL_law_879 rfl rfl ?_
                                                      refine gk_iload_n dL_law_880 rfl rfl ?_
                                                      refine gk_iconst (v := (3 : Int32)) dL_law_881 (by decide) ?_
                                                      refine gk_iadd dL_law_882 ?_
                                                      refine gk_sld rfl dL_law_883 h (fun h hb176 => ?_)
                                                      refine gk_aload_n dL_law_884 rfl rfl ?_
                                                      refine gk_iload_n dL_law_885 rfl rfl ?_
                                                      refine gk_iconst (v := (4 : Int32)) dL_law_886 (by decide) ?_
                                                      refine gk_iadd dL_law_887 ?_
                                                      refine gk_sld rfl dL_law_888 h (fun h hb177 => ?_)
                                                      refine gk_aload_n dL_law_889 rfl rfl ?_
                                                      refine gk_iload_n dL_law_890 rfl rfl ?_
                                                      refine gk_iconst (v := (5 : Int32)) dL_law_891 (by decide) ?_
                                                      refine gk_iadd dL_law_892 ?_
                                                      refine gk_sld rfl dL_law_893 h (fun h hb178 => ?_)
                                                      refine gk_callI (As := [gk_R 6 0, gk_I (xs (Int32.toNatClampNeg (x3 + (1 : Int32)))), gk_I (xs (Int32.toNatClampNeg (x3 + (2 : Int32)))), gk_I (xs (Int32.toNatClampNeg (x3 + (3 : Int32)))), gk_I (xs (Int32.toNatClampNeg (x3 + (4 : Int32)))), gk_I (xs (Int32.toNatClampNeg (x3 + (5 : Int32))))]) (st := []) 4 (cr_L_111 (by decide) rfl) (fun K' h' => ok_X11_kinds (xs (Int32.toNatClampNeg (x3 + (1 : Int32)))) (xs (Int32.toNatClampNeg (x3 + (2 : Int32)))) (xs (Int32.toNatClampNeg (x3 + (3 : Int32)))) (xs (Int32.toNatClampNeg (x3 + (4 : Int32)))) (xs (Int32.toNatClampNeg (x3 + (5 : Int32)))) M K' h') rfl (by decide) (by decide) (fun _ => Nat.le_of_ble_eq_true rfl) dL_law_894 h (fun r180 M179 h => ?_)
                                                      refine gk_aload_n dL_law_897 rfl rfl ?_
                                                      refine gk_aload_n dL_law_898 rfl rfl ?_
                                                      refine gk_iload_n dL_law_899 rfl rfl ?_
                                                      refine gk_iconst (v := (1 : Int32)) dL_law_900 (by decide) ?_
                                                      refine gk_iadd dL_law_901 ?_
                                                      refine gk_sld rfl dL_law_902 h (fun h hb181 => ?_)
                                                      refine gk_aload_n dL_law_903 rfl rfl ?_
                                                      refine gk_iload_n dL_law_904 rfl rfl ?_
                                                      refine gk_iconst (v := (2 : Int32)) dL_law_905 (by decide) ?_
                                                      refine gk_iadd dL_law_906 ?_
                                                      refine gk_sld rfl dL_law_907 h (fun h hb182 => ?_)
                                                      refine gk_aload_n dL_law_908 rfl rfl ?_
                                                      refine gk_iload_n dL_law_909 rfl rfl ?_
                                                      refine gk_iconst (v := (3 : Int32)) dL_law_910 (by decide) ?_
                                                      refine gk_iadd dL_law_911 ?_
                                                      refine gk_sld rfl dL_law_912 h (fun h hb183 => ?_)
                                                      refine gk_aload_n dL_law_913 rfl rfl ?_
                                                      refine gk_iload_n dL_law_914 rfl rfl ?_
                                                      refine gk_iconst (v := (4 : Int32)) dL_law_915 (by decide) ?_
                                                      refine gk_iadd dL_law_916 ?_
                                                      refine gk_sld rfl dL_law_917 h (fun h hb184 => ?_)
                                                      refine gk_aload_n dL_law_918 rfl rfl ?_
                                                      refine gk_iload_n dL_law_919 rfl rfl ?_
                                                      refine gk_iconst (v := (5 : Int32)) dL_law_920 (by decide) ?_
                                                      refine gk_iadd dL_law_921 ?_
                                                      refine gk_sld rfl dL_law_922 h (fun h hb185 => ?_)
                                                      refine gk_callI (As := [gk_R 14 0, gk_I (xs (Int32.toNatClampNeg (x3 + (1 : Int32)))), gk_I (xs (Int32.toNatClampNeg (x3 + (2 : Int32)))), gk_I (xs (Int32.toNatClampNeg (x3 + (3 : Int32)))), gk_I (xs (Int32.toNatClampNeg (x3 + (4 : Int32)))), gk_I (xs (Int32.toNatClampNeg (x3 + (5 : Int32))))]) (st := [gk_I r180]) 4 (cr_L_115 (by decide) rfl) (fun K' h' => ok_X12_kinds (xs (Int32.toNatClampNeg (x3 + (1 : Int32)))) (xs (Int32.toNatClampNeg (x3 + (2 : Int32)))) (xs (Int32.toNatClampNeg (x3 + (3 : Int32)))) (xs (Int32.toNatClampNeg (x3 + (4 : Int32)))) (xs (Int32.toNatClampNeg (x3 + (5 : Int32)))) M179 K' h') rfl (by decide) (by decide) (fun _ => Nat.le_of_ble_eq_true rfl) dL_law_923 h (fun r187 M186 h => ?_)
                                                      refine gk_icmp_eq (tgt := 1069) dL_law_926 (by decide) h (fun h => ?_) (fun h => ?_)
                                                      · exact gk_weak [some (gk_R 23 0), some (gk_R 6 0), some (gk_R 14 0), some (gk_I x3)] (And.intro rfl (And.intro rfl (And.intro rfl (And.intro rfl True.intro)))) (ok_L_law_j1069 Ls xs (L_law_l18 Ls xs n) ih x3 M186 h)
                                                      · refine gk_iconst (v := (0 : Int32)) dL_law_929 (by decide) ?_
                                                        exact gk_zret dL_law_930 rfl h
                                                    · have h := h.ite.2 e23
                                                      rcases Decidable.em (((xs (Int32.toNatClampNeg x3)) &&& (31 : Int32)) = (24 : Int32)) with e24 | e24
                                                      · refine gk_tabIn (tgt := 931) dL_law_33 (24 : Int32) e24 (by decide) (by decide) rfl (by decide) ?_
                                                        have h := h.ite.1 e24
                                                        refine gk_aload_n dL_law_931 rfl rfl ?_
                                                        refine gk_aload_n dL_law_932 rfl rfl ?_
                                                        refine gk_iload_n dL_law_933 rfl rfl ?_
                                                        refine gk_iconst (v := (1 : Int32)) dL_law_934 (by decide) ?_
                                                        refine gk_iadd dL_law_935 ?_
                                                        refine gk_sld rfl dL_law_936 h (fun h hb188 => ?_)
                                                        refine gk_callI (As := [gk_R 6 0, gk_I (xs (Int32.toNatClampNeg (x3 + (1 : Int32))))]) (st := []) 1 (cr_L_116 (by decide) rfl) (fun K' h' => ok_X11_row (xs (Int32.toNatClampNeg (x3 + (1 : Int32)))) M K' h') rfl (by decide) (by decide) (fun _ => Nat.le_of_ble_eq_true rfl) dL_law_937 h (fun r190 M189 h => ?_)
                                                        refine gk_aload_n dL_law_940 rfl rfl ?_
                                                        refine gk_aload_n dL_law_941 rfl rfl ?_
                                                        refine gk_iload_n dL_law_942 rfl rfl ?_
                                                        refine gk_iconst (v := (1 : Int32)) dL_law_943 (by decide) ?_
                                                        refine gk_iadd dL_law_944 ?_
                                                        refine gk_sld rfl dL_law_945 h (fun h hb191 => ?_)
                                                        refine gk_callI (As := [gk_R 14 0, gk_I (xs (Int32.toNatClampNeg (x3 + (1 : Int32))))]) (st := [gk_I r190]) 1 (cr_L_119 (by decide) rfl) (fun K' h' => ok_X12_row (xs (Int32.toNatClampNeg (x3 + (1 : Int32)))) M189 K' h') rfl (by decide) (by decide) (fun _ => Nat.le_of_ble_eq_true rfl) dL_law_946 h (fun r193 M192 h => ?_)
                                                        refine gk_icmp_eq (tgt := 1069) dL_law_949 (by decide) h (fun h => ?_) (fun h => ?_)
                                                        · exact gk_weak [some (gk_R 23 0), some (gk_R 6 0), some (gk_R 14 0), some (gk_I x3)] (And.intro rfl (And.intro rfl (And.intro rfl (And.intro rfl True.intro)))) (ok_L_law_j1069 Ls xs (L_law_l18 Ls xs n) ih x3 M192 h)
                                                        · refine gk_iconst (v := (0 : Int32)) dL_law_952 (by decide) ?_
                                                          exact gk_zret dL_law_953 rfl h
                                                      · have h := h.ite.2 e24
                                                        rcases Decidable.em (((xs (Int32.toNatClampNeg x3)) &&& (31 : Int32)) = (25 : Int32)) with e25 | e25
                                                        · refine gk_tabIn (tgt := 954) dL_law_33 (25 : Int32) e25 (by decide) (by decide) rfl (by decide) ?_
                                                          have h := h.ite.1 e25
                                                          refine gk_aload_n dL_law_954 rfl rfl ?_
                                                          refine gk_aload_n dL_law_955 rfl rfl ?_
                                                          refine gk_iload_n dL_law_956 rfl rfl ?_
                                                          refine gk_iconst (v := (1 : Int32)) dL_law_957 (by decide) ?_
                                                          refine gk_iadd dL_law_958 ?_
                                                          refine gk_sld rfl dL_law_959 h (fun h hb194 => ?_)
                                                          refine gk_callI (As := [gk_R 6 0, gk_I (xs (Int32.toNatClampNeg (x3 + (1 : Int32))))]) (st := []) 6 (cr_L_120 (by decide) rfl) (fun K' h' => ok_X11_judge (xs (Int32.toNatClampNeg (x3 + (1 : Int32)))) M K' h') rfl (by decide) (by decide) (fun _ => Nat.le_of_ble_eq_true rfl) dL_law_960 h (fun r196 M195 h => ?_)
                                                          refine gk_aload_n dL_law_963 rfl rfl ?_
                                                          refine gk_aload_n dL_law_964 rfl rfl ?_
                                                          refine gk_iload_n dL_law_965 rfl rfl ?_
                                                          refine gk_iconst (v := (1 : Int32)) dL_law_966 (by decide) ?_
                                                          refine gk_iadd dL_law_967 ?_
                                                          refine gk_sld rfl dL_law_968 h (fun h hb197 => ?_)
                                                          refine gk_callI (As := [gk_R 14 0, gk_I (xs (Int32.toNatClampNeg (x3 + (1 : Int32))))]) (st := [gk_I r196]) 4 (cr_L_123 (by decide) rfl) (fun K' h' => ok_X12_judge (xs (Int32.toNatClampNeg (x3 + (1 : Int32)))) M195 K' h') rfl (by decide) (by decide) (fun _ => Nat.le_of_ble_eq_true rfl) dL_law_969 h (fun r199 M198 h => ?_)
                                                          refine gk_icmp_eq (tgt := 1069) dL_law_972 (by decide) h (fun h => ?_) (fun h => ?_)
                                                          · exact gk_weak [some (gk_R 23 0), some (gk_R 6 0), some (gk_R 14 0), some (gk_I x3)] (And.intro rfl (And.intro rfl (And.intro rfl (And.intro rfl True.intro)))) (ok_L_law_j1069 Ls xs (L_law_l18 Ls xs n) ih x3 M198 h)
                                                          · refine gk_iconst (v := (0 : Int32)) dL_law_975 (by decide) ?_
                                                            exact gk_zret dL_law_976 rfl h
                                                        · have h := h.ite.2 e25
                                                          rcases Decidable.em (((xs (Int32.toNatClampNeg x3)) &&& (31 : Int32)) = (26 : Int32)) with e26 | e26
                                                          · refine gk_tabIn (tgt := 977) dL_law_33 (26 : Int32) e26 (by decide) (by decide) rfl (by decide) ?_
                                                            have h := h.ite.1 e26
                                                            refine gk_aload_n dL_law_977 rfl rfl ?_
                                                            refine gk_aload_n dL_law_978 rfl rfl ?_
                                                            refine gk_iload_n dL_law_979 rfl rfl ?_
                                                            refine gk_iconst (v := (1 : Int32)) dL_law_980 (by decide) ?_
                                                            refine gk_iadd dL_law_981 ?_
                                                            refine gk_sld rfl dL_law_982 h (fun h hb200 => ?_)
                                                            refine gk_aload_n dL_law_983 rfl rfl ?_
                                                            refine gk_iload_n dL_law_984 rfl rfl ?_
                                                            refine gk_iconst (v := (2 : Int32)) dL_law_985 (by decide) ?_
                                                            refine gk_iadd dL_law_986 ?_
                                                            refine gk_sld rfl dL_law_987 h (fun h hb201 => ?_)
                                                            refine gk_aload_n dL_law_988 rfl rfl ?_
                                                            refine gk_iload_n dL_law_989 rfl rfl ?_
                                                            refine gk_iconst (v := (3 : Int32)) dL_law_990 (by decide) ?_
                                                            refine gk_iadd dL_law_991 ?_
                                                            refine gk_sld rfl dL_law_992 h (fun h hb202 => ?_)
                                                            refine gk_callI (As := [gk_R 6 0, gk_I (xs (Int32.toNatClampNeg (x3 + (1 : Int32)))), gk_I (xs (Int32.toNatClampNeg (x3 + (2 : Int32)))), gk_I (xs (Int32.toNatClampNeg (x3 + (3 : Int32))))]) (st := []) 4 (cr_L_124 (by decide) rfl) (fun K' h' => ok_X11_lots (xs (Int32.toNatClampNeg (x3 + (1 : Int32)))) (xs (Int32.toNatClampNeg (x3 + (2 : Int32)))) (xs (Int32.toNatClampNeg (x3 + (3 : Int32)))) M K' h') rfl (by decide) (by decide) (fun _ => Nat.le_of_ble_eq_true rfl) dL_law_993 h (fun r204 M203 h => ?_)
                                                            refine gk_aload_n dL_law_996 rfl rfl ?_
                                                            refine gk_aload_n dL_law_997 rfl rfl ?_
                                                            refine gk_iload_n dL_law_998 rfl rfl ?_
                                                            refine gk_iconst (v := (1 : Int32)) dL_law_999 (by decide) ?_
                                                            refine gk_iadd dL_law_1000 ?_
                                                            refine gk_sld rfl dL_law_1001 h (fun h hb205 => ?_)
                                                            refine gk_aload_n dL_law_1002 rfl rfl ?_
                                                            refine gk_iload_n dL_law_1003 rfl rfl ?_
                                                            refine gk_iconst (v := (2 : Int32)) dL_law_1004 (by decide) ?_
                                                            refine gk_iadd dL_law_1005 ?_
                                                            refine gk_sld rfl dL_law_1006 h (fun h hb206 => ?_)
                                                            refine gk_aload_n dL_law_1007 rfl rfl ?_
                                                            refine gk_iload_n dL_law_1008 rfl rfl ?_
                                                            refine gk_iconst (v := (3 : Int32)) dL_law_1009 (by decide) ?_
                                                            refine gk_iadd dL_law_1010 ?_
                                                            refine gk_sld rfl dL_law_1011 h (fun h hb207 => ?_)
                                                            refine gk_callI (As := [gk_R 14 0, gk_I (xs (Int32.toNatClampNeg (x3 + (1 : Int32)))), gk_I (xs (Int32.toNatClampNeg (x3 + (2 : Int32)))), gk_I (xs (Int32.toNatClampNeg (x3 + (3 : Int32))))]) (st := [gk_I r204]) 3 (cr_L_127 (by decide) rfl) (fun K' h' => ok_X12_lots (xs (Int32.toNatClampNeg (x3 + (1 : Int32)))) (xs (Int32.toNatClampNeg (x3 + (2 : Int32)))) (xs (Int32.toNatClampNeg (x3 + (3 : Int32)))) M203 K' h') rfl (by decide) (by decide) (fun _ => Nat.le_of_ble_eq_true rfl) dL_law_1012 h (fun r209 M208 h => ?_)
                                                            refine gk_icmp_eq (tgt := 1069) dL_law_1015 (by decide) h (fun h => ?_) (fun h => ?_)
                                                            · exact gk_weak [some (gk_R 23 0), some (gk_R 6 0), some (gk_R 14 0), some (gk_I x3)] (And.intro rfl (And.intro rfl (And.intro rfl (And.intro rfl True.intro)))) (ok_L_law_j1069 Ls xs (L_law_l18 Ls xs n) ih x3 M208 h)
                                                            · refine gk_iconst (v := (0 : Int32)) dL_law_1018 (by decide) ?_
                                                              exact gk_zret dL_law_1019 rfl h
                                                          · have h := h.ite.2 e26
                                                            rcases Decidable.em (((xs (Int32.toNatClampNeg x3)) &&& (31 : Int32)) = (27 : Int32)) with e27 | e27
                                                            · refine gk_tabIn (tgt := 1020) dL_law_33 (27 : Int32) e27 (by decide) (by decide) rfl (by decide) ?_
                                                              have h := h.ite.1 e27
                                                              refine gk_aload_n dL_law_1020 rfl rfl ?_
                                                              refine gk_callI (As := [gk_R 6 0]) (st := []) 2 (cr_L_128 (by decide) rfl) (fun K' h' => ok_X11_image M K' h') rfl (by decide) (by decide) (fun _ => Nat.le_of_ble_eq_true rfl) dL_law_1021 h (fun r211 M210 h => ?_)
                                                              refine gk_aload_n dL_law_1024 rfl rfl ?_
                                                              refine gk_callI (As := [gk_R 14 0]) (st := [gk_I r211]) 2 (cr_L_131 (by decide) rfl) (fun K' h' => ok_X12_image M210 K' h') rfl (by decide) (by decide) (fun _ => Nat.le_of_ble_eq_true rfl) dL_law_1025 h (fun r213 M212 h => ?_)
                                                              refine gk_icmp_eq (tgt := 1069) dL_law_1028 (by decide) h (fun h => ?_) (fun h => ?_)
                                                              · exact gk_weak [some (gk_R 23 0), some (gk_R 6 0), some (gk_R 14 0), some (gk_I x3)] (And.intro rfl (And.intro rfl (And.intro rfl (And.intro rfl True.intro)))) (ok_L_law_j1069 Ls xs (L_law_l18 Ls xs n) ih x3 M212 h)
                                                              · refine gk_iconst (v := (0 : Int32)) dL_law_1031 (by decide) ?_
                                                                exact gk_zret dL_law_1032 rfl h
                                                            · have h := h.ite.2 e27
                                                              rcases Decidable.em (((xs (Int32.toNatClampNeg x3)) &&& (31 : Int32)) = (28 : Int32)) with e28 | e28
                                                              · refine gk_tabIn (tgt := 1033) dL_law_33 (28 : Int32) e28 (by decide) (by decide) rfl (by decide) ?_
                                                                have h := h.ite.1 e28
                                                                refine gk_aload_n dL_law_1033 rfl rfl ?_
                                                                refine gk_callI (As := [gk_R 6 0]) (st := []) 2 (cr_L_132 (by decide) rfl) (fun K' h' => ok_X11_restore M K' h') rfl (by decide) (by decide) (fun _ => Nat.le_of_ble_eq_true rfl) dL_law_1034 h (fun r215 M214 h => ?_)
                                                                refine gk_aload_n dL_law_1037 rfl rfl ?_
                                                                refine gk_callI (As := [gk_R 14 0]) (st := [gk_I r215]) 2 (cr_L_135 (by decide) rfl) (fun K' h' => ok_X12_restore M214 K' h') rfl (by decide) (by decide) (fun _ => Nat.le_of_ble_eq_true rfl) dL_law_1038 h (fun r217 M216 h => ?_)
                                                                refine gk_icmp_eq (tgt := 1069) dL_law_1041 (by decide) h (fun h => ?_) (fun h => ?_)
                                                                · exact gk_weak [some (gk_R 23 0), some (gk_R 6 0), some (gk_R 14 0), some (gk_I x3)] (And.intro rfl (And.intro rfl (And.intro rfl (And.intro rfl True.intro)))) (ok_L_law_j1069 Ls xs (L_law_l18 Ls xs n) ih x3 M216 h)
                                                                · refine gk_iconst (v := (0 : Int32)) dL_law_1044 (by decide) ?_
                                                                  exact gk_zret dL_law_1045 rfl h
                                                              · have h := h.ite.2 e28
                                                                rcases Decidable.em (((xs (Int32.toNatClampNeg x3)) &&& (31 : Int32)) = (29 : Int32)) with e29 | e29
                                                                · refine gk_tabIn (tgt := 1046) dL_law_33 (29 : Int32) e29 (by decide) (by decide) rfl (by decide) ?_
                                                                  have h := h.ite.1 e29
                                                                  refine gk_aload_n dL_law_1046 rfl rfl ?_
                                                                  refine gk_aload_n dL_law_1047 rfl rfl ?_
                                                                  refine gk_iload_n dL_law_1048 rfl rfl ?_
                                                                  refine gk_iconst (v := (1 : Int32)) dL_law_1049 (by decide) ?_
                                                                  refine gk_iadd dL_law_1050 ?_
                                                                  refine gk_sld rfl dL_law_1051 h (fun h hb218 => ?_)
                                                                  refine gk_callI (As := [gk_R 6 0, gk_I (xs (Int32.toNatClampNeg (x3 + (1 : Int32))))]) (st := []) 4 (cr_L_136 (by decide) rfl) (fun K' h' => ok_X11_count (xs (Int32.toNatClampNeg (x3 + (1 : Int32)))) M K' h') rfl (by decide) (by decide) (fun _ => Nat.le_of_ble_eq_true rfl) dL_law_1052 h (fun r220 M219 h => ?_)
                                                                  refine gk_aload_n dL_law_1055 rfl rfl ?_
                                                                  refine gk_aload_n dL_law_1056 rfl rfl ?_
                                                                  refine gk_iload_n dL_law_1057 rfl rfl ?_
                                                                  refine gk_iconst (v := (1 : Int32)) dL_law_1058 (by decide) ?_
                                                                  refine gk_iadd dL_law_1059 ?_
                                                                  refine gk_sld rfl dL_law_1060 h (fun h hb221 => ?_)
                                                                  refine gk_callI (As := [gk_R 14 0, gk_I (xs (Int32.toNatClampNeg (x3 + (1 : Int32))))]) (st := [gk_I r220]) 4 (cr_L_139 (by decide) rfl) (fun K' h' => ok_X12_count (xs (Int32.toNatClampNeg (x3 + (1 : Int32)))) M219 K' h') rfl (by decide) (by decide) (fun _ => Nat.le_of_ble_eq_true rfl) dL_law_1061 h (fun r223 M222 h => ?_)
                                                                  refine gk_icmp_eq (tgt := 1069) dL_law_1064 (by decide) h (fun h => ?_) (fun h => ?_)
                                                                  · exact gk_weak [some (gk_R 23 0), some (gk_R 6 0), some (gk_R 14 0), some (gk_I x3)] (And.intro rfl (And.intro rfl (And.intro rfl (And.intro rfl True.intro)))) (ok_L_law_j1069 Ls xs (L_law_l18 Ls xs n) ih x3 M222 h)
                                                                  · refine gk_iconst (v := (0 : Int32)) dL_law_1067 (by decide) ?_
                                                                    exact gk_zret dL_law_1068 rfl h
                                                                · have h := h.ite.2 e29
                                                                  have q0 : (((xs (Int32.toNatClampNeg x3)) &&& (31 : Int32))).toInt ≠ 0 := gk_ne_toInt e0
                                                                  have q1 : (((xs (Int32.toNatClampNeg x3)) &&& (31 : Int32))).toInt ≠ 1 := gk_ne_toInt e1
                                                                  have q2 : (((xs (Int32.toNatClampNeg x3)) &&& (31 : Int32))).toInt ≠ 2 := gk_ne_toInt e2
                                                                  have q3 : (((xs (Int32.toNatClampNeg x3)) &&& (31 : Int32))).toInt ≠ 3 := gk_ne_toInt e3
                                                                  have q4 : (((xs (Int32.toNatClampNeg x3)) &&& (31 : Int32))).toInt ≠ 4 := gk_ne_toInt e4
                                                                  have q5 : (((xs (Int32.toNatClampNeg x3)) &&& (31 : Int32))).toInt ≠ 5 := gk_ne_toInt e5
                                                                  have q6 : (((xs (Int32.toNatClampNeg x3)) &&& (31 : Int32))).toInt ≠ 6 := gk_ne_toInt e6
                                                                  have q7 : (((xs (Int32.toNatClampNeg x3)) &&& (31 : Int32))).toInt ≠ 7 := gk_ne_toInt e7
                                                                  have q8 : (((xs (Int32.toNatClampNeg x3)) &&& (31 : Int32))).toInt ≠ 8 := gk_ne_toInt e8
                                                                  have q9 : (((xs (Int32.toNatClampNeg x3)) &&& (31 : Int32))).toInt ≠ 9 := gk_ne_toInt e9
                                                                  have q10 : (((xs (Int32.toNatClampNeg x3)) &&& (31 : Int32))).toInt ≠ 10 := gk_ne_toInt e10
                                                                  have q11 : (((xs (Int32.toNatClampNeg x3)) &&& (31 : Int32))).toInt ≠ 11 := gk_ne_toInt e11
                                                                  have q12 : (((xs (Int32.toNatClampNeg x3)) &&& (31 : Int32))).toInt ≠ 12 := gk_ne_toInt e12
                                                                  have q13 : (((xs (Int32.toNatClampNeg x3)) &&& (31 : Int32))).toInt ≠ 13 := gk_ne_toInt e13
                                                                  have q14 : (((xs (Int32.toNatClampNeg x3)) &&& (31 : Int32))).toInt ≠ 14 := gk_ne_toInt e14
                                                                  have q15 : (((xs (Int32.toNatClampNeg x3)) &&& (31 : Int32))).toInt ≠ 15 := gk_ne_toInt e15
                                                                  have q16 : (((xs (Int32.toNatClampNeg x3)) &&& (31 : Int32))).toInt ≠ 16 := gk_ne_toInt e16
                                                                  have q17 : (((xs (Int32.toNatClampNeg x3)) &&& (31 : Int32))).toInt ≠ 17 := gk_ne_toInt e17
                                                                  have q18 : (((xs (Int32.toNatClampNeg x3)) &&& (31 : Int32))).toInt ≠ 18 := gk_ne_toInt e18
                                                                  have q19 : (((xs (Int32.toNatClampNeg x3)) &&& (31 : Int32))).toInt ≠ 19 := gk_ne_toInt e19
                                                                  have q20 : (((xs (Int32.toNatClampNeg x3)) &&& (31 : Int32))).toInt ≠ 20 := gk_ne_toInt e20
                                                                  have q21 : (((xs (Int32.toNatClampNeg x3)) &&& (31 : Int32))).toInt ≠ 21 := gk_ne_toInt e21
                                                                  have q22 : (((xs (Int32.toNatClampNeg x3)) &&& (31 : Int32))).toInt ≠ 22 := gk_ne_toInt e22
                                                                  have q23 : (((xs (Int32.toNatClampNeg x3)) &&& (31 : Int32))).toInt ≠ 23 := gk_ne_toInt e23
                                                                  have q24 : (((xs (Int32.toNatClampNeg x3)) &&& (31 : Int32))).toInt ≠ 24 := gk_ne_toInt e24
                                                                  have q25 : (((xs (Int32.toNatClampNeg x3)) &&& (31 : Int32))).toInt ≠ 25 := gk_ne_toInt e25
                                                                  have q26 : (((xs (Int32.toNatClampNeg x3)) &&& (31 : Int32))).toInt ≠ 26 := gk_ne_toInt e26
                                                                  have q27 : (((xs (Int32.toNatClampNeg x3)) &&& (31 : Int32))).toInt ≠ 27 := gk_ne_toInt e27
                                                                  have q28 : (((xs (Int32.toNatClampNeg x3)) &&& (31 : Int32))).toInt ≠ 28 := gk_ne_toInt e28
                                                                  have q29 : (((xs (Int32.toNatClampNeg x3)) &&& (31 : Int32))).toInt ≠ 29 := gk_ne_toInt e29
                                                                  refine gk_tabOut (tgt := 1069) dL_law_33 (by omega) (by decide) ?_
                                                                  exact gk_weak [some (gk_R 23 0), some (gk_R 6 0), some (gk_R 14 0), some (gk_I x3)] (And.intro rfl (And.intro rfl (And.intro rfl (And.intro rfl True.intro)))) (ok_L_law_j1069 Ls xs (L_law_l18 Ls xs n) ih x3 M h)
