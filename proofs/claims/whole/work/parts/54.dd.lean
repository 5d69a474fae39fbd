theorem gx_joinX {A0 : Nat → Prop} {D : va_G} {cl : List vw_C} {X w1 : va_W} {z : Nat × va_E} {H H1 : Heap} (hP : va_P D cl (X ++ [z]) H) (hD : va_D A0 (X ++ [z])) (hk : ∀ q : Nat, q < H.size → ¬ va_A [z] H.size q → H1[q]? = H[q]?) (hF : ∀ q, va_A [z] H.size q → A0 q) (hP1 : va_P D cl w1 H1) (hD1 : va_D (va_A [z] H.size) w1) : va_P D cl (X ++ w1) H1 ∧ va_D A0 (X ++ w1) := by
  have up : ∀ (k : Nat) (q : Nat × va_E), X[k]? = some q → (X ++ [z])[k]? = some q := fun k q h => by
    rw [List.getElem?_append_left (List.getElem?_eq_some_iff.mp h).1]; exact h
  have apart : ∀ (k : Nat) (q : Nat × va_E), X[k]? = some q → q.1 < H.size ∧ ¬ va_A [z] H.size q.1 := by
    intro k q hq
    have h2 := up k q hq
    have hl := (hP k q h2).lt
    refine ⟨hl, fun h => ?_⟩
    rcases h with ⟨k2, e, h⟩ | h
    · have h4 : (X ++ [z])[X.length + k2]? = some (q.1, e) := by rw [List.getElem?_append_right (Nat.le_add_right _ _), show X.length + k2 - X.length = k2 by omega]; exact h
      have h5 := hD.1 k (X.length + k2) q (q.1, e) h2 h4 rfl
      have h6 := (List.getElem?_eq_some_iff.mp hq).1
      omega
    · omega
  exact ⟨va_P.app (fun k q hq => (hP k q (up k q hq)).kept (hk q.1 (apart k q hq).1 (apart k q hq).2)) hP1, va_D.app ⟨fun i j p q hi hj => hD.1 i j p q (up i p hi) (up j q hj), fun k q hq => hD.2 k q (up k q hq)⟩ (hD1.weaken (fun k q _ h => hF q.1 h)) (fun i j x y hx hy hxy => (apart i x hx).2 (by rw [hxy]; exact hD1.2 j y hy))⟩
/-- where each cell lies -/
def gx_rho (a1 a2 : Nat → Nat) (b : Nat) : Nat → Nat → Nat := fun c i => match c with
  | 0 => a1 (0 + i)
  | 1 => a1 (1 + i)
  | 2 => a1 (7 + i)
  | 3 => a1 (10 + i)
  | 4 => a1 (11 + i)
  | 5 => a1 (12 + i)
  | 6 => a1 (30 + i)
  | 7 => a1 (31 + i)
  | 8 => a1 (34 + i)
  | 9 => a1 (37 + i)
  | 10 => a1 (40 + i)
  | 11 => a1 (41 + i)
  | 12 => a1 (42 + i)
  | 13 => a1 (43 + i)
  | 14 => a2 (0 + i)
  | 15 => a2 (1 + i)
  | 16 => a2 (3 + i)
  | 17 => a2 (9 + i)
  | 18 => a2 (10 + i)
  | 19 => a2 (12 + i)
  | 20 => a2 (13 + i)
  | 21 => a2 (15 + i)
  | 22 => a2 (16 + i)
  | _ => b
theorem gx_ixE : gk_ix = [0, 100, 101, 102, 103, 104, 105, 200, 201, 202, 300, 400, 500, 501, 502, 503, 504, 505, 506, 507, 508, 509, 510, 511, 512, 513, 514, 515, 516, 517, 600, 700, 701, 702, 800, 801, 802, 900, 901, 902, 1000, 1100, 1200, 1300, 1400, 1500, 1501, 1600, 1601, 1602, 1603, 1604, 1605, 1700, 1800, 1801, 1900, 2000, 2001, 2100, 2200] := by decide +kernel
set_option maxHeartbeats 4000000 in
set_option maxRecDepth 100000 in
theorem gx_wsE (a1 a2 : Nat → Nat) (b : Nat) (cI cS cD : ClassId) : gk_ws (cI, cS, cD) (gx_rho a1 a2 b) gk_M0 = gx_w11 a1 cI cS cD ++ gx_w12 a2 cI := by
  unfold gk_ws
  rw [gx_ixE]
  rfl
theorem gx_fin {D : va_G} {A : Nat → Prop} {a1 a2 : Nat → Nat} {b : Nat} {cI cS cD : ClassId} {H : Heap} (hP : va_P D vwCl (gx_w11 a1 cI cS cD ++ gx_w12 a2 cI) H) (hD : va_D A (gx_w11 a1 cI cS cD ++ gx_w12 a2 cI)) : gk_H D (cI, cS, cD) (gx_rho a1 a2 b) gk_M0 H ∧ gk_J (gx_rho a1 a2 b) ∧ ∀ k i : Nat, i < gk_cnt k → A (gx_rho a1 a2 b k i) := by
  rw [← gx_wsE a1 a2 b] at hP hD
  refine ⟨fun c i h => ?_, fun c i c' i' h h' e => ?_, fun c i h => ?_⟩
  · obtain ⟨q, hq, hw⟩ := gk_at (cI, cS, cD) (gx_rho a1 a2 b) gk_M0 h
    exact hP q _ hw
  · obtain ⟨q, hq, hw⟩ := gk_at (cI, cS, cD) (gx_rho a1 a2 b) gk_M0 h
    obtain ⟨q', hq', hw'⟩ := gk_at (cI, cS, cD) (gx_rho a1 a2 b) gk_M0 h'
    have hqq := hD.1 q q' _ _ hw hw' e
    subst hqq
    have h1 := Option.some.inj (hq.symm.trans hq')
    have h2 := (gk_cnt_lt h).2
    have h3 := (gk_cnt_lt h').2
    exact ⟨by omega, by omega⟩
  · obtain ⟨q, hq, hw⟩ := gk_at (cI, cS, cD) (gx_rho a1 a2 b) gk_M0 h
    exact hD.2 q _ hw
theorem gx_NW : ∀ q ∈ gx_N, Cond.methodLinkNest q.1 q.2.1 q.2.2 RX11 ∈ lw_tbl := by
  have h : gx_N.map (fun q => Cond.methodLinkNest q.1 q.2.1 q.2.2 RX11) = ([75, 82, 85, 89, 92, 96, 99, 103, 106, 110, 113, 117, 150, 168, 251] : List Nat).filterMap (fun i => lw_tbl[i]?) := by decide +kernel
  intro q hq
  have h2 := List.mem_map_of_mem (f := fun q : String × Nat × MethodName => Cond.methodLinkNest q.1 q.2.1 q.2.2 RX11) hq
  rw [h] at h2
  obtain ⟨i, -, hi⟩ := List.mem_filterMap.mp h2
  exact List.mem_of_getElem? hi
theorem gx_CW : ∀ C ∈ [RX3, RX10, RX5, RX9, RX2], Cond.castable C RX1 ∈ lw_tbl := by
  have h : [RX3, RX10, RX5, RX9, RX2].map (fun C => Cond.castable C RX1) = ([1072, 1073, 1074, 1075, 1076] : List Nat).filterMap (fun i => lw_tbl[i]?) := by decide +kernel
  intro q hq
  have h2 := List.mem_map_of_mem (f := fun C : String => Cond.castable C RX1) hq
  rw [h] at h2
  obtain ⟨i, -, hi⟩ := List.mem_filterMap.mp h2
  exact List.mem_of_getElem? hi
theorem gx_V0 {s : State} {args : Array Value} (hts : ∀ w ∈ lw_tbl, w.before args s = true) : gx_V s :=
  ⟨fun q hq => va_Nw.of rfl (hts _ (gx_NW q hq)), va_AO.of (hts _ (List.mem_of_getElem? (i := 166) (by decide +kernel))), va_AO.of (hts _ (List.mem_of_getElem? (i := 73) (by decide +kernel))), fun C hC => va_Nw.of rfl (hts _ (gx_CW C hC))⟩
theorem gx_cL11 : Cond.code yX11_init cX11_init 1 none ∈ gn_tbl := (gn_mem 68 (by decide +kernel) (by decide +kernel))
theorem gx_cL12 : Cond.code yX12_init cX12_init 1 none ∈ gn_tbl := (gn_mem 692 (by decide +kernel) (by decide +kernel))
theorem gx_D {s : State} {args : Array Value} (hgn : ∀ w ∈ gn_tbl, w.before args s = true) : ∃ D : va_G, ∀ (k : Nat) (q : vw_C), vwCl[k]? = some q → u_Kn s q.1 q.2.1 q.2.2 (D.1 k) (D.2 k) := by
  obtain ⟨c0, iS0, hKn0⟩ := u_known (C := RX0) (T := TX0) (N := 5) (n := 5) hgn gn_inX0 (hgn (.instantiable RX0 5) (gn_mem 116 (by decide +kernel) (by decide +kernel)))
  obtain ⟨c1, iS1, hKn1⟩ := u_known (C := RX1) (T := TX1) (N := 0) (n := 0) hgn gn_inX1 (hgn (.instantiable RX1 0) (gn_mem 74 (by decide +kernel) (by decide +kernel)))
  obtain ⟨c2, iS2, hKn2⟩ := u_known (C := RX2) (T := TX2) (N := 0) (n := 0) hgn gn_inX2 (hgn (.instantiable RX2 0) (gn_mem 109 (by decide +kernel) (by decide +kernel)))
  obtain ⟨c3, iS3, hKn3⟩ := u_known (C := RX3) (T := TX3) (N := 0) (n := 0) hgn gn_inX3 (hgn (.instantiable RX3 0) (gn_mem 81 (by decide +kernel) (by decide +kernel)))
  obtain ⟨c4, iS4, hKn4⟩ := u_known (C := RX4) (T := TX4) (N := 8) (n := 8) hgn gn_inX4 (hgn (.instantiable RX4 8) (gn_mem 160 (by decide +kernel) (by decide +kernel)))
  obtain ⟨c5, iS5, hKn5⟩ := u_known (C := RX5) (T := TX5) (N := 0) (n := 0) hgn gn_inX5 (hgn (.instantiable RX5 0) (gn_mem 95 (by decide +kernel) (by decide +kernel)))
  obtain ⟨c6, iS6, hKn6⟩ := u_known (C := RX6) (T := TX6) (N := 4) (n := 4) hgn gn_inX6 (hgn (.instantiable RX6 4) (gn_mem 250 (by decide +kernel) (by decide +kernel)))
  obtain ⟨c7, iS7, hKn7⟩ := u_known (C := RX7) (T := TX7) (N := 1) (n := 1) hgn gn_inX7 (hgn (.instantiable RX7 1) (gn_mem 149 (by decide +kernel) (by decide +kernel)))
  obtain ⟨c8, iS8, hKn8⟩ := u_known (C := RX8) (T := TX8) (N := 6) (n := 6) hgn gn_inX8 (hgn (.instantiable RX8 6) (gn_mem 167 (by decide +kernel) (by decide +kernel)))
  obtain ⟨c9, iS9, hKn9⟩ := u_known (C := RX9) (T := TX9) (N := 0) (n := 0) hgn gn_inX9 (hgn (.instantiable RX9 0) (gn_mem 102 (by decide +kernel) (by decide +kernel)))
  obtain ⟨c10, iS10, hKn10⟩ := u_known (C := RX10) (T := TX10) (N := 0) (n := 0) hgn gn_inX10 (hgn (.instantiable RX10 0) (gn_mem 88 (by decide +kernel) (by decide +kernel)))
  obtain ⟨c11, iS11, hKn11⟩ := u_known (C := RX11) (T := TX11) (N := 11) (n := 11) hgn gn_inX11 (hgn (.instantiable RX11 11) (gn_mem 65 (by decide +kernel) (by decide +kernel)))
  obtain ⟨c12, iS12, hKn12⟩ := u_known (C := RX12) (T := TX12) (N := 34) (n := 34) hgn gn_inX12 (hgn (.instantiable RX12 34) (gn_mem 689 (by decide +kernel) (by decide +kernel)))
  obtain ⟨D, hKc⟩ : ∃ D : va_G, ∀ (k : Nat) (q : vw_C), vwCl[k]? = some q → u_Kn s q.1 q.2.1 q.2.2 (D.1 k) (D.2 k) := by
    refine ⟨(fun k => if k = 0 then c0 else if k = 1 then c1 else if k = 2 then c2 else if k = 3 then c3 else if k = 4 then c4 else if k = 5 then c5 else if k = 6 then c6 else if k = 7 then c7 else if k = 8 then c8 else if k = 9 then c9 else if k = 10 then c10 else if k = 11 then c11 else c12, fun k => if k = 0 then iS0 else if k = 1 then iS1 else if k = 2 then iS2 else if k = 3 then iS3 else if k = 4 then iS4 else if k = 5 then iS5 else if k = 6 then iS6 else if k = 7 then iS7 else if k = 8 then iS8 else if k = 9 then iS9 else if k = 10 then iS10 else if k = 11 then iS11 else iS12), ?_⟩
    intro k q hq
    match k, hq with
    | 0, hq => cases hq; exact hKn0
    | 1, hq => cases hq; exact hKn1
    | 2, hq => cases hq; exact hKn2
    | 3, hq => cases hq; exact hKn3
    | 4, hq => cases hq; exact hKn4
    | 5, hq => cases hq; exact hKn5
    | 6, hq => cases hq; exact hKn6
    | 7, hq => cases hq; exact hKn7
    | 8, hq => cases hq; exact hKn8
    | 9, hq => cases hq; exact hKn9
    | 10, hq => cases hq; exact hKn10
    | 11, hq => cases hq; exact hKn11
    | 12, hq => cases hq; exact hKn12
    | k + 13, hq => simp [vwCl] at hq
  exact ⟨D, hKc⟩
set_option maxHeartbeats 4000000 in
set_option maxRecDepth 100000 in
/-- THE LAW, from its entry -/
theorem whole_start {p : Program} {e : Env} {s : State} {m : MethodId} {below : List Frame} {meth : Method} {c : Code} (l : Launch) (hflags : l.flags = flags0) {b L : Nat} {xs : Nat → Int32} (hL : L ≤ 3072) (C0 : lw_At p s m meth c b L xs) : W p l e room_1 s m #[Value.ref b] below meth c s.heap [] 0 0 (lw_Z below #[Value.ref b] s) (entryFrame m ([Value.ref b] : List Value).toArray 4) := by
  obtain ⟨hx, hb, hr, hml, hown, hts, hX, hbl, hlocks, hgv⟩ := id C0
  have hA : ∀ q : Nat, s.heap.size ≤ q → (fun q : Nat => s.heap.size ≤ q) q := fun _ h => h
  have hgn : ∀ w ∈ gn_tbl, w.before #[Value.ref b] s = true := fun w hw => hts w (gn_sub w hw)
  have hV : gx_V s := gx_V0 hts
  obtain ⟨D, hKc⟩ := gx_D hgn
  have hK : va_K D vwCl [] s := ⟨hKc, fun k q h => by simp at h⟩
  have hS : va_S (fun q : Nat => s.heap.size ≤ q) s.heap s.heap [] := va_S.rf
  have hP : va_P D vwCl [] s.heap := fun k q h => by simp at h
  have hD : va_D (fun q : Nat => s.heap.size ≤ q) [] := ⟨fun i j p q h => by simp at h, fun k q h => by simp at h⟩
  have hl := lv_entry ([.ref b]) (n := 4) (Nat.le_of_ble_eq_true rfl)
  rw [lg_entry_eq]
  generalize (lg_sl ([.ref b]) ++ List.replicate (4 - (lg_sl ([.ref b])).length) Slot.unset).toArray = ls at hl ⊢
  have hl : lv_has ls 4 [(0, .ref b)] := hl
  refine va_new (ci := 11) (fs := [.null, .null, .null, .null, .null, .null, .int 0, .null, .null, .int 0, .null]) (C := RX11) (T := TX11) (N := 11) hx hb hgn gn_inX11 tyX11 tyX11_ok hown (hgn (.classLink R_law 7 RX11) (gn_mem 64 (by decide +kernel) (by decide +kernel))) (hgn (.instantiable RX11 11) (gn_mem 65 (by decide +kernel) (by decide +kernel))) (hgn (.initialized RX11) (gn_mem 50 (by decide +kernel) (by decide +kernel))) hK hP hD hS hA rfl (fun j hj => by rcases (show j = 0 ∨ j = 1 ∨ j = 2 ∨ j = 3 ∨ j = 4 ∨ j = 5 ∨ j = 6 ∨ j = 7 ∨ j = 8 ∨ j = 9 ∨ j = 10 by omega) with rfl | rfl | rfl | rfl | rfl | rfl | rfl | rfl | rfl | rfl | rfl <;> rfl) (Nat.le_of_ble_eq_true rfl) (Nat.le_of_ble_eq_true rfl) dL_law_0 (fun q0 H hP hD hS => ?_)
  refine W.widen (k := 1) (n := 11) (Nat.le_of_ble_eq_true rfl) (Nat.le_of_ble_eq_true rfl) ?_
  refine lv_dup hx hb dL_law_3 rfl ?_
  obtain ⟨hPc, hDc⟩ := gx_cut hP hD
  have hKc := hK.sub (tys' := []) [] rfl
  have hFc := gx_free hD hS hA
  refine va_callv (va_runI (As := []) (rest := [.ref q0]) (Ts := gn_tbl) ⟨hx, hb, hml, hown, hgn⟩ (cx_X11 l D q0 H.size) (cwI 0 hgn (gk_good yX11_init gx_cL11 (pre := []) (fun _ q => absurd q List.not_mem_nil)) rfl rfl rfl (hgn (.initialized RX11) (gn_mem 50 (by decide +kernel) (by decide +kernel))) (hgn (.methodLink R_law 9 yX11_init) (gn_mem 66 (by decide +kernel) (by decide +kernel))) (hgn (.instanceMethod yX11_init) (gn_mem 67 (by decide +kernel) (by decide +kernel))) rfl (by decide +kernel) ⟨(Nat.le_of_ble_eq_true rfl), (Nat.le_of_ble_eq_true rfl)⟩) ⟨fun a U g mk q => by obtain ⟨q0, qV, q1, qP, qK, qD⟩ := q; exact ⟨q0, gx_V.same (u := U) (U := U.calling g mk a) rfl qV, q1, qP, va_K.moved (u := U) (U := U.calling g mk a) (Vm.Alike.refl U.vm) qK, qD⟩, fun U hU hW => ⟨rfl, gx_V.warm hW hV, by rw [hU], by rw [hU]; exact hPc, va_K.moved hW.alike hKc, hDc.weaken (fun _ _ _ _ => trivial)⟩⟩ rfl rfl hl.1 rfl (lv_room (Nat.le_of_ble_eq_true rfl)) dL_law_4 ⟨(Nat.le_of_ble_eq_true rfl), (Nat.le_of_ble_eq_true rfl)⟩) hS (fun q _ h => hFc q h) hFc (fun u t H1 locs ht hvm hw hB hz1 hk1 hS => ?_)
  obtain ⟨a1, cI, cS, cD, ha1, hP1, hK1, hD1⟩ := hB
  rw [ht] at hP1
  have hK : va_K D vwCl [(cI, .int), (cS, .object RX8), (cD, .object RX1)] s := va_K.moved hvm.symm hK1
  obtain ⟨hP, hD⟩ := gx_joinX hP hD hk1 hFc hP1 hD1
  generalize H1 = H at hP hS ⊢
  have hP : va_P D vwCl (gx_w11 a1 cI cS cD) H := hP
  have hD : va_D (fun q : Nat => s.heap.size ≤ q) (gx_w11 a1 cI cS cD) := hD
  generalize hX1 : gx_w11 a1 cI cS cD = X at hP hD
  refine W.widen (k := 44) (n := 318) (Nat.le_of_ble_eq_true rfl) (Nat.le_of_ble_eq_true rfl) ?_
  refine lv_astore_n (lv' := [(1, .ref q0), (0, .ref b)]) hx hb dL_law_7 rfl hl (by decide) rfl (fun ls hl => ?_)
  refine va_new (ci := 12) (fs := [.int 0, .int 0, .int 0, .int 0, .int 0, .null, .null, .null, .null, .null, .null, .null, .null, .int 0, .null, .int 0, .int 0, .null, .null, .int 0, .int 0, .int 0, .null, .null, .int 0, .int 0, .int 0, .int 0, .null, .null, .null, .null, .int 0, .int 0]) (C := RX12) (T := TX12) (N := 34) hx hb hgn gn_inX12 tyX12 tyX12_ok hown (hgn (.classLink R_law 10 RX12) (gn_mem 688 (by decide +kernel) (by decide +kernel))) (hgn (.instantiable RX12 34) (gn_mem 689 (by decide +kernel) (by decide +kernel))) (hgn (.initialized RX12) (gn_mem 62 (by decide +kernel) (by decide +kernel))) hK hP hD hS hA rfl (fun j hj => by rcases (show j = 0 ∨ j = 1 ∨ j = 2 ∨ j = 3 ∨ j = 4 ∨ j = 5 ∨ j = 6 ∨ j = 7 ∨ j = 8 ∨ j = 9 ∨ j = 10 ∨ j = 11 ∨ j = 12 ∨ j = 13 ∨ j = 14 ∨ j = 15 ∨ j = 16 ∨ j = 17 ∨ j = 18 ∨ j = 19 ∨ j = 20 ∨ j = 21 ∨ j = 22 ∨ j = 23 ∨ j = 24 ∨ j = 25 ∨ j = 26 ∨ j = 27 ∨ j = 28 ∨ j = 29 ∨ j = 30 ∨ j = 31 ∨ j = 32 ∨ j = 33 by omega) with rfl | rfl | rfl | rfl | rfl | rfl | rfl | rfl | rfl | rfl | rfl | rfl | rfl | rfl | rfl | rfl | rfl | rfl | rfl | rfl | rfl | rfl | rfl | rfl | rfl | rfl | rfl | rfl | rfl | rfl | rfl | rfl | rfl | rfl <;> rfl) (Nat.le_of_ble_eq_true rfl) (Nat.le_of_ble_eq_true rfl) dL_law_8 (fun q1 H hP hD hS => ?_)
  refine W.widen (k := 45) (n := 352) (Nat.le_of_ble_eq_true rfl) (Nat.le_of_ble_eq_true rfl) ?_
  refine lv_dup hx hb dL_law_11 rfl ?_
  obtain ⟨hPc, hDc⟩ := gx_cut hP hD
  have hKc := hK.sub (tys' := []) [] rfl
  have hFc := gx_free hD hS hA
  refine va_callv (va_runI (As := []) (rest := [.ref q1]) (Ts := gn_tbl) ⟨hx, hb, hml, hown, hgn⟩ (cx_X12 l D q1 H.size) (cwI 0 hgn (gk_good yX12_init gx_cL12 (pre := []) (fun _ q => absurd q List.not_mem_nil)) rfl rfl rfl (hgn (.initialized RX12) (gn_mem 62 (by decide +kernel) (by decide +kernel))) (hgn (.methodLink R_law 12 yX12_init) (gn_mem 690 (by decide +kernel) (by decide +kernel))) (hgn (.instanceMethod yX12_init) (gn_mem 691 (by decide +kernel) (by decide +kernel))) rfl (by decide +kernel) ⟨(Nat.le_of_ble_eq_true rfl), (Nat.le_of_ble_eq_true rfl)⟩) ⟨fun a U g mk q => by obtain ⟨q0, qV, q1, qP, qK, qD⟩ := q; exact ⟨q0, gx_V.same (u := U) (U := U.calling g mk a) rfl qV, q1, qP, va_K.moved (u := U) (U := U.calling g mk a) (Vm.Alike.refl U.vm) qK, qD⟩, fun U hU hW => ⟨rfl, gx_V.warm hW hV, by rw [hU], by rw [hU]; exact hPc, va_K.moved hW.alike hKc, hDc.weaken (fun _ _ _ _ => trivial)⟩⟩ rfl rfl hl.1 rfl (lv_room (Nat.le_of_ble_eq_true rfl)) dL_law_12 ⟨(Nat.le_of_ble_eq_true rfl), (Nat.le_of_ble_eq_true rfl)⟩) hS (fun q _ h => hFc q h) hFc (fun u t H1 locs ht hvm hw hB hz1 hk1 hS => ?_)
  obtain ⟨a2, cI2, ha2, hP1, hK1, hD1⟩ := hB
  rw [ht] at hP1
  have hK1 := va_K.moved hvm.symm hK1
  obtain rfl : cI = cI2 := gx_u (Or.inl rfl) (hK.2 0 _ rfl).2 (hK1.2 0 _ rfl).2
  obtain ⟨hP, hD⟩ := gx_joinX hP hD hk1 hFc hP1 hD1
  generalize H1 = H at hP hS ⊢
  subst hX1
  refine W.widen (k := 61) (n := 837) (Nat.le_of_ble_eq_true rfl) (Nat.le_of_ble_eq_true rfl) ?_
  refine lv_astore_n (lv' := [(2, .ref q1), (1, .ref q0), (0, .ref b)]) hx hb dL_law_15 rfl hl (by decide) rfl (fun ls hl => ?_)
  refine lv_iconst (v := 0) hx hb dL_law_16 (by decide) ?_
  refine lv_istore_n (lv' := [(3, .int 0), (2, .ref q1), (1, .ref q0), (0, .ref b)]) hx hb dL_law_17 rfl hl (by decide) rfl (fun ls hl => ?_)
  obtain ⟨hH, hJ, hAr⟩ := gx_fin (b := b) hP hD
  refine W.widen (k := 600000) (n := 7302250) (Nat.le_of_ble_eq_true rfl) (Nat.le_of_ble_eq_true rfl) ?_
  refine law_tail hL C0 hgn (T := (cI, cS, cD)) (ρ := gx_rho a1 a2 b) hK hJ hAr rfl hH hS ⟨hl.1, hl.2.1, fun i v hv => ?_⟩
  match i, hv with
  | 0, hv => cases hv; exact lv_at hl 3 rfl
  | 1, hv => cases hv; rw [lv_at hl 2 rfl, ← ha1]; rfl
  | 2, hv => cases hv; rw [lv_at hl 1 rfl, ← ha2]; rfl
  | 3, hv => cases hv; exact lv_at hl 0 rfl
  | i + 4, hv => simp at hv
