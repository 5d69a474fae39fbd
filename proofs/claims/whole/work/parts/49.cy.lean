def gx_N : List (String × Nat × MethodName) := [(RX11, 9, yX1_init), (RX11, 12, yX3_init), (RX3, 1, yX1_init), (RX11, 15, yX10_init), (RX10, 1, yX1_init), (RX11, 18, yX5_init), (RX5, 1, yX1_init), (RX11, 21, yX9_init), (RX9, 1, yX10_init), (RX11, 24, yX2_init), (RX2, 1, yX3_init), (RX11, 33, yX0_init), (RX11, 40, yX7_init), (RX4, 31, yX8_init), (RX11, 60, yX6_init)]
/-- what the tables say of nest mates, and that rows of ships and of drifts can be made -/
def gx_V (U : State) : Prop := (∀ q ∈ gx_N, va_Nw (.methodLinkNest q.1 q.2.1 q.2.2 RX11) U) ∧ va_AO RX8 U ∧ va_AO RX1 U ∧ (∀ C ∈ [RX3, RX10, RX5, RX9, RX2], va_Nw (.castable C RX1) U)
theorem gx_V.warm {s U : State} (hW : s.WarmedH U.vm) (h : gx_V s) : gx_V U := ⟨fun q hq => va_Nw.warmM hW (h.1 q hq), va_AO.moved hW.alike h.2.1, va_AO.moved hW.alike h.2.2.1, fun C hC => va_Nw.warmC hW (h.2.2.2 C hC)⟩
theorem gx_V.same {u U : State} (hv : u.vm = U.vm) (h : gx_V u) : gx_V U := ⟨fun q hq => va_Nw.same rfl hv (h.1 q hq), va_AO.moved (by rw [hv]; exact Vm.Alike.refl U.vm) h.2.1, va_AO.moved (by rw [hv]; exact Vm.Alike.refl U.vm) h.2.2.1, fun C hC => va_Nw.same rfl hv (h.2.2.2 C hC)⟩
theorem gx_V.nw {s : State} (h : gx_V s) (i : Nat) {q : String × Nat × MethodName} (hi : gx_N[i]? = some q) : va_Nw (.methodLinkNest q.1 q.2.1 q.2.2 RX11) s := h.1 q (List.mem_of_getElem? hi)
theorem gx_V.blind {av : List Value} : FrameBlind (va_Pc av gx_V) := fun a U g mk q => ⟨q.1, gx_V.same (u := U) (U := U.calling g mk a) rfl q.2⟩
theorem gx_c1_3 : Cond.code yX1_init cX1_init 1 none ∈ gn_tbl := (gn_mem 77 (by decide +kernel) (by decide +kernel))
set_option maxHeartbeats 4000000 in
set_option maxRecDepth 100000 in
theorem cx_X3 (l : Launch) (h0 : Nat) : Met l yX3_init (gx_W yX3_init cX3_init 1) ({ frames := 2, cells := 0, slots := 0, locals := 32 }) (va_Pc [.ref h0] gx_V) (va_Qv (fun _ : Unit => True) (fun _ _ => True) (fun _ => False)) 0 0 (fun _ => False) := by
  refine Met.ofW (cc := cX3_init) (maxL := 1) (ret := none) (by decide) rfl ?_
  intro p e s m args below meth c s₁ B hml hv
  obtain ⟨rfl, hV⟩ := hv
  have hx := B.exec
  have hb := B.bytes
  have hr := B.returns
  have hts0 := atoms_spec (ws := gx_W yX3_init cX3_init 1) B.pre
  have hts : ∀ w ∈ gn_tbl, w.before ([Value.ref h0].toArray) s = true := fun w hw => hts0 w (List.mem_cons_of_mem _ hw)
  have hown : s.vm.findClass RX3 = some m.cls := findClass_of_methodNamed B.named
  have hlocks := B.notSynchronized
  have hS : va_S (fun _ => False) s.heap s.heap [] := va_S.rf
  have hl := lv_entry ([.ref h0]) (n := 1) (Nat.le_of_ble_eq_true rfl)
  rw [lg_entry_eq]
  generalize (lg_sl ([.ref h0]) ++ List.replicate (1 - (lg_sl ([.ref h0])).length) Slot.unset).toArray = ls at hl ⊢
  have hl : lv_has ls 1 [(0, .ref h0)] := hl
  refine lv_aload_n hx hb dX3_init_0 rfl (lv_at hl 0 rfl) ?_
  refine va_callv (va_runIN (As := []) (rest := []) (Ts := gn_tbl) ⟨hx, hb, hml, hown, hts⟩ (cx_X1 l h0) ⟨va_cnB 0 hts (gk_good yX1_init gx_c1_3 (pre := []) (fun _ q => absurd q List.not_mem_nil)) rfl rfl rfl (hV.nw 2 rfl) (hts (.initialized RX1) (gn_mem 51 (by decide +kernel) (by decide +kernel))) ⟨by decide +kernel, by decide +kernel, by decide +kernel⟩ ⟨Nat.le_of_ble_eq_true rfl, Nat.le_of_ble_eq_true rfl⟩, rfl, hts (.instanceMethod yX1_init) (gn_mem 76 (by decide +kernel) (by decide +kernel))⟩ ⟨fun a U g mk q => ⟨q.1, trivial⟩, fun U hU hW => ⟨rfl, trivial⟩⟩ rfl rfl hl.1 rfl (lv_room (Nat.le_of_ble_eq_true rfl)) dX3_init_1 ⟨Nat.le_of_ble_eq_true rfl, Nat.le_of_ble_eq_true rfl⟩) hS (fun q _ h => h) (fun q h => h) (fun u t H1 locs ht hvm hw hB hz1 hk1 hS => ?_)
  exact W.vret hx hb hr (fun t ht hW => ⟨⟨(), rfl, trivial, trivial⟩, hS.F ht⟩) hS.2.2 dX3_init_4
theorem gx_c1_10 : Cond.code yX1_init cX1_init 1 none ∈ gn_tbl := (gn_mem 77 (by decide +kernel) (by decide +kernel))
set_option maxHeartbeats 4000000 in
set_option maxRecDepth 100000 in
theorem cx_X10 (l : Launch) (h0 : Nat) : Met l yX10_init (gx_W yX10_init cX10_init 1) ({ frames := 2, cells := 0, slots := 0, locals := 32 }) (va_Pc [.ref h0] gx_V) (va_Qv (fun _ : Unit => True) (fun _ _ => True) (fun _ => False)) 0 0 (fun _ => False) := by
  refine Met.ofW (cc := cX10_init) (maxL := 1) (ret := none) (by decide) rfl ?_
  intro p e s m args below meth c s₁ B hml hv
  obtain ⟨rfl, hV⟩ := hv
  have hx := B.exec
  have hb := B.bytes
  have hr := B.returns
  have hts0 := atoms_spec (ws := gx_W yX10_init cX10_init 1) B.pre
  have hts : ∀ w ∈ gn_tbl, w.before ([Value.ref h0].toArray) s = true := fun w hw => hts0 w (List.mem_cons_of_mem _ hw)
  have hown : s.vm.findClass RX10 = some m.cls := findClass_of_methodNamed B.named
  have hlocks := B.notSynchronized
  have hS : va_S (fun _ => False) s.heap s.heap [] := va_S.rf
  have hl := lv_entry ([.ref h0]) (n := 1) (Nat.le_of_ble_eq_true rfl)
  rw [lg_entry_eq]
  generalize (lg_sl ([.ref h0]) ++ List.replicate (1 - (lg_sl ([.ref h0])).length) Slot.unset).toArray = ls at hl ⊢
  have hl : lv_has ls 1 [(0, .ref h0)] := hl
  refine lv_aload_n hx hb dX10_init_0 rfl (lv_at hl 0 rfl) ?_
  refine va_callv (va_runIN (As := []) (rest := []) (Ts := gn_tbl) ⟨hx, hb, hml, hown, hts⟩ (cx_X1 l h0) ⟨va_cnB 0 hts (gk_good yX1_init gx_c1_10 (pre := []) (fun _ q => absurd q List.not_mem_nil)) rfl rfl rfl (hV.nw 4 rfl) (hts (.initialized RX1) (gn_mem 51 (by decide +kernel) (by decide +kernel))) ⟨by decide +kernel, by decide +kernel, by decide +kernel⟩ ⟨Nat.le_of_ble_eq_true rfl, Nat.le_of_ble_eq_true rfl⟩, rfl, hts (.instanceMethod yX1_init) (gn_mem 76 (by decide +kernel) (by decide +kernel))⟩ ⟨fun a U g mk q => ⟨q.1, trivial⟩, fun U hU hW => ⟨rfl, trivial⟩⟩ rfl rfl hl.1 rfl (lv_room (Nat.le_of_ble_eq_true rfl)) dX10_init_1 ⟨Nat.le_of_ble_eq_true rfl, Nat.le_of_ble_eq_true rfl⟩) hS (fun q _ h => h) (fun q h => h) (fun u t H1 locs ht hvm hw hB hz1 hk1 hS => ?_)
  exact W.vret hx hb hr (fun t ht hW => ⟨⟨(), rfl, trivial, trivial⟩, hS.F ht⟩) hS.2.2 dX10_init_4
theorem gx_c1_5 : Cond.code yX1_init cX1_init 1 none ∈ gn_tbl := (gn_mem 77 (by decide +kernel) (by decide +kernel))
set_option maxHeartbeats 4000000 in
set_option maxRecDepth 100000 in
theorem cx_X5 (l : Launch) (h0 : Nat) : Met l yX5_init (gx_W yX5_init cX5_init 1) ({ frames := 2, cells := 0, slots := 0, locals := 32 }) (va_Pc [.ref h0] gx_V) (va_Qv (fun _ : Unit => True) (fun _ _ => True) (fun _ => False)) 0 0 (fun _ => False) := by
  refine Met.ofW (cc := cX5_init) (maxL := 1) (ret := none) (by decide) rfl ?_
  intro p e s m args below meth c s₁ B hml hv
  obtain ⟨rfl, hV⟩ := hv
  have hx := B.exec
  have hb := B.bytes
  have hr := B.returns
  have hts0 := atoms_spec (ws := gx_W yX5_init cX5_init 1) B.pre
  have hts : ∀ w ∈ gn_tbl, w.before ([Value.ref h0].toArray) s = true := fun w hw => hts0 w (List.mem_cons_of_mem _ hw)
  have hown : s.vm.findClass RX5 = some m.cls := findClass_of_methodNamed B.named
  have hlocks := B.notSynchronized
  have hS : va_S (fun _ => False) s.heap s.heap [] := va_S.rf
  have hl := lv_entry ([.ref h0]) (n := 1) (Nat.le_of_ble_eq_true rfl)
  rw [lg_entry_eq]
  generalize (lg_sl ([.ref h0]) ++ List.replicate (1 - (lg_sl ([.ref h0])).length) Slot.unset).toArray = ls at hl ⊢
  have hl : lv_has ls 1 [(0, .ref h0)] := hl
  refine lv_aload_n hx hb dX5_init_0 rfl (lv_at hl 0 rfl) ?_
  refine va_callv (va_runIN (As := []) (rest := []) (Ts := gn_tbl) ⟨hx, hb, hml, hown, hts⟩ (cx_X1 l h0) ⟨va_cnB 0 hts (gk_good yX1_init gx_c1_5 (pre := []) (fun _ q => absurd q List.not_mem_nil)) rfl rfl rfl (hV.nw 6 rfl) (hts (.initialized RX1) (gn_mem 51 (by decide +kernel) (by decide +kernel))) ⟨by decide +kernel, by decide +kernel, by decide +kernel⟩ ⟨Nat.le_of_ble_eq_true rfl, Nat.le_of_ble_eq_true rfl⟩, rfl, hts (.instanceMethod yX1_init) (gn_mem 76 (by decide +kernel) (by decide +kernel))⟩ ⟨fun a U g mk q => ⟨q.1, trivial⟩, fun U hU hW => ⟨rfl, trivial⟩⟩ rfl rfl hl.1 rfl (lv_room (Nat.le_of_ble_eq_true rfl)) dX5_init_1 ⟨Nat.le_of_ble_eq_true rfl, Nat.le_of_ble_eq_true rfl⟩) hS (fun q _ h => h) (fun q h => h) (fun u t H1 locs ht hvm hw hB hz1 hk1 hS => ?_)
  exact W.vret hx hb hr (fun t ht hW => ⟨⟨(), rfl, trivial, trivial⟩, hS.F ht⟩) hS.2.2 dX5_init_4
theorem gx_c10_9 : Cond.code yX10_init cX10_init 1 none ∈ gn_tbl := (gn_mem 91 (by decide +kernel) (by decide +kernel))
set_option maxHeartbeats 4000000 in
set_option maxRecDepth 100000 in
theorem cx_X9 (l : Launch) (h0 : Nat) : Met l yX9_init (gx_W yX9_init cX9_init 1) ({ frames := 3, cells := 0, slots := 0, locals := 52 }) (va_Pc [.ref h0] gx_V) (va_Qv (fun _ : Unit => True) (fun _ _ => True) (fun _ => False)) 0 0 (fun _ => False) := by
  refine Met.ofW (cc := cX9_init) (maxL := 1) (ret := none) (by decide) rfl ?_
  intro p e s m args below meth c s₁ B hml hv
  obtain ⟨rfl, hV⟩ := hv
  have hx := B.exec
  have hb := B.bytes
  have hr := B.returns
  have hts0 := atoms_spec (ws := gx_W yX9_init cX9_init 1) B.pre
  have hts : ∀ w ∈ gn_tbl, w.before ([Value.ref h0].toArray) s = true := fun w hw => hts0 w (List.mem_cons_of_mem _ hw)
  have hown : s.vm.findClass RX9 = some m.cls := findClass_of_methodNamed B.named
  have hlocks := B.notSynchronized
  have hS : va_S (fun _ => False) s.heap s.heap [] := va_S.rf
  have hl := lv_entry ([.ref h0]) (n := 1) (Nat.le_of_ble_eq_true rfl)
  rw [lg_entry_eq]
  generalize (lg_sl ([.ref h0]) ++ List.replicate (1 - (lg_sl ([.ref h0])).length) Slot.unset).toArray = ls at hl ⊢
  have hl : lv_has ls 1 [(0, .ref h0)] := hl
  refine lv_aload_n hx hb dX9_init_0 rfl (lv_at hl 0 rfl) ?_
  refine va_callv (va_runIN (As := []) (rest := []) (Ts := gn_tbl) ⟨hx, hb, hml, hown, hts⟩ (cx_X10 l h0) ⟨va_cnB 0 hts (gk_good yX10_init gx_c10_9 (pre := []) (fun _ q => absurd q List.not_mem_nil)) rfl rfl rfl (hV.nw 8 rfl) (hts (.initialized RX10) (gn_mem 53 (by decide +kernel) (by decide +kernel))) ⟨by decide +kernel, by decide +kernel, by decide +kernel⟩ ⟨Nat.le_of_ble_eq_true rfl, Nat.le_of_ble_eq_true rfl⟩, rfl, hts (.instanceMethod yX10_init) (gn_mem 90 (by decide +kernel) (by decide +kernel))⟩ ⟨gx_V.blind, fun U hU hW => ⟨rfl, gx_V.warm hW hV⟩⟩ rfl rfl hl.1 rfl (lv_room (Nat.le_of_ble_eq_true rfl)) dX9_init_1 ⟨Nat.le_of_ble_eq_true rfl, Nat.le_of_ble_eq_true rfl⟩) hS (fun q _ h => h) (fun q h => h) (fun u t H1 locs ht hvm hw hB hz1 hk1 hS => ?_)
  exact W.vret hx hb hr (fun t ht hW => ⟨⟨(), rfl, trivial, trivial⟩, hS.F ht⟩) hS.2.2 dX9_init_4
theorem gx_c3_2 : Cond.code yX3_init cX3_init 1 none ∈ gn_tbl := (gn_mem 84 (by decide +kernel) (by decide +kernel))
set_option maxHeartbeats 4000000 in
set_option maxRecDepth 100000 in
theorem cx_X2 (l : Launch) (h0 : Nat) : Met l yX2_init (gx_W yX2_init cX2_init 1) ({ frames := 3, cells := 0, slots := 0, locals := 52 }) (va_Pc [.ref h0] gx_V) (va_Qv (fun _ : Unit => True) (fun _ _ => True) (fun _ => False)) 0 0 (fun _ => False) := by
  refine Met.ofW (cc := cX2_init) (maxL := 1) (ret := none) (by decide) rfl ?_
  intro p e s m args below meth c s₁ B hml hv
  obtain ⟨rfl, hV⟩ := hv
  have hx := B.exec
  have hb := B.bytes
  have hr := B.returns
  have hts0 := atoms_spec (ws := gx_W yX2_init cX2_init 1) B.pre
  have hts : ∀ w ∈ gn_tbl, w.before ([Value.ref h0].toArray) s = true := fun w hw => hts0 w (List.mem_cons_of_mem _ hw)
  have hown : s.vm.findClass RX2 = some m.cls := findClass_of_methodNamed B.named
  have hlocks := B.notSynchronized
  have hS : va_S (fun _ => False) s.heap s.heap [] := va_S.rf
  have hl := lv_entry ([.ref h0]) (n := 1) (Nat.le_of_ble_eq_true rfl)
  rw [lg_entry_eq]
  generalize (lg_sl ([.ref h0]) ++ List.replicate (1 - (lg_sl ([.ref h0])).length) Slot.unset).toArray = ls at hl ⊢
  have hl : lv_has ls 1 [(0, .ref h0)] := hl
  refine lv_aload_n hx hb dX2_init_0 rfl (lv_at hl 0 rfl) ?_
  refine va_callv (va_runIN (As := []) (rest := []) (Ts := gn_tbl) ⟨hx, hb, hml, hown, hts⟩ (cx_X3 l h0) ⟨va_cnB 0 hts (gk_good yX3_init gx_c3_2 (pre := []) (fun _ q => absurd q List.not_mem_nil)) rfl rfl rfl (hV.nw 10 rfl) (hts (.initialized RX3) (gn_mem 52 (by decide +kernel) (by decide +kernel))) ⟨by decide +kernel, by decide +kernel, by decide +kernel⟩ ⟨Nat.le_of_ble_eq_true rfl, Nat.le_of_ble_eq_true rfl⟩, rfl, hts (.instanceMethod yX3_init) (gn_mem 83 (by decide +kernel) (by decide +kernel))⟩ ⟨gx_V.blind, fun U hU hW => ⟨rfl, gx_V.warm hW hV⟩⟩ rfl rfl hl.1 rfl (lv_room (Nat.le_of_ble_eq_true rfl)) dX2_init_1 ⟨Nat.le_of_ble_eq_true rfl, Nat.le_of_ble_eq_true rfl⟩) hS (fun q _ h => h) (fun q h => h) (fun u t H1 locs ht hvm hw hB hz1 hk1 hS => ?_)
  exact W.vret hx hb hr (fun t ht hW => ⟨⟨(), rfl, trivial, trivial⟩, hS.F ht⟩) hS.2.2 dX2_init_4
