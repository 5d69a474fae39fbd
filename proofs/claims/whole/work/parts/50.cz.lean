/-! Letters() -/
theorem gx_u {U : State} {ty : FieldType} (hty : ty = .int ∨ ∃ C, ty = .object C) {c1 c2 : ClassId} (h1 : va_RA U c1 ty) (h2 : va_RA U c2 ty) : c1 = c2 := by
  rcases hty with rfl | ⟨C, rfl⟩
  · exact Option.some.inj ((show U.vm.findClass _ = some c1 from h1).symm.trans h2)
  · obtain ⟨_, _, _, _, _, e1⟩ := h1
    obtain ⟨_, _, _, _, _, e2⟩ := h2
    exact Option.some.inj (e1.symm.trans e2)
def gx_z6 (h0 : Nat) : va_W := [(h0, .inr (6, [.null, .int 0, .int 0, .int 0]))]
def gx_w6 (h0 q : Nat) (cA : ClassId) : va_W := [(h0, .inr (6, [.ref q, .int 0, .int 0, .int 0])), (q, .inl (cA, 80, .inl (fun _ => 0)))]
def gx_at6 (D : va_G) (A : Nat → Prop) (h0 : Nat) : Unit → State → Prop := fun _ t => ∃ (q : Nat) (cA : ClassId), va_P D vwCl (gx_w6 h0 q cA) t.heap ∧ va_K D vwCl [(cA, .int)] t ∧ va_D A (gx_w6 h0 q cA)
set_option maxHeartbeats 4000000 in
set_option maxRecDepth 100000 in
theorem cx_X6 (l : Launch) (D : va_G) (h0 sz : Nat) : Met l yX6_init (gx_W yX6_init cX6_init 1) ({ frames := 1, cells := 1, slots := 80, locals := 13 }) (va_Pc [.ref h0] (fun U => U.heap.size = sz ∧ va_P D vwCl (gx_z6 h0) U.heap ∧ va_K D vwCl [] U ∧ va_D (fun _ => True) (gx_z6 h0))) (va_Qv (fun _ : Unit => True) (gx_at6 D (va_A (gx_z6 h0) sz) h0) (va_A (gx_z6 h0) sz)) 1 80 (va_A (gx_z6 h0) sz) := by
  refine Met.ofW (cc := cX6_init) (maxL := 1) (ret := none) (by decide) rfl ?_
  intro p e s m args below meth c s₁ B hml hv
  obtain ⟨rfl, hsz, hP, hK, hD0⟩ := hv
  have hx := B.exec
  have hb := B.bytes
  have hr := B.returns
  have hts0 := atoms_spec (ws := gx_W yX6_init cX6_init 1) B.pre
  have hts : ∀ w ∈ gn_tbl, w.before ([Value.ref h0].toArray) s = true := fun w hw => hts0 w (List.mem_cons_of_mem _ hw)
  have hown : s.vm.findClass RX6 = some m.cls := findClass_of_methodNamed B.named
  have hlocks := B.notSynchronized
  have hin : meth.name = "<init>" := (name_of_methodNamed B.named B.method).1
  subst hsz
  have hD := hD0.self (sz := s.heap.size)
  generalize hAe : va_A (gx_z6 h0) s.heap.size = A at hD ⊢
  have hA : ∀ q : Nat, s.heap.size ≤ q → A q := fun q h => by rw [← hAe]; exact Or.inr h
  have hS : va_S A s.heap s.heap [] := va_S.rf
  have hP : va_P D vwCl [(h0, .inr (6, [.null, .int 0, .int 0, .int 0]))] s.heap := hP
  have hl := lv_entry ([.ref h0]) (n := 1) (Nat.le_of_ble_eq_true rfl)
  rw [lg_entry_eq]
  generalize (lg_sl ([.ref h0]) ++ List.replicate (1 - (lg_sl ([.ref h0])).length) Slot.unset).toArray = ls at hl ⊢
  have hl : lv_has ls 1 [(0, .ref h0)] := hl
  refine lv_aload_n hx hb dX6_init_0 rfl (lv_at hl 0 rfl) ?_
  refine W.objInit hx hb hown (hts (.methodLink RX6 3 Lib.objectInit) (gn_mem 254 (by decide +kernel) (by decide +kernel))) (hts _ gx_oi) (hts _ gx_oc) rfl (by rw [hml]; exact hl.1) rfl dX6_init_1 (Nat.le_of_ble_eq_true rfl) (Nat.le_of_ble_eq_true rfl) ?_
  refine W.eq (g2 := F0 m 4 ls []) rfl ?_
  refine lv_aload_n hx hb dX6_init_4 rfl (lv_at hl 0 rfl) ?_
  refine lv_bipush (v := 80) hx hb dX6_init_5 (by decide) ?_
  refine va_newa (atype := .int) (ty := .int) (n := 80) (N' := 80) (a0 := (80, .inl (fun _ => 0))) hx hb (hts (.arrayClass .int) (gn_mem 209 (by decide +kernel) (by decide +kernel))) rfl hK hP hD hS hA (fun _ => rfl) (by decide) (by decide) (by decide) (Nat.le_of_ble_eq_true rfl) (Nat.le_of_ble_eq_true rfl) dX6_init_7 (fun q cA H hK hP hD hS => ?_)
  have hP : va_P D vwCl [(h0, .inr (6, [.null, .int 0, .int 0, .int 0])), (q, .inl (cA, 80, .inl (fun _ => 0)))] H := hP
  have hD : va_D A [(h0, .inr (6, [.null, .int 0, .int 0, .int 0])), (q, .inl (cA, 80, .inl (fun _ => 0)))] := hD
  have hK : va_K D vwCl [(cA, .int)] s := hK
  refine va_putF (D := D) (ci := 6) (v := .ref q) (ty := .array .int) (C := RX6) (T := TX6) (N := 4) hx hb hts gn_inX6 tyX6 tyX6_ok nmX6 hown hK hP hD hS 0 rfl rfl 0 (by decide) (hts (.fieldLink RX6 9 RX6 "signs" "[I") (gn_mem 255 (by decide +kernel) (by decide +kernel))) (fun _ h9 => h9) rfl hin rfl (by decide +kernel) rfl rfl (Nat.le_of_ble_eq_true rfl) dX6_init_9 (fun H locs hP hD hS => ?_)
  have hP : va_P D vwCl (gx_w6 h0 q cA) H := hP
  have hD : va_D A (gx_w6 h0 q cA) := hD
  exact W.vret hx hb hr (fun t ht hW => ⟨⟨(), rfl, trivial, q, cA, by rw [ht]; exact hP, va_K.moved hW.alike hK, hD⟩, hS.F ht⟩) hS.2.2 dX6_init_12
