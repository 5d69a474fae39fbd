theorem gx_keep {D : va_G} {cl : List vw_C} {ws : va_W} {H H1 : Heap} (hP : va_P D cl ws H) (hk : ∀ q : Nat, q < H.size → ¬ False → H1[q]? = H[q]?) : va_P D cl ws H1 := fun k q h => (hP k q h).kept (hk q.1 (hP k q h).lt (fun z => z))
set_option maxHeartbeats 4000000 in
theorem gx_arr {p : Program} {l : Launch} {e : Env} {R : Room} {s : State} {m : MethodId} {args : Array Value} {below : List Frame} {meth : Method} {c : Code} {H : Heap} {locs : List Loc} {cells slots : Nat} {Q : State → Prop} {cc : ByteArray} {pc : Nat} {ls : Array Slot} {rest : List Value} {own : String} {T : u_T} {N ci : Nat} {tys : List (ClassId × FieldType)} {cA : ClassId} {D : va_G} {A : Nat → Prop} {h0 : Nat} {fs : List Value} {Y : va_W} (hx : p.tables.exec = Jvm.exec) (hb : c.code = cc) (hts : ∀ w ∈ gn_tbl, w.before args s = true) (hin : ∀ w ∈ u_ws own T N, w ∈ gn_tbl) (ty0 : Nat → FieldType) (hty : ∀ k, k < N → parseFieldDescriptor (T k).2.2.1 = some (ty0 k)) (hnm : ∀ a, a < N → ∀ b, b < N → a ≠ b → (T a).2.1 ≠ (T b).2.1) (hown : s.vm.findClass own = some m.cls) (hK : va_K D vwCl ((cA, .int) :: tys) s) (hc : vwCl[ci]? = some (own, T, N)) (hA : ∀ q : Nat, s.heap.size ≤ q → A q) (hin2 : meth.name = "<init>")
    (hP : va_P D vwCl ((h0, .inr (ci, fs)) :: Y) H) (hD : va_D A ((h0, .inr (ci, fs)) :: Y)) (hS : va_S A s.heap H locs) (hfl : fs.length = N) (n : Int32) (N' k : Nat) (hn0 : ¬ n < 0) (hN : n.toNatClampNeg = N') (hby : N' * componentBytes .int ≤ 536870912) {index : Nat} (hk : k < N) (hlink : (Cond.fieldLink own index own (T k).2.1 (T k).2.2.1).before args s = true) (h1 : (T k).1 = own) (hfin : (T k).2.2.2 = true) (hd : parseFieldDescriptor (T k).2.2.1 = some (.array .int))
    (hcells : cells + 1 ≤ R.cells) (hslots : slots + N' ≤ R.slots) (d0 : decode cc pc = .ok (.newarray .int, 2)) (d1 : decode cc (pc + 2) = .ok (.putfield index, 3))
    (kk : ∀ (q : Nat) (H : Heap) (locs : List Loc), va_P D vwCl ((h0, .inr (ci, fs.set k (.ref q))) :: (Y ++ [(q, .inl (cA, N', .inl (fun _ => 0)))])) H → va_D A ((h0, .inr (ci, fs.set k (.ref q))) :: (Y ++ [(q, .inl (cA, N', .inl (fun _ => 0)))])) → va_S A s.heap H locs → W p l e R s m args below meth c H locs (cells + 1) (slots + N') Q (F0 m (pc + 5) ls rest)) :
    W p l e R s m args below meth c H locs cells slots Q (F0 m pc ls (.int n :: .ref h0 :: rest)) := by
  refine va_newa (atype := .int) (ty := .int) (n := n) (N' := N') (a0 := (N', .inl (fun _ => 0))) hx hb (hts (.arrayClass .int) (gn_mem 209 (by decide +kernel) (by decide +kernel))) rfl hK hP hD hS hA (fun _ => rfl) hn0 hN hby hcells hslots d0 (fun q c1 H hK2 hP hD hS => ?_)
  have e1 : cA = c1 := gx_u (Or.inl rfl) (hK.2 0 _ rfl).2 (hK2.2 (tys.length + 1) (c1, FieldType.int) (by rw [List.getElem?_append_right (by simp)]; simp)).2
  subst e1
  refine va_putF (D := D) (ci := ci) (v := .ref q) (ty := .array .int) (C := own) (T := T) (N := N) hx hb hts hin ty0 hty hnm hown hK hP hD hS 0 rfl hc k hk hlink (fun _ h9 => by rw [h1] at h9; exact h9) hfin hin2 h1 hd rfl rfl (by rw [hfl]; exact hk) d1 (fun H locs hP hD hS => ?_)
  exact kk q H locs hP hD hS
def gx_z12 (h0 : Nat) : va_W := [(h0, .inr (12, [.int 0, .int 0, .int 0, .int 0, .int 0, .null, .null, .null, .null, .null, .null, .null, .null, .int 0, .null, .int 0, .int 0, .null, .null, .int 0, .int 0, .int 0, .null, .null, .int 0, .int 0, .int 0, .int 0, .null, .null, .null, .null, .int 0, .int 0]))]
def gx_w12 (a : Nat → Nat) (cA : ClassId) : va_W := [(a 0, .inr (12, [.int 0, .int 10, .int 30, .int 0, .int 0, .ref (a 1), .ref (a 2), .ref (a 3), .ref (a 4), .ref (a 5), .ref (a 6), .ref (a 7), .ref (a 8), .int 0, .ref (a 9), .int 0, .int 0, .ref (a 10), .ref (a 11), .int 0, .int 0, .int 0, .null, .ref (a 12), .int 0, .int 0, .int 0, .int 0, .ref (a 13), .ref (a 14), .ref (a 15), .ref (a 16), .int 0, .int 0])), (a 1, .inl (cA, 7, .inl (fun _ => 0))), (a 2, .inl (cA, 7, .inl (fun _ => 0))), (a 3, .inl (cA, 6, .inl (fun _ => 0))), (a 4, .inl (cA, 6, .inl (fun _ => 0))), (a 5, .inl (cA, 6, .inl (fun _ => 0))), (a 6, .inl (cA, 6, .inl (fun _ => 0))), (a 7, .inl (cA, 6, .inl (fun _ => 0))), (a 8, .inl (cA, 6, .inl (fun _ => 0))), (a 9, .inl (cA, 7, .inl (fun _ => 0))), (a 10, .inl (cA, 56, .inl (fun _ => 0))), (a 11, .inl (cA, 56, .inl (fun _ => 0))), (a 12, .inl (cA, 80, .inl (fun _ => 0))), (a 13, .inl (cA, 28, .inl (fun _ => 0))), (a 14, .inl (cA, 28, .inl (fun _ => 0))), (a 15, .inl (cA, 168, .inl (fun _ => 0))), (a 16, .inl (cA, 12, .inl (fun _ => 0)))]
def gx_at12 (D : va_G) (A : Nat → Prop) (h0 : Nat) : Unit → State → Prop := fun _ t => ∃ (a : Nat → Nat) (cA : ClassId), a 0 = h0 ∧ va_P D vwCl (gx_w12 a cA) t.heap ∧ va_K D vwCl [(cA, .int)] t ∧ va_D A (gx_w12 a cA)
set_option maxHeartbeats 4000000 in
set_option maxRecDepth 100000 in
theorem cx_X12 (l : Launch) (D : va_G) (h0 sz : Nat) : Met l yX12_init (gx_W yX12_init cX12_init 1) ({ frames := 1, cells := 16, slots := 485, locals := 14 }) (va_Pc [.ref h0] (fun U => gx_V U ∧ U.heap.size = sz ∧ va_P D vwCl (gx_z12 h0) U.heap ∧ va_K D vwCl [] U ∧ va_D (fun _ => True) (gx_z12 h0))) (va_Qv (fun _ : Unit => True) (gx_at12 D (va_A (gx_z12 h0) sz) h0) (va_A (gx_z12 h0) sz)) 16 485 (va_A (gx_z12 h0) sz) := by
  refine Met.ofW (cc := cX12_init) (maxL := 1) (ret := none) (by decide) rfl ?_
  intro p e s m args below meth c s₁ B hml hv
  obtain ⟨rfl, hV, hsz, hP, hK, hD0⟩ := hv
  have hx := B.exec
  have hb := B.bytes
  have hr := B.returns
  have hts0 := atoms_spec (ws := gx_W yX12_init cX12_init 1) B.pre
  have hts : ∀ w ∈ gn_tbl, w.before ([Value.ref h0].toArray) s = true := fun w hw => hts0 w (List.mem_cons_of_mem _ hw)
  have hown : s.vm.findClass RX12 = some m.cls := findClass_of_methodNamed B.named
  have hlocks := B.notSynchronized
  have hin : meth.name = "<init>" := (name_of_methodNamed B.named B.method).1
  subst hsz
  have hD := hD0.self (sz := s.heap.size)
  generalize hAe : va_A (gx_z12 h0) s.heap.size = A at hD ⊢
  have hA : ∀ q : Nat, s.heap.size ≤ q → A q := fun q h => by rw [← hAe]; exact Or.inr h
  have hS : va_S A s.heap s.heap [] := va_S.rf
  have hl := lv_entry ([.ref h0]) (n := 1) (Nat.le_of_ble_eq_true rfl)
  rw [lg_entry_eq]
  generalize (lg_sl ([.ref h0]) ++ List.replicate (1 - (lg_sl ([.ref h0])).length) Slot.unset).toArray = ls at hl ⊢
  have hl : lv_has ls 1 [(0, .ref h0)] := hl
  obtain ⟨fs, hfs⟩ : ∃ f : List Value, f = [.int 0, .int 0, .int 0, .int 0, .int 0, .null, .null, .null, .null, .null, .null, .null, .null, .int 0, .null, .int 0, .int 0, .null, .null, .int 0, .int 0, .int 0, .null, .null, .int 0, .int 0, .int 0, .int 0, .null, .null, .null, .null, .int 0, .int 0] := ⟨_, rfl⟩
  obtain ⟨Y, hY⟩ : ∃ f : va_W, f = [] := ⟨_, rfl⟩
  have hP : va_P D vwCl ((h0, .inr (12, fs)) :: Y) s.heap := by rw [hfs, hY]; exact hP
  have hD : va_D A ((h0, .inr (12, fs)) :: Y) := by rw [hfs, hY]; exact hD
  have hfl : fs.length = 34 := by rw [hfs]; rfl
  refine lv_aload_n hx hb dX12_init_0 rfl (lv_at hl 0 rfl) ?_
  refine W.objInit hx hb hown (hts (.methodLink RX12 1 Lib.objectInit) (gn_mem 693 (by decide +kernel) (by decide +kernel))) (hts _ gx_oi) (hts _ gx_oc) rfl (by rw [hml]; exact hl.1) rfl dX12_init_1 (Nat.le_of_ble_eq_true rfl) (Nat.le_of_ble_eq_true rfl) ?_
  refine W.eq (g2 := F0 m 4 ls []) rfl ?_
  refine lv_aload_n hx hb dX12_init_4 rfl (lv_at hl 0 rfl) ?_
  refine lv_bipush (v := 10) hx hb dX12_init_5 (by decide) ?_
  refine va_put (D := D) (ci := 12) (v := .int 10) (ty := .int) (C := RX12) (T := TX12) (N := 34) hx hb hts gn_inX12 tyX12 tyX12_ok nmX12 hown hK hP hD hS 0 rfl rfl 1 (by decide) (hts (.fieldLink RX12 7 RX12 "reach" "I") (gn_mem 695 (by decide +kernel) (by decide +kernel))) (fun _ h9 => h9) rfl (by decide +kernel) rfl rfl (by rw [hfl]; decide) dX12_init_7 (fun H locs hP hD hS => ?_)
  have hP : va_P D vwCl ((h0, .inr (12, fs.set 1 (.int 10))) :: Y) H := hP
  have hD : va_D A ((h0, .inr (12, fs.set 1 (.int 10))) :: Y) := hD
  have hfl : (fs.set 1 (.int 10)).length = 34 := by rw [List.length_set]; exact hfl
  generalize e1 : fs.set 1 (.int 10) = fs1 at hP hD hfl
  refine lv_aload_n hx hb dX12_init_10 rfl (lv_at hl 0 rfl) ?_
  refine lv_bipush (v := 30) hx hb dX12_init_11 (by decide) ?_
  refine va_put (D := D) (ci := 12) (v := .int 30) (ty := .int) (C := RX12) (T := TX12) (N := 34) hx hb hts gn_inX12 tyX12 tyX12_ok nmX12 hown hK hP hD hS 0 rfl rfl 2 (by decide) (hts (.fieldLink RX12 13 RX12 "sight" "I") (gn_mem 696 (by decide +kernel) (by decide +kernel))) (fun _ h9 => h9) rfl (by decide +kernel) rfl rfl (by rw [hfl]; decide) dX12_init_13 (fun H locs hP hD hS => ?_)
  have hP : va_P D vwCl ((h0, .inr (12, fs1.set 2 (.int 30))) :: Y) H := hP
  have hD : va_D A ((h0, .inr (12, fs1.set 2 (.int 30))) :: Y) := hD
  have hfl : (fs1.set 2 (.int 30)).length = 34 := by rw [List.length_set]; exact hfl
  generalize e2 : fs1.set 2 (.int 30) = fs2 at hP hD hfl
  refine lv_aload_n hx hb dX12_init_16 rfl (lv_at hl 0 rfl) ?_
  refine lv_bipush (v := 7) hx hb dX12_init_17 (by decide) ?_
  refine va_newa (atype := .int) (ty := .int) (n := 7) (N' := 7) (a0 := (7, .inl (fun _ => 0))) hx hb (hts (.arrayClass .int) (gn_mem 209 (by decide +kernel) (by decide +kernel))) rfl hK hP hD hS hA (fun _ => rfl) (by decide) (by decide) (by decide) (Nat.le_of_ble_eq_true rfl) (Nat.le_of_ble_eq_true rfl) dX12_init_19 (fun q0 cA H hK hP hD hS => ?_)
  have hK : va_K D vwCl [(cA, .int)] s := hK
  refine va_putF (D := D) (ci := 12) (v := .ref q0) (ty := .array .int) (C := RX12) (T := TX12) (N := 34) hx hb hts gn_inX12 tyX12 tyX12_ok nmX12 hown hK hP hD hS 0 rfl rfl 5 (by decide) (hts (.fieldLink RX12 16 RX12 "windEast" "[I") (gn_mem 699 (by decide +kernel) (by decide +kernel))) (fun _ h9 => h9) rfl hin rfl (by decide +kernel) rfl rfl (by rw [hfl]; decide) dX12_init_21 (fun H locs hP hD hS => ?_)
  have hP : va_P D vwCl ((h0, .inr (12, fs2.set 5 (.ref q0))) :: (Y ++ [(q0, .inl (cA, 7, .inl (fun _ => 0)))])) H := hP
  have hD : va_D A ((h0, .inr (12, fs2.set 5 (.ref q0))) :: (Y ++ [(q0, .inl (cA, 7, .inl (fun _ => 0)))])) := hD
  have hfl : (fs2.set 5 (.ref q0)).length = 34 := by rw [List.length_set]; exact hfl
  generalize e3 : fs2.set 5 (.ref q0) = fs3 at hP hD hfl
  generalize g3 : Y ++ [(q0, .inl (cA, 7, .inl (fun _ => 0)))] = Y3 at hP hD
  refine W.widen (k := 1) (n := 7) (Nat.le_of_ble_eq_true rfl) (Nat.le_of_ble_eq_true rfl) ?_
  refine lv_aload_n hx hb dX12_init_24 rfl (lv_at hl 0 rfl) ?_
  refine lv_bipush (v := 7) hx hb dX12_init_25 (by decide) ?_
  refine gx_arr (T := TX12) (N := 34) (ci := 12) hx hb hts gn_inX12 tyX12 tyX12_ok nmX12 hown hK rfl hA hin hP hD hS hfl 7 7 6 (by decide) (by decide) (by decide) (by decide) (hts (.fieldLink RX12 20 RX12 "windNorth" "[I") (gn_mem 700 (by decide +kernel) (by decide +kernel))) rfl rfl (by decide +kernel) (Nat.le_of_ble_eq_true rfl) (Nat.le_of_ble_eq_true rfl) dX12_init_27 dX12_init_29 (fun q1 H locs hP hD hS => ?_)
  have hP : va_P D vwCl ((h0, .inr (12, fs3.set 6 (.ref q1))) :: (Y3 ++ [(q1, .inl (cA, 7, .inl (fun _ => 0)))])) H := hP
  have hD : va_D A ((h0, .inr (12, fs3.set 6 (.ref q1))) :: (Y3 ++ [(q1, .inl (cA, 7, .inl (fun _ => 0)))])) := hD
  have hfl : (fs3.set 6 (.ref q1)).length = 34 := by rw [List.length_set]; exact hfl
  generalize e4 : fs3.set 6 (.ref q1) = fs4 at hP hD hfl
  generalize g4 : Y3 ++ [(q1, .inl (cA, 7, .inl (fun _ => 0)))] = Y4 at hP hD
  refine W.widen (k := 2) (n := 14) (Nat.le_of_ble_eq_true rfl) (Nat.le_of_ble_eq_true rfl) ?_
  refine lv_aload_n hx hb dX12_init_32 rfl (lv_at hl 0 rfl) ?_
  refine lv_bipush (v := 6) hx hb dX12_init_33 (by decide) ?_
  refine gx_arr (T := TX12) (N := 34) (ci := 12) hx hb hts gn_inX12 tyX12 tyX12_ok nmX12 hown hK rfl hA hin hP hD hS hfl 6 6 7 (by decide) (by decide) (by decide) (by decide) (hts (.fieldLink RX12 23 RX12 "kinds" "[I") (gn_mem 701 (by decide +kernel) (by decide +kernel))) rfl rfl (by decide +kernel) (Nat.le_of_ble_eq_true rfl) (Nat.le_of_ble_eq_true rfl) dX12_init_35 dX12_init_37 (fun q2 H locs hP hD hS => ?_)
  have hP : va_P D vwCl ((h0, .inr (12, fs4.set 7 (.ref q2))) :: (Y4 ++ [(q2, .inl (cA, 6, .inl (fun _ => 0)))])) H := hP
  have hD : va_D A ((h0, .inr (12, fs4.set 7 (.ref q2))) :: (Y4 ++ [(q2, .inl (cA, 6, .inl (fun _ => 0)))])) := hD
  have hfl : (fs4.set 7 (.ref q2)).length = 34 := by rw [List.length_set]; exact hfl
  generalize e5 : fs4.set 7 (.ref q2) = fs5 at hP hD hfl
  generalize g5 : Y4 ++ [(q2, .inl (cA, 6, .inl (fun _ => 0)))] = Y5 at hP hD
  refine W.widen (k := 3) (n := 20) (Nat.le_of_ble_eq_true rfl) (Nat.le_of_ble_eq_true rfl) ?_
  refine lv_aload_n hx hb dX12_init_40 rfl (lv_at hl 0 rfl) ?_
  refine lv_bipush (v := 6) hx hb dX12_init_41 (by decide) ?_
  refine gx_arr (T := TX12) (N := 34) (ci := 12) hx hb hts gn_inX12 tyX12 tyX12_ok nmX12 hown hK rfl hA hin hP hD hS hfl 6 6 8 (by decide) (by decide) (by decide) (by decide) (hts (.fieldLink RX12 26 RX12 "figures" "[I") (gn_mem 702 (by decide +kernel) (by decide +kernel))) rfl rfl (by decide +kernel) (Nat.le_of_ble_eq_true rfl) (Nat.le_of_ble_eq_true rfl) dX12_init_43 dX12_init_45 (fun q3 H locs hP hD hS => ?_)
  have hP : va_P D vwCl ((h0, .inr (12, fs5.set 8 (.ref q3))) :: (Y5 ++ [(q3, .inl (cA, 6, .inl (fun _ => 0)))])) H := hP
  have hD : va_D A ((h0, .inr (12, fs5.set 8 (.ref q3))) :: (Y5 ++ [(q3, .inl (cA, 6, .inl (fun _ => 0)))])) := hD
  have hfl : (fs5.set 8 (.ref q3)).length = 34 := by rw [List.length_set]; exact hfl
  generalize e6 : fs5.set 8 (.ref q3) = fs6 at hP hD hfl
  generalize g6 : Y5 ++ [(q3, .inl (cA, 6, .inl (fun _ => 0)))] = Y6 at hP hD
  refine W.widen (k := 4) (n := 26) (Nat.le_of_ble_eq_true rfl) (Nat.le_of_ble_eq_true rfl) ?_
  refine lv_aload_n hx hb dX12_init_48 rfl (lv_at hl 0 rfl) ?_
  refine lv_bipush (v := 6) hx hb dX12_init_49 (by decide) ?_
  refine gx_arr (T := TX12) (N := 34) (ci := 12) hx hb hts gn_inX12 tyX12 tyX12_ok nmX12 hown hK rfl hA hin hP hD hS hfl 6 6 9 (by decide) (by decide) (by decide) (by decide) (hts (.fieldLink RX12 29 RX12 "crews" "[I") (gn_mem 703 (by decide +kernel) (by decide +kernel))) rfl rfl (by decide +kernel) (Nat.le_of_ble_eq_true rfl) (Nat.le_of_ble_eq_true rfl) dX12_init_51 dX12_init_53 (fun q4 H locs hP hD hS => ?_)
  have hP : va_P D vwCl ((h0, .inr (12, fs6.set 9 (.ref q4))) :: (Y6 ++ [(q4, .inl (cA, 6, .inl (fun _ => 0)))])) H := hP
  have hD : va_D A ((h0, .inr (12, fs6.set 9 (.ref q4))) :: (Y6 ++ [(q4, .inl (cA, 6, .inl (fun _ => 0)))])) := hD
  have hfl : (fs6.set 9 (.ref q4)).length = 34 := by rw [List.length_set]; exact hfl
  generalize e7 : fs6.set 9 (.ref q4) = fs7 at hP hD hfl
  generalize g7 : Y6 ++ [(q4, .inl (cA, 6, .inl (fun _ => 0)))] = Y7 at hP hD
  refine W.widen (k := 5) (n := 32) (Nat.le_of_ble_eq_true rfl) (Nat.le_of_ble_eq_true rfl) ?_
  refine lv_aload_n hx hb dX12_init_56 rfl (lv_at hl 0 rfl) ?_
  refine lv_bipush (v := 6) hx hb dX12_init_57 (by decide) ?_
  refine gx_arr (T := TX12) (N := 34) (ci := 12) hx hb hts gn_inX12 tyX12 tyX12_ok nmX12 hown hK rfl hA hin hP hD hS hfl 6 6 10 (by decide) (by decide) (by decide) (by decide) (hts (.fieldLink RX12 32 RX12 "breads" "[I") (gn_mem 704 (by decide +kernel) (by decide +kernel))) rfl rfl (by decide +kernel) (Nat.le_of_ble_eq_true rfl) (Nat.le_of_ble_eq_true rfl) dX12_init_59 dX12_init_61 (fun q5 H locs hP hD hS => ?_)
  have hP : va_P D vwCl ((h0, .inr (12, fs7.set 10 (.ref q5))) :: (Y7 ++ [(q5, .inl (cA, 6, .inl (fun _ => 0)))])) H := hP
  have hD : va_D A ((h0, .inr (12, fs7.set 10 (.ref q5))) :: (Y7 ++ [(q5, .inl (cA, 6, .inl (fun _ => 0)))])) := hD
  have hfl : (fs7.set 10 (.ref q5)).length = 34 := by rw [List.length_set]; exact hfl
  generalize e8 : fs7.set 10 (.ref q5) = fs8 at hP hD hfl
  generalize g8 : Y7 ++ [(q5, .inl (cA, 6, .inl (fun _ => 0)))] = Y8 at hP hD
  refine W.widen (k := 6) (n := 38) (Nat.le_of_ble_eq_true rfl) (Nat.le_of_ble_eq_true rfl) ?_
  refine lv_aload_n hx hb dX12_init_64 rfl (lv_at hl 0 rfl) ?_
  refine lv_bipush (v := 6) hx hb dX12_init_65 (by decide) ?_
  refine gx_arr (T := TX12) (N := 34) (ci := 12) hx hb hts gn_inX12 tyX12 tyX12_ok nmX12 hown hK rfl hA hin hP hD hS hfl 6 6 11 (by decide) (by decide) (by decide) (by decide) (hts (.fieldLink RX12 35 RX12 "easts" "[I") (gn_mem 705 (by decide +kernel) (by decide +kernel))) rfl rfl (by decide +kernel) (Nat.le_of_ble_eq_true rfl) (Nat.le_of_ble_eq_true rfl) dX12_init_67 dX12_init_69 (fun q6 H locs hP hD hS => ?_)
  have hP : va_P D vwCl ((h0, .inr (12, fs8.set 11 (.ref q6))) :: (Y8 ++ [(q6, .inl (cA, 6, .inl (fun _ => 0)))])) H := hP
  have hD : va_D A ((h0, .inr (12, fs8.set 11 (.ref q6))) :: (Y8 ++ [(q6, .inl (cA, 6, .inl (fun _ => 0)))])) := hD
  have hfl : (fs8.set 11 (.ref q6)).length = 34 := by rw [List.length_set]; exact hfl
  generalize e9 : fs8.set 11 (.ref q6) = fs9 at hP hD hfl
  generalize g9 : Y8 ++ [(q6, .inl (cA, 6, .inl (fun _ => 0)))] = Y9 at hP hD
  refine W.widen (k := 7) (n := 44) (Nat.le_of_ble_eq_true rfl) (Nat.le_of_ble_eq_true rfl) ?_
  refine lv_aload_n hx hb dX12_init_72 rfl (lv_at hl 0 rfl) ?_
  refine lv_bipush (v := 6) hx hb dX12_init_73 (by decide) ?_
  refine gx_arr (T := TX12) (N := 34) (ci := 12) hx hb hts gn_inX12 tyX12 tyX12_ok nmX12 hown hK rfl hA hin hP hD hS hfl 6 6 12 (by decide) (by decide) (by decide) (by decide) (hts (.fieldLink RX12 38 RX12 "norths" "[I") (gn_mem 706 (by decide +kernel) (by decide +kernel))) rfl rfl (by decide +kernel) (Nat.le_of_ble_eq_true rfl) (Nat.le_of_ble_eq_true rfl) dX12_init_75 dX12_init_77 (fun q7 H locs hP hD hS => ?_)
  have hP : va_P D vwCl ((h0, .inr (12, fs9.set 12 (.ref q7))) :: (Y9 ++ [(q7, .inl (cA, 6, .inl (fun _ => 0)))])) H := hP
  have hD : va_D A ((h0, .inr (12, fs9.set 12 (.ref q7))) :: (Y9 ++ [(q7, .inl (cA, 6, .inl (fun _ => 0)))])) := hD
  have hfl : (fs9.set 12 (.ref q7)).length = 34 := by rw [List.length_set]; exact hfl
  generalize e10 : fs9.set 12 (.ref q7) = fs10 at hP hD hfl
  generalize g10 : Y9 ++ [(q7, .inl (cA, 6, .inl (fun _ => 0)))] = Y10 at hP hD
  refine W.widen (k := 8) (n := 50) (Nat.le_of_ble_eq_true rfl) (Nat.le_of_ble_eq_true rfl) ?_
  refine lv_aload_n hx hb dX12_init_80 rfl (lv_at hl 0 rfl) ?_
  refine lv_bipush (v := 7) hx hb dX12_init_81 (by decide) ?_
  refine gx_arr (T := TX12) (N := 34) (ci := 12) hx hb hts gn_inX12 tyX12 tyX12_ok nmX12 hown hK rfl hA hin hP hD hS hfl 7 7 14 (by decide) (by decide) (by decide) (by decide) (hts (.fieldLink RX12 41 RX12 "refusals" "[I") (gn_mem 708 (by decide +kernel) (by decide +kernel))) rfl rfl (by decide +kernel) (Nat.le_of_ble_eq_true rfl) (Nat.le_of_ble_eq_true rfl) dX12_init_83 dX12_init_85 (fun q8 H locs hP hD hS => ?_)
  have hP : va_P D vwCl ((h0, .inr (12, fs10.set 14 (.ref q8))) :: (Y10 ++ [(q8, .inl (cA, 7, .inl (fun _ => 0)))])) H := hP
  have hD : va_D A ((h0, .inr (12, fs10.set 14 (.ref q8))) :: (Y10 ++ [(q8, .inl (cA, 7, .inl (fun _ => 0)))])) := hD
  have hfl : (fs10.set 14 (.ref q8)).length = 34 := by rw [List.length_set]; exact hfl
  generalize e11 : fs10.set 14 (.ref q8) = fs11 at hP hD hfl
  generalize g11 : Y10 ++ [(q8, .inl (cA, 7, .inl (fun _ => 0)))] = Y11 at hP hD
  refine W.widen (k := 9) (n := 57) (Nat.le_of_ble_eq_true rfl) (Nat.le_of_ble_eq_true rfl) ?_
  refine lv_aload_n hx hb dX12_init_88 rfl (lv_at hl 0 rfl) ?_
  refine lv_bipush (v := 56) hx hb dX12_init_89 (by decide) ?_
  refine gx_arr (T := TX12) (N := 34) (ci := 12) hx hb hts gn_inX12 tyX12 tyX12_ok nmX12 hown hK rfl hA hin hP hD hS hfl 56 56 17 (by decide) (by decide) (by decide) (by decide) (hts (.fieldLink RX12 44 RX12 "kept" "[I") (gn_mem 711 (by decide +kernel) (by decide +kernel))) rfl rfl (by decide +kernel) (Nat.le_of_ble_eq_true rfl) (Nat.le_of_ble_eq_true rfl) dX12_init_91 dX12_init_93 (fun q9 H locs hP hD hS => ?_)
  have hP : va_P D vwCl ((h0, .inr (12, fs11.set 17 (.ref q9))) :: (Y11 ++ [(q9, .inl (cA, 56, .inl (fun _ => 0)))])) H := hP
  have hD : va_D A ((h0, .inr (12, fs11.set 17 (.ref q9))) :: (Y11 ++ [(q9, .inl (cA, 56, .inl (fun _ => 0)))])) := hD
  have hfl : (fs11.set 17 (.ref q9)).length = 34 := by rw [List.length_set]; exact hfl
  generalize e12 : fs11.set 17 (.ref q9) = fs12 at hP hD hfl
  generalize g12 : Y11 ++ [(q9, .inl (cA, 56, .inl (fun _ => 0)))] = Y12 at hP hD
  refine W.widen (k := 10) (n := 113) (Nat.le_of_ble_eq_true rfl) (Nat.le_of_ble_eq_true rfl) ?_
  refine lv_aload_n hx hb dX12_init_96 rfl (lv_at hl 0 rfl) ?_
  refine lv_bipush (v := 56) hx hb dX12_init_97 (by decide) ?_
  refine gx_arr (T := TX12) (N := 34) (ci := 12) hx hb hts gn_inX12 tyX12 tyX12_ok nmX12 hown hK rfl hA hin hP hD hS hfl 56 56 18 (by decide) (by decide) (by decide) (by decide) (hts (.fieldLink RX12 47 RX12 "imaged" "[I") (gn_mem 712 (by decide +kernel) (by decide +kernel))) rfl rfl (by decide +kernel) (Nat.le_of_ble_eq_true rfl) (Nat.le_of_ble_eq_true rfl) dX12_init_99 dX12_init_101 (fun q10 H locs hP hD hS => ?_)
  have hP : va_P D vwCl ((h0, .inr (12, fs12.set 18 (.ref q10))) :: (Y12 ++ [(q10, .inl (cA, 56, .inl (fun _ => 0)))])) H := hP
  have hD : va_D A ((h0, .inr (12, fs12.set 18 (.ref q10))) :: (Y12 ++ [(q10, .inl (cA, 56, .inl (fun _ => 0)))])) := hD
  have hfl : (fs12.set 18 (.ref q10)).length = 34 := by rw [List.length_set]; exact hfl
  generalize e13 : fs12.set 18 (.ref q10) = fs13 at hP hD hfl
  generalize g13 : Y12 ++ [(q10, .inl (cA, 56, .inl (fun _ => 0)))] = Y13 at hP hD
  refine W.widen (k := 11) (n := 169) (Nat.le_of_ble_eq_true rfl) (Nat.le_of_ble_eq_true rfl) ?_
  refine lv_aload_n hx hb dX12_init_104 rfl (lv_at hl 0 rfl) ?_
  refine lv_bipush (v := 80) hx hb dX12_init_105 (by decide) ?_
  refine gx_arr (T := TX12) (N := 34) (ci := 12) hx hb hts gn_inX12 tyX12 tyX12_ok nmX12 hown hK rfl hA hin hP hD hS hfl 80 80 23 (by decide) (by decide) (by decide) (by decide) (hts (.fieldLink RX12 50 RX12 "letters" "[I") (gn_mem 717 (by decide +kernel) (by decide +kernel))) rfl rfl (by decide +kernel) (Nat.le_of_ble_eq_true rfl) (Nat.le_of_ble_eq_true rfl) dX12_init_107 dX12_init_109 (fun q11 H locs hP hD hS => ?_)
  have hP : va_P D vwCl ((h0, .inr (12, fs13.set 23 (.ref q11))) :: (Y13 ++ [(q11, .inl (cA, 80, .inl (fun _ => 0)))])) H := hP
  have hD : va_D A ((h0, .inr (12, fs13.set 23 (.ref q11))) :: (Y13 ++ [(q11, .inl (cA, 80, .inl (fun _ => 0)))])) := hD
  have hfl : (fs13.set 23 (.ref q11)).length = 34 := by rw [List.length_set]; exact hfl
  generalize e14 : fs13.set 23 (.ref q11) = fs14 at hP hD hfl
  generalize g14 : Y13 ++ [(q11, .inl (cA, 80, .inl (fun _ => 0)))] = Y14 at hP hD
  refine W.widen (k := 12) (n := 249) (Nat.le_of_ble_eq_true rfl) (Nat.le_of_ble_eq_true rfl) ?_
  refine lv_aload_n hx hb dX12_init_112 rfl (lv_at hl 0 rfl) ?_
  refine lv_bipush (v := 28) hx hb dX12_init_113 (by decide) ?_
  refine gx_arr (T := TX12) (N := 34) (ci := 12) hx hb hts gn_inX12 tyX12 tyX12_ok nmX12 hown hK rfl hA hin hP hD hS hfl 28 28 28 (by decide) (by decide) (by decide) (by decide) (hts (.fieldLink RX12 53 RX12 "placeOf" "[I") (gn_mem 722 (by decide +kernel) (by decide +kernel))) rfl rfl (by decide +kernel) (Nat.le_of_ble_eq_true rfl) (Nat.le_of_ble_eq_true rfl) dX12_init_115 dX12_init_117 (fun q12 H locs hP hD hS => ?_)
  have hP : va_P D vwCl ((h0, .inr (12, fs14.set 28 (.ref q12))) :: (Y14 ++ [(q12, .inl (cA, 28, .inl (fun _ => 0)))])) H := hP
  have hD : va_D A ((h0, .inr (12, fs14.set 28 (.ref q12))) :: (Y14 ++ [(q12, .inl (cA, 28, .inl (fun _ => 0)))])) := hD
  have hfl : (fs14.set 28 (.ref q12)).length = 34 := by rw [List.length_set]; exact hfl
  generalize e15 : fs14.set 28 (.ref q12) = fs15 at hP hD hfl
  generalize g15 : Y14 ++ [(q12, .inl (cA, 28, .inl (fun _ => 0)))] = Y15 at hP hD
  refine W.widen (k := 13) (n := 277) (Nat.le_of_ble_eq_true rfl) (Nat.le_of_ble_eq_true rfl) ?_
  refine lv_aload_n hx hb dX12_init_120 rfl (lv_at hl 0 rfl) ?_
  refine lv_bipush (v := 28) hx hb dX12_init_121 (by decide) ?_
  refine gx_arr (T := TX12) (N := 34) (ci := 12) hx hb hts gn_inX12 tyX12 tyX12_ok nmX12 hown hK rfl hA hin hP hD hS hfl 28 28 29 (by decide) (by decide) (by decide) (by decide) (hts (.fieldLink RX12 56 RX12 "letterOf" "[I") (gn_mem 723 (by decide +kernel) (by decide +kernel))) rfl rfl (by decide +kernel) (Nat.le_of_ble_eq_true rfl) (Nat.le_of_ble_eq_true rfl) dX12_init_123 dX12_init_125 (fun q13 H locs hP hD hS => ?_)
  have hP : va_P D vwCl ((h0, .inr (12, fs15.set 29 (.ref q13))) :: (Y15 ++ [(q13, .inl (cA, 28, .inl (fun _ => 0)))])) H := hP
  have hD : va_D A ((h0, .inr (12, fs15.set 29 (.ref q13))) :: (Y15 ++ [(q13, .inl (cA, 28, .inl (fun _ => 0)))])) := hD
  have hfl : (fs15.set 29 (.ref q13)).length = 34 := by rw [List.length_set]; exact hfl
  generalize e16 : fs15.set 29 (.ref q13) = fs16 at hP hD hfl
  generalize g16 : Y15 ++ [(q13, .inl (cA, 28, .inl (fun _ => 0)))] = Y16 at hP hD
  refine W.widen (k := 14) (n := 305) (Nat.le_of_ble_eq_true rfl) (Nat.le_of_ble_eq_true rfl) ?_
  refine lv_aload_n hx hb dX12_init_128 rfl (lv_at hl 0 rfl) ?_
  refine lv_sipush (v := 168) hx hb dX12_init_129 (by decide) ?_
  refine gx_arr (T := TX12) (N := 34) (ci := 12) hx hb hts gn_inX12 tyX12 tyX12_ok nmX12 hown hK rfl hA hin hP hD hS hfl 168 168 30 (by decide) (by decide) (by decide) (by decide) (hts (.fieldLink RX12 59 RX12 "told" "[I") (gn_mem 724 (by decide +kernel) (by decide +kernel))) rfl rfl (by decide +kernel) (Nat.le_of_ble_eq_true rfl) (Nat.le_of_ble_eq_true rfl) dX12_init_132 dX12_init_134 (fun q14 H locs hP hD hS => ?_)
  have hP : va_P D vwCl ((h0, .inr (12, fs16.set 30 (.ref q14))) :: (Y16 ++ [(q14, .inl (cA, 168, .inl (fun _ => 0)))])) H := hP
  have hD : va_D A ((h0, .inr (12, fs16.set 30 (.ref q14))) :: (Y16 ++ [(q14, .inl (cA, 168, .inl (fun _ => 0)))])) := hD
  have hfl : (fs16.set 30 (.ref q14)).length = 34 := by rw [List.length_set]; exact hfl
  generalize e17 : fs16.set 30 (.ref q14) = fs17 at hP hD hfl
  generalize g17 : Y16 ++ [(q14, .inl (cA, 168, .inl (fun _ => 0)))] = Y17 at hP hD
  refine W.widen (k := 15) (n := 473) (Nat.le_of_ble_eq_true rfl) (Nat.le_of_ble_eq_true rfl) ?_
  refine lv_aload_n hx hb dX12_init_137 rfl (lv_at hl 0 rfl) ?_
  refine lv_bipush (v := 12) hx hb dX12_init_138 (by decide) ?_
  refine gx_arr (T := TX12) (N := 34) (ci := 12) hx hb hts gn_inX12 tyX12 tyX12_ok nmX12 hown hK rfl hA hin hP hD hS hfl 12 12 31 (by decide) (by decide) (by decide) (by decide) (hts (.fieldLink RX12 62 RX12 "row" "[I") (gn_mem 725 (by decide +kernel) (by decide +kernel))) rfl rfl (by decide +kernel) (Nat.le_of_ble_eq_true rfl) (Nat.le_of_ble_eq_true rfl) dX12_init_140 dX12_init_142 (fun q15 H locs hP hD hS => ?_)
  have hP : va_P D vwCl ((h0, .inr (12, fs17.set 31 (.ref q15))) :: (Y17 ++ [(q15, .inl (cA, 12, .inl (fun _ => 0)))])) H := hP
  have hD : va_D A ((h0, .inr (12, fs17.set 31 (.ref q15))) :: (Y17 ++ [(q15, .inl (cA, 12, .inl (fun _ => 0)))])) := hD
  have hfl : (fs17.set 31 (.ref q15)).length = 34 := by rw [List.length_set]; exact hfl
  generalize e18 : fs17.set 31 (.ref q15) = fs18 at hP hD hfl
  generalize g18 : Y17 ++ [(q15, .inl (cA, 12, .inl (fun _ => 0)))] = Y18 at hP hD
  refine W.widen (k := 16) (n := 485) (Nat.le_of_ble_eq_true rfl) (Nat.le_of_ble_eq_true rfl) ?_
  refine lv_aload_n hx hb dX12_init_145 rfl (lv_at hl 0 rfl) ?_
  refine lv_iconst (v := 0) hx hb dX12_init_146 (by decide) ?_
  refine va_put (D := D) (ci := 12) (v := .int 0) (ty := .int) (C := RX12) (T := TX12) (N := 34) hx hb hts gn_inX12 tyX12 tyX12_ok nmX12 hown hK hP hD hS 0 rfl rfl 13 (by decide) (hts (.fieldLink RX12 65 RX12 "thrown" "I") (gn_mem 707 (by decide +kernel) (by decide +kernel))) (fun _ h9 => h9) rfl (by decide +kernel) rfl rfl (by rw [hfl]; decide) dX12_init_147 (fun H locs hP hD hS => ?_)
  have hP : va_P D vwCl ((h0, .inr (12, fs18.set 13 (.int 0))) :: Y18) H := hP
  have hD : va_D A ((h0, .inr (12, fs18.set 13 (.int 0))) :: Y18) := hD
  have hfl : (fs18.set 13 (.int 0)).length = 34 := by rw [List.length_set]; exact hfl
  generalize e19 : fs18.set 13 (.int 0) = fs19 at hP hD hfl
  subst e19
  subst g18
  subst e18
  subst g17
  subst e17
  subst g16
  subst e16
  subst g15
  subst e15
  subst g14
  subst e14
  subst g13
  subst e13
  subst g12
  subst e12
  subst g11
  subst e11
  subst g10
  subst e10
  subst g9
  subst e9
  subst g8
  subst e8
  subst g7
  subst e7
  subst g6
  subst e6
  subst g5
  subst e5
  subst g4
  subst e4
  subst g3
  subst e3
  subst e2
  subst e1
  subst hfs
  subst hY
  exact W.vret hx hb hr (fun t ht hW => ⟨⟨(), rfl, trivial, fun n => ([h0, q0, q1, q2, q3, q4, q5, q6, q7, q8, q9, q10, q11, q12, q13, q14, q15] : List Nat).getD n 0, cA, rfl, by rw [ht]; exact hP, va_K.moved hW.alike hK, hD⟩, hS.F ht⟩) hS.2.2 dX12_init_150
