theorem gx_cut {A0 : Nat → Prop} {D : va_G} {cl : List vw_C} {X : va_W} {z : Nat × va_E} {H : Heap} (hP : va_P D cl (X ++ [z]) H) (hD : va_D A0 (X ++ [z])) : va_P D cl [z] H ∧ va_D A0 [z] := by
  have up : ∀ (k : Nat) (q : Nat × va_E), [z][k]? = some q → (X ++ [z])[X.length + k]? = some q := fun k q h => by
    rw [List.getElem?_append_right (Nat.le_add_right _ _), show X.length + k - X.length = k by omega]; exact h
  exact ⟨fun k q h => hP _ q (up k q h), fun i j p q hi hj hpq => Nat.add_left_cancel (hD.1 _ _ p q (up i p hi) (up j q hj) hpq), fun k q h => hD.2 _ q (up k q h)⟩
theorem gx_free {A0 : Nat → Prop} {X : va_W} {z : Nat × va_E} {H0 H : Heap} {locs : List Loc} (hD : va_D A0 (X ++ [z])) (hS : va_S A0 H0 H locs) (hA : ∀ q, H0.size ≤ q → A0 q) : ∀ q, va_A [z] H.size q → A0 q := by
  intro q h
  rcases h with ⟨k, e, h⟩ | h
  · exact hD.2 (X.length + k) (q, e) (by rw [List.getElem?_append_right (Nat.le_add_right _ _), show X.length + k - X.length = k by omega]; exact h)
  · exact hA q (Nat.le_trans hS.1 h)
theorem gx_join {A0 : Nat → Prop} {D : va_G} {cl : List vw_C} {Y w1 : va_W} {x z : Nat × va_E} {H H1 : Heap} (hP : va_P D cl ((x :: Y) ++ [z]) H) (hD : va_D A0 ((x :: Y) ++ [z])) (hk : ∀ q : Nat, q < H.size → ¬ va_A [z] H.size q → H1[q]? = H[q]?) (hF : ∀ q, va_A [z] H.size q → A0 q) (hP1 : va_P D cl w1 H1) (hD1 : va_D (va_A [z] H.size) w1) : ∃ Y1 : va_W, Y ++ w1 = Y1 ∧ va_P D cl (x :: Y1) H1 ∧ va_D A0 (x :: Y1) := by
  refine ⟨Y ++ w1, rfl, ?_⟩
  show va_P D cl ((x :: Y) ++ w1) H1 ∧ va_D A0 ((x :: Y) ++ w1)
  generalize x :: Y = X at hP hD ⊢
  have up : ∀ (k : Nat) (q : Nat × va_E), X[k]? = some q → (X ++ [z])[k]? = some q := fun k q h => by
    rw [List.getElem?_append_left (List.getElem?_eq_some_iff.mp h).1]; exact h
  have apart : ∀ (k : Nat) (q : Nat × va_E), X[k]? = some q → q.1 < H.size ∧ ¬ va_A [z] H.size q.1 := by
    intro k q hq
    have h2 := up k q hq
    have hl := (hP k q h2).lt
    refine ⟨hl, fun h => ?_⟩
    rcases h with ⟨k2, e, h⟩ | h
    · have h4 : (X ++ [z])[X.length + k2]? = some (q.1, e) := by rw [List.getElem?_append_right (Nat.le_add_right _ _), show X.length + k2 - X.length = k2 by omega]; exact h
      have h5 := hD.1 k (X.length + k2) q (q.1, e) h2 h4 rfl
      have h6 := (List.getElem?_eq_some_iff.mp hq).1
      omega
    · omega
  exact ⟨va_P.app (fun k q hq => (hP k q (up k q hq)).kept (hk q.1 (apart k q hq).1 (apart k q hq).2)) hP1, va_D.app ⟨fun i j p q hi hj => hD.1 i j p q (up i p hi) (up j q hj), fun k q hq => hD.2 k q (up k q hq)⟩ (hD1.weaken (fun k q _ h => hF q.1 h)) (fun i j x y hx hy hxy => (apart i x hx).2 (by rw [hxy]; exact hD1.2 j y hy))⟩
theorem gx_row {A : Nat → Prop} {D : va_G} {cl : List vw_C} {ws : va_W} {H : Heap} (hP : va_P D cl ws H) (hD : va_D A ws) (k : Nat) {a n : Nat} {cA : ClassId} {F : Nat → Option Nat} (F' : Nat → Option Nat) (h : ws[k]? = some (a, .inl (cA, n, .inr (.inr (.inr (.inr F)))))) (he : ∀ j, j < n → F j = F' j) : va_P D cl (ws.set k (a, .inl (cA, n, .inr (.inr (.inr (.inr F')))))) H ∧ va_D A (ws.set k (a, .inl (cA, n, .inr (.inr (.inr (.inr F')))))) := by
  have e : (fun j : Fin n => va_rf (F j.val)) = (fun j : Fin n => va_rf (F' j.val)) := funext fun j => by rw [he j.val j.isLt]
  have h1 : H[a]? = some ({ cls := cA, slots := Array.ofFn (fun j : Fin n => va_rf (F j.val)), vm := .none } : Cell) := hP k _ h
  rw [e] at h1
  exact ⟨hP.set hD h h1 (fun _ _ => rfl), hD.set h⟩
theorem gx_c1_11 : Cond.code yX1_init cX1_init 1 none ∈ gn_tbl := (gn_mem 77 (by decide +kernel) (by decide +kernel))
theorem gx_c3_11 : Cond.code yX3_init cX3_init 1 none ∈ gn_tbl := (gn_mem 84 (by decide +kernel) (by decide +kernel))
theorem gx_c10_11 : Cond.code yX10_init cX10_init 1 none ∈ gn_tbl := (gn_mem 91 (by decide +kernel) (by decide +kernel))
theorem gx_c5_11 : Cond.code yX5_init cX5_init 1 none ∈ gn_tbl := (gn_mem 98 (by decide +kernel) (by decide +kernel))
theorem gx_c9_11 : Cond.code yX9_init cX9_init 1 none ∈ gn_tbl := (gn_mem 105 (by decide +kernel) (by decide +kernel))
theorem gx_c2_11 : Cond.code yX2_init cX2_init 1 none ∈ gn_tbl := (gn_mem 112 (by decide +kernel) (by decide +kernel))
theorem gx_c0_11 : Cond.code yX0_init cX0_init 1 none ∈ gn_tbl := (gn_mem 119 (by decide +kernel) (by decide +kernel))
theorem gx_c7_11 : Cond.code yX7_init cX7_init 1 none ∈ gn_tbl := (gn_mem 152 (by decide +kernel) (by decide +kernel))
theorem gx_c6_11 : Cond.code yX6_init cX6_init 1 none ∈ gn_tbl := (gn_mem 253 (by decide +kernel) (by decide +kernel))
theorem gx_c4_11 : Cond.code yX4_init cX4_init 2 none ∈ gn_tbl := (gn_mem 163 (by decide +kernel) (by decide +kernel))
def gx_w11 (a : Nat → Nat) (cI cS cD : ClassId) : va_W := [(a 0, .inr (0, [.int 0, .int 0, .int 0, .int 0, .int 0])), (a 1, .inr (1, [])), (a 2, .inr (3, [])), (a 3, .inr (10, [])), (a 4, .inr (5, [])), (a 5, .inr (9, [])), (a 6, .inr (2, [])), (a 7, .inr (4, [.ref (a 31), .ref (a 34), .ref (a 37), .int 0, .int 0, .int 10, .int 30, .int 0])), (a 8, .inr (4, [.ref (a 32), .ref (a 35), .ref (a 38), .int 0, .int 0, .int 10, .int 30, .int 0])), (a 9, .inr (4, [.ref (a 33), .ref (a 36), .ref (a 39), .int 0, .int 0, .int 10, .int 30, .int 0])), (a 10, .inr (6, [.ref (a 41), .int 0, .int 0, .int 0])), (a 11, .inr (7, [.int 0])), (a 12, .inr (8, [.int 0, .int 0, .int 0, .int 0, .int 0, .int 0])), (a 13, .inr (8, [.int 0, .int 0, .int 0, .int 0, .int 0, .int 0])), (a 14, .inr (8, [.int 0, .int 0, .int 0, .int 0, .int 0, .int 0])), (a 15, .inr (8, [.int 0, .int 0, .int 0, .int 0, .int 0, .int 0])), (a 16, .inr (8, [.int 0, .int 0, .int 0, .int 0, .int 0, .int 0])), (a 17, .inr (8, [.int 0, .int 0, .int 0, .int 0, .int 0, .int 0])), (a 18, .inr (8, [.int 0, .int 0, .int 0, .int 0, .int 0, .int 0])), (a 19, .inr (8, [.int 0, .int 0, .int 0, .int 0, .int 0, .int 0])), (a 20, .inr (8, [.int 0, .int 0, .int 0, .int 0, .int 0, .int 0])), (a 21, .inr (8, [.int 0, .int 0, .int 0, .int 0, .int 0, .int 0])), (a 22, .inr (8, [.int 0, .int 0, .int 0, .int 0, .int 0, .int 0])), (a 23, .inr (8, [.int 0, .int 0, .int 0, .int 0, .int 0, .int 0])), (a 24, .inr (8, [.int 0, .int 0, .int 0, .int 0, .int 0, .int 0])), (a 25, .inr (8, [.int 0, .int 0, .int 0, .int 0, .int 0, .int 0])), (a 26, .inr (8, [.int 0, .int 0, .int 0, .int 0, .int 0, .int 0])), (a 27, .inr (8, [.int 0, .int 0, .int 0, .int 0, .int 0, .int 0])), (a 28, .inr (8, [.int 0, .int 0, .int 0, .int 0, .int 0, .int 0])), (a 29, .inr (8, [.int 0, .int 0, .int 0, .int 0, .int 0, .int 0])), (a 30, .inr (11, [.ref (a 40), .ref (a 0), .ref (a 11), .ref (a 7), .ref (a 8), .ref (a 9), .int 0, .ref (a 10), .ref (a 42), .int 0, .ref (a 43)])), (a 31, .inl (cI, 7, .inl (fun _ => 0))), (a 32, .inl (cI, 7, .inl (fun _ => 0))), (a 33, .inl (cI, 7, .inl (fun _ => 0))), (a 34, .inl (cI, 7, .inl (fun _ => 0))), (a 35, .inl (cI, 7, .inl (fun _ => 0))), (a 36, .inl (cI, 7, .inl (fun _ => 0))), (a 37, .inl (cS, 6, .inr (.inr (.inr (.inr (fun j => some (a (12 + (6 * 0 + j))))))))), (a 38, .inl (cS, 6, .inr (.inr (.inr (.inr (fun j => some (a (12 + (6 * 1 + j))))))))), (a 39, .inl (cS, 6, .inr (.inr (.inr (.inr (fun j => some (a (12 + (6 * 2 + j))))))))), (a 40, .inl (cD, 6, .inr (.inr (.inr (.inr (fun j => some (a (1 + j)))))))), (a 41, .inl (cI, 80, .inl (fun _ => 0))), (a 42, .inl (cI, 12, .inl (fun _ => 0))), (a 43, .inl (cI, 7, .inl (fun _ => 0)))]
def gx_z11 (h0 : Nat) : va_W := [(h0, .inr (11, [.null, .null, .null, .null, .null, .null, .int 0, .null, .null, .int 0, .null]))]
def gx_at11 (D : va_G) (A : Nat → Prop) (h0 : Nat) : Unit → State → Prop := fun _ t => ∃ (a : Nat → Nat) (cI cS cD : ClassId), a 30 = h0 ∧ va_P D vwCl (gx_w11 a cI cS cD) t.heap ∧ va_K D vwCl [(cI, .int), (cS, .object RX8), (cD, .object RX1)] t ∧ va_D A (gx_w11 a cI cS cD)
set_option maxHeartbeats 4000000 in
set_option maxRecDepth 100000 in
theorem cx_X11 (l : Launch) (D : va_G) (h0 sz : Nat) : Met l yX11_init (gx_W yX11_init cX11_init 1) ({ frames := 4, cells := 43, slots := 307, locals := 72 }) (va_Pc [.ref h0] (fun U => gx_V U ∧ U.heap.size = sz ∧ va_P D vwCl (gx_z11 h0) U.heap ∧ va_K D vwCl [] U ∧ va_D (fun _ => True) (gx_z11 h0))) (va_Qv (fun _ : Unit => True) (gx_at11 D (va_A (gx_z11 h0) sz) h0) (va_A (gx_z11 h0) sz)) 43 307 (va_A (gx_z11 h0) sz) := by
  refine Met.ofW (cc := cX11_init) (maxL := 1) (ret := none) (by decide) rfl ?_
  intro p e s m args below meth c s₁ B hml hv
  obtain ⟨rfl, hV, hsz, hP, hK, hD0⟩ := hv
  have hx := B.exec
  have hb := B.bytes
  have hr := B.returns
  have hts0 := atoms_spec (ws := gx_W yX11_init cX11_init 1) B.pre
  have hts : ∀ w ∈ gn_tbl, w.before ([Value.ref h0].toArray) s = true := fun w hw => hts0 w (List.mem_cons_of_mem _ hw)
  have hown : s.vm.findClass RX11 = some m.cls := findClass_of_methodNamed B.named
  have hlocks := B.notSynchronized
  have hin : meth.name = "<init>" := (name_of_methodNamed B.named B.method).1
  subst hsz
  have hD := hD0.self (sz := s.heap.size)
  generalize hAe : va_A (gx_z11 h0) s.heap.size = A at hD ⊢
  have hA : ∀ q : Nat, s.heap.size ≤ q → A q := fun q h => by rw [← hAe]; exact Or.inr h
  have hS : va_S A s.heap s.heap [] := va_S.rf
  have hl := lv_entry ([.ref h0]) (n := 1) (Nat.le_of_ble_eq_true rfl)
  rw [lg_entry_eq]
  generalize (lg_sl ([.ref h0]) ++ List.replicate (1 - (lg_sl ([.ref h0])).length) Slot.unset).toArray = ls at hl ⊢
  have hl : lv_has ls 1 [(0, .ref h0)] := hl
  obtain ⟨fs, hfs⟩ : ∃ f : List Value, f = [.null, .null, .null, .null, .null, .null, .int 0, .null, .null, .int 0, .null] := ⟨_, rfl⟩
  have hP : va_P D vwCl [(h0, .inr (11, fs))] s.heap := by rw [hfs]; exact hP
  have hD : va_D A [(h0, .inr (11, fs))] := by rw [hfs]; exact hD
  have hfl : fs.length = 11 := by rw [hfs]; rfl
  refine lv_aload_n hx hb dX11_init_0 rfl (lv_at hl 0 rfl) ?_
  refine W.objInit hx hb hown (hts (.methodLink RX11 1 Lib.objectInit) (gn_mem 69 (by decide +kernel) (by decide +kernel))) (hts _ gx_oi) (hts _ gx_oc) rfl (by rw [hml]; exact hl.1) rfl dX11_init_1 (Nat.le_of_ble_eq_true rfl) (Nat.le_of_ble_eq_true rfl) ?_
  refine W.eq (g2 := F0 m 4 ls []) rfl ?_
  refine lv_aload_n hx hb dX11_init_4 rfl (lv_at hl 0 rfl) ?_
  refine lv_bipush (v := 6) hx hb dX11_init_5 (by decide) ?_
  refine va_newq (C := RX1) (n := 6) (N' := 6) hx hb hown (hts (.classLink RX11 7 RX1) (gn_mem 72 (by decide +kernel) (by decide +kernel))) hV.2.2.1 hK hP hD hS hA (by decide) (by decide) (by decide) (Nat.le_of_ble_eq_true rfl) (Nat.le_of_ble_eq_true rfl) dX11_init_7 (fun qd cD H hK hP hD hS => ?_)
  have hK : va_K D vwCl [(cD, .object RX1)] s := hK
  have hP : va_P D vwCl [(h0, .inr (11, fs)), (qd, .inl (cD, 6, .inr (.inr (.inr (.inr (fun _ => none))))))] H := hP
  have hD : va_D A [(h0, .inr (11, fs)), (qd, .inl (cD, 6, .inr (.inr (.inr (.inr (fun _ => none))))))] := hD
  refine W.widen (k := 1) (n := 6) (Nat.le_of_ble_eq_true rfl) (Nat.le_of_ble_eq_true rfl) ?_
  refine lv_dup hx hb dX11_init_10 rfl ?_
  refine lv_iconst (v := 0) hx hb dX11_init_11 (by decide) ?_
  refine va_new (ci := 1) (fs := []) (C := RX1) (T := TX1) (N := 0) hx hb hts gn_inX1 tyX1 tyX1_ok hown (hts (.classLink RX11 7 RX1) (gn_mem 72 (by decide +kernel) (by decide +kernel))) (hts (.instantiable RX1 0) (gn_mem 74 (by decide +kernel) (by decide +kernel))) (hts (.initialized RX1) (gn_mem 51 (by decide +kernel) (by decide +kernel))) hK hP hD hS hA rfl (fun j hj => absurd hj (Nat.not_lt_zero j)) (Nat.le_of_ble_eq_true rfl) (Nat.le_of_ble_eq_true rfl) dX11_init_12 (fun d0 H hP hD hS => ?_)
  have hP : va_P D vwCl [(h0, .inr (11, fs)), (qd, .inl (cD, 6, .inr (.inr (.inr (.inr (fun _ => none)))))), (d0, .inr (1, []))] H := hP
  have hD : va_D A [(h0, .inr (11, fs)), (qd, .inl (cD, 6, .inr (.inr (.inr (.inr (fun _ => none)))))), (d0, .inr (1, []))] := hD
  refine W.widen (k := 2) (n := 6) (Nat.le_of_ble_eq_true rfl) (Nat.le_of_ble_eq_true rfl) ?_
  refine lv_dup hx hb dX11_init_15 rfl ?_
  refine va_callv (va_runIN (As := []) (rest := [.ref d0, .int 0, .ref qd, .ref qd, .ref h0]) (Ts := gn_tbl) ⟨hx, hb, hml, hown, hts⟩ (cx_X1 l d0) ⟨va_cnB 0 hts (gk_good yX1_init gx_c1_11 (pre := []) (fun _ q => absurd q List.not_mem_nil)) rfl rfl rfl (hV.nw 0 rfl) (hts (.initialized RX1) (gn_mem 51 (by decide +kernel) (by decide +kernel))) ⟨by decide +kernel, by decide +kernel, by decide +kernel⟩ ⟨(Nat.le_of_ble_eq_true rfl), (Nat.le_of_ble_eq_true rfl)⟩, rfl, hts (.instanceMethod yX1_init) (gn_mem 76 (by decide +kernel) (by decide +kernel))⟩ ⟨fun a U g mk q => ⟨q.1, trivial⟩, fun U hU hW => ⟨rfl, trivial⟩⟩ rfl rfl hl.1 rfl (lv_room (Nat.le_of_ble_eq_true rfl)) dX11_init_16 ⟨(Nat.le_of_ble_eq_true rfl), (Nat.le_of_ble_eq_true rfl)⟩) hS (fun q _ h => h.elim) (fun q h => h.elim) (fun u t H1 locs ht hvm hw hB hz1 hk1 hS => ?_)
  have hP := gx_keep hP hk1
  generalize H1 = H at hP hS ⊢
  refine va_astq hx hb hK hP hD hS 1 0 2 1 rfl rfl rfl rfl (i := 0) (by unfold vp_in; decide) dX11_init_19 (fun H locs hP hD hS => ?_)
  have hP : va_P D vwCl [(h0, .inr (11, fs)), (qd, .inl (cD, 6, .inr (.inr (.inr (.inr (va_up (fun _ => none) 0 (some d0))))))), (d0, .inr (1, []))] H := hP
  have hD : va_D A [(h0, .inr (11, fs)), (qd, .inl (cD, 6, .inr (.inr (.inr (.inr (va_up (fun _ => none) 0 (some d0))))))), (d0, .inr (1, []))] := hD
  refine lv_dup hx hb dX11_init_20 rfl ?_
  refine lv_iconst (v := 1) hx hb dX11_init_21 (by decide) ?_
  refine va_new (ci := 3) (fs := []) (C := RX3) (T := TX3) (N := 0) hx hb hts gn_inX3 tyX3 tyX3_ok hown (hts (.classLink RX11 10 RX3) (gn_mem 80 (by decide +kernel) (by decide +kernel))) (hts (.instantiable RX3 0) (gn_mem 81 (by decide +kernel) (by decide +kernel))) (hts (.initialized RX3) (gn_mem 52 (by decide +kernel) (by decide +kernel))) hK hP hD hS hA rfl (fun j hj => absurd hj (Nat.not_lt_zero j)) (Nat.le_of_ble_eq_true rfl) (Nat.le_of_ble_eq_true rfl) dX11_init_22 (fun d1 H hP hD hS => ?_)
  have hP : va_P D vwCl [(h0, .inr (11, fs)), (qd, .inl (cD, 6, .inr (.inr (.inr (.inr (va_up (fun _ => none) 0 (some d0))))))), (d0, .inr (1, [])), (d1, .inr (3, []))] H := hP
  have hD : va_D A [(h0, .inr (11, fs)), (qd, .inl (cD, 6, .inr (.inr (.inr (.inr (va_up (fun _ => none) 0 (some d0))))))), (d0, .inr (1, [])), (d1, .inr (3, []))] := hD
  refine W.widen (k := 3) (n := 6) (Nat.le_of_ble_eq_true rfl) (Nat.le_of_ble_eq_true rfl) ?_
  refine lv_dup hx hb dX11_init_25 rfl ?_
  refine va_callv (va_runIN (As := []) (rest := [.ref d1, .int 1, .ref qd, .ref qd, .ref h0]) (Ts := gn_tbl) ⟨hx, hb, hml, hown, hts⟩ (cx_X3 l d1) ⟨va_cnB 0 hts (gk_good yX3_init gx_c3_11 (pre := []) (fun _ q => absurd q List.not_mem_nil)) rfl rfl rfl (hV.nw 1 rfl) (hts (.initialized RX3) (gn_mem 52 (by decide +kernel) (by decide +kernel))) ⟨by decide +kernel, by decide +kernel, by decide +kernel⟩ ⟨(Nat.le_of_ble_eq_true rfl), (Nat.le_of_ble_eq_true rfl)⟩, rfl, hts (.instanceMethod yX3_init) (gn_mem 83 (by decide +kernel) (by decide +kernel))⟩ ⟨gx_V.blind, fun U hU hW => ⟨rfl, gx_V.warm hW hV⟩⟩ rfl rfl hl.1 rfl (lv_room (Nat.le_of_ble_eq_true rfl)) dX11_init_26 ⟨(Nat.le_of_ble_eq_true rfl), (Nat.le_of_ble_eq_true rfl)⟩) hS (fun q _ h => h.elim) (fun q h => h.elim) (fun u t H1 locs ht hvm hw hB hz1 hk1 hS => ?_)
  have hP := gx_keep hP hk1
  generalize H1 = H at hP hS ⊢
  refine va_astqO (r := (RX3, TX3, 0)) hx hb hK hP hD hS 1 0 3 3 rfl rfl (hV.2.2.2 RX3 (List.mem_of_getElem? (l := [RX3, RX10, RX5, RX9, RX2]) (i := 0) rfl)) rfl rfl (i := 1) (by unfold vp_in; decide) dX11_init_29 (fun H locs hP hD hS => ?_)
  have hP : va_P D vwCl [(h0, .inr (11, fs)), (qd, .inl (cD, 6, .inr (.inr (.inr (.inr (va_up (va_up (fun _ => none) 0 (some d0)) 1 (some d1))))))), (d0, .inr (1, [])), (d1, .inr (3, []))] H := hP
  have hD : va_D A [(h0, .inr (11, fs)), (qd, .inl (cD, 6, .inr (.inr (.inr (.inr (va_up (va_up (fun _ => none) 0 (some d0)) 1 (some d1))))))), (d0, .inr (1, [])), (d1, .inr (3, []))] := hD
  refine lv_dup hx hb dX11_init_30 rfl ?_
  refine lv_iconst (v := 2) hx hb dX11_init_31 (by decide) ?_
  refine va_new (ci := 10) (fs := []) (C := RX10) (T := TX10) (N := 0) hx hb hts gn_inX10 tyX10 tyX10_ok hown (hts (.classLink RX11 13 RX10) (gn_mem 87 (by decide +kernel) (by decide +kernel))) (hts (.instantiable RX10 0) (gn_mem 88 (by decide +kernel) (by decide +kernel))) (hts (.initialized RX10) (gn_mem 53 (by decide +kernel) (by decide +kernel))) hK hP hD hS hA rfl (fun j hj => absurd hj (Nat.not_lt_zero j)) (Nat.le_of_ble_eq_true rfl) (Nat.le_of_ble_eq_true rfl) dX11_init_32 (fun d2 H hP hD hS => ?_)
  have hP : va_P D vwCl [(h0, .inr (11, fs)), (qd, .inl (cD, 6, .inr (.inr (.inr (.inr (va_up (va_up (fun _ => none) 0 (some d0)) 1 (some d1))))))), (d0, .inr (1, [])), (d1, .inr (3, [])), (d2, .inr (10, []))] H := hP
  have hD : va_D A [(h0, .inr (11, fs)), (qd, .inl (cD, 6, .inr (.inr (.inr (.inr (va_up (va_up (fun _ => none) 0 (some d0)) 1 (some d1))))))), (d0, .inr (1, [])), (d1, .inr (3, [])), (d2, .inr (10, []))] := hD
  refine W.widen (k := 4) (n := 6) (Nat.le_of_ble_eq_true rfl) (Nat.le_of_ble_eq_true rfl) ?_
  refine lv_dup hx hb dX11_init_35 rfl ?_
  refine va_callv (va_runIN (As := []) (rest := [.ref d2, .int 2, .ref qd, .ref qd, .ref h0]) (Ts := gn_tbl) ⟨hx, hb, hml, hown, hts⟩ (cx_X10 l d2) ⟨va_cnB 0 hts (gk_good yX10_init gx_c10_11 (pre := []) (fun _ q => absurd q List.not_mem_nil)) rfl rfl rfl (hV.nw 3 rfl) (hts (.initialized RX10) (gn_mem 53 (by decide +kernel) (by decide +kernel))) ⟨by decide +kernel, by decide +kernel, by decide +kernel⟩ ⟨(Nat.le_of_ble_eq_true rfl), (Nat.le_of_ble_eq_true rfl)⟩, rfl, hts (.instanceMethod yX10_init) (gn_mem 90 (by decide +kernel) (by decide +kernel))⟩ ⟨gx_V.blind, fun U hU hW => ⟨rfl, gx_V.warm hW hV⟩⟩ rfl rfl hl.1 rfl (lv_room (Nat.le_of_ble_eq_true rfl)) dX11_init_36 ⟨(Nat.le_of_ble_eq_true rfl), (Nat.le_of_ble_eq_true rfl)⟩) hS (fun q _ h => h.elim) (fun q h => h.elim) (fun u t H1 locs ht hvm hw hB hz1 hk1 hS => ?_)
  have hP := gx_keep hP hk1
  generalize H1 = H at hP hS ⊢
  refine va_astqO (r := (RX10, TX10, 0)) hx hb hK hP hD hS 1 0 4 10 rfl rfl (hV.2.2.2 RX10 (List.mem_of_getElem? (l := [RX3, RX10, RX5, RX9, RX2]) (i := 1) rfl)) rfl rfl (i := 2) (by unfold vp_in; decide) dX11_init_39 (fun H locs hP hD hS => ?_)
  have hP : va_P D vwCl [(h0, .inr (11, fs)), (qd, .inl (cD, 6, .inr (.inr (.inr (.inr (va_up (va_up (va_up (fun _ => none) 0 (some d0)) 1 (some d1)) 2 (some d2))))))), (d0, .inr (1, [])), (d1, .inr (3, [])), (d2, .inr (10, []))] H := hP
  have hD : va_D A [(h0, .inr (11, fs)), (qd, .inl (cD, 6, .inr (.inr (.inr (.inr (va_up (va_up (va_up (fun _ => none) 0 (some d0)) 1 (some d1)) 2 (some d2))))))), (d0, .inr (1, [])), (d1, .inr (3, [])), (d2, .inr (10, []))] := hD
  refine lv_dup hx hb dX11_init_40 rfl ?_
  refine lv_iconst (v := 3) hx hb dX11_init_41 (by decide) ?_
  refine va_new (ci := 5) (fs := []) (C := RX5) (T := TX5) (N := 0) hx hb hts gn_inX5 tyX5 tyX5_ok hown (hts (.classLink RX11 16 RX5) (gn_mem 94 (by decide +kernel) (by decide +kernel))) (hts (.instantiable RX5 0) (gn_mem 95 (by decide +kernel) (by decide +kernel))) (hts (.initialized RX5) (gn_mem 54 (by decide +kernel) (by decide +kernel))) hK hP hD hS hA rfl (fun j hj => absurd hj (Nat.not_lt_zero j)) (Nat.le_of_ble_eq_true rfl) (Nat.le_of_ble_eq_true rfl) dX11_init_42 (fun d3 H hP hD hS => ?_)
  have hP : va_P D vwCl [(h0, .inr (11, fs)), (qd, .inl (cD, 6, .inr (.inr (.inr (.inr (va_up (va_up (va_up (fun _ => none) 0 (some d0)) 1 (some d1)) 2 (some d2))))))), (d0, .inr (1, [])), (d1, .inr (3, [])), (d2, .inr (10, [])), (d3, .inr (5, []))] H := hP
  have hD : va_D A [(h0, .inr (11, fs)), (qd, .inl (cD, 6, .inr (.inr (.inr (.inr (va_up (va_up (va_up (fun _ => none) 0 (some d0)) 1 (some d1)) 2 (some d2))))))), (d0, .inr (1, [])), (d1, .inr (3, [])), (d2, .inr (10, [])), (d3, .inr (5, []))] := hD
  refine W.widen (k := 5) (n := 6) (Nat.le_of_ble_eq_true rfl) (Nat.le_of_ble_eq_true rfl) ?_
  refine lv_dup hx hb dX11_init_45 rfl ?_
  refine va_callv (va_runIN (As := []) (rest := [.ref d3, .int 3, .ref qd, .ref qd, .ref h0]) (Ts := gn_tbl) ⟨hx, hb, hml, hown, hts⟩ (cx_X5 l d3) ⟨va_cnB 0 hts (gk_good yX5_init gx_c5_11 (pre := []) (fun _ q => absurd q List.not_mem_nil)) rfl rfl rfl (hV.nw 5 rfl) (hts (.initialized RX5) (gn_mem 54 (by decide +kernel) (by decide +kernel))) ⟨by decide +kernel, by decide +kernel, by decide +kernel⟩ ⟨(Nat.le_of_ble_eq_true rfl), (Nat.le_of_ble_eq_true rfl)⟩, rfl, hts (.instanceMethod yX5_init) (gn_mem 97 (by decide +kernel) (by decide +kernel))⟩ ⟨gx_V.blind, fun U hU hW => ⟨rfl, gx_V.warm hW hV⟩⟩ rfl rfl hl.1 rfl (lv_room (Nat.le_of_ble_eq_true rfl)) dX11_init_46 ⟨(Nat.le_of_ble_eq_true rfl), (Nat.le_of_ble_eq_true rfl)⟩) hS (fun q _ h => h.elim) (fun q h => h.elim) (fun u t H1 locs ht hvm hw hB hz1 hk1 hS => ?_)
  have hP := gx_keep hP hk1
  generalize H1 = H at hP hS ⊢
  refine va_astqO (r := (RX5, TX5, 0)) hx hb hK hP hD hS 1 0 5 5 rfl rfl (hV.2.2.2 RX5 (List.mem_of_getElem? (l := [RX3, RX10, RX5, RX9, RX2]) (i := 2) rfl)) rfl rfl (i := 3) (by unfold vp_in; decide) dX11_init_49 (fun H locs hP hD hS => ?_)
  have hP : va_P D vwCl [(h0, .inr (11, fs)), (qd, .inl (cD, 6, .inr (.inr (.inr (.inr (va_up (va_up (va_up (va_up (fun _ => none) 0 (some d0)) 1 (some d1)) 2 (some d2)) 3 (some d3))))))), (d0, .inr (1, [])), (d1, .inr (3, [])), (d2, .inr (10, [])), (d3, .inr (5, []))] H := hP
  have hD : va_D A [(h0, .inr (11, fs)), (qd, .inl (cD, 6, .inr (.inr (.inr (.inr (va_up (va_up (va_up (va_up (fun _ => none) 0 (some d0)) 1 (some d1)) 2 (some d2)) 3 (some d3))))))), (d0, .inr (1, [])), (d1, .inr (3, [])), (d2, .inr (10, [])), (d3, .inr (5, []))] := hD
  refine lv_dup hx hb dX11_init_50 rfl ?_
  refine lv_iconst (v := 4) hx hb dX11_init_51 (by decide) ?_
  refine va_new (ci := 9) (fs := []) (C := RX9) (T := TX9) (N := 0) hx hb hts gn_inX9 tyX9 tyX9_ok hown (hts (.classLink RX11 19 RX9) (gn_mem 101 (by decide +kernel) (by decide +kernel))) (hts (.instantiable RX9 0) (gn_mem 102 (by decide +kernel) (by decide +kernel))) (hts (.initialized RX9) (gn_mem 55 (by decide +kernel) (by decide +kernel))) hK hP hD hS hA rfl (fun j hj => absurd hj (Nat.not_lt_zero j)) (Nat.le_of_ble_eq_true rfl) (Nat.le_of_ble_eq_true rfl) dX11_init_52 (fun d4 H hP hD hS => ?_)
  have hP : va_P D vwCl [(h0, .inr (11, fs)), (qd, .inl (cD, 6, .inr (.inr (.inr (.inr (va_up (va_up (va_up (va_up (fun _ => none) 0 (some d0)) 1 (some d1)) 2 (some d2)) 3 (some d3))))))), (d0, .inr (1, [])), (d1, .inr (3, [])), (d2, .inr (10, [])), (d3, .inr (5, [])), (d4, .inr (9, []))] H := hP
  have hD : va_D A [(h0, .inr (11, fs)), (qd, .inl (cD, 6, .inr (.inr (.inr (.inr (va_up (va_up (va_up (va_up (fun _ => none) 0 (some d0)) 1 (some d1)) 2 (some d2)) 3 (some d3))))))), (d0, .inr (1, [])), (d1, .inr (3, [])), (d2, .inr (10, [])), (d3, .inr (5, [])), (d4, .inr (9, []))] := hD
  refine W.widen (k := 6) (n := 6) (Nat.le_of_ble_eq_true rfl) (Nat.le_of_ble_eq_true rfl) ?_
  refine lv_dup hx hb dX11_init_55 rfl ?_
  refine va_callv (va_runIN (As := []) (rest := [.ref d4, .int 4, .ref qd, .ref qd, .ref h0]) (Ts := gn_tbl) ⟨hx, hb, hml, hown, hts⟩ (cx_X9 l d4) ⟨va_cnB 0 hts (gk_good yX9_init gx_c9_11 (pre := []) (fun _ q => absurd q List.not_mem_nil)) rfl rfl rfl (hV.nw 7 rfl) (hts (.initialized RX9) (gn_mem 55 (by decide +kernel) (by decide +kernel))) ⟨by decide +kernel, by decide +kernel, by decide +kernel⟩ ⟨(Nat.le_of_ble_eq_true rfl), (Nat.le_of_ble_eq_true rfl)⟩, rfl, hts (.instanceMethod yX9_init) (gn_mem 104 (by decide +kernel) (by decide +kernel))⟩ ⟨gx_V.blind, fun U hU hW => ⟨rfl, gx_V.warm hW hV⟩⟩ rfl rfl hl.1 rfl (lv_room (Nat.le_of_ble_eq_true rfl)) dX11_init_56 ⟨(Nat.le_of_ble_eq_true rfl), (Nat.le_of_ble_eq_true rfl)⟩) hS (fun q _ h => h.elim) (fun q h => h.elim) (fun u t H1 locs ht hvm hw hB hz1 hk1 hS => ?_)
  have hP := gx_keep hP hk1
  generalize H1 = H at hP hS ⊢
  refine va_astqO (r := (RX9, TX9, 0)) hx hb hK hP hD hS 1 0 6 9 rfl rfl (hV.2.2.2 RX9 (List.mem_of_getElem? (l := [RX3, RX10, RX5, RX9, RX2]) (i := 3) rfl)) rfl rfl (i := 4) (by unfold vp_in; decide) dX11_init_59 (fun H locs hP hD hS => ?_)
  have hP : va_P D vwCl [(h0, .inr (11, fs)), (qd, .inl (cD, 6, .inr (.inr (.inr (.inr (va_up (va_up (va_up (va_up (va_up (fun _ => none) 0 (some d0)) 1 (some d1)) 2 (some d2)) 3 (some d3)) 4 (some d4))))))), (d0, .inr (1, [])), (d1, .inr (3, [])), (d2, .inr (10, [])), (d3, .inr (5, [])), (d4, .inr (9, []))] H := hP
  have hD : va_D A [(h0, .inr (11, fs)), (qd, .inl (cD, 6, .inr (.inr (.inr (.inr (va_up (va_up (va_up (va_up (va_up (fun _ => none) 0 (some d0)) 1 (some d1)) 2 (some d2)) 3 (some d3)) 4 (some d4))))))), (d0, .inr (1, [])), (d1, .inr (3, [])), (d2, .inr (10, [])), (d3, .inr (5, [])), (d4, .inr (9, []))] := hD
  refine lv_dup hx hb dX11_init_60 rfl ?_
  refine lv_iconst (v := 5) hx hb dX11_init_61 (by decide) ?_
  refine va_new (ci := 2) (fs := []) (C := RX2) (T := TX2) (N := 0) hx hb hts gn_inX2 tyX2 tyX2_ok hown (hts (.classLink RX11 22 RX2) (gn_mem 108 (by decide +kernel) (by decide +kernel))) (hts (.instantiable RX2 0) (gn_mem 109 (by decide +kernel) (by decide +kernel))) (hts (.initialized RX2) (gn_mem 56 (by decide +kernel) (by decide +kernel))) hK hP hD hS hA rfl (fun j hj => absurd hj (Nat.not_lt_zero j)) (Nat.le_of_ble_eq_true rfl) (Nat.le_of_ble_eq_true rfl) dX11_init_62 (fun d5 H hP hD hS => ?_)
  have hP : va_P D vwCl [(h0, .inr (11, fs)), (qd, .inl (cD, 6, .inr (.inr (.inr (.inr (va_up (va_up (va_up (va_up (va_up (fun _ => none) 0 (some d0)) 1 (some d1)) 2 (some d2)) 3 (some d3)) 4 (some d4))))))), (d0, .inr (1, [])), (d1, .inr (3, [])), (d2, .inr (10, [])), (d3, .inr (5, [])), (d4, .inr (9, [])), (d5, .inr (2, []))] H := hP
  have hD : va_D A [(h0, .inr (11, fs)), (qd, .inl (cD, 6, .inr (.inr (.inr (.inr (va_up (va_up (va_up (va_up (va_up (fun _ => none) 0 (some d0)) 1 (some d1)) 2 (some d2)) 3 (some d3)) 4 (some d4))))))), (d0, .inr (1, [])), (d1, .inr (3, [])), (d2, .inr (10, [])), (d3, .inr (5, [])), (d4, .inr (9, [])), (d5, .inr (2, []))] := hD
  refine W.widen (k := 7) (n := 6) (Nat.le_of_ble_eq_true rfl) (Nat.le_of_ble_eq_true rfl) ?_
  refine lv_dup hx hb dX11_init_65 rfl ?_
  refine va_callv (va_runIN (As := []) (rest := [.ref d5, .int 5, .ref qd, .ref qd, .ref h0]) (Ts := gn_tbl) ⟨hx, hb, hml, hown, hts⟩ (cx_X2 l d5) ⟨va_cnB 0 hts (gk_good yX2_init gx_c2_11 (pre := []) (fun _ q => absurd q List.not_mem_nil)) rfl rfl rfl (hV.nw 9 rfl) (hts (.initialized RX2) (gn_mem 56 (by decide +kernel) (by decide +kernel))) ⟨by decide +kernel, by decide +kernel, by decide +kernel⟩ ⟨(Nat.le_of_ble_eq_true rfl), (Nat.le_of_ble_eq_true rfl)⟩, rfl, hts (.instanceMethod yX2_init) (gn_mem 111 (by decide +kernel) (by decide +kernel))⟩ ⟨gx_V.blind, fun U hU hW => ⟨rfl, gx_V.warm hW hV⟩⟩ rfl rfl hl.1 rfl (lv_room (Nat.le_of_ble_eq_true rfl)) dX11_init_66 ⟨(Nat.le_of_ble_eq_true rfl), (Nat.le_of_ble_eq_true rfl)⟩) hS (fun q _ h => h.elim) (fun q h => h.elim) (fun u t H1 locs ht hvm hw hB hz1 hk1 hS => ?_)
  have hP := gx_keep hP hk1
  generalize H1 = H at hP hS ⊢
  refine va_astqO (r := (RX2, TX2, 0)) hx hb hK hP hD hS 1 0 7 2 rfl rfl (hV.2.2.2 RX2 (List.mem_of_getElem? (l := [RX3, RX10, RX5, RX9, RX2]) (i := 4) rfl)) rfl rfl (i := 5) (by unfold vp_in; decide) dX11_init_69 (fun H locs hP hD hS => ?_)
  have hP : va_P D vwCl [(h0, .inr (11, fs)), (qd, .inl (cD, 6, .inr (.inr (.inr (.inr (va_up (va_up (va_up (va_up (va_up (va_up (fun _ => none) 0 (some d0)) 1 (some d1)) 2 (some d2)) 3 (some d3)) 4 (some d4)) 5 (some d5))))))), (d0, .inr (1, [])), (d1, .inr (3, [])), (d2, .inr (10, [])), (d3, .inr (5, [])), (d4, .inr (9, [])), (d5, .inr (2, []))] H := hP
  have hD : va_D A [(h0, .inr (11, fs)), (qd, .inl (cD, 6, .inr (.inr (.inr (.inr (va_up (va_up (va_up (va_up (va_up (va_up (fun _ => none) 0 (some d0)) 1 (some d1)) 2 (some d2)) 3 (some d3)) 4 (some d4)) 5 (some d5))))))), (d0, .inr (1, [])), (d1, .inr (3, [])), (d2, .inr (10, [])), (d3, .inr (5, [])), (d4, .inr (9, [])), (d5, .inr (2, []))] := hD
  refine va_putF (D := D) (ci := 11) (v := .ref qd) (ty := .array (.object RX1)) (C := RX11) (T := TX11) (N := 11) hx hb hts gn_inX11 tyX11 tyX11_ok nmX11 hown hK hP hD hS 0 rfl rfl 0 (by decide) (hts (.fieldLink RX11 25 RX11 "drifts" "[LNineInThePack$Drift;") (gn_mem 269 (by decide +kernel) (by decide +kernel))) (fun _ h9 => h9) rfl hin rfl (by decide +kernel) rfl rfl (by rw [hfl]; decide) dX11_init_70 (fun H locs hP hD hS => ?_)
  have hP : va_P D vwCl ((h0, .inr (11, fs.set 0 (.ref qd))) :: ([(qd, .inl (cD, 6, .inr (.inr (.inr (.inr (va_up (va_up (va_up (va_up (va_up (va_up (fun _ => none) 0 (some d0)) 1 (some d1)) 2 (some d2)) 3 (some d3)) 4 (some d4)) 5 (some d5))))))), (d0, .inr (1, [])), (d1, .inr (3, [])), (d2, .inr (10, [])), (d3, .inr (5, [])), (d4, .inr (9, [])), (d5, .inr (2, []))])) H := hP
  have hD : va_D A ((h0, .inr (11, fs.set 0 (.ref qd))) :: ([(qd, .inl (cD, 6, .inr (.inr (.inr (.inr (va_up (va_up (va_up (va_up (va_up (va_up (fun _ => none) 0 (some d0)) 1 (some d1)) 2 (some d2)) 3 (some d3)) 4 (some d4)) 5 (some d5))))))), (d0, .inr (1, [])), (d1, .inr (3, [])), (d2, .inr (10, [])), (d3, .inr (5, [])), (d4, .inr (9, [])), (d5, .inr (2, []))])) := hD
  have hfl : (fs.set 0 (.ref qd)).length = 11 := by rw [List.length_set]; exact hfl
  generalize e0 : fs.set 0 (.ref qd) = fs0 at hP hD hfl
  generalize g0 : ([(qd, .inl (cD, 6, .inr (.inr (.inr (.inr (va_up (va_up (va_up (va_up (va_up (va_up (fun _ => none) 0 (some d0)) 1 (some d1)) 2 (some d2)) 3 (some d3)) 4 (some d4)) 5 (some d5))))))), (d0, .inr (1, [])), (d1, .inr (3, [])), (d2, .inr (10, [])), (d3, .inr (5, [])), (d4, .inr (9, [])), (d5, .inr (2, []))] : va_W) = Y0 at hP hD
  refine lv_aload_n hx hb dX11_init_73 rfl (lv_at hl 0 rfl) ?_
  refine va_new (ci := 0) (fs := [.int 0, .int 0, .int 0, .int 0, .int 0]) (C := RX0) (T := TX0) (N := 5) hx hb hts gn_inX0 tyX0 tyX0_ok hown (hts (.classLink RX11 31 RX0) (gn_mem 115 (by decide +kernel) (by decide +kernel))) (hts (.instantiable RX0 5) (gn_mem 116 (by decide +kernel) (by decide +kernel))) (hts (.initialized RX0) (gn_mem 57 (by decide +kernel) (by decide +kernel))) hK hP hD hS hA rfl (fun j hj => by rcases (show j = 0 ∨ j = 1 ∨ j = 2 ∨ j = 3 ∨ j = 4 by omega) with rfl | rfl | rfl | rfl | rfl <;> rfl) (Nat.le_of_ble_eq_true rfl) (Nat.le_of_ble_eq_true rfl) dX11_init_74 (fun qa H hP hD hS => ?_)
  refine W.widen (k := 8) (n := 11) (Nat.le_of_ble_eq_true rfl) (Nat.le_of_ble_eq_true rfl) ?_
  refine lv_dup hx hb dX11_init_77 rfl ?_
  refine va_callv (va_runIN (As := []) (rest := [.ref qa, .ref h0]) (Ts := gn_tbl) ⟨hx, hb, hml, hown, hts⟩ (cx_X0 l qa) ⟨va_cnB 0 hts (gk_good yX0_init gx_c0_11 (pre := []) (fun _ q => absurd q List.not_mem_nil)) rfl rfl rfl (hV.nw 11 rfl) (hts (.initialized RX0) (gn_mem 57 (by decide +kernel) (by decide +kernel))) ⟨by decide +kernel, by decide +kernel, by decide +kernel⟩ ⟨(Nat.le_of_ble_eq_true rfl), (Nat.le_of_ble_eq_true rfl)⟩, rfl, hts (.instanceMethod yX0_init) (gn_mem 118 (by decide +kernel) (by decide +kernel))⟩ ⟨fun a U g mk q => ⟨q.1, trivial⟩, fun U hU hW => ⟨rfl, trivial⟩⟩ rfl rfl hl.1 rfl (lv_room (Nat.le_of_ble_eq_true rfl)) dX11_init_78 ⟨(Nat.le_of_ble_eq_true rfl), (Nat.le_of_ble_eq_true rfl)⟩) hS (fun q _ h => h.elim) (fun q h => h.elim) (fun u t H1 locs ht hvm hw hB hz1 hk1 hS => ?_)
  have hP := gx_keep hP hk1
  generalize H1 = H at hP hS ⊢
  refine va_putF (D := D) (ci := 11) (v := .ref qa) (ty := .object RX0) (C := RX11) (T := TX11) (N := 11) hx hb hts gn_inX11 tyX11 tyX11_ok nmX11 hown hK hP hD hS 0 rfl rfl 1 (by decide) (hts (.fieldLink RX11 34 RX11 "air" "LNineInThePack$Air;") (gn_mem 270 (by decide +kernel) (by decide +kernel))) (fun _ h9 => h9) rfl hin rfl (by decide +kernel) rfl rfl (by rw [hfl]; decide) dX11_init_81 (fun H locs hP hD hS => ?_)
  have hP : va_P D vwCl ((h0, .inr (11, fs0.set 1 (.ref qa))) :: (Y0 ++ [(qa, .inr (0, [.int 0, .int 0, .int 0, .int 0, .int 0]))])) H := hP
  have hD : va_D A ((h0, .inr (11, fs0.set 1 (.ref qa))) :: (Y0 ++ [(qa, .inr (0, [.int 0, .int 0, .int 0, .int 0, .int 0]))])) := hD
  have hfl : (fs0.set 1 (.ref qa)).length = 11 := by rw [List.length_set]; exact hfl
  generalize e1 : fs0.set 1 (.ref qa) = fs1 at hP hD hfl
  generalize g1 : (Y0 ++ [(qa, .inr (0, [.int 0, .int 0, .int 0, .int 0, .int 0]))] : va_W) = Y1 at hP hD
  refine lv_aload_n hx hb dX11_init_84 rfl (lv_at hl 0 rfl) ?_
  refine va_new (ci := 7) (fs := [.int 0]) (C := RX7) (T := TX7) (N := 1) hx hb hts gn_inX7 tyX7 tyX7_ok hown (hts (.classLink RX11 38 RX7) (gn_mem 148 (by decide +kernel) (by decide +kernel))) (hts (.instantiable RX7 1) (gn_mem 149 (by decide +kernel) (by decide +kernel))) (hts (.initialized RX7) (gn_mem 58 (by decide +kernel) (by decide +kernel))) hK hP hD hS hA rfl (fun j hj => by rcases (show j = 0 by omega) with rfl; rfl) (Nat.le_of_ble_eq_true rfl) (Nat.le_of_ble_eq_true rfl) dX11_init_85 (fun qo H hP hD hS => ?_)
  refine W.widen (k := 9) (n := 12) (Nat.le_of_ble_eq_true rfl) (Nat.le_of_ble_eq_true rfl) ?_
  refine lv_dup hx hb dX11_init_88 rfl ?_
  refine va_callv (va_runIN (As := []) (rest := [.ref qo, .ref h0]) (Ts := gn_tbl) ⟨hx, hb, hml, hown, hts⟩ (cx_X7 l qo) ⟨va_cnB 0 hts (gk_good yX7_init gx_c7_11 (pre := []) (fun _ q => absurd q List.not_mem_nil)) rfl rfl rfl (hV.nw 12 rfl) (hts (.initialized RX7) (gn_mem 58 (by decide +kernel) (by decide +kernel))) ⟨by decide +kernel, by decide +kernel, by decide +kernel⟩ ⟨(Nat.le_of_ble_eq_true rfl), (Nat.le_of_ble_eq_true rfl)⟩, rfl, hts (.instanceMethod yX7_init) (gn_mem 151 (by decide +kernel) (by decide +kernel))⟩ ⟨fun a U g mk q => ⟨q.1, trivial⟩, fun U hU hW => ⟨rfl, trivial⟩⟩ rfl rfl hl.1 rfl (lv_room (Nat.le_of_ble_eq_true rfl)) dX11_init_89 ⟨(Nat.le_of_ble_eq_true rfl), (Nat.le_of_ble_eq_true rfl)⟩) hS (fun q _ h => h.elim) (fun q h => h.elim) (fun u t H1 locs ht hvm hw hB hz1 hk1 hS => ?_)
  have hP := gx_keep hP hk1
  generalize H1 = H at hP hS ⊢
  refine va_putF (D := D) (ci := 11) (v := .ref qo) (ty := .object RX7) (C := RX11) (T := TX11) (N := 11) hx hb hts gn_inX11 tyX11 tyX11_ok nmX11 hown hK hP hD hS 0 rfl rfl 2 (by decide) (hts (.fieldLink RX11 41 RX11 "lot" "LNineInThePack$Lot;") (gn_mem 271 (by decide +kernel) (by decide +kernel))) (fun _ h9 => h9) rfl hin rfl (by decide +kernel) rfl rfl (by rw [hfl]; decide) dX11_init_92 (fun H locs hP hD hS => ?_)
  have hP : va_P D vwCl ((h0, .inr (11, fs1.set 2 (.ref qo))) :: (Y1 ++ [(qo, .inr (7, [.int 0]))])) H := hP
  have hD : va_D A ((h0, .inr (11, fs1.set 2 (.ref qo))) :: (Y1 ++ [(qo, .inr (7, [.int 0]))])) := hD
  have hfl : (fs1.set 2 (.ref qo)).length = 11 := by rw [List.length_set]; exact hfl
  generalize e2 : fs1.set 2 (.ref qo) = fs2 at hP hD hfl
  generalize g2 : (Y1 ++ [(qo, .inr (7, [.int 0]))] : va_W) = Y2 at hP hD
  refine lv_aload_n hx hb dX11_init_95 rfl (lv_at hl 0 rfl) ?_
  refine va_new (ci := 4) (fs := [.null, .null, .null, .int 0, .int 0, .int 0, .int 0, .int 0]) (C := RX4) (T := TX4) (N := 8) hx hb hts gn_inX4 tyX4 tyX4_ok hown (hts (.classLink RX11 45 RX4) (gn_mem 159 (by decide +kernel) (by decide +kernel))) (hts (.instantiable RX4 8) (gn_mem 160 (by decide +kernel) (by decide +kernel))) (hts (.initialized RX4) (gn_mem 59 (by decide +kernel) (by decide +kernel))) hK hP hD hS hA rfl (fun j hj => by rcases (show j = 0 ∨ j = 1 ∨ j = 2 ∨ j = 3 ∨ j = 4 ∨ j = 5 ∨ j = 6 ∨ j = 7 by omega) with rfl | rfl | rfl | rfl | rfl | rfl | rfl | rfl <;> rfl) (Nat.le_of_ble_eq_true rfl) (Nat.le_of_ble_eq_true rfl) dX11_init_96 (fun i0 H hP hD hS => ?_)
  refine W.widen (k := 10) (n := 20) (Nat.le_of_ble_eq_true rfl) (Nat.le_of_ble_eq_true rfl) ?_
  refine lv_dup hx hb dX11_init_99 rfl ?_
  obtain ⟨hPc, hDc⟩ := gx_cut hP hD
  have hKc := hK.sub (tys' := []) [] rfl
  have hFc := gx_free hD hS hA
  refine va_callv (va_runI (As := []) (rest := [.ref i0, .ref h0]) (Ts := gn_tbl) ⟨hx, hb, hml, hown, hts⟩ (cx_X4 l D i0 H.size) (cwI 0 hts (gk_good yX4_init gx_c4_11 (pre := []) (fun _ q => absurd q List.not_mem_nil)) rfl rfl rfl (hts (.initialized RX4) (gn_mem 59 (by decide +kernel) (by decide +kernel))) (hts (.methodLink RX11 47 yX4_init) (gn_mem 161 (by decide +kernel) (by decide +kernel))) (hts (.instanceMethod yX4_init) (gn_mem 162 (by decide +kernel) (by decide +kernel))) rfl (by decide +kernel) ⟨(Nat.le_of_ble_eq_true rfl), (Nat.le_of_ble_eq_true rfl)⟩) ⟨fun a U g mk q => by obtain ⟨q0, qV, q1, qP, qK, qD⟩ := q; exact ⟨q0, gx_V.same (u := U) (U := U.calling g mk a) rfl qV, q1, qP, va_K.moved (u := U) (U := U.calling g mk a) (Vm.Alike.refl U.vm) qK, qD⟩, fun U hU hW => ⟨rfl, gx_V.warm hW hV, by rw [hU], by rw [hU]; exact hPc, va_K.moved hW.alike hKc, hDc.weaken (fun _ _ _ _ => trivial)⟩⟩ rfl rfl hl.1 rfl (lv_room (Nat.le_of_ble_eq_true rfl)) dX11_init_100 ⟨(Nat.le_of_ble_eq_true rfl), (Nat.le_of_ble_eq_true rfl)⟩) hS (fun q _ h => hFc q h) hFc (fun u t H1 locs ht hvm hw hB hz1 hk1 hS => ?_)
  obtain ⟨i0a, i0b, i0c, i0f, i0I, i0S, i0F, i0h, hP1, hK1, hD1⟩ := hB
  rw [ht] at hP1
  have hK1 := va_K.moved hvm.symm hK1
  have hK := hK.app hK1
  have hK : va_K D vwCl [(i0I, .int), (i0S, .object RX8), (cD, .object RX1)] s := hK.sub [1, 2, 0] rfl
  obtain ⟨Y3, g3, hP, hD⟩ := gx_join hP hD hk1 hFc hP1 hD1
  generalize H1 = H at hP hS ⊢
  refine W.widen (k := 19) (n := 76) (Nat.le_of_ble_eq_true rfl) (Nat.le_of_ble_eq_true rfl) ?_
  refine va_putF (D := D) (ci := 11) (v := .ref i0) (ty := .object RX4) (C := RX11) (T := TX11) (N := 11) hx hb hts gn_inX11 tyX11 tyX11_ok nmX11 hown hK hP hD hS 0 rfl rfl 3 (by decide) (hts (.fieldLink RX11 48 RX11 "now" "LNineInThePack$Ice;") (gn_mem 272 (by decide +kernel) (by decide +kernel))) (fun _ h9 => h9) rfl hin rfl (by decide +kernel) rfl rfl (by rw [hfl]; decide) dX11_init_103 (fun H locs hP hD hS => ?_)
  have hP : va_P D vwCl ((h0, .inr (11, fs2.set 3 (.ref i0))) :: (Y3)) H := hP
  have hD : va_D A ((h0, .inr (11, fs2.set 3 (.ref i0))) :: (Y3)) := hD
  have hfl : (fs2.set 3 (.ref i0)).length = 11 := by rw [List.length_set]; exact hfl
  generalize e3 : fs2.set 3 (.ref i0) = fs3 at hP hD hfl
  refine lv_aload_n hx hb dX11_init_106 rfl (lv_at hl 0 rfl) ?_
  refine va_new (ci := 4) (fs := [.null, .null, .null, .int 0, .int 0, .int 0, .int 0, .int 0]) (C := RX4) (T := TX4) (N := 8) hx hb hts gn_inX4 tyX4 tyX4_ok hown (hts (.classLink RX11 45 RX4) (gn_mem 159 (by decide +kernel) (by decide +kernel))) (hts (.instantiable RX4 8) (gn_mem 160 (by decide +kernel) (by decide +kernel))) (hts (.initialized RX4) (gn_mem 59 (by decide +kernel) (by decide +kernel))) hK hP hD hS hA rfl (fun j hj => by rcases (show j = 0 ∨ j = 1 ∨ j = 2 ∨ j = 3 ∨ j = 4 ∨ j = 5 ∨ j = 6 ∨ j = 7 by omega) with rfl | rfl | rfl | rfl | rfl | rfl | rfl | rfl <;> rfl) (Nat.le_of_ble_eq_true rfl) (Nat.le_of_ble_eq_true rfl) dX11_init_107 (fun i1 H hP hD hS => ?_)
  refine W.widen (k := 20) (n := 84) (Nat.le_of_ble_eq_true rfl) (Nat.le_of_ble_eq_true rfl) ?_
  refine lv_dup hx hb dX11_init_110 rfl ?_
  obtain ⟨hPc, hDc⟩ := gx_cut hP hD
  have hKc := hK.sub (tys' := []) [] rfl
  have hFc := gx_free hD hS hA
  refine va_callv (va_runI (As := []) (rest := [.ref i1, .ref h0]) (Ts := gn_tbl) ⟨hx, hb, hml, hown, hts⟩ (cx_X4 l D i1 H.size) (cwI 0 hts (gk_good yX4_init gx_c4_11 (pre := []) (fun _ q => absurd q List.not_mem_nil)) rfl rfl rfl (hts (.initialized RX4) (gn_mem 59 (by decide +kernel) (by decide +kernel))) (hts (.methodLink RX11 47 yX4_init) (gn_mem 161 (by decide +kernel) (by decide +kernel))) (hts (.instanceMethod yX4_init) (gn_mem 162 (by decide +kernel) (by decide +kernel))) rfl (by decide +kernel) ⟨(Nat.le_of_ble_eq_true rfl), (Nat.le_of_ble_eq_true rfl)⟩) ⟨fun a U g mk q => by obtain ⟨q0, qV, q1, qP, qK, qD⟩ := q; exact ⟨q0, gx_V.same (u := U) (U := U.calling g mk a) rfl qV, q1, qP, va_K.moved (u := U) (U := U.calling g mk a) (Vm.Alike.refl U.vm) qK, qD⟩, fun U hU hW => ⟨rfl, gx_V.warm hW hV, by rw [hU], by rw [hU]; exact hPc, va_K.moved hW.alike hKc, hDc.weaken (fun _ _ _ _ => trivial)⟩⟩ rfl rfl hl.1 rfl (lv_room (Nat.le_of_ble_eq_true rfl)) dX11_init_111 ⟨(Nat.le_of_ble_eq_true rfl), (Nat.le_of_ble_eq_true rfl)⟩) hS (fun q _ h => hFc q h) hFc (fun u t H1 locs ht hvm hw hB hz1 hk1 hS => ?_)
  obtain ⟨i1a, i1b, i1c, i1f, i1I, i1S, i1F, i1h, hP1, hK1, hD1⟩ := hB
  rw [ht] at hP1
  have hK1 := va_K.moved hvm.symm hK1
  obtain rfl : i0I = i1I := gx_u (Or.inl rfl) (hK.2 0 _ rfl).2 (hK1.2 0 _ rfl).2
  obtain rfl : i0S = i1S := gx_u (Or.inr ⟨RX8, rfl⟩) (hK.2 1 _ rfl).2 (hK1.2 1 _ rfl).2
  obtain ⟨Y4, g4, hP, hD⟩ := gx_join hP hD hk1 hFc hP1 hD1
  generalize H1 = H at hP hS ⊢
  refine W.widen (k := 29) (n := 140) (Nat.le_of_ble_eq_true rfl) (Nat.le_of_ble_eq_true rfl) ?_
  refine va_putF (D := D) (ci := 11) (v := .ref i1) (ty := .object RX4) (C := RX11) (T := TX11) (N := 11) hx hb hts gn_inX11 tyX11 tyX11_ok nmX11 hown hK hP hD hS 0 rfl rfl 4 (by decide) (hts (.fieldLink RX11 52 RX11 "mind" "LNineInThePack$Ice;") (gn_mem 273 (by decide +kernel) (by decide +kernel))) (fun _ h9 => h9) rfl hin rfl (by decide +kernel) rfl rfl (by rw [hfl]; decide) dX11_init_114 (fun H locs hP hD hS => ?_)
  have hP : va_P D vwCl ((h0, .inr (11, fs3.set 4 (.ref i1))) :: (Y4)) H := hP
  have hD : va_D A ((h0, .inr (11, fs3.set 4 (.ref i1))) :: (Y4)) := hD
  have hfl : (fs3.set 4 (.ref i1)).length = 11 := by rw [List.length_set]; exact hfl
  generalize e4 : fs3.set 4 (.ref i1) = fs4 at hP hD hfl
  refine lv_aload_n hx hb dX11_init_117 rfl (lv_at hl 0 rfl) ?_
  refine va_new (ci := 4) (fs := [.null, .null, .null, .int 0, .int 0, .int 0, .int 0, .int 0]) (C := RX4) (T := TX4) (N := 8) hx hb hts gn_inX4 tyX4 tyX4_ok hown (hts (.classLink RX11 45 RX4) (gn_mem 159 (by decide +kernel) (by decide +kernel))) (hts (.instantiable RX4 8) (gn_mem 160 (by decide +kernel) (by decide +kernel))) (hts (.initialized RX4) (gn_mem 59 (by decide +kernel) (by decide +kernel))) hK hP hD hS hA rfl (fun j hj => by rcases (show j = 0 ∨ j = 1 ∨ j = 2 ∨ j = 3 ∨ j = 4 ∨ j = 5 ∨ j = 6 ∨ j = 7 by omega) with rfl | rfl | rfl | rfl | rfl | rfl | rfl | rfl <;> rfl) (Nat.le_of_ble_eq_true rfl) (Nat.le_of_ble_eq_true rfl) dX11_init_118 (fun i2 H hP hD hS => ?_)
  refine W.widen (k := 30) (n := 148) (Nat.le_of_ble_eq_true rfl) (Nat.le_of_ble_eq_true rfl) ?_
  refine lv_dup hx hb dX11_init_121 rfl ?_
  obtain ⟨hPc, hDc⟩ := gx_cut hP hD
  have hKc := hK.sub (tys' := []) [] rfl
  have hFc := gx_free hD hS hA
  refine va_callv (va_runI (As := []) (rest := [.ref i2, .ref h0]) (Ts := gn_tbl) ⟨hx, hb, hml, hown, hts⟩ (cx_X4 l D i2 H.size) (cwI 0 hts (gk_good yX4_init gx_c4_11 (pre := []) (fun _ q => absurd q List.not_mem_nil)) rfl rfl rfl (hts (.initialized RX4) (gn_mem 59 (by decide +kernel) (by decide +kernel))) (hts (.methodLink RX11 47 yX4_init) (gn_mem 161 (by decide +kernel) (by decide +kernel))) (hts (.instanceMethod yX4_init) (gn_mem 162 (by decide +kernel) (by decide +kernel))) rfl (by decide +kernel) ⟨(Nat.le_of_ble_eq_true rfl), (Nat.le_of_ble_eq_true rfl)⟩) ⟨fun a U g mk q => by obtain ⟨q0, qV, q1, qP, qK, qD⟩ := q; exact ⟨q0, gx_V.same (u := U) (U := U.calling g mk a) rfl qV, q1, qP, va_K.moved (u := U) (U := U.calling g mk a) (Vm.Alike.refl U.vm) qK, qD⟩, fun U hU hW => ⟨rfl, gx_V.warm hW hV, by rw [hU], by rw [hU]; exact hPc, va_K.moved hW.alike hKc, hDc.weaken (fun _ _ _ _ => trivial)⟩⟩ rfl rfl hl.1 rfl (lv_room (Nat.le_of_ble_eq_true rfl)) dX11_init_122 ⟨(Nat.le_of_ble_eq_true rfl), (Nat.le_of_ble_eq_true rfl)⟩) hS (fun q _ h => hFc q h) hFc (fun u t H1 locs ht hvm hw hB hz1 hk1 hS => ?_)
  obtain ⟨i2a, i2b, i2c, i2f, i2I, i2S, i2F, i2h, hP1, hK1, hD1⟩ := hB
  rw [ht] at hP1
  have hK1 := va_K.moved hvm.symm hK1
  obtain rfl : i0I = i2I := gx_u (Or.inl rfl) (hK.2 0 _ rfl).2 (hK1.2 0 _ rfl).2
  obtain rfl : i0S = i2S := gx_u (Or.inr ⟨RX8, rfl⟩) (hK.2 1 _ rfl).2 (hK1.2 1 _ rfl).2
  obtain ⟨Y5, g5, hP, hD⟩ := gx_join hP hD hk1 hFc hP1 hD1
  generalize H1 = H at hP hS ⊢
  refine W.widen (k := 39) (n := 204) (Nat.le_of_ble_eq_true rfl) (Nat.le_of_ble_eq_true rfl) ?_
  refine va_putF (D := D) (ci := 11) (v := .ref i2) (ty := .object RX4) (C := RX11) (T := TX11) (N := 11) hx hb hts gn_inX11 tyX11 tyX11_ok nmX11 hown hK hP hD hS 0 rfl rfl 5 (by decide) (hts (.fieldLink RX11 55 RX11 "kept" "LNineInThePack$Ice;") (gn_mem 274 (by decide +kernel) (by decide +kernel))) (fun _ h9 => h9) rfl hin rfl (by decide +kernel) rfl rfl (by rw [hfl]; decide) dX11_init_125 (fun H locs hP hD hS => ?_)
  have hP : va_P D vwCl ((h0, .inr (11, fs4.set 5 (.ref i2))) :: (Y5)) H := hP
  have hD : va_D A ((h0, .inr (11, fs4.set 5 (.ref i2))) :: (Y5)) := hD
  have hfl : (fs4.set 5 (.ref i2)).length = 11 := by rw [List.length_set]; exact hfl
  generalize e5 : fs4.set 5 (.ref i2) = fs5 at hP hD hfl
  refine lv_aload_n hx hb dX11_init_128 rfl (lv_at hl 0 rfl) ?_
  refine va_new (ci := 6) (fs := [.null, .int 0, .int 0, .int 0]) (C := RX6) (T := TX6) (N := 4) hx hb hts gn_inX6 tyX6 tyX6_ok hown (hts (.classLink RX11 58 RX6) (gn_mem 249 (by decide +kernel) (by decide +kernel))) (hts (.instantiable RX6 4) (gn_mem 250 (by decide +kernel) (by decide +kernel))) (hts (.initialized RX6) (gn_mem 61 (by decide +kernel) (by decide +kernel))) hK hP hD hS hA rfl (fun j hj => by rcases (show j = 0 ∨ j = 1 ∨ j = 2 ∨ j = 3 by omega) with rfl | rfl | rfl | rfl <;> rfl) (Nat.le_of_ble_eq_true rfl) (Nat.le_of_ble_eq_true rfl) dX11_init_129 (fun ql H hP hD hS => ?_)
  refine W.widen (k := 40) (n := 208) (Nat.le_of_ble_eq_true rfl) (Nat.le_of_ble_eq_true rfl) ?_
  refine lv_dup hx hb dX11_init_132 rfl ?_
  obtain ⟨hPc, hDc⟩ := gx_cut hP hD
  have hKc := hK.sub (tys' := []) [] rfl
  have hFc := gx_free hD hS hA
  refine va_callv (va_runIN (As := []) (rest := [.ref ql, .ref h0]) (Ts := gn_tbl) ⟨hx, hb, hml, hown, hts⟩ (cx_X6 l D ql H.size) ⟨va_cnB 0 hts (gk_good yX6_init gx_c6_11 (pre := []) (fun _ q => absurd q List.not_mem_nil)) rfl rfl rfl (hV.nw 14 rfl) (hts (.initialized RX6) (gn_mem 61 (by decide +kernel) (by decide +kernel))) ⟨by decide +kernel, by decide +kernel, by decide +kernel⟩ ⟨(Nat.le_of_ble_eq_true rfl), (Nat.le_of_ble_eq_true rfl)⟩, rfl, hts (.instanceMethod yX6_init) (gn_mem 252 (by decide +kernel) (by decide +kernel))⟩ ⟨fun a U g mk q => by obtain ⟨q0, q1, qP, qK, qD⟩ := q; exact ⟨q0, q1, qP, va_K.moved (u := U) (U := U.calling g mk a) (Vm.Alike.refl U.vm) qK, qD⟩, fun U hU hW => ⟨rfl, by rw [hU], by rw [hU]; exact hPc, va_K.moved hW.alike hKc, hDc.weaken (fun _ _ _ _ => trivial)⟩⟩ rfl rfl hl.1 rfl (lv_room (Nat.le_of_ble_eq_true rfl)) dX11_init_133 ⟨(Nat.le_of_ble_eq_true rfl), (Nat.le_of_ble_eq_true rfl)⟩) hS (fun q _ h => hFc q h) hFc (fun u t H1 locs ht hvm hw hB hz1 hk1 hS => ?_)
  obtain ⟨qla, qlI, hP1, hK1, hD1⟩ := hB
  rw [ht] at hP1
  have hK1 := va_K.moved hvm.symm hK1
  obtain rfl : i0I = qlI := gx_u (Or.inl rfl) (hK.2 0 _ rfl).2 (hK1.2 0 _ rfl).2
  obtain ⟨Y6, g6, hP, hD⟩ := gx_join hP hD hk1 hFc hP1 hD1
  generalize H1 = H at hP hS ⊢
  refine W.widen (k := 41) (n := 288) (Nat.le_of_ble_eq_true rfl) (Nat.le_of_ble_eq_true rfl) ?_
  refine va_putF (D := D) (ci := 11) (v := .ref ql) (ty := .object RX6) (C := RX11) (T := TX11) (N := 11) hx hb hts gn_inX11 tyX11 tyX11_ok nmX11 hown hK hP hD hS 0 rfl rfl 7 (by decide) (hts (.fieldLink RX11 61 RX11 "letters" "LNineInThePack$Letters;") (gn_mem 276 (by decide +kernel) (by decide +kernel))) (fun _ h9 => h9) rfl hin rfl (by decide +kernel) rfl rfl (by rw [hfl]; decide) dX11_init_136 (fun H locs hP hD hS => ?_)
  have hP : va_P D vwCl ((h0, .inr (11, fs5.set 7 (.ref ql))) :: (Y6)) H := hP
  have hD : va_D A ((h0, .inr (11, fs5.set 7 (.ref ql))) :: (Y6)) := hD
  have hfl : (fs5.set 7 (.ref ql)).length = 11 := by rw [List.length_set]; exact hfl
  generalize e6 : fs5.set 7 (.ref ql) = fs6 at hP hD hfl
  refine lv_aload_n hx hb dX11_init_139 rfl (lv_at hl 0 rfl) ?_
  refine lv_bipush (v := 12) hx hb dX11_init_140 (by decide) ?_
  refine gx_arr (T := TX11) (N := 11) (ci := 11) hx hb hts gn_inX11 tyX11 tyX11_ok nmX11 hown hK rfl hA hin hP hD hS hfl 12 12 8 (by decide) (by decide) (by decide) (by decide) (hts (.fieldLink RX11 65 RX11 "told" "[I") (gn_mem 277 (by decide +kernel) (by decide +kernel))) rfl rfl (by decide +kernel) (Nat.le_of_ble_eq_true rfl) (Nat.le_of_ble_eq_true rfl) dX11_init_142 dX11_init_144 (fun qt H locs hP hD hS => ?_)
  refine W.widen (k := 42) (n := 300) (Nat.le_of_ble_eq_true rfl) (Nat.le_of_ble_eq_true rfl) ?_
  have hP : va_P D vwCl ((h0, .inr (11, fs6.set 8 (.ref qt))) :: (Y6 ++ [(qt, .inl (i0I, 12, .inl (fun _ => 0)))])) H := hP
  have hD : va_D A ((h0, .inr (11, fs6.set 8 (.ref qt))) :: (Y6 ++ [(qt, .inl (i0I, 12, .inl (fun _ => 0)))])) := hD
  have hfl : (fs6.set 8 (.ref qt)).length = 11 := by rw [List.length_set]; exact hfl
  generalize e7 : fs6.set 8 (.ref qt) = fs7 at hP hD hfl
  generalize g7 : (Y6 ++ [(qt, .inl (i0I, 12, .inl (fun _ => 0)))] : va_W) = Y7 at hP hD
  refine lv_aload_n hx hb dX11_init_147 rfl (lv_at hl 0 rfl) ?_
  refine lv_bipush (v := 7) hx hb dX11_init_148 (by decide) ?_
  refine gx_arr (T := TX11) (N := 11) (ci := 11) hx hb hts gn_inX11 tyX11 tyX11_ok nmX11 hown hK rfl hA hin hP hD hS hfl 7 7 10 (by decide) (by decide) (by decide) (by decide) (hts (.fieldLink RX11 69 RX11 "refusals" "[I") (gn_mem 279 (by decide +kernel) (by decide +kernel))) rfl rfl (by decide +kernel) (Nat.le_of_ble_eq_true rfl) (Nat.le_of_ble_eq_true rfl) dX11_init_150 dX11_init_152 (fun qr H locs hP hD hS => ?_)
  refine W.widen (k := 43) (n := 307) (Nat.le_of_ble_eq_true rfl) (Nat.le_of_ble_eq_true rfl) ?_
  have hP : va_P D vwCl ((h0, .inr (11, fs7.set 10 (.ref qr))) :: (Y7 ++ [(qr, .inl (i0I, 7, .inl (fun _ => 0)))])) H := hP
  have hD : va_D A ((h0, .inr (11, fs7.set 10 (.ref qr))) :: (Y7 ++ [(qr, .inl (i0I, 7, .inl (fun _ => 0)))])) := hD
  have hfl : (fs7.set 10 (.ref qr)).length = 11 := by rw [List.length_set]; exact hfl
  generalize e8 : fs7.set 10 (.ref qr) = fs8 at hP hD hfl
  generalize g8 : (Y7 ++ [(qr, .inl (i0I, 7, .inl (fun _ => 0)))] : va_W) = Y8 at hP hD
  subst g8
  subst e8
  subst g7
  subst e7
  subst e6
  subst g6
  subst e5
  subst g5
  subst e4
  subst g4
  subst e3
  subst g3
  subst g2
  subst e2
  subst g1
  subst e1
  subst g0
  subst e0
  subst hfs
  obtain ⟨a, ha⟩ : ∃ f : Nat → Nat, f = fun n => ([qa, d0, d1, d2, d3, d4, d5, i0, i1, i2, ql, qo, i0f 0, i0f 1, i0f 2, i0f 3, i0f 4, i0f 5, i1f 0, i1f 1, i1f 2, i1f 3, i1f 4, i1f 5, i2f 0, i2f 1, i2f 2, i2f 3, i2f 4, i2f 5, h0, i0a, i1a, i2a, i0b, i1b, i2b, i0c, i1c, i2c, qd, qla, qt, qr] : List Nat).getD n 0 := ⟨_, rfl⟩
  have hP := hP.sub (ws' := [(a 0, .inr (0, [.int 0, .int 0, .int 0, .int 0, .int 0])), (a 1, .inr (1, [])), (a 2, .inr (3, [])), (a 3, .inr (10, [])), (a 4, .inr (5, [])), (a 5, .inr (9, [])), (a 6, .inr (2, [])), (a 7, .inr (4, [.ref (a 31), .ref (a 34), .ref (a 37), .int 0, .int 0, .int 10, .int 30, .int 0])), (a 8, .inr (4, [.ref (a 32), .ref (a 35), .ref (a 38), .int 0, .int 0, .int 10, .int 30, .int 0])), (a 9, .inr (4, [.ref (a 33), .ref (a 36), .ref (a 39), .int 0, .int 0, .int 10, .int 30, .int 0])), (a 10, .inr (6, [.ref (a 41), .int 0, .int 0, .int 0])), (a 11, .inr (7, [.int 0])), (a 12, .inr (8, [.int 0, .int 0, .int 0, .int 0, .int 0, .int 0])), (a 13, .inr (8, [.int 0, .int 0, .int 0, .int 0, .int 0, .int 0])), (a 14, .inr (8, [.int 0, .int 0, .int 0, .int 0, .int 0, .int 0])), (a 15, .inr (8, [.int 0, .int 0, .int 0, .int 0, .int 0, .int 0])), (a 16, .inr (8, [.int 0, .int 0, .int 0, .int 0, .int 0, .int 0])), (a 17, .inr (8, [.int 0, .int 0, .int 0, .int 0, .int 0, .int 0])), (a 18, .inr (8, [.int 0, .int 0, .int 0, .int 0, .int 0, .int 0])), (a 19, .inr (8, [.int 0, .int 0, .int 0, .int 0, .int 0, .int 0])), (a 20, .inr (8, [.int 0, .int 0, .int 0, .int 0, .int 0, .int 0])), (a 21, .inr (8, [.int 0, .int 0, .int 0, .int 0, .int 0, .int 0])), (a 22, .inr (8, [.int 0, .int 0, .int 0, .int 0, .int 0, .int 0])), (a 23, .inr (8, [.int 0, .int 0, .int 0, .int 0, .int 0, .int 0])), (a 24, .inr (8, [.int 0, .int 0, .int 0, .int 0, .int 0, .int 0])), (a 25, .inr (8, [.int 0, .int 0, .int 0, .int 0, .int 0, .int 0])), (a 26, .inr (8, [.int 0, .int 0, .int 0, .int 0, .int 0, .int 0])), (a 27, .inr (8, [.int 0, .int 0, .int 0, .int 0, .int 0, .int 0])), (a 28, .inr (8, [.int 0, .int 0, .int 0, .int 0, .int 0, .int 0])), (a 29, .inr (8, [.int 0, .int 0, .int 0, .int 0, .int 0, .int 0])), (a 30, .inr (11, [.ref (a 40), .ref (a 0), .ref (a 11), .ref (a 7), .ref (a 8), .ref (a 9), .int 0, .ref (a 10), .ref (a 42), .int 0, .ref (a 43)])), (a 31, .inl (i0I, 7, .inl (fun _ => 0))), (a 32, .inl (i0I, 7, .inl (fun _ => 0))), (a 33, .inl (i0I, 7, .inl (fun _ => 0))), (a 34, .inl (i0I, 7, .inl (fun _ => 0))), (a 35, .inl (i0I, 7, .inl (fun _ => 0))), (a 36, .inl (i0I, 7, .inl (fun _ => 0))), (a 37, .inl (i0S, 6, .inr (.inr (.inr (.inr i0F))))), (a 38, .inl (i0S, 6, .inr (.inr (.inr (.inr i1F))))), (a 39, .inl (i0S, 6, .inr (.inr (.inr (.inr i2F))))), (a 40, .inl (cD, 6, .inr (.inr (.inr (.inr (va_up (va_up (va_up (va_up (va_up (va_up (fun _ => none) 0 (some d0)) 1 (some d1)) 2 (some d2)) 3 (some d3)) 4 (some d4)) 5 (some d5))))))), (a 41, .inl (i0I, 80, .inl (fun _ => 0))), (a 42, .inl (i0I, 12, .inl (fun _ => 0))), (a 43, .inl (i0I, 7, .inl (fun _ => 0)))]) [8, 2, 3, 4, 5, 6, 7, 10, 20, 30, 40, 9, 14, 15, 16, 17, 18, 19, 24, 25, 26, 27, 28, 29, 34, 35, 36, 37, 38, 39, 0, 11, 21, 31, 12, 22, 32, 13, 23, 33, 1, 41, 42, 43] (by rw [ha]; rfl)
  have hD := hD.sub (ws' := [(a 0, .inr (0, [.int 0, .int 0, .int 0, .int 0, .int 0])), (a 1, .inr (1, [])), (a 2, .inr (3, [])), (a 3, .inr (10, [])), (a 4, .inr (5, [])), (a 5, .inr (9, [])), (a 6, .inr (2, [])), (a 7, .inr (4, [.ref (a 31), .ref (a 34), .ref (a 37), .int 0, .int 0, .int 10, .int 30, .int 0])), (a 8, .inr (4, [.ref (a 32), .ref (a 35), .ref (a 38), .int 0, .int 0, .int 10, .int 30, .int 0])), (a 9, .inr (4, [.ref (a 33), .ref (a 36), .ref (a 39), .int 0, .int 0, .int 10, .int 30, .int 0])), (a 10, .inr (6, [.ref (a 41), .int 0, .int 0, .int 0])), (a 11, .inr (7, [.int 0])), (a 12, .inr (8, [.int 0, .int 0, .int 0, .int 0, .int 0, .int 0])), (a 13, .inr (8, [.int 0, .int 0, .int 0, .int 0, .int 0, .int 0])), (a 14, .inr (8, [.int 0, .int 0, .int 0, .int 0, .int 0, .int 0])), (a 15, .inr (8, [.int 0, .int 0, .int 0, .int 0, .int 0, .int 0])), (a 16, .inr (8, [.int 0, .int 0, .int 0, .int 0, .int 0, .int 0])), (a 17, .inr (8, [.int 0, .int 0, .int 0, .int 0, .int 0, .int 0])), (a 18, .inr (8, [.int 0, .int 0, .int 0, .int 0, .int 0, .int 0])), (a 19, .inr (8, [.int 0, .int 0, .int 0, .int 0, .int 0, .int 0])), (a 20, .inr (8, [.int 0, .int 0, .int 0, .int 0, .int 0, .int 0])), (a 21, .inr (8, [.int 0, .int 0, .int 0, .int 0, .int 0, .int 0])), (a 22, .inr (8, [.int 0, .int 0, .int 0, .int 0, .int 0, .int 0])), (a 23, .inr (8, [.int 0, .int 0, .int 0, .int 0, .int 0, .int 0])), (a 24, .inr (8, [.int 0, .int 0, .int 0, .int 0, .int 0, .int 0])), (a 25, .inr (8, [.int 0, .int 0, .int 0, .int 0, .int 0, .int 0])), (a 26, .inr (8, [.int 0, .int 0, .int 0, .int 0, .int 0, .int 0])), (a 27, .inr (8, [.int 0, .int 0, .int 0, .int 0, .int 0, .int 0])), (a 28, .inr (8, [.int 0, .int 0, .int 0, .int 0, .int 0, .int 0])), (a 29, .inr (8, [.int 0, .int 0, .int 0, .int 0, .int 0, .int 0])), (a 30, .inr (11, [.ref (a 40), .ref (a 0), .ref (a 11), .ref (a 7), .ref (a 8), .ref (a 9), .int 0, .ref (a 10), .ref (a 42), .int 0, .ref (a 43)])), (a 31, .inl (i0I, 7, .inl (fun _ => 0))), (a 32, .inl (i0I, 7, .inl (fun _ => 0))), (a 33, .inl (i0I, 7, .inl (fun _ => 0))), (a 34, .inl (i0I, 7, .inl (fun _ => 0))), (a 35, .inl (i0I, 7, .inl (fun _ => 0))), (a 36, .inl (i0I, 7, .inl (fun _ => 0))), (a 37, .inl (i0S, 6, .inr (.inr (.inr (.inr i0F))))), (a 38, .inl (i0S, 6, .inr (.inr (.inr (.inr i1F))))), (a 39, .inl (i0S, 6, .inr (.inr (.inr (.inr i2F))))), (a 40, .inl (cD, 6, .inr (.inr (.inr (.inr (va_up (va_up (va_up (va_up (va_up (va_up (fun _ => none) 0 (some d0)) 1 (some d1)) 2 (some d2)) 3 (some d3)) 4 (some d4)) 5 (some d5))))))), (a 41, .inl (i0I, 80, .inl (fun _ => 0))), (a 42, .inl (i0I, 12, .inl (fun _ => 0))), (a 43, .inl (i0I, 7, .inl (fun _ => 0)))]) [8, 2, 3, 4, 5, 6, 7, 10, 20, 30, 40, 9, 14, 15, 16, 17, 18, 19, 24, 25, 26, 27, 28, 29, 34, 35, 36, 37, 38, 39, 0, 11, 21, 31, 12, 22, 32, 13, 23, 33, 1, 41, 42, 43] (by decide) (by rw [ha]; rfl)
  obtain ⟨hP, hD⟩ := gx_row hP hD 37 (fun j => some (a (12 + (6 * 0 + j)))) rfl (fun j hj => by rw [i0h j hj, ha]; rcases (show j = 0 ∨ j = 1 ∨ j = 2 ∨ j = 3 ∨ j = 4 ∨ j = 5 by omega) with rfl | rfl | rfl | rfl | rfl | rfl <;> rfl)
  obtain ⟨hP, hD⟩ := gx_row hP hD 38 (fun j => some (a (12 + (6 * 1 + j)))) rfl (fun j hj => by rw [i1h j hj, ha]; rcases (show j = 0 ∨ j = 1 ∨ j = 2 ∨ j = 3 ∨ j = 4 ∨ j = 5 by omega) with rfl | rfl | rfl | rfl | rfl | rfl <;> rfl)
  obtain ⟨hP, hD⟩ := gx_row hP hD 39 (fun j => some (a (12 + (6 * 2 + j)))) rfl (fun j hj => by rw [i2h j hj, ha]; rcases (show j = 0 ∨ j = 1 ∨ j = 2 ∨ j = 3 ∨ j = 4 ∨ j = 5 by omega) with rfl | rfl | rfl | rfl | rfl | rfl <;> rfl)
  obtain ⟨hP, hD⟩ := gx_row hP hD 40 (fun j => some (a (1 + j))) rfl (fun j hj => by rw [ha]; rcases (show j = 0 ∨ j = 1 ∨ j = 2 ∨ j = 3 ∨ j = 4 ∨ j = 5 by omega) with rfl | rfl | rfl | rfl | rfl | rfl <;> rfl)
  have hP : va_P D vwCl (gx_w11 a i0I i0S cD) H := hP
  have hD : va_D A (gx_w11 a i0I i0S cD) := hD
  exact W.vret hx hb hr (fun t ht hW => ⟨⟨(), rfl, trivial, a, i0I, i0S, cD, by rw [ha]; rfl, by rw [ht]; exact hP, va_K.moved hW.alike hK, hD⟩, hS.F ht⟩) hS.2.2 dX11_init_155
