/-! METHODS: a contract out of a walk; calls -/
def gk_rm (d : Nat) : Room := { frames := d, cells := 0, slots := 0, locals := 36 * d }
def gk_rg (ρ : Nat → Nat → Nat) : Nat → Prop := fun q => ∃ c i : Nat, i < gk_cnt c ∧ q = ρ c i
def gk_Pc (D : va_G) (T : gk_T) (ρ : Nat → Nat → Nat) (As : List gk_V) (M : gk_M) : Array Value → State → Prop := fun v U => v = (As.map (gk_c ρ)).toArray ∧ gk_H D T ρ M U.heap ∧ va_K D vwCl (gk_tys T) U
def gk_Qc (D : va_G) (T : gk_T) (ρ : Nat → Nat → Nat) (ret : Option FieldType) (K : gk_V → gk_M → Prop) : Array Value → State → Outcome → State → Prop := fun _ st oc t => ∃ (v : gk_V) (M' : gk_M), oc = .returned (gk_ro ρ ret v) ∧ K v M' ∧ gk_H D T ρ M' t.heap ∧ va_F (gk_rg ρ) st t
def gk_MS (d : Nat) (y : MethodName) (b : ByteArray) (mL : Nat) (ret : Option FieldType) (As : List gk_V) (M : gk_M) (K : gk_V → gk_M → Prop) : Prop :=
  ∀ (l : Launch) (D : va_G) (T : gk_T) (ρ : Nat → Nat → Nat), gk_J ρ → Met l y (.code y b mL ret :: gn_tbl) (gk_rm d) (gk_Pc D T ρ As M) (gk_Qc D T ρ ret K) 0 0 (gk_rg ρ)
theorem gk_Pc.blind {D : va_G} {T : gk_T} {ρ : Nat → Nat → Nat} {As : List gk_V} {M : gk_M} : FrameBlind (gk_Pc D T ρ As M) := fun a U g mk q => ⟨q.1, q.2.1, va_K.moved (u := U) (U := U.calling g mk a) (Vm.Alike.refl U.vm) q.2.2⟩
theorem gk_LR.entry {ρ : Nat → Nat → Nat} {As : List gk_V} {n : Nat} {L : List (Option gk_V)} (hl : (gk_ent As).length ≤ n) (hL : gk_le L (gk_ent As ++ List.replicate (n - (gk_ent As).length) none)) : gk_LR ρ ((lg_sl (As.map (gk_c ρ)) ++ List.replicate (n - (lg_sl (As.map (gk_c ρ))).length) Slot.unset).toArray) n L := by
  have h := lv_entry (As.map (gk_c ρ)) (n := n) (by rw [gk_ent_len]; exact hl)
  refine gk_LR.sub (L := gk_ent As ++ List.replicate (n - (gk_ent As).length) none) ⟨h.1, h.2.1, fun i v hv => ?_⟩ hL
  have hi : i < (gk_ent As).length := by
    rcases Nat.lt_or_ge i (gk_ent As).length with q | q
    · exact q
    · rw [List.getElem?_append_right q] at hv
      have := List.mem_of_getElem? hv
      have := List.eq_of_mem_replicate this
      cases this
  rw [List.getElem?_append_left hi] at hv
  have := gk_ent_args (ρ := ρ) As 0 i v hv
  rw [Nat.zero_add] at this
  exact h.2.2 _ this
theorem gk_ofW {l : Launch} {y : MethodName} {ws ws' : List Cond} {rm : Room} {Pc : Array Value → State → Prop} {Qc : Array Value → State → Outcome → State → Prop} {mc ms : Nat} {free : Addr → Prop} {cc : ByteArray} {maxL : Nat} {ret : Option FieldType}
    (hy : plainFor y = true) (hw : ws = Cond.code y cc maxL ret :: ws')
    (body : ∀ p e s m args below meth c s₁, BodyLoose p l y (headSpec ws rm) cc maxL ret e s m args below meth c s₁ → c.maxLocals = maxL → Pc args s →
      W p l e (headSpec ws rm).room s m args below meth c s.heap [] 0 0 (MQ below Qc args s mc ms free) (entryFrame m args maxL)) : Met l y ws rm Pc Qc mc ms free := by
  refine MetFree.of_bodySF (code := cc) (maxLocals := maxL) (ret := ret) hy ?_ ?_
  · intro args s m h hn
    obtain ⟨meth, c, h1, h2, h3, h4, h5, h6, -, -⟩ := Cond.code_spec hn (atoms_spec (ws := ws) h _ (by rw [hw]; exact List.mem_cons_self))
    exact ⟨meth, c, h1, h2, h3, h4, h5, h6⟩
  · intro p e s m args below meth c s₁ B hml hP _
    have hh0 : s₁.heap = s.heap := by rw [B.state]; rfl
    obtain ⟨t, a1, o, b1, b2, b3⟩ := body p e s m args below meth c s₁ B hml hP s₁ hh0 (Stand.of_body B)
    exact ⟨t, o, a1, b1, b2, ⟨b3.1, b3.2⟩⟩
theorem gk_MS_of {d : Nat} {y : MethodName} {b : ByteArray} {mL : Nat} {ret : Option FieldType} {As : List gk_V} {M : gk_M} {K : gk_V → gk_M → Prop} (L : List (Option gk_V)) (hp : plainFor y = true) (hl : (gk_ent As).length ≤ mL) (hL : gk_le L (gk_ent As ++ List.replicate (mL - (gk_ent As).length) none))
    (h : gk_G y.cls b mL d ret none K 0 L [] M) : gk_MS d y b mL ret As M K := by
  intro l D T ρ hJ
  refine gk_ofW (cc := b) (maxL := mL) (ret := ret) hp rfl ?_
  intro p e s m args below meth c s₁ B hml hv
  obtain ⟨rfl, hH, hK⟩ := hv
  have hown : s.vm.findClass y.cls = some m.cls := findClass_of_methodNamed B.named
  have hts := atoms_spec (ws := .code y b mL ret :: gn_tbl) B.pre
  have hr := B.returns
  have hx := B.exec
  have hb := B.bytes
  have hlocks := B.notSynchronized
  rw [lg_entry_eq]
  refine h p l e _ s m _ below meth c 0 0 _ D T ρ (gk_rg ρ) ⟨⟨hx, hb, hml, hown, fun w hw => hts w (List.mem_cons_of_mem _ hw)⟩, hK, hJ, fun k i hi => ⟨k, i, hi, rfl⟩, ⟨hr, hlocks⟩, ⟨Nat.le_refl _, Nat.le_refl _, Nat.zero_le _, Nat.zero_le _⟩, fun _ _ q => by cases q⟩ ?_ _ [] _ hH va_S.rf (gk_LR.entry hl hL)
  intro v M' H' locs ls pc hKv hH' hS hrt
  match ret, v, hrt, hr, hKv with
  | some .int, .inl x, hrt, hr, hKv => exact W.iret hx hb hr (fun t ht hW => ⟨.inl x, M', rfl, hKv, by rw [ht]; exact hH', hS.F ht⟩) hS.2.2 hrt
  | some .boolean, .inl x, hrt, hr, hKv => exact W.zret hx hb hr (gk_b_narrow hrt.2).1 (fun t ht hW => ⟨.inl x, M', rfl, hKv, by rw [ht]; exact hH', hS.F ht⟩) hS.2.2 hrt.1
  | some .long, .inr (.inl x), hrt, hr, hKv => exact W.lret hx hb hr (fun t ht hW => ⟨.inr (.inl x), M', rfl, hKv, by rw [ht]; exact hH', hS.F ht⟩) hS.2.2 hrt
  | none, .inl x, hrt, hr, hKv => exact W.vret hx hb hr (fun t ht hW => ⟨.inl x, M', rfl, hKv, by rw [ht]; exact hH', hS.F ht⟩) hS.2.2 hrt.1
/-- a call's way: by an instruction ins of class own, the method y with the arguments As is run -/
def gk_Run (own : String) (ins : Instr) (y : MethodName) (b : ByteArray) (mL : Nat) (ret : Option FieldType) (As : List gk_V) : Prop :=
  ∀ (p : Program) (l : Launch) (e : Env) (R : Room) (s : State) (m : MethodId) (args : Array Value) (below : List Frame) (meth : Method) (c : Code) (cells slots : Nat) (D : va_G) (T : gk_T) (ρ : Nat → Nat → Nat) (cc : ByteArray) (nL pc : Nat) (ls : Array Slot) (st : List gk_V) (M : gk_M) (H : Heap) (locs : List Loc) (rm : Room) (Pc : Array Value → State → Prop) (Qc : Array Value → State → Outcome → State → Prop) (free : Addr → Prop),
    CallFix p m c cc nL s args gn_tbl own → va_K D vwCl (gk_tys T) s → gk_H D T ρ M H → Met l y (.code y b mL ret :: gn_tbl) rm Pc Qc 0 0 free → rm.cells = 0 → rm.slots = 0 → (rm.frames + 1 ≤ R.frames ∧ 8 + (mL + 11) + rm.locals ≤ R.locals) → FrameBlind Pc → (∀ U : State, U.heap = H → s.WarmedH U.vm → Pc (As.map (gk_c ρ)).toArray U) → ls.size = nL → ((st.map (gk_c ρ)).map fun v => v.category).sum ≤ 8 → (cells + 0 ≤ R.cells ∧ slots + 0 ≤ R.slots) → decode cc pc = .ok (ins, 3) →
    va_Run p l e R s m args below meth c H locs cells slots 0 0 (F0 m pc ls ((As.reverse ++ st).map (gk_c ρ))) (st.map (gk_c ρ)) (Qc (As.map (gk_c ρ)).toArray) free
theorem gk_good (y : MethodName) {b : ByteArray} {mL : Nat} {ret : Option FieldType} (hc : Cond.code y b mL ret ∈ gn_tbl) {pre : List Cond} (hpre : ∀ w ∈ pre, w ∈ gn_tbl) : GoodIn gn_tbl (pre ++ .code y b mL ret :: gn_tbl) := by
  have key : ∀ w ∈ pre ++ .code y b mL ret :: gn_tbl, w ∈ gn_tbl := by
    intro w hw
    rcases List.mem_append.mp hw with h | h
    · exact hpre w h
    · rcases List.mem_cons.mp h with h | h
      · rw [h]; exact hc
      · exact h
  exact fun w hw => ⟨key w hw, gn_good w (key w hw)⟩
/-- the receiver's class -/
def gk_Rc (c0 i0 : Nat) (C : String) : Prop := i0 < gk_cnt c0 ∧ ∀ (T : gk_T) (ρ : Nat → Nat → Nat) (M : gk_M), ∃ (ci : Nat) (fs : List Value) (q : vw_C), gk_E T ρ M c0 i0 = .inr (ci, fs) ∧ vwCl[ci]? = some q ∧ q.1 = C
theorem gk_Rc.cell {c0 i0 : Nat} {C : String} (h : gk_Rc c0 i0 C) {D : va_G} {T : gk_T} {ρ : Nat → Nat → Nat} {M : gk_M} {H : Heap} {s : State} (hH : gk_H D T ρ M H) (hK : va_K D vwCl (gk_tys T) s) : (∃ cellB : Cell, H[ρ c0 i0]? = some cellB ∧ cellB.vm.isStatics = false ∧ s.vm.findClass C = some cellB.cls) ∧ ∃ cC, ClassAt s C cC := by
  obtain ⟨hi, hE⟩ := h
  obtain ⟨ci, fs, q, e1, e2, e3⟩ := hE T ρ M
  subst e3
  have hP : va_P D vwCl [(ρ c0 i0, gk_E T ρ M c0 i0)] H := fun k w hq => by
    have := List.mem_of_getElem? hq
    simp only [List.mem_singleton] at this
    subst this
    exact hH c0 i0 hi
  rw [e1] at hP
  exact ⟨va_recv hK hP e2 (q0 := 0) rfl, _, (hK.1 ci q e2).2⟩
theorem gk_map_args {ρ : Nat → Nat → Nat} {c0 i0 : Nat} {As st : List gk_V} : ((gk_R c0 i0 :: As).reverse ++ st).map (gk_c ρ) = (As.map (gk_c ρ)).reverse ++ .ref (ρ c0 i0) :: st.map (gk_c ρ) := by
  simp [List.map_append, List.map_reverse, gk_c]
theorem gk_runV {own : String} {idx : Nat} {y : MethodName} {b : ByteArray} {mL : Nat} {ret : Option FieldType} {c0 i0 n : Nat} {As : List gk_V} (hc : Cond.code y b mL ret ∈ gn_tbl) (h1 : Cond.methodLink own idx y ∈ gn_tbl) (h2 : Cond.instanceMethod y ∈ gn_tbl) (h3 : Cond.selects y.cls y y ∈ gn_tbl) (h4 : Cond.initialized y.cls ∈ gn_tbl)
    (hd : y.cls = y.cls ∧ y.cls ≠ "java/lang/invoke/MethodHandle" ∧ y.cls ≠ "java/lang/invoke/VarHandle" ∧ (parseMethodDescriptor y.desc).map (fun d => d.parameters.length) = some n) (hR : gk_Rc c0 i0 y.cls) (hn : As.length = n) : gk_Run own (.invokevirtual idx) y b mL ret (gk_R c0 i0 :: As) := by
  intro p l e R s m args below meth c cells slots D T ρ cc nL pc ls st M H locs rm Pc Qc free S hK hH hM hrc hrs hroom hbl hPc hsz hst hf hdec
  have hg : GoodIn gn_tbl (wsV own idx y.cls y (.code y b mL ret :: gn_tbl)) := gk_good y hc (pre := [.methodLink own idx y, .instanceMethod y, .selects y.cls y y, .initialized y.cls]) (by
    intro w hw
    simp only [List.mem_cons, List.not_mem_nil, or_false] at hw
    rcases hw with rfl | rfl | rfl | rfl <;> assumption)
  rw [gk_map_args]
  exact va_runV (As := As.map (gk_c ρ)) S hM (cwV n S.2.2.2.2 hg rfl hrc hrs hd hroom) ⟨hbl, (hR.cell hH hK).1, hPc⟩ rfl (by rw [List.length_map]; exact hn) hsz rfl (lv_room hst) hdec hf
theorem gk_runS {own : String} {idx : Nat} {y : MethodName} {b : ByteArray} {mL : Nat} {ret : Option FieldType} {n : Nat} {As : List gk_V} (hc : Cond.code y b mL ret ∈ gn_tbl) (h1 : Cond.methodLink own idx y ∈ gn_tbl) (h2 : Cond.static y ∈ gn_tbl) (h4 : Cond.initialized y.cls ∈ gn_tbl)
    (hd : y.cls ≠ "java/lang/invoke/MethodHandle" ∧ y.cls ≠ "java/lang/invoke/VarHandle" ∧ (parseMethodDescriptor y.desc).map (fun d => d.parameters.length) = some n) (hn : As.length = n) : gk_Run own (.invokestatic idx) y b mL ret As := by
  intro p l e R s m args below meth c cells slots D T ρ cc nL pc ls st M H locs rm Pc Qc free S hK hH hM hrc hrs hroom hbl hPc hsz hst hf hdec
  have hg : GoodIn gn_tbl (va_wsS own idx y (.code y b mL ret :: gn_tbl)) := gk_good y hc (pre := [.methodLink own idx y, .static y, .initialized y.cls]) (by
    intro w hw
    simp only [List.mem_cons, List.not_mem_nil, or_false] at hw
    rcases hw with rfl | rfl | rfl <;> assumption)
  rw [List.map_append, List.map_reverse]
  exact va_runS (As := As.map (gk_c ρ)) S hM (va_cwS n S.2.2.2.2 hg rfl hrc hrs hd hroom) ⟨hbl, hPc⟩ rfl (by rw [List.length_map]; exact hn) hsz rfl (lv_room hst) hdec hf
theorem gk_runO {own C owner : String} {idx : Nat} {x y : MethodName} {b b0 : ByteArray} {mL m0 : Nat} {ret r0 : Option FieldType} {c0 i0 n : Nat} {As : List gk_V} (hc : Cond.code y b mL ret ∈ gn_tbl) (h0 : Cond.code ⟨owner, x.name, x.desc⟩ b0 m0 r0 ∈ gn_tbl) (h1 : Cond.methodLink own idx x ∈ gn_tbl) (h2 : Cond.sameMethod x.cls owner x.name x.desc ∈ gn_tbl) (h3 : Cond.instanceMethod ⟨owner, x.name, x.desc⟩ ∈ gn_tbl) (h4 : Cond.selects C x y ∈ gn_tbl) (h5 : Cond.instanceMethod y ∈ gn_tbl) (h6 : Cond.initialized y.cls ∈ gn_tbl)
    (hd : owner ≠ "java/lang/invoke/MethodHandle" ∧ owner ≠ "java/lang/invoke/VarHandle" ∧ (parseMethodDescriptor x.desc).map (fun d => d.parameters.length) = some n) (hR : gk_Rc c0 i0 C) (hn : As.length = n) : gk_Run own (.invokevirtual idx) y b mL ret (gk_R c0 i0 :: As) := by
  intro p l e R s m args below meth c cells slots D T ρ cc nL pc ls st M H locs rm Pc Qc free S hK hH hM hrc hrs hroom hbl hPc hsz hst hf hdec
  have hg : GoodIn gn_tbl (va_wsO own idx C owner x y (.code y b mL ret :: gn_tbl)) := gk_good y hc (pre := [.methodLink own idx x, .sameMethod x.cls owner x.name x.desc, .instanceMethod ⟨owner, x.name, x.desc⟩, .selects C x y, .instanceMethod y, .initialized y.cls]) (by
    intro w hw
    simp only [List.mem_cons, List.not_mem_nil, or_false] at hw
    rcases hw with rfl | rfl | rfl | rfl | rfl | rfl <;> assumption)
  rw [gk_map_args]
  exact va_runU (As := As.map (gk_c ρ)) S hM (va_cwO n S.2.2.2.2 hg rfl hrc hrs h0 hd hroom) ⟨hbl, (hR.cell hH hK).1, hPc⟩ rfl (by rw [List.length_map]; exact hn) hsz rfl (lv_room hst) hdec hf
theorem gk_runSU {own C : String} {idx : Nat} {y : MethodName} {b : ByteArray} {mL : Nat} {ret : Option FieldType} {c0 i0 n : Nat} {As : List gk_V} (hc : Cond.code y b mL ret ∈ gn_tbl) (h1 : Cond.methodLink own idx y ∈ gn_tbl) (h2 : Cond.sameMethod y.cls y.cls y.name y.desc ∈ gn_tbl) (h3 : Cond.superclass own y.cls ∈ gn_tbl) (h5 : Cond.instanceMethod y ∈ gn_tbl) (h6 : Cond.initialized y.cls ∈ gn_tbl)
    (hd : y.name ≠ "<init>" ∧ (parseMethodDescriptor y.desc).map (fun d => d.parameters.length) = some n) (hR : gk_Rc c0 i0 C) (hn : As.length = n) : gk_Run own (.invokespecial idx) y b mL ret (gk_R c0 i0 :: As) := by
  intro p l e R s m args below meth c cells slots D T ρ cc nL pc ls st M H locs rm Pc Qc free S hK hH hM hrc hrs hroom hbl hPc hsz hst hf hdec
  have hg : GoodIn gn_tbl (va_wsSU own idx y (.code y b mL ret :: gn_tbl)) := gk_good y hc (pre := [.methodLink own idx y, .sameMethod y.cls y.cls y.name y.desc, .superclass own y.cls, .instanceMethod y, .initialized y.cls]) (by
    intro w hw
    simp only [List.mem_cons, List.not_mem_nil, or_false] at hw
    rcases hw with rfl | rfl | rfl | rfl | rfl <;> assumption)
  rw [gk_map_args]
  obtain ⟨hrv, cC, hcC⟩ := hR.cell hH hK
  exact va_runSU (As := As.map (gk_c ρ)) hcC S hM (va_cwSU n S.2.2.2.2 hg rfl hrc hrs hd hroom) ⟨hbl, hrv, hPc⟩ rfl (by rw [List.length_map]; exact hn) hsz rfl (lv_room hst) hdec hf
section GKC
variable {own : String} {cc : ByteArray} {nL d : Nat} {ret : Option FieldType} {SL : Option (Nat × (Nat → Int32))} {K : gk_V → gk_M → Prop} {pc : Nat} {L : List (Option gk_V)} {st : List gk_V} {M : gk_M} {α : Type} {ι : α → gk_V}
theorem gk_callX {ins : Instr} {y : MethodName} {b : ByteArray} {mL d' : Nat} {ret' : Option FieldType} {As : List gk_V} {K' : gk_V → gk_M → Prop} (hr : gk_Run own ins y b mL ret' As) (hm : gk_MS d' y b mL ret' As M K') (hdd : d' + 1 ≤ d) (hmL : mL ≤ 17) (hst : ∀ ρ, ((st.map (gk_c ρ)).map fun v => v.category).sum ≤ 8) (hd : decode cc pc = .ok (ins, 3))
    (k : ∀ (v : gk_V) (M' : gk_M), K' v M' → ∀ st' : List gk_V, (∀ ρ, st'.map (gk_c ρ) = (gk_ro ρ ret' v).toList ++ st.map (gk_c ρ)) → gk_G own cc nL d ret SL K (pc + 3) (L) (st') (M')) (st1 : ∀ v : gk_V, ∃ st' : List gk_V, ∀ ρ, st'.map (gk_c ρ) = (gk_ro ρ ret' v).toList ++ st.map (gk_c ρ)) : gk_G own cc nL d ret SL K (pc) (L) (As.reverse ++ st) (M) := by
  intro p l e R s m args below meth c cells slots Q D T ρ A C E H locs ls hH hS hL
  obtain ⟨C1, hK, hJ, hA, hrl, ⟨r1, r2, r3, r4⟩, hX⟩ := id C
  have hM := hm l D T ρ hJ
  have hrun := hr p l e R s m args below meth c cells slots D T ρ cc nL pc ls st M H locs (gk_rm d') _ _ _ C1 hK hH hM rfl rfl ⟨by show d' + 1 ≤ R.frames; omega, by show 8 + (mL + 11) + 36 * d' ≤ R.locals; omega⟩ gk_Pc.blind (fun U hU hW => ⟨rfl, by rw [hU]; exact hH, va_K.moved hW.alike hK⟩) hL.1 (hst ρ) ⟨r3, r4⟩ hd
  intro T0 hT X
  obtain ⟨v, st₀, t, T', LL, h0, X', hLL, e1, e2, ⟨v', M', hoc, hK', hH', hz, hk⟩, hstep⟩ := hrun T0 hT X
  cases hoc
  rw [h0] at hz hk
  obtain ⟨st', hst'⟩ := st1 v'
  obtain ⟨t2, a1, b1⟩ := k v' M' hK' st' hst' p l e R s m args below meth c cells slots Q D T ρ A C E T'.heap (locs ++ LL) ls (by rw [e1]; exact hH')
    ⟨Nat.le_trans hS.1 (by rw [e1]; exact hz), fun q h1 h2 => by rw [e1, hk q (Nat.lt_of_lt_of_le h1 hS.1) (fun z => h2 (by obtain ⟨c1, i1, z1, rfl⟩ := z; exact hA c1 i1 z1))]; exact hS.2.1 q h1 h2, fun q hq => by
      rcases List.mem_append.mp hq with h | h
      · exact hS.2.2 q h
      · obtain ⟨c1, i1, z1, z2⟩ := hLL q h
        rw [z2]
        exact hA c1 i1 z1⟩ hL T' rfl X'
  refine ⟨t2, hstep t2 ?_, b1⟩
  rw [hst'] at a1
  exact a1
theorem gk_callI {ins : Instr} {y : MethodName} {b : ByteArray} {mL : Nat} (d' : Nat) {ft : FieldType} {As : List gk_V} {o : Option (Int32 × gk_M)} {F : Int32 → gk_M → Option (α × gk_M)} {stk : List gk_V} (hr : gk_Run own ins y b mL (some ft) As) (hm : ∀ K', gk_Sat gk_I o K' → gk_MS d' y b mL (some ft) As M K') (hs : stk = As.reverse ++ st) (hdd : d' + 1 ≤ d) (hmL : mL ≤ 17) (hst : ∀ ρ, ((st.map (gk_c ρ)).map fun v => v.category).sum ≤ 8) (hd : decode cc pc = .ok (ins, 3))
    (h : gk_Sat ι (gk_bnd o F) K) (k : ∀ (r : Int32) (M' : gk_M), gk_Sat ι (F r M') K → gk_G own cc nL d ret SL K (pc + 3) (L) (gk_I r :: st) (M')) : gk_G own cc nL d ret SL K (pc) (L) (stk) (M) := by
  subst hs
  refine gk_callX hr (hm _ (h.bnd (κ := gk_I))) hdd hmL hst hd (fun v M' hv st' hst' => ?_) (fun v => ⟨v :: st, fun ρ => rfl⟩)
  obtain ⟨r, rfl, hF⟩ := hv
  have := k r M' hF
  intro p l e R s m args below meth c cells slots Q D T ρ A C E H locs ls hH hS hL
  rw [hst' ρ]
  exact this p l e R s m args below meth c cells slots Q D T ρ A C E H locs ls hH hS hL
theorem gk_callL {ins : Instr} {y : MethodName} {b : ByteArray} {mL : Nat} (d' : Nat) {ft : FieldType} {As : List gk_V} {o : Option (Int64 × gk_M)} {F : Int64 → gk_M → Option (α × gk_M)} {stk : List gk_V} (hr : gk_Run own ins y b mL (some ft) As) (hm : ∀ K', gk_Sat gk_L o K' → gk_MS d' y b mL (some ft) As M K') (hs : stk = As.reverse ++ st) (hdd : d' + 1 ≤ d) (hmL : mL ≤ 17) (hst : ∀ ρ, ((st.map (gk_c ρ)).map fun v => v.category).sum ≤ 8) (hd : decode cc pc = .ok (ins, 3))
    (h : gk_Sat ι (gk_bnd o F) K) (k : ∀ (r : Int64) (M' : gk_M), gk_Sat ι (F r M') K → gk_G own cc nL d ret SL K (pc + 3) (L) (gk_L r :: st) (M')) : gk_G own cc nL d ret SL K (pc) (L) (stk) (M) := by
  subst hs
  refine gk_callX hr (hm _ (h.bnd (κ := gk_L))) hdd hmL hst hd (fun v M' hv st' hst' => ?_) (fun v => ⟨v :: st, fun ρ => rfl⟩)
  obtain ⟨r, rfl, hF⟩ := hv
  have := k r M' hF
  intro p l e R s m args below meth c cells slots Q D T ρ A C E H locs ls hH hS hL
  rw [hst' ρ]
  exact this p l e R s m args below meth c cells slots Q D T ρ A C E H locs ls hH hS hL
theorem gk_callV {ins : Instr} {y : MethodName} {b : ByteArray} {mL : Nat} (d' : Nat) {As : List gk_V} {o : Option (Unit × gk_M)} {F : Unit → gk_M → Option (α × gk_M)} {stk : List gk_V} (hr : gk_Run own ins y b mL none As) (hm : ∀ K', gk_Sat gk_U o K' → gk_MS d' y b mL none As M K') (hs : stk = As.reverse ++ st) (hdd : d' + 1 ≤ d) (hmL : mL ≤ 17) (hst : ∀ ρ, ((st.map (gk_c ρ)).map fun v => v.category).sum ≤ 8) (hd : decode cc pc = .ok (ins, 3))
    (h : gk_Sat ι (gk_bnd o F) K) (k : ∀ (r : Unit) (M' : gk_M), gk_Sat ι (F r M') K → gk_G own cc nL d ret SL K (pc + 3) (L) (st) (M')) : gk_G own cc nL d ret SL K (pc) (L) (stk) (M) := by
  subst hs
  refine gk_callX hr (hm _ (h.bnd (κ := gk_U))) hdd hmL hst hd (fun v M' hv st' hst' => ?_) (fun v => ⟨st, fun ρ => rfl⟩)
  obtain ⟨r, -, hF⟩ := hv
  have := k r M' hF
  intro p l e R s m args below meth c cells slots Q D T ρ A C E H locs ls hH hS hL
  rw [hst' ρ]
  exact this p l e R s m args below meth c cells slots Q D T ρ A C E H locs ls hH hS hL
end GKC
