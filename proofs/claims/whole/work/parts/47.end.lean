/-! THE CLAIM OUT OF ONE WALK OF THE LAW'S BODY. Your part is whole_start (and what it stands on); all else here is the same for every law, but numbers. -/
def R_law : String := "NineInThePackLaw"
def lw_P (b : Addr) (xs : List Int32) (args : Array Value) (s : State) : Prop := args = #[.ref b] ∧ s.IntsAt b xs ∧ xs.length ≤ 3072 ∧ (Jvm.Cond.and given_1 narrow_1).before args s = true
def lw_Q (_ : Array Value) (s : State) (o : Outcome) (t : State) : Prop := o = .returned (some (.int 1)) ∧ Framed s o t [] 600000 7302250
def lw_Z (below : List Frame) (a : Array Value) (s : State) : State → Prop := fun t => ∃ o, t.status = .running ∧ Ended t below o ∧ lw_Q a s o t
/-- the law's own end, with 1 on the stack, nothing written that was there before, its room as the claim has it -/
theorem lw_ret {p : Program} {l : Launch} {e : Env} {s : State} {m : MethodId} {below : List Frame} {meth : Method} {c : Code} {b : Nat} (hx : p.tables.exec = Jvm.exec) (hb : c.code = code) (hr : meth.sig.returnType = ret) (hlocks : meth.locks = false) {pc : Nat} {H : Heap} {ls : Array Slot} (hdg : decode code pc = .ok (.ireturn, 1)) : W p l e room_1 s m #[Value.ref b] below meth c H [] 600000 7302250 (lw_Z below #[Value.ref b] s) (F0 m pc ls [.int 1]) := by
  intro T hT X
  obtain ⟨fs, hret, hrun, hended, hW, hframe⟩ := X.leave (v := some (.int 1)) (hlocks := hlocks) (fun h => by rw [hr] at h; cases h)
  have hmeth' : T.vm.method? m = some meth := X.method'
  refine ⟨T.setFrames fs, ?_, .returned (some (.int 1)), hrun, hended, rfl, ⟨_, rfl⟩, hW, hframe⟩
  jvm_step X.here [X.here.top, hx, hb, hdg, hmeth', hr, ret, narrow_b1]
  (try refine ⟨rfl, ?_⟩); (try refine ⟨rfl, ?_⟩)
  first | (intro acts; rw [hret _ acts rfl rfl rfl]) | rw [hret _ _ rfl rfl rfl]
  exact Steps.refl _
/-- what holds at the law's entry: the machine, the code, the tables' words (any of lw_tbl by 'hts w (by decide +kernel)'), the script of L ints xs at the cell b, what the Statement gives of the start (any of its parts by flat_of_before) -/
def lw_At (p : Program) (s : State) (m : MethodId) (meth : Method) (c : Code) (b L : Nat) (xs : Nat → Int32) : Prop :=
  p.tables.exec = Jvm.exec ∧ c.code = code ∧ meth.sig.returnType = ret ∧ c.maxLocals = 4 ∧ s.vm.findClass R_law = some m.cls ∧ (∀ w ∈ lw_tbl, w.before #[Value.ref b] s = true) ∧ va_X b L xs s s.heap ∧ b < s.heap.size ∧ meth.locks = false ∧ (Jvm.Cond.and given_1 narrow_1).before #[Value.ref b] s = true

/-! THE START'S MEMORY -/
def gk_M0 : gk_M := fun c _ j => if (c = 2 ∧ j = 5) ∨ (c = 14 ∧ j = 1) then 10 else if (c = 2 ∧ j = 6) ∨ (c = 14 ∧ j = 2) then 30 else 0
theorem m0_0 {c i j : Nat} (h : ¬ (c = 2 ∧ (j = 5 ∨ j = 6)) ∧ ¬ (c = 14 ∧ (j = 1 ∨ j = 2))) : gk_M0 c i j = 0 := by unfold gk_M0; rw [if_neg (by omega), if_neg (by omega)]
theorem i_ok0 : i_ok gk_M0 := by
  have r0 : gk_M0 14 0 0 = nI 0 := rfl
  have hc : a_c 0 gk_M0 = a_r gk_M0 := by
    refine a_ext rfl (fun j hj => ?_) (fun j hj => ?_) (fun j hj => ?_) (fun s j hs hj => ?_)
    · rcases (show j = 0 ∨ j = 1 ∨ j = 2 ∨ j = 3 ∨ j = 4 by omega) with rfl | rfl | rfl | rfl | rfl <;> rfl
    · show gk_M0 7 0 j = gk_M0 15 0 j
      rw [m0_0 (by omega), m0_0 (by omega)]
    · show gk_M0 8 0 j = gk_M0 15 1 j
      rw [m0_0 (by omega), m0_0 (by omega)]
    · exact absurd hs (by rw [show (gk_M0 2 0 3).toNatClampNeg = 0 by decide]; omega)
  refine ⟨⟨⟨0, 0, by omega, ?_, hc⟩, Or.inl ⟨rfl, rfl⟩, ⟨0, by omega, rfl, rfl, fun j hj => absurd hj (by omega)⟩, ⟨0, by omega, rfl, rfl, fun j hj => absurd hj (by omega)⟩⟩, fun j hj => by rw [m0_0 (by omega), m0_0 (by omega)]⟩
  refine ⟨by omega, by rw [a_r00]; rfl, by rw [a_r01]; rfl, by omega, ?_, ?_, fun d hd => ?_, fun s hs => absurd hs (by omega)⟩
  · rw [a_r02, show gk_M0 14 0 1 = 10 from rfl]; decide
  · rw [a_r03, show gk_M0 14 0 2 = 30 from rfl]; decide
  · unfold a_wd
    rw [a_r1 hd, a_r2 hd, m0_0 (by omega), m0_0 (by omega)]; decide
set_option maxHeartbeats 4000000 in
set_option maxRecDepth 100000 in
/-- from the head of the law's loop to its end -/
theorem law_tail {p : Program} {l : Launch} {e : Env} {s : State} {m : MethodId} {below : List Frame} {meth : Method} {c : Code} {b L : Nat} {xs : Nat → Int32} (hL : L ≤ 3072) (C0 : lw_At p s m meth c b L xs) (hgn : ∀ w ∈ gn_tbl, w.before #[Value.ref b] s = true) {D : va_G} {T : gk_T} {ρ : Nat → Nat → Nat} (hK : va_K D vwCl (gk_tys T) s) (hJ : gk_J ρ) (hA : ∀ k i : Nat, i < gk_cnt k → s.heap.size ≤ ρ k i) (h23 : ρ 23 0 = b) {H : Heap} {locs : List Loc} {ls : Array Slot} (hH : gk_H D T ρ gk_M0 H) (hS : va_S (fun q : Nat => s.heap.size ≤ q) s.heap H locs) (hl : gk_LR ρ ls 4 [some (gk_R 23 0), some (gk_R 6 0), some (gk_R 14 0), some (gk_I 0)]) :
    W p l e room_1 s m #[Value.ref b] below meth c H locs 600000 7302250 (lw_Z below #[Value.ref b] s) (F0 m 18 ls []) := by
  obtain ⟨hx, hb, hr, hml, hown, hts, hX, hbl, hlocks, hgv⟩ := id C0
  have sat : gk_Sat gk_I (L_law_l18 L xs 600 0 gk_M0) (fun v _ => v = gk_I 1) := by
    obtain ⟨M', q⟩ := l_loop (Ls := L) (xs := xs) (by omega) 599 0 gk_M0 i_ok0 (by omega) (by omega)
    exact ⟨1, M', q, rfl⟩
  refine ok_L_law_l18 (K := fun v _ => v = gk_I 1) L xs 600 0 gk_M0 sat p l e room_1 s m #[Value.ref b] below meth c 600000 7302250 (lw_Z below #[Value.ref b] s) D T ρ (fun q : Nat => s.heap.size ≤ q) ⟨⟨hx, hb, hml, hown, hgn⟩, hK, hJ, hA, ⟨hr, hlocks⟩, ⟨Nat.le_of_ble_eq_true rfl, Nat.le_of_ble_eq_true rfl, Nat.le_of_ble_eq_true rfl, Nat.le_of_ble_eq_true rfl⟩, fun Ls xs' q => ?_⟩ ?_ H locs ls hH hS hl
  · injection q with q
    injection q with q1 q2
    subst q1; subst q2
    rw [h23]
    exact ⟨hX, hbl, Nat.not_le.mpr hbl⟩
  · intro v M H' locs' ls' pc hKv hH' hS' hrt
    subst hKv
    exact va_forget hS'.2.2 (lw_ret hx hb hr hlocks hrt.1)
