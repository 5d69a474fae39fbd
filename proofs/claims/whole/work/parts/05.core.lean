/-! THE MEMORY OF THE SYSTEM: every cell of the class and of the reference is of a kind, the instances of a kind are numbered; M kind instance slot is an int.
References between cells never change once the constructors are through (keptIn apart, which is a number: 0 null, 1 kept, 2 imaged). -/
abbrev gk_M : Type := Nat → Nat → Nat → Int32
abbrev gk_V : Type := Int32 ⊕ (Int64 ⊕ (Nat × Nat))
abbrev gk_I (x : Int32) : gk_V := Sum.inl x
abbrev gk_L (x : Int64) : gk_V := Sum.inr (Sum.inl x)
abbrev gk_R (c i : Nat) : gk_V := Sum.inr (Sum.inr (c, i))
def gk_up (M : gk_M) (c i j : Nat) (v : Int32) : gk_M := fun c' i' j' => if c' = c ∧ i' = i ∧ j' = j then v else M c' i' j'
theorem gk_up_ne {M : gk_M} {c i j c' i' : Nat} {v : Int32} (h : ¬ (c' = c ∧ i' = i)) : gk_up M c i j v c' i' = M c' i' := by
  funext k
  unfold gk_up
  rw [if_neg (fun q => h ⟨q.1, q.2.1⟩)]
theorem gk_up_self {M : gk_M} {c i j : Nat} {v : Int32} : gk_up M c i j v c i = upd (M c i) j v := by
  funext k
  unfold gk_up upd
  by_cases hk : k = j
  · rw [if_pos ⟨rfl, rfl, hk⟩, if_pos hk]
  · rw [if_neg (fun q => hk q.2.2), if_neg hk]
def gk_cnt : Nat → Nat
  | 0 => 1
  | 1 => 6
  | 2 => 3
  | 3 => 1
  | 4 => 1
  | 5 => 18
  | 6 => 1
  | 7 => 3
  | 8 => 3
  | 9 => 3
  | 10 => 1
  | 11 => 1
  | 12 => 1
  | 13 => 1
  | 14 => 1
  | 15 => 2
  | 16 => 6
  | 17 => 1
  | 18 => 2
  | 19 => 1
  | 20 => 2
  | 21 => 1
  | 22 => 1
  | _ => 0
def gk_c (ρ : Nat → Nat → Nat) : gk_V → Value
  | .inl x => .int x
  | .inr (.inl x) => .long x
  | .inr (.inr q) => .ref (ρ q.1 q.2)
abbrev gk_T : Type := ClassId × ClassId × ClassId
def gk_dr : Nat → Nat
  | 0 => 1
  | 1 => 3
  | 2 => 10
  | 3 => 5
  | 4 => 9
  | 5 => 2
  | _ => 0
/-- what a cell holds -/
def gk_E (T : gk_T) (ρ : Nat → Nat → Nat) (M : gk_M) (c i : Nat) : va_E := match c with
  | 0 => .inr (0, [.int (M 0 i 0), .int (M 0 i 1), .int (M 0 i 2), .int (M 0 i 3), .int (M 0 i 4)])
  | 1 => .inr (gk_dr i, [])
  | 2 => .inr (4, [.ref (ρ 7 i), .ref (ρ 8 i), .ref (ρ 9 i), .int (M 2 i 3), .int (M 2 i 4), .int (M 2 i 5), .int (M 2 i 6), .int (M 2 i 7)])
  | 3 => .inr (6, [.ref (ρ 11 0), .int (M 3 i 1), .int (M 3 i 2), .int (M 3 i 3)])
  | 4 => .inr (7, [.int (M 4 i 0)])
  | 5 => .inr (8, [.int (M 5 i 0), .int (M 5 i 1), .int (M 5 i 2), .int (M 5 i 3), .int (M 5 i 4), .int (M 5 i 5)])
  | 6 => .inr (11, [.ref (ρ 10 0), .ref (ρ 0 0), .ref (ρ 4 0), .ref (ρ 2 0), .ref (ρ 2 1), .ref (ρ 2 2), .int (M 6 i 6), .ref (ρ 3 0), .ref (ρ 12 0), .int (M 6 i 9), .ref (ρ 13 0)])
  | 7 => .inl (T.1, 7, .inl (M 7 i))
  | 8 => .inl (T.1, 7, .inl (M 8 i))
  | 9 => .inl (T.2.1, 6, .inr (.inr (.inr (.inr (fun j => some (ρ 5 (6 * i + j)))))))
  | 10 => .inl (T.2.2, 6, .inr (.inr (.inr (.inr (fun j => some (ρ 1 (j)))))))
  | 11 => .inl (T.1, 80, .inl (M 11 i))
  | 12 => .inl (T.1, 12, .inl (M 12 i))
  | 13 => .inl (T.1, 7, .inl (M 13 i))
  | 14 => .inr (12, [.int (M 14 i 0), .int (M 14 i 1), .int (M 14 i 2), .int (M 14 i 3), .int (M 14 i 4), .ref (ρ 15 0), .ref (ρ 15 1), .ref (ρ 16 0), .ref (ρ 16 1), .ref (ρ 16 2), .ref (ρ 16 3), .ref (ρ 16 4), .ref (ρ 16 5), .int (M 14 i 13), .ref (ρ 17 0), .int (M 14 i 15), .int (M 14 i 16), .ref (ρ 18 0), .ref (ρ 18 1), .int (M 14 i 19), .int (M 14 i 20), .int (M 14 i 21), (if M 14 i 22 = 0 then .null else .ref (ρ 18 ((M 14 i 22).toNatClampNeg - 1))), .ref (ρ 19 0), .int (M 14 i 24), .int (M 14 i 25), .int (M 14 i 26), .int (M 14 i 27), .ref (ρ 20 0), .ref (ρ 20 1), .ref (ρ 21 0), .ref (ρ 22 0), .int (M 14 i 32), .int (M 14 i 33)])
  | 15 => .inl (T.1, 7, .inl (M 15 i))
  | 16 => .inl (T.1, 6, .inl (M 16 i))
  | 17 => .inl (T.1, 7, .inl (M 17 i))
  | 18 => .inl (T.1, 56, .inl (M 18 i))
  | 19 => .inl (T.1, 80, .inl (M 19 i))
  | 20 => .inl (T.1, 28, .inl (M 20 i))
  | 21 => .inl (T.1, 168, .inl (M 21 i))
  | 22 => .inl (T.1, 12, .inl (M 22 i))
  | _ => .inl (T.1, 0, .inl (fun _ => 0))
theorem gk_E_congr {T : gk_T} {ρ : Nat → Nat → Nat} {M M' : gk_M} {c i : Nat} (h : M' c i = M c i) : gk_E T ρ M' c i = gk_E T ρ M c i := by
  unfold gk_E
  split <;> first | rfl | (rw [h])
abbrev gk_tys (T : gk_T) : List (ClassId × FieldType) := [(T.1, .int), (T.2.1, .object RX8), (T.2.2, .object RX1)]
def gk_H (D : va_G) (T : gk_T) (ρ : Nat → Nat → Nat) (M : gk_M) (H : Heap) : Prop := ∀ c i : Nat, i < gk_cnt c → va_at D vwCl (ρ c i, gk_E T ρ M c i) H
def gk_J (ρ : Nat → Nat → Nat) : Prop := ∀ c i c' i' : Nat, i < gk_cnt c → i' < gk_cnt c' → ρ c i = ρ c' i' → c = c' ∧ i = i'
def gk_ix : List Nat := (List.range 23).flatMap (fun c => (List.range (gk_cnt c)).map (fun i => 100 * c + i))
theorem gk_ix_nd : va_nd gk_ix = true := by decide +kernel
theorem gk_ix_ok : ∀ q ∈ gk_ix, q % 100 < gk_cnt (q / 100) := by decide +kernel
theorem gk_cnt_lt {c i : Nat} (h : i < gk_cnt c) : c < 23 ∧ i < 100 := by
  rcases Nat.lt_or_ge c 23 with hc | hc
  · have h2 : ∀ c, c < 23 → gk_cnt c < 100 := by decide
    exact ⟨hc, Nat.lt_trans h (h2 c hc)⟩
  · obtain ⟨k, rfl⟩ : ∃ k, c = k + 23 := ⟨c - 23, by omega⟩
    exact absurd h (Nat.not_lt_zero i)
theorem gk_ix_mem {c i : Nat} (h : i < gk_cnt c) : 100 * c + i ∈ gk_ix := List.mem_flatMap.mpr ⟨c, List.mem_range.mpr (gk_cnt_lt h).1, List.mem_map.mpr ⟨i, List.mem_range.mpr h, rfl⟩⟩
def gk_ws (T : gk_T) (ρ : Nat → Nat → Nat) (M : gk_M) : va_W := gk_ix.map (fun q => (ρ (q / 100) (q % 100), gk_E T ρ M (q / 100) (q % 100)))
theorem gk_at (T : gk_T) (ρ : Nat → Nat → Nat) (M : gk_M) {c i : Nat} (h : i < gk_cnt c) : ∃ q : Nat, gk_ix[q]? = some (100 * c + i) ∧ (gk_ws T ρ M)[q]? = some (ρ c i, gk_E T ρ M c i) := by
  obtain ⟨q, hq⟩ := List.getElem?_of_mem (gk_ix_mem h)
  have hi := (gk_cnt_lt h).2
  have e1 : (100 * c + i) / 100 = c := by omega
  have e2 : (100 * c + i) % 100 = i := by omega
  refine ⟨q, hq, ?_⟩
  unfold gk_ws
  rw [List.getElem?_map, hq]
  simp only [Option.map_some, e1, e2]
theorem gk_H.P {D : va_G} {T : gk_T} {ρ : Nat → Nat → Nat} {M : gk_M} {H : Heap} (h : gk_H D T ρ M H) : va_P D vwCl (gk_ws T ρ M) H := by
  intro k q hk
  unfold gk_ws at hk
  rw [List.getElem?_map] at hk
  cases hx : gk_ix[k]? with
  | none => rw [hx] at hk; cases hk
  | some x =>
    rw [hx] at hk
    cases hk
    exact h _ _ (gk_ix_ok x (List.mem_of_getElem? hx))
theorem gk_D {T : gk_T} {ρ : Nat → Nat → Nat} {M : gk_M} {A : Nat → Prop} (hJ : gk_J ρ) (hA : ∀ c i, i < gk_cnt c → A (ρ c i)) : va_D A (gk_ws T ρ M) := by
  have key : ∀ (k : Nat) (q : Nat × va_E), (gk_ws T ρ M)[k]? = some q → ∃ x, gk_ix[k]? = some x ∧ x ∈ gk_ix ∧ q.1 = ρ (x / 100) (x % 100) := by
    intro k q hk
    unfold gk_ws at hk
    rw [List.getElem?_map] at hk
    cases hx : gk_ix[k]? with
    | none => rw [hx] at hk; cases hk
    | some x =>
      rw [hx] at hk
      cases hk
      exact ⟨x, rfl, List.mem_of_getElem? hx, rfl⟩
  refine ⟨fun i j p q hi hj hpq => ?_, fun k q hk => ?_⟩
  · obtain ⟨x, x1, x2, x3⟩ := key i p hi
    obtain ⟨y, y1, y2, y3⟩ := key j q hj
    obtain ⟨e1, e2⟩ := hJ _ _ _ _ (gk_ix_ok x x2) (gk_ix_ok y y2) (x3.symm.trans (hpq.trans y3))
    have e : x = y := by omega
    subst e
    exact va_nd_inj gk_ix gk_ix_nd i j x x1 y1
  · obtain ⟨x, x1, x2, x3⟩ := key k q hk
    rw [x3]
    exact hA _ _ (gk_ix_ok x x2)
theorem gk_H.of_set {D : va_G} {T : gk_T} {ρ : Nat → Nat → Nat} {M M' : gk_M} {H1 : Heap} {c i q : Nat} {E : va_E} (hi : i < gk_cnt c) (hq : gk_ix[q]? = some (100 * c + i)) (hP : va_P D vwCl ((gk_ws T ρ M).set q (ρ c i, E)) H1) (hE : E = gk_E T ρ M' c i)
    (hne : ∀ c' i', ¬ (c' = c ∧ i' = i) → M' c' i' = M c' i') : gk_H D T ρ M' H1 := by
  intro c' i' h'
  obtain ⟨q', hq', hw'⟩ := gk_at T ρ M h'
  by_cases e : c' = c ∧ i' = i
  · obtain ⟨rfl, rfl⟩ := e
    have hl : q < (gk_ws T ρ M).length := by
      unfold gk_ws
      rw [List.length_map]
      exact (List.getElem?_eq_some_iff.mp hq).1
    have := hP q _ (List.getElem?_set_self hl)
    rw [hE] at this
    exact this
  · have hqq : q' ≠ q := by
      intro z
      subst z
      have := Option.some.inj (hq'.symm.trans hq)
      have a1 := (gk_cnt_lt h').2
      have a2 := (gk_cnt_lt hi).2
      exact e ⟨by omega, by omega⟩
    have := hP q' _ (by rw [List.getElem?_set_ne (Ne.symm hqq)]; exact hw')
    rw [gk_E_congr (hne c' i' e)]
    exact this
/-! LOCALS: a list, none where nothing is known -/
def gk_LR (ρ : Nat → Nat → Nat) (ls : Array Slot) (nL : Nat) (L : List (Option gk_V)) : Prop := ls.size = nL ∧ lv_wf ls ∧ ∀ (i : Nat) (v : gk_V), L[i]? = some (some v) → ls[i]? = some (.val (gk_c ρ v))
def gk_as (ρ : Nat → Nat → Nat) (L : List (Option gk_V)) : List (Nat × Value) := (List.range L.length).filterMap (fun i => match L[i]? with
  | some (some v) => some (i, gk_c ρ v)
  | _ => none)
theorem gk_as_mem {ρ : Nat → Nat → Nat} {L : List (Option gk_V)} {i : Nat} {v : gk_V} (h : L[i]? = some (some v)) : (i, gk_c ρ v) ∈ gk_as ρ L := by
  refine List.mem_filterMap.mpr ⟨i, List.mem_range.mpr (List.getElem?_eq_some_iff.mp h).1, ?_⟩
  rw [h]
theorem gk_as_of {ρ : Nat → Nat → Nat} {L : List (Option gk_V)} {q : Nat × Value} (h : q ∈ gk_as ρ L) : ∃ v, L[q.1]? = some (some v) ∧ q.2 = gk_c ρ v := by
  obtain ⟨i, -, hi⟩ := List.mem_filterMap.mp h
  split at hi
  · rename_i v hv
    cases hi
    exact ⟨v, hv, rfl⟩
  · cases hi
theorem gk_LR.has {ρ : Nat → Nat → Nat} {ls : Array Slot} {nL : Nat} {L : List (Option gk_V)} (h : gk_LR ρ ls nL L) : lv_has ls nL (gk_as ρ L) := by
  refine ⟨h.1, h.2.1, fun q hq => ?_⟩
  obtain ⟨v, h1, h2⟩ := gk_as_of hq
  rw [h2]
  exact h.2.2 _ _ h1
def gk_is2 : gk_V → Bool
  | .inr (.inl _) => true
  | _ => false
/-- no long stands just ahead of place i -/
def gk_okS (L : List (Option gk_V)) (i : Nat) : Bool := match i with
  | 0 => true
  | k + 1 => match L[k]? with
    | some (some v) => !gk_is2 v
    | _ => true
theorem gk_cat1 {ρ : Nat → Nat → Nat} {v : gk_V} (h : gk_is2 v = false) : (gk_c ρ v).category = 1 := by
  rcases v with x | x | x
  · rfl
  · cases h
  · rfl
theorem gk_okS_of {ρ : Nat → Nat → Nat} {L : List (Option gk_V)} {i k : Nat} {v : gk_V} (h : gk_okS L i = true) (hk : k + 1 = i) (hv : L[k]? = some (some v)) : ¬ (gk_c ρ v).category = 2 := by
  subst hk
  simp only [gk_okS, hv, Bool.not_eq_true'] at h
  rw [gk_cat1 h]
  decide
theorem gk_LR.st1 {ρ : Nat → Nat → Nat} {ls' : Array Slot} {nL : Nat} {L L' : List (Option gk_V)} {i : Nat} {v : gk_V} (hk : gk_okS L i = true) (hL' : L.set i (some v) = L')
    (h' : lv_has ls' nL ((i, gk_c ρ v) :: (gk_as ρ L).filter (fun q => !(q.1 == i) && !(q.1 + 1 == i && q.2.category == 2)))) : gk_LR ρ ls' nL L' := by
  subst hL'
  refine ⟨h'.1, h'.2.1, fun k w hw => ?_⟩
  by_cases e : k = i
  · subst e
    have hl : k < L.length := by
      have := (List.getElem?_eq_some_iff.mp hw).1
      rwa [List.length_set] at this
    rw [List.getElem?_set_self hl] at hw
    cases hw
    exact h'.2.2 _ List.mem_cons_self
  · rw [List.getElem?_set_ne (Ne.symm e)] at hw
    refine h'.2.2 (k, gk_c ρ w) (List.mem_cons_of_mem _ (List.mem_filter.mpr ⟨gk_as_mem hw, ?_⟩))
    have h1 : ¬ (k + 1 = i ∧ (gk_c ρ w).category = 2) := fun z => gk_okS_of hk z.1 hw z.2
    simp only [Bool.and_eq_true, Bool.not_eq_true', Bool.and_eq_false_imp, beq_eq_false_iff_ne, beq_iff_eq]
    exact ⟨e, fun z q => h1 ⟨z, q⟩⟩
theorem gk_LR.st2 {ρ : Nat → Nat → Nat} {ls' : Array Slot} {nL : Nat} {L L' : List (Option gk_V)} {i : Nat} {v : gk_V} (hk : gk_okS L i = true) (hL' : (L.set i (some v)).set (i + 1) none = L')
    (h' : lv_has ls' nL ((i, gk_c ρ v) :: (gk_as ρ L).filter (fun q => !(q.1 == i) && (!(q.1 == i + 1) && !(q.1 + 1 == i && q.2.category == 2))))) : gk_LR ρ ls' nL L' := by
  subst hL'
  refine ⟨h'.1, h'.2.1, fun k w hw => ?_⟩
  by_cases e1 : k = i + 1
  · subst e1
    have hl : i + 1 < (L.set i (some v)).length := by
      have := (List.getElem?_eq_some_iff.mp hw).1
      rwa [List.length_set] at this
    rw [List.getElem?_set_self hl] at hw
    cases hw
  · rw [List.getElem?_set_ne (Ne.symm e1)] at hw
    by_cases e : k = i
    · subst e
      have hl : k < L.length := by
        have := (List.getElem?_eq_some_iff.mp hw).1
        rwa [List.length_set] at this
      rw [List.getElem?_set_self hl] at hw
      cases hw
      exact h'.2.2 _ List.mem_cons_self
    · rw [List.getElem?_set_ne (Ne.symm e)] at hw
      refine h'.2.2 (k, gk_c ρ w) (List.mem_cons_of_mem _ (List.mem_filter.mpr ⟨gk_as_mem hw, ?_⟩))
      have h1 : ¬ (k + 1 = i ∧ (gk_c ρ w).category = 2) := fun z => gk_okS_of hk z.1 hw z.2
      simp only [Bool.and_eq_true, Bool.not_eq_true', Bool.and_eq_false_imp, beq_eq_false_iff_ne, beq_iff_eq]
      exact ⟨e, e1, fun z q => h1 ⟨z, q⟩⟩
def gk_le : List (Option gk_V) → List (Option gk_V) → Prop
  | [], _ => True
  | none :: a, _ :: b => gk_le a b
  | some v :: a, some w :: b => v = w ∧ gk_le a b
  | _, _ => False
theorem gk_le_at : ∀ {L' L : List (Option gk_V)}, gk_le L' L → ∀ (i : Nat) (v : gk_V), L'[i]? = some (some v) → L[i]? = some (some v)
  | [], _, _, i, v, h => by simp at h
  | none :: a, _ :: b, hl, i, v, h => by
    cases i with
    | zero => simp at h
    | succ i => simp only [List.getElem?_cons_succ] at h ⊢; exact gk_le_at (L' := a) hl i v h
  | some w :: a, some w' :: b, hl, i, v, h => by
    cases i with
    | zero => simp only [List.getElem?_cons_zero] at h ⊢; rw [← h, hl.1]
    | succ i => simp only [List.getElem?_cons_succ] at h ⊢; exact gk_le_at (L' := a) hl.2 i v h
  | none :: a, [], hl, i, v, h => hl.elim
  | some w :: a, [], hl, i, v, h => hl.elim
  | some w :: a, none :: b, hl, i, v, h => hl.elim
theorem gk_LR.sub {ρ : Nat → Nat → Nat} {ls : Array Slot} {nL : Nat} {L L' : List (Option gk_V)} (h : gk_LR ρ ls nL L) (hl : gk_le L' L) : gk_LR ρ ls nL L' := ⟨h.1, h.2.1, fun i v hv => h.2.2 i v (gk_le_at hl i v hv)⟩
/-- the locals with which a method begins -/
def gk_ent : List gk_V → List (Option gk_V)
  | [] => []
  | .inr (.inl x) :: l => some (.inr (.inl x)) :: none :: gk_ent l
  | v :: l => some v :: gk_ent l
theorem gk_ent_args {ρ : Nat → Nat → Nat} : ∀ (l : List gk_V) (o i : Nat) (v : gk_V), (gk_ent l)[i]? = some (some v) → (o + i, gk_c ρ v) ∈ lv_args o (l.map (gk_c ρ))
  | [], o, i, v, h => by simp [gk_ent] at h
  | .inl x :: l, o, i, v, h => by
    cases i with
    | zero => simp [gk_ent] at h; subst h; exact List.mem_cons_self
    | succ i =>
      simp only [gk_ent, List.getElem?_cons_succ] at h
      have := gk_ent_args (ρ := ρ) l (o + 1) i v h
      rw [show o + (i + 1) = o + 1 + i by omega]
      exact List.mem_cons_of_mem _ this
  | .inr (.inr x) :: l, o, i, v, h => by
    cases i with
    | zero => simp [gk_ent] at h; subst h; exact List.mem_cons_self
    | succ i =>
      simp only [gk_ent, List.getElem?_cons_succ] at h
      have := gk_ent_args (ρ := ρ) l (o + 1) i v h
      rw [show o + (i + 1) = o + 1 + i by omega]
      exact List.mem_cons_of_mem _ this
  | .inr (.inl x) :: l, o, i, v, h => by
    match i, h with
    | 0, h => simp [gk_ent] at h; subst h; exact List.mem_cons_self
    | 1, h => simp [gk_ent] at h
    | i + 2, h =>
      simp only [gk_ent, List.getElem?_cons_succ] at h
      have := gk_ent_args (ρ := ρ) l (o + 2) i v h
      rw [show o + (i + 2) = o + 2 + i by omega]
      exact List.mem_cons_of_mem _ this
theorem gk_ent_len {ρ : Nat → Nat → Nat} : ∀ (l : List gk_V), (lg_sl (l.map (gk_c ρ))).length = (gk_ent l).length
  | [] => rfl
  | .inl x :: l => by
    have := gk_ent_len (ρ := ρ) l
    simp only [lg_sl, List.map_cons, List.flatMap_cons, List.length_append, gk_ent, List.length_cons] at this ⊢
    rw [this]
    simp [gk_c, Value.category]
    omega
  | .inr (.inr x) :: l => by
    have := gk_ent_len (ρ := ρ) l
    simp only [lg_sl, List.map_cons, List.flatMap_cons, List.length_append, gk_ent, List.length_cons] at this ⊢
    rw [this]
    simp [gk_c, Value.category]
    omega
  | .inr (.inl x) :: l => by
    have := gk_ent_len (ρ := ρ) l
    simp only [lg_sl, List.map_cons, List.flatMap_cons, List.length_append, gk_ent, List.length_cons] at this ⊢
    rw [this]
    simp [gk_c, Value.category]
    omega
