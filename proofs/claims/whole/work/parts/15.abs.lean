/-! WHAT THERE IS, as one value: row 0: how many ships, day, reach, sight, hunger; rows 1, 2: the winds; row s + 3: ship s (kind, figure, crew, bread, east, north) -/
abbrev a_S : Type := Nat → Nat → Int32
def a_nm (cnt : Int32) (raw : a_S) : a_S := fun r j => if (r = 0 ∧ j < 5) ∨ ((r = 1 ∨ r = 2) ∧ j < 7) ∨ (3 ≤ r ∧ r < 3 + cnt.toNatClampNeg ∧ j < 6) then raw r j else 0
theorem a_nm0 {cnt : Int32} {raw : a_S} {j : Nat} (h : j < 5) : a_nm cnt raw 0 j = raw 0 j := if_pos (Or.inl ⟨rfl, h⟩)
theorem a_nm1 {cnt : Int32} {raw : a_S} {j : Nat} (h : j < 7) : a_nm cnt raw 1 j = raw 1 j := if_pos (Or.inr (Or.inl ⟨Or.inl rfl, h⟩))
theorem a_nm2 {cnt : Int32} {raw : a_S} {j : Nat} (h : j < 7) : a_nm cnt raw 2 j = raw 2 j := if_pos (Or.inr (Or.inl ⟨Or.inr rfl, h⟩))
theorem a_nms {cnt : Int32} {raw : a_S} {N s j : Nat} (hc : cnt = nI N) (hN : N ≤ 6) (hs : s < N) (h : j < 6) : a_nm cnt raw (s + 3) j = raw (s + 3) j := by
  subst hc
  exact if_pos (Or.inr (Or.inr ⟨by omega, by rw [q_cl (by omega)]; omega, h⟩))
theorem a_ext {c c' : Int32} {raw raw' : a_S} (hc : c = c') (h0 : ∀ j, j < 5 → raw 0 j = raw' 0 j) (h1 : ∀ j, j < 7 → raw 1 j = raw' 1 j) (h2 : ∀ j, j < 7 → raw 2 j = raw' 2 j) (hs : ∀ s j, s < c.toNatClampNeg → j < 6 → raw (s + 3) j = raw' (s + 3) j) : a_nm c raw = a_nm c' raw' := by
  subst hc
  funext r j
  unfold a_nm
  by_cases h : (r = 0 ∧ j < 5) ∨ ((r = 1 ∨ r = 2) ∧ j < 7) ∨ (3 ≤ r ∧ r < 3 + c.toNatClampNeg ∧ j < 6)
  · rw [if_pos h, if_pos h]
    rcases h with ⟨rfl, h⟩ | ⟨rfl | rfl, h⟩ | ⟨ha, hb, h⟩
    · exact h0 j h
    · exact h1 j h
    · exact h2 j h
    · obtain ⟨s, rfl⟩ : ∃ s, r = s + 3 := ⟨r - 3, by omega⟩
      exact hs s j (by omega) h
  · rw [if_neg h, if_neg h]
def a_rc (k : Nat) (M : gk_M) : a_S := fun r j => match r with
  | 0 => M 2 k (3 + j)
  | 1 => M 7 k j
  | 2 => M 8 k j
  | s + 3 => M 5 (6 * k + s) j
/-- the class's ice k (0 now, 1 in mind, 2 kept) -/
def a_c (k : Nat) (M : gk_M) : a_S := a_nm (M 2 k 3) (a_rc k M)
theorem a_c0 {k : Nat} {M : gk_M} {j : Nat} (h : j < 5) : a_c k M 0 j = M 2 k (3 + j) := a_nm0 h
theorem a_c1 {k : Nat} {M : gk_M} {j : Nat} (h : j < 7) : a_c k M 1 j = M 7 k j := a_nm1 h
theorem a_c2 {k : Nat} {M : gk_M} {j : Nat} (h : j < 7) : a_c k M 2 j = M 8 k j := a_nm2 h
theorem a_cs {k : Nat} {M : gk_M} {N s j : Nat} (hc : M 2 k 3 = nI N) (hN : N ≤ 6) (hs : s < N) (h : j < 6) : a_c k M (s + 3) j = M 5 (6 * k + s) j := a_nms hc hN hs h
/-- what is not ice k (nor air, nor lot) stays -/
def a_Ch (k : Nat) (M M' : gk_M) : Prop := ∀ c i j : Nat, c ≠ 0 → c ≠ 4 → ¬ ((c = 2 ∨ c = 7 ∨ c = 8) ∧ i = k) → ¬ (c = 5 ∧ i / 6 = k) → M' c i j = M c i j
theorem a_Ch.rf {k : Nat} {M : gk_M} : a_Ch k M M := fun _ _ _ _ _ _ _ => rfl
theorem a_Ch.tr {k : Nat} {M M1 M2 : gk_M} (h1 : a_Ch k M M1) (h2 : a_Ch k M1 M2) : a_Ch k M M2 := fun c i j a b d e => (h2 c i j a b d e).trans (h1 c i j a b d e)
theorem a_Ch.ice {k o : Nat} {M M' : gk_M} (h : a_Ch k M M') (ho : o ≠ k) {N : Nat} (hc : M 2 o 3 = nI N) (hN : N ≤ 6) : a_c o M' = a_c o M := by
  have e := h 2 o 3 (by decide) (by decide) (fun z => ho z.2) (fun z => by omega)
  refine a_ext e (fun j hj => ?_) (fun j hj => ?_) (fun j hj => ?_) (fun s j hs hj => ?_)
  · exact h 2 o _ (by decide) (by decide) (fun z => ho z.2) (fun z => by omega)
  · exact h 7 o _ (by decide) (by decide) (fun z => ho z.2) (fun z => by omega)
  · exact h 8 o _ (by decide) (by decide) (fun z => ho z.2) (fun z => by omega)
  · rw [e, hc, q_cl (by omega)] at hs
    exact h 5 _ _ (by decide) (by decide) (fun z => by omega) (fun z => by omega)
theorem h_shipCopy {a b : Nat} (ha : a < 18) (hb : b < 18) (hab : a ≠ b) (M : gk_M) : f_X8_copyFrom a b M = some ((), fun c i j => if c = 5 ∧ i = a ∧ j < 6 then M 5 b j else M c i j) := by
  simp only [f_X8_copyFrom, q_gd (q_lt ha), q_gd (q_lt hb), q_wr]
  refine congrArg (fun m => some ((), m)) ?_
  funext c i j
  have hba : ¬ b = a := fun q => hab q.symm
  by_cases h : c = 5 ∧ i = a
  · obtain ⟨rfl, rfl⟩ := h
    rcases (show j = 0 ∨ j = 1 ∨ j = 2 ∨ j = 3 ∨ j = 4 ∨ j = 5 ∨ 6 ≤ j by omega) with rfl | rfl | rfl | rfl | rfl | rfl | hj
    · simp [gk_up, hba]
    · simp [gk_up, hba]
    · simp [gk_up, hba]
    · simp [gk_up, hba]
    · simp [gk_up, hba]
    · simp [gk_up, hba]
    · simp [gk_up, show ¬ j = 0 by omega, show ¬ j = 1 by omega, show ¬ j = 2 by omega, show ¬ j = 3 by omega, show ¬ j = 4 by omega, show ¬ j = 5 by omega, show ¬ j < 6 by omega]
  · have hx : ∀ P : Prop, ¬ (c = 5 ∧ i = a ∧ P) := fun P z => h ⟨z.1, z.2.1⟩
    simp only [gk_up, if_neg (hx _)]
theorem h_scCopy {k o : Nat} (hko : k ≠ o) (M : gk_M) : gk_wr M 2 k 3 (M 2 o 3) (fun M1 => gk_wr M1 2 k 4 (M1 2 o 4) (fun M2 => gk_wr M2 2 k 5 (M2 2 o 5) (fun M3 => gk_wr M3 2 k 6 (M3 2 o 6) (fun M4 => gk_wr M4 2 k 7 (M4 2 o 7) (fun M5 => some ((), M5)))))) = some ((), fun c i j => if c = 2 ∧ i = k ∧ 3 ≤ j ∧ j < 8 then M 2 o j else M c i j) := by
  simp only [q_wr]
  refine congrArg (fun m => some ((), m)) ?_
  funext c i j
  have hok : ¬ o = k := fun q => hko q.symm
  by_cases h : c = 2 ∧ i = k
  · obtain ⟨rfl, rfl⟩ := h
    rcases (show j = 3 ∨ j = 4 ∨ j = 5 ∨ j = 6 ∨ j = 7 ∨ (j < 3 ∨ 8 ≤ j) by omega) with rfl | rfl | rfl | rfl | rfl | hj
    · simp [gk_up, hok]
    · simp [gk_up, hok]
    · simp [gk_up, hok]
    · simp [gk_up, hok]
    · simp [gk_up, hok]
    · rw [if_neg (by omega), u_n (by omega), u_n (by omega), u_n (by omega), u_n (by omega), u_n (by omega)]
  · have hx : ∀ P : Prop, ¬ (c = 2 ∧ i = k ∧ P) := fun P z => h ⟨z.1, z.2.1⟩
    simp only [gk_up, if_neg (hx _)]
theorem h_copy40 {k o : Nat} (hk : k < 3) (ho : o < 3) (hko : k ≠ o) : ∀ (d fuel m : Nat) (M : gk_M), M 2 o 3 = nI (m + d) → m + d ≤ 6 → d < fuel →
    ∃ M', X4_copyFrom_l40 fuel k o (nI m) M = some ((), M') ∧ (∀ s j, m ≤ s → s < m + d → j < 6 → M' 5 (6 * k + s) j = M 5 (6 * o + s) j) ∧ (∀ j, j < 5 → M' 2 k (3 + j) = M 2 o (3 + j)) ∧
      (∀ c i j, ¬ (c = 5 ∧ 6 * k + m ≤ i ∧ i < 6 * k + m + d ∧ j < 6) → ¬ (c = 2 ∧ i = k ∧ 3 ≤ j) → M' c i j = M c i j) := by
  intro d
  have hok : ¬ o = k := fun q => hko q.symm
  induction d with
  | zero =>
    intro fuel m M hc h6 hf
    obtain ⟨n, rfl⟩ : ∃ n, fuel = n + 1 := ⟨fuel - 1, by omega⟩
    have hcond : M 2 o 3 ≤ nI m := by rw [hc]; exact nI_le (by omega) (by omega)
    refine ⟨fun c i j => if c = 2 ∧ i = k ∧ 3 ≤ j ∧ j < 8 then M 2 o j else M c i j, ?_, ?_, ?_, ?_⟩
    · simp only [X4_copyFrom_l40, q_gd (q_lt hk), q_gd (q_lt ho), if_pos hcond]
      exact h_scCopy hko M
    · intro s j h1 h2; omega
    · intro j hj
      exact if_pos ⟨rfl, rfl, by omega, by omega⟩
    · intro c i j h1 h2
      exact if_neg (fun z => h2 ⟨z.1, z.2.1, z.2.2.1⟩)
  | succ d ih =>
    intro fuel m M hc h6 hf
    obtain ⟨n, rfl⟩ : ∃ n, fuel = n + 1 := ⟨fuel - 1, by omega⟩
    have hcond : ¬ M 2 o 3 ≤ nI m := by rw [hc]; exact nI_ge (by omega) (by omega)
    have hm6 : m < 6 := by omega
    obtain ⟨M', e1, e2, e3, e4⟩ := ih n (m + 1) (fun c i j => if c = 5 ∧ i = 6 * k + m ∧ j < 6 then M 5 (6 * o + m) j else M c i j) (by rw [if_neg (by omega), hc]; congr 1; omega) (by omega) (by omega)
    refine ⟨M', ?_, ?_, ?_, ?_⟩
    · simp only [X4_copyFrom_l40, q_gd (q_lt hk), q_gd (q_lt ho), if_neg hcond, q_gd (q_in hm6 (by decide)), q_cl (show m < 2 ^ 31 by omega), h_shipCopy (show 6 * k + m < 18 by omega) (show 6 * o + m < 18 by omega) (show 6 * k + m ≠ 6 * o + m by omega), q_bnd, nI_1]
      exact e1
    · intro s j h1 h2 h3
      rcases Nat.lt_or_ge m s with hs | hs
      · rw [e2 s j (by omega) (by omega) h3]
        rw [if_neg (by omega)]
      · have : s = m := by omega
        subst this
        rw [e4 5 (6 * k + s) j (fun z => by omega) (fun z => by omega)]
        rw [if_pos ⟨rfl, rfl, h3⟩]
    · intro j hj
      rw [e3 j hj]
      rw [if_neg (by omega)]
    · intro c i j h1 h2
      rw [e4 c i j (fun z => h1 ⟨z.1, by omega, by omega, z.2.2.2⟩) h2]
      rw [if_neg (fun z => h1 ⟨z.1, by omega, by omega, z.2.2⟩)]
theorem h_copy2 {k o : Nat} (hk : k < 3) (ho : o < 3) (hko : k ≠ o) {N : Nat} (hN : N ≤ 6) : ∀ (d fuel m : Nat) (M : gk_M), m + d = 7 → M 2 o 3 = nI N → d < fuel →
    ∃ M', X4_copyFrom_l2 fuel k o (nI m) M = some ((), M') ∧ (∀ s j, s < N → j < 6 → M' 5 (6 * k + s) j = M 5 (6 * o + s) j) ∧ (∀ j, j < 5 → M' 2 k (3 + j) = M 2 o (3 + j)) ∧ (∀ j, m ≤ j → j < 7 → M' 7 k j = M 7 o j ∧ M' 8 k j = M 8 o j) ∧
      (∀ c i j, ¬ (c = 5 ∧ i / 6 = k) → ¬ (c = 2 ∧ i = k) → ¬ ((c = 7 ∨ c = 8) ∧ i = k ∧ m ≤ j ∧ j < 7) → M' c i j = M c i j) := by
  intro d
  have hok : ¬ o = k := fun q => hko q.symm
  induction d with
  | zero =>
    intro fuel m M h7 hc hf
    obtain ⟨n, rfl⟩ : ∃ n, fuel = n + 1 := ⟨fuel - 1, by omega⟩
    have hm : m = 7 := by omega
    subst hm
    obtain ⟨M', e1, e2, e3, e4⟩ := h_copy40 hk ho hko N 200 0 M (by rw [hc]; congr 1; omega) (by omega) (by omega)
    refine ⟨M', ?_, fun s j h1 h2 => e2 s j (by omega) (by omega) h2, e3, fun j h1 h2 => by omega, fun c i j h1 h2 h3 => e4 c i j (fun z => h1 ⟨z.1, by omega⟩) (fun z => h2 ⟨z.1, z.2.1⟩)⟩
    simp only [X4_copyFrom_l2, q_gd (q_lt hk), q_gd (q_lt ho), if_pos (show (7 : Int32) ≤ nI 7 from by decide)]
    exact e1
  | succ d ih =>
    intro fuel m M h7 hc hf
    obtain ⟨n, rfl⟩ : ∃ n, fuel = n + 1 := ⟨fuel - 1, by omega⟩
    have hcond : ¬ (7 : Int32) ≤ nI m := nI_ge (b := 7) (show m < 7 by omega) (by omega)
    have hm7 : m < 7 := by omega
    obtain ⟨M', e1, e2, e3, e5, e4⟩ := ih n (m + 1) (gk_up (gk_up M 7 k m (M 7 o m)) 8 k m (M 8 o m)) (by omega) (by rw [u_n (by omega), u_n (by omega)]; exact hc) (by omega)
    refine ⟨M', ?_, ?_, ?_, ?_, ?_⟩
    · simp only [X4_copyFrom_l2, q_gd (q_lt hk), q_gd (q_lt ho), if_neg hcond, q_gd (q_in hm7 (by decide)), q_cl (show m < 2 ^ 31 by omega), q_wr, nI_1, u_n (M := M) (c := 7) (i := k) (j := m) (c' := 8) (i' := o) (j' := m) (v := M 7 o m) (by omega)]
      exact e1
    · intro s j h1 h2
      rw [e2 s j h1 h2, u_n (by omega), u_n (by omega)]
    · intro j hj
      rw [e3 j hj, u_n (by omega), u_n (by omega)]
    · intro j h1 h2
      rcases Nat.lt_or_ge m j with hs | hs
      · obtain ⟨q1, q2⟩ := e5 j (by omega) h2
        rw [q1, q2, u_n (by omega), u_n (by omega), u_n (by omega), u_n (by omega)]
        exact ⟨rfl, rfl⟩
      · have : j = m := by omega
        subst this
        constructor
        · rw [e4 7 k j (fun z => by omega) (fun z => by omega) (fun z => by omega), u_n (by omega), u_s]
        · rw [e4 8 k j (fun z => by omega) (fun z => by omega) (fun z => by omega), u_s]
    · intro c i j h1 h2 h3
      rw [e4 c i j h1 h2 (fun z => h3 ⟨z.1, z.2.1, by omega, z.2.2.2⟩), u_n (fun z => h3 ⟨Or.inr z.1, z.2.1, by omega, by omega⟩), u_n (fun z => h3 ⟨Or.inl z.1, z.2.1, by omega, by omega⟩)]
/-- copyFrom: ice k is as ice o -/
theorem h_copy {k o : Nat} (hk : k < 3) (ho : o < 3) (hko : k ≠ o) {N : Nat} (hN : N ≤ 6) {M : gk_M} (hc : M 2 o 3 = nI N) : ∃ M', f_X4_copyFrom k o M = some ((), M') ∧ a_c k M' = a_c o M ∧ a_Ch k M M' := by
  obtain ⟨M', e1, e2, e3, e5, e4⟩ := h_copy2 hk ho hko hN 7 200 0 M (by omega) hc (by omega)
  refine ⟨M', ?_, ?_, ?_⟩
  · simp only [f_X4_copyFrom, q_gd (q_lt hk), q_gd (q_lt ho)]
    exact e1
  · refine a_ext (e3 0 (by omega)) (fun j hj => e3 j hj) (fun j hj => (e5 j (by omega) hj).1) (fun j hj => (e5 j (by omega) hj).2) (fun s j hs hj => ?_)
    rw [e3 0 (by omega), hc, q_cl (by omega)] at hs
    exact e2 s j hs hj
  · intro c i j h1 h2 h3 h4
    exact e4 c i j h4 (fun z => h3 ⟨Or.inl z.1, z.2⟩) (fun z => h3 ⟨Or.inr z.1, z.2.1⟩)
