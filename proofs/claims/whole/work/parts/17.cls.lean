/-! WHAT HOLDS OF ALL THAT THERE IS -/
def a_sh (A : a_S) (dd s : Nat) : Prop := (∃ k, k < 6 ∧ A (s + 3) 0 = nI k) ∧ (∃ g, g < 10 ∧ A (s + 3) 1 = nI g) ∧ (∃ c, c < 10 ∧ A (s + 3) 2 = nI c) ∧ (∃ b, b < 1000 ∧ A (s + 3) 3 = nI b) ∧ (-(99 + 11 * (dd : Int)) ≤ (A (s + 3) 4).toInt ∧ (A (s + 3) 4).toInt ≤ 99 + 11 * (dd : Int)) ∧ (-(99 + 11 * (dd : Int)) ≤ (A (s + 3) 5).toInt ∧ (A (s + 3) 5).toInt ≤ 99 + 11 * (dd : Int))
def a_wd (A : a_S) (d : Nat) : Prop := (-4 ≤ (A 1 d).toInt ∧ (A 1 d).toInt ≤ 4) ∧ (-4 ≤ (A 2 d).toInt ∧ (A 2 d).toInt ≤ 4)
def a_wf (A : a_S) (N dd : Nat) : Prop := N ≤ 6 ∧ A 0 0 = nI N ∧ A 0 1 = nI dd ∧ dd ≤ 10100 ∧ (1 ≤ (A 0 2).toInt ∧ (A 0 2).toInt ≤ 40) ∧ (1 ≤ (A 0 3).toInt ∧ (A 0 3).toInt ≤ 99) ∧ (∀ d, d < 7 → a_wd A d) ∧ ∀ s, s < N → a_sh A dd s
theorem z_small {x : Int32} (h : -4 ≤ x.toInt ∧ x.toInt ≤ 4) : x = -4 ∨ x = -3 ∨ x = -2 ∨ x = -1 ∨ x = 0 ∨ x = 1 ∨ x = 2 ∨ x = 3 ∨ x = 4 := by
  have e : ∀ v : Int32, x.toInt = v.toInt → x = v := fun v h => z_eq.mpr h
  rcases (show x.toInt = -4 ∨ x.toInt = -3 ∨ x.toInt = -2 ∨ x.toInt = -1 ∨ x.toInt = 0 ∨ x.toInt = 1 ∨ x.toInt = 2 ∨ x.toInt = 3 ∨ x.toInt = 4 by omega) with q | q | q | q | q | q | q | q | q
  · exact Or.inl (e (-4) q)
  · exact Or.inr (Or.inl (e (-3) q))
  · exact Or.inr (Or.inr (Or.inl (e (-2) q)))
  · exact Or.inr (Or.inr (Or.inr (Or.inl (e (-1) q))))
  · exact Or.inr (Or.inr (Or.inr (Or.inr (Or.inl (e 0 q)))))
  · exact Or.inr (Or.inr (Or.inr (Or.inr (Or.inr (Or.inl (e 1 q))))))
  · exact Or.inr (Or.inr (Or.inr (Or.inr (Or.inr (Or.inr (Or.inl (e 2 q)))))))
  · exact Or.inr (Or.inr (Or.inr (Or.inr (Or.inr (Or.inr (Or.inr (Or.inl (e 3 q))))))))
  · exact Or.inr (Or.inr (Or.inr (Or.inr (Or.inr (Or.inr (Or.inr (Or.inr (e 4 q))))))))
theorem z_half {x : Int32} (h : -4 ≤ x.toInt ∧ x.toInt ≤ 4) : -2 ≤ (x / 2).toInt ∧ (x / 2).toInt ≤ 2 := by
  rcases z_small h with rfl | rfl | rfl | rfl | rfl | rfl | rfl | rfl | rfl <;> decide
theorem z_sgb {x : Int32} : z_sg x = 0 ∨ z_sg x = 1 ∨ z_sg x = -1 := by
  unfold z_sg
  split
  · split
    · exact Or.inl rfl
    · exact Or.inr (Or.inr rfl)
  · exact Or.inr (Or.inl rfl)
theorem z_wayb {d f : Int32} : z_way d f = 1 ∨ z_way d f = -1 := by
  unfold z_way
  split
  · exact Or.inl rfl
  · split
    · exact Or.inl rfl
    · exact Or.inr rfl
theorem z_wayT {d f x : Int32} (h : -4 ≤ x.toInt ∧ x.toInt ≤ 4) : -4 ≤ (z_way d f * x).toInt ∧ (z_way d f * x).toInt ≤ 4 := by
  rcases z_wayb (d := d) (f := f) with e | e <;> rw [e] <;> rcases z_small h with rfl | rfl | rfl | rfl | rfl | rfl | rfl | rfl | rfl <;> decide
theorem z_fig {g : Nat} (hg : g < 10) {x : Int32} : -9 ≤ (nI g * z_sg x).toInt ∧ (nI g * z_sg x).toInt ≤ 9 := by
  have h : ∀ g, g < 10 → (-9 ≤ (nI g * 0).toInt ∧ (nI g * 0).toInt ≤ 9) ∧ (-9 ≤ (nI g * 1).toInt ∧ (nI g * 1).toInt ≤ 9) ∧ (-9 ≤ (nI g * (-1)).toInt ∧ (nI g * (-1)).toInt ≤ 9) := by decide
  rcases z_sgb (x := x) with e | e | e <;> rw [e]
  · exact (h g hg).1
  · exact (h g hg).2.1
  · exact (h g hg).2.2
theorem z_dEb {k g : Nat} (hg : g < 10) {d e n le : Int32} (he : -4 ≤ e.toInt ∧ e.toInt ≤ 4) (hn : -4 ≤ n.toInt ∧ n.toInt ≤ 4) (hle : -4 ≤ le.toInt ∧ le.toInt ≤ 4) : -11 ≤ (z_dE k (nI g) d e n le).toInt ∧ (z_dE k (nI g) d e n le).toInt ≤ 11 := by
  have h2 := z_half he
  have hf := z_fig hg (x := e)
  have hnn : (-n).toInt = -n.toInt := z_neg (by omega)
  have hw := z_wayT (d := d) (f := nI g) (x := -n) (by omega)
  unfold z_dE
  split
  · omega
  · omega
  · omega
  · omega
  · omega
  · rw [z_add (by omega) (by omega)]; omega
theorem z_dNb {k g : Nat} {d e n ln : Int32} (he : -4 ≤ e.toInt ∧ e.toInt ≤ 4) (hn : -4 ≤ n.toInt ∧ n.toInt ≤ 4) (hln : -4 ≤ ln.toInt ∧ ln.toInt ≤ 4) : -11 ≤ (z_dN k (nI g) d e n ln).toInt ∧ (z_dN k (nI g) d e n ln).toInt ≤ 11 := by
  have h2 := z_half hn
  have hw := z_wayT (d := d) (f := nI g) (x := e) (by omega)
  unfold z_dN
  split <;> omega
theorem z_passR {A : a_S} {d e n le ln : Int32} {N : Nat} (hc : A 0 0 = nI N) (hN : N ≤ 6) :
    z_pass A d e n le ln 0 0 = A 0 0 ∧ z_pass A d e n le ln 0 1 = A 0 1 + 1 ∧ (∀ j, j < 5 → j ≠ 1 → z_pass A d e n le ln 0 j = A 0 j) ∧ (∀ j, j < 7 → z_pass A d e n le ln 1 j = A 1 j ∧ z_pass A d e n le ln 2 j = A 2 j) ∧ ∀ s j, s < N → j < 6 → z_pass A d e n le ln (s + 3) j = z_st (A (s + 3)) d e n le ln j := by
  refine ⟨?_, ?_, ?_, ?_, ?_⟩
  · unfold z_pass; rw [a_nm0 (by decide)]; rfl
  · unfold z_pass; rw [a_nm0 (by decide)]; rfl
  · intro j hj h1
    unfold z_pass; rw [a_nm0 hj]; exact if_neg h1
  · intro j hj
    unfold z_pass; rw [a_nm1 hj, a_nm2 hj]; exact ⟨rfl, rfl⟩
  · intro s j hs hj
    unfold z_pass; rw [a_nms hc hN hs hj]
theorem a_wf.pass {A : a_S} {N dd : Nat} (h : a_wf A N dd) (hd : dd ≤ 10099) {d e n le ln : Int32} (he : -4 ≤ e.toInt ∧ e.toInt ≤ 4) (hn : -4 ≤ n.toInt ∧ n.toInt ≤ 4) (hle : -4 ≤ le.toInt ∧ le.toInt ≤ 4) (hln : -4 ≤ ln.toInt ∧ ln.toInt ≤ 4) : a_wf (z_pass A d e n le ln) N (dd + 1) := by
  obtain ⟨hN, hc, hdd, h4, hr, hs, hw, hsh⟩ := h
  obtain ⟨p0, p1, p2, p3, p4⟩ := z_passR (A := A) (d := d) (e := e) (n := n) (le := le) (ln := ln) hc hN
  refine ⟨hN, p0.trans hc, by rw [p1, hdd]; exact nI_1 dd, by omega, ?_, ?_, ?_, ?_⟩
  · rw [p2 2 (by decide) (by decide)]; exact hr
  · rw [p2 3 (by decide) (by decide)]; exact hs
  · intro j hj
    unfold a_wd
    rw [(p3 j hj).1, (p3 j hj).2]
    exact hw j hj
  · intro s hs
    obtain ⟨⟨k, hk, ek⟩, ⟨g, hg, eg⟩, ⟨c, hcc, ec⟩, ⟨b, hb, eb⟩, hx, hy⟩ := hsh s hs
    have bE := z_dEb (k := (A (s + 3) 0).toNatClampNeg) hg (d := d) he hn hle
    have bN := z_dNb (k := (A (s + 3) 0).toNatClampNeg) (g := g) (d := d) he hn hln
    refine ⟨⟨k, hk, ?_⟩, ⟨g, hg, ?_⟩, ⟨c, hcc, ?_⟩, ?_, ?_, ?_⟩
    · rw [p4 s 0 hs (by decide)]; exact ek
    · rw [p4 s 1 hs (by decide)]; exact eg
    · rw [p4 s 2 hs (by decide)]; exact ec
    · rw [p4 s 3 hs (by decide)]
      show ∃ b', b' < 1000 ∧ A (s + 3) 3 - z_mn (A (s + 3) 3) (A (s + 3) 2) = nI b'
      rw [eb, ec]
      unfold z_mn
      by_cases q : nI c < nI b
      · rw [if_pos q]
        rw [nI_ltI (by omega) (by omega)] at q
        exact ⟨b - c, by omega, pk_sub (by omega)⟩
      · rw [if_neg q]
        exact ⟨0, by omega, by rw [Int32.sub_self]; rfl⟩
    · rw [p4 s 4 hs (by decide)]
      rw [show z_st (A (s + 3)) d e n le ln 4 = A (s + 3) 4 + z_dE (A (s + 3) 0).toNatClampNeg (A (s + 3) 1) d e n le from rfl, eg, z_add (by omega) (by omega)]
      omega
    · rw [p4 s 5 hs (by decide)]
      rw [show z_st (A (s + 3)) d e n le ln 5 = A (s + 3) 5 + z_dN (A (s + 3) 0).toNatClampNeg (A (s + 3) 1) d e n ln from rfl, eg, z_add (by omega) (by omega)]
      omega
theorem a_wf.day {A : a_S} {N dd : Nat} (h : a_wf A N dd) (hd : dd ≤ 10099) : a_wf (z_day A dd) N (dd + 1) := by
  have hw := h.2.2.2.2.2.2.1
  exact h.pass hd (hw _ (Nat.mod_lt _ (by decide))).1 (hw _ (Nat.mod_lt _ (by decide))).2 (hw _ (Nat.mod_lt _ (by decide))).1 (hw _ (Nat.mod_lt _ (by decide))).2
/-- behind n days -/
def z_days (A : a_S) (dd : Nat) : Nat → a_S
  | 0 => A
  | n + 1 => z_day (z_days A dd n) (dd + n)
theorem a_wf.days {A : a_S} {N dd : Nat} (h : a_wf A N dd) : ∀ n, dd + n ≤ 10100 → a_wf (z_days A dd n) N (dd + n)
  | 0, _ => h
  | n + 1, hn => (a_wf.days h n (by omega)).day (by omega)
theorem z_days_s (A : a_S) (dd n : Nat) : z_days A dd (n + 1) = z_day (z_days A dd n) (dd + n) := rfl
/-- a day of the class's ice k -/
theorem h_dayW {k N dd : Nat} (hk : k < 3) {M : gk_M} (h : a_wf (a_c k M) N dd) : ∃ M', f_X11_dayOf k M = some (z_lack (a_c k M) N, M') ∧ a_c k M' = z_day (a_c k M) dd ∧ a_Ch k M M' := by
  obtain ⟨hN, hc, hdd, h4, hr, hs, hw, hsh⟩ := h
  rw [a_c0 (by decide)] at hc hdd
  exact h_day hk hN (by omega) hc hdd (fun s hs => by
    obtain ⟨q, hq, e⟩ := (hsh s hs).1
    rw [a_cs hc hN hs (by decide)] at e
    exact ⟨q, hq, e⟩)
theorem h_copyW {k o N dd : Nat} (hk : k < 3) (ho : o < 3) (hko : k ≠ o) {M : gk_M} (h : a_wf (a_c o M) N dd) : ∃ M', f_X4_copyFrom k o M = some ((), M') ∧ a_c k M' = a_c o M ∧ a_Ch k M M' := by
  have hc := h.2.1
  rw [a_c0 (by decide)] at hc
  exact h_copy hk ho hko h.1 hc
theorem a_wf.cnt {k N dd : Nat} {M : gk_M} (h : a_wf (a_c k M) N dd) : M 2 k 3 = nI N := by
  have hc := h.2.1
  rwa [a_c0 (by decide)] at hc
/-! how far -/
def z_gq (A : a_S) (a : Nat) (e n : Int32) : Int32 := z_mx (z_ab (A (a + 3) 4 - e)) (z_ab (A (a + 3) 5 - n))
def z_gp (A : a_S) (a b : Nat) : Int32 := z_gq A a (A (b + 3) 4) (A (b + 3) 5)
theorem h_gq {k N : Nat} (hk : k < 3) (hN : N ≤ 6) {M : gk_M} (hc : M 2 k 3 = nI N) {a : Nat} (ha : a < N) {e n : Int32} : f_X4_gapToPlace k (nI a) e n M = some (z_gq (a_c k M) a e n, M) := by
  simp only [f_X4_gapToPlace, q_gd (q_lt hk), q_gd (q_in (show a < 6 by omega) (by decide)), q_cl (show a < 2 ^ 31 by omega), h_abs, h_max, q_bnd]
  unfold z_gq
  rw [a_cs hc hN ha (by decide), a_cs hc hN ha (by decide)]
theorem h_gap {k N : Nat} (hk : k < 3) (hN : N ≤ 6) {M : gk_M} (hc : M 2 k 3 = nI N) {a b : Nat} (ha : a < N) (hb : b < N) : f_X4_gap k (nI a) (nI b) M = some (z_gp (a_c k M) a b, M) := by
  simp only [f_X4_gap, q_gd (q_lt hk), q_gd (q_in (show b < 6 by omega) (by decide)), q_cl (show b < 2 ^ 31 by omega), h_gq hk hN hc ha, q_bnd]
  unfold z_gp
  rw [a_cs hc hN hb (by decide), a_cs hc hN hb (by decide)]
/-! who is there -/
theorem z_ship (N : Nat) (hN : N ≤ 6) (x : Int32) : (∃ a, a < N ∧ x = nI a) ∨ (x < 0 ∨ nI N ≤ x) := by
  rcases pk_ix x (show N < 2 ^ 31 by omega) with h | h | h
  · exact Or.inr (Or.inl h)
  · exact Or.inr (Or.inr h)
  · exact Or.inl h
theorem h_hasT {k N : Nat} (hk : k < 3) (hN : N ≤ 6) {M : gk_M} (hc : M 2 k 3 = nI N) {a : Nat} (ha : a < N) : f_X4_has k (nI a) M = some (1, M) := by
  simp only [f_X4_has, q_gd (q_lt hk), if_neg (show ¬ nI a < 0 from nI_pos (by omega)), hc, if_neg (show ¬ nI N ≤ nI a from nI_ge ha (by omega)), q_gd q_b1]
theorem h_hasF {k N : Nat} (hk : k < 3) {M : gk_M} (hc : M 2 k 3 = nI N) {x : Int32} (hx : x < 0 ∨ nI N ≤ x) : f_X4_has k x M = some (0, M) := by
  simp only [f_X4_has, q_gd (q_lt hk), X4_has_j16, q_gd q_b0, hc]
  rcases hx with hx | hx
  · rw [if_pos hx]
  · split <;> first | rfl | rw [if_pos hx]
theorem h_nobT {N : Nat} (hN : N ≤ 6) {M : gk_M} (hc : M 2 0 3 = nI N) {a : Nat} (ha : a < N) : f_X11_nobody (nI a) M = some (0, M) := by
  simp only [f_X11_nobody, h_hasT (show 0 < 3 by decide) hN hc ha, q_bnd]
  rw [if_neg (by decide)]
theorem h_nobF {N : Nat} {M : gk_M} (hc : M 2 0 3 = nI N) {x : Int32} (hx : x < 0 ∨ nI N ≤ x) : f_X11_nobody x M = some (-1, M) := by
  rw [f_X11_nobody, h_hasF (show 0 < 3 by decide) hc hx, q_bnd, if_pos rfl]
theorem h_twoT {N : Nat} (hN : N ≤ 6) {M : gk_M} (hc : M 2 0 3 = nI N) {a b : Nat} (ha : a < N) (hb : b < N) (hab : a ≠ b) : f_X11_notTwo (nI a) (nI b) M = some (0, M) := by
  have e : ¬ nI a = nI b := fun q => hab ((nI_eq (by omega) (by omega)).mp q)
  simp only [f_X11_notTwo, h_hasT (show 0 < 3 by decide) hN hc ha, h_hasT (show 0 < 3 by decide) hN hc hb, q_bnd, X11_notTwo_j31]
  rw [if_neg (by decide), if_neg (by decide), if_neg e]
theorem h_twoF {N : Nat} (hN : N ≤ 6) {M : gk_M} (hc : M 2 0 3 = nI N) {x y : Int32} (h : ¬ ∃ a b, a < N ∧ b < N ∧ a ≠ b ∧ x = nI a ∧ y = nI b) : f_X11_notTwo x y M = some (-1, M) := by
  simp only [f_X11_notTwo, X11_notTwo_j31]
  rcases z_ship N hN x with ⟨a, ha, rfl⟩ | hx
  · rw [h_hasT (show 0 < 3 by decide) hN hc ha, q_bnd, if_neg (by decide)]
    rcases z_ship N hN y with ⟨b, hb, rfl⟩ | hy
    · rw [h_hasT (show 0 < 3 by decide) hN hc hb, q_bnd, if_neg (by decide)]
      by_cases e : a = b
      · subst e; rw [if_pos rfl]
      · exact absurd ⟨a, b, ha, hb, e, rfl, rfl⟩ h
    · rw [h_hasF (show 0 < 3 by decide) hc hy, q_bnd, if_pos rfl]
  · rw [h_hasF (show 0 < 3 by decide) hc hx, q_bnd, if_pos rfl]
theorem h_ref {x : Int32} {q : Nat} (hq : x = -nI q) (h0 : 0 < q) (h7 : q < 7) {M : gk_M} : f_X11_refuse x M = some (x, gk_up M 13 0 q (M 13 0 q + 1)) := by
  have e : -x = nI q := by rw [hq]; exact Int32.neg_neg
  simp only [f_X11_refuse, e, if_neg (show ¬ nI q ≤ 0 from nI_nle h0 (by omega)), if_neg (show ¬ (7 : Int32) ≤ nI q from nI_ge (b := 7) h7 (by omega)), q_gd (q_in h7 (by decide)), q_cl (show q < 2 ^ 31 by omega), q_wr, X11_refuse_j26]
