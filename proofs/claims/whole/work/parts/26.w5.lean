/-! days that go by, and days in mind -/
theorem i_F.ch0 {M M' : gk_M} (h : a_Ch 0 M M') : i_F M M' := fun c i j hk => h c i j (by unfold i_k2 at hk; omega) (by unfold i_k2 at hk; omega) (by unfold i_k2 at hk; omega) (by unfold i_k2 at hk; omega)
theorem i_F.rc {M M' : gk_M} (h : r_RC M M') : i_F M M' := fun c i j hk => h c i j (by unfold i_k2 at hk; unfold r_st; omega)
theorem h_goL {N n : Nat} (hn : n ≤ 60) : ∀ (d fuel m dd : Nat) (acc : Int32) (M : gk_M), m + d = n → d < fuel → dd + d ≤ 10100 → a_wf (a_c 0 M) N dd →
    ∃ M', X11_go_l37 fuel (nI n) acc (nI m) M = some (z_hs (a_c 0 M) dd N d acc, gk_up M' 2 0 7 (M' 2 0 7 + z_hs (a_c 0 M) dd N d acc)) ∧ a_c 0 M' = z_days (a_c 0 M) dd d ∧ a_Ch 0 M M' := by
  intro d
  induction d with
  | zero =>
    intro fuel m dd acc M hm hf hd hw
    obtain ⟨k, rfl⟩ : ∃ k, fuel = k + 1 := ⟨fuel - 1, by omega⟩
    refine ⟨M, ?_, rfl, a_Ch.rf⟩
    simp only [X11_go_l37, if_pos (show nI n ≤ nI m from nI_le (by omega) (by omega)), z_hs, q_wr]
  | succ d ih =>
    intro fuel m dd acc M hm hf hd hw
    obtain ⟨k, rfl⟩ : ∃ k, fuel = k + 1 := ⟨fuel - 1, by omega⟩
    obtain ⟨M1, e1, e2, e3⟩ := h_dayW (k := 0) (by decide) hw
    have hw1 : a_wf (a_c 0 M1) N (dd + 1) := by rw [e2]; exact hw.day (by omega)
    obtain ⟨M', f1, f2, f3⟩ := ih k (m + 1) (dd + 1) (acc + z_lack (a_c 0 M) N) M1 (by omega) (by omega) (by omega) hw1
    refine ⟨M', ?_, ?_, e3.tr f3⟩
    · simp only [X11_go_l37, if_neg (show ¬ nI n ≤ nI m from nI_ge (by omega) (by omega)), nI_1, e1, q_bnd, f1, e2, z_hs]
    · rw [f2, e2, z_days_sh]
theorem w_go (x : Int32) {M : gk_M} (h : i_ok M) : i_same Int32 (f_X11_go x) (f_X12_go x) M := by
  obtain ⟨N, dd, hd, hw, hc, hN, c0, r0, hwc⟩ := h.get
  obtain ⟨ed, -, -, eh, -⟩ := i_cr hc
  have r3 : M 14 0 3 = nI dd := by have := hw.2.2.1; rwa [a_r01] at this
  have c4 : M 2 0 4 = nI dd := by rw [ed]; exact r3
  have l60 : (60 : Int32).toInt = 60 := rfl
  have l99 : (9999 : Int32).toInt = 9999 := rfl
  have l1 : (1 : Int32).toInt = 1 := rfl
  have hmin : f_J9_min_7cf53 60 (9999 - M 2 0 4) M = some (nI (min 60 (9999 - dd)), M) := by
    rw [h_min, c4, show (9999 : Int32) = nI 9999 from rfl, pk_sub hd]
    unfold z_mn
    rw [show (60 : Int32) = nI 60 from rfl]
    by_cases q : 9999 - dd < 60
    · rw [if_pos ((nI_ltI (by omega) (by omega)).mpr q), Nat.min_eq_right (by omega)]
    · rw [if_neg (fun z => q ((nI_ltI (by omega) (by omega)).mp z)), Nat.min_eq_left (by omega)]
  by_cases p1 : (1 : Int32) ≤ x
  · have p1' : 1 ≤ x.toInt := by have := z_le.mp p1; omega
    by_cases p2 : x.toInt ≤ ((min 60 (9999 - dd) : Nat) : Int)
    · obtain ⟨n, hn, rfl⟩ := z_of (by omega) p2
      rw [z_n (by omega)] at p1'
      have hn60 : n ≤ 60 := by omega
      have hdn : dd + n ≤ 9999 := by omega
      obtain ⟨M1, e1, e2, e3⟩ := h_goL (N := N) hn60 n 200 0 dd 0 M (by omega) (by omega) (by omega) hwc
      have k3 : ∀ c i j, c ≠ 0 → c ≠ 4 → ¬ ((c = 2 ∨ c = 7 ∨ c = 8) ∧ i = 0) → ¬ (c = 5 ∧ i / 6 = 0) → M1 c i j = M c i j := e3
      obtain ⟨rr, hrr⟩ : ∃ rr, rr = z_hs (a_c 0 M) dd N n 0 := ⟨_, rfl⟩
      obtain ⟨M2, hM2⟩ : ∃ M2, M2 = gk_up (gk_up M1 2 0 7 (M1 2 0 7 + rr)) 14 0 13 0 := ⟨_, rfl⟩
      have m2 : ∀ c i j, ¬ (c = 2 ∧ i = 0 ∧ j = 7) → ¬ (c = 14 ∧ i = 0 ∧ j = 13) → M2 c i j = M1 c i j := fun c i j a b => by rw [hM2, u_n b, u_n a]
      have ar2 : a_r M2 = a_r M := keepR hN r0 (fun c i j q => by rw [m2 c i j (by omega) (by omega), k3 c i j (by omega) (by omega) (by omega) (by omega)])
      have w2 : a_wf (a_r M2) N dd := by rw [ar2]; exact hw
      obtain ⟨M3, f1, f2, f3⟩ := h_daysOn hn60 (by omega) w2
      rw [ar2, ← hc, ← hrr] at f1
      rw [ar2, ← hc] at f2
      have wd := hwc.days n (by omega)
      have c1 : M1 2 0 3 = nI N := by have := wd.2.1; rw [← e2, a_c0 (by decide)] at this; exact this
      have r3' : M3 14 0 0 = nI N := by have := wd.2.1; rw [← f2, a_r00] at this; exact this
      have hh : M1 2 0 7 = z_days (a_c 0 M) dd n 0 4 := by rw [← e2, a_c0 (by decide)]
      have hh3 : M3 14 0 4 = z_days (a_c 0 M) dd n 0 4 := by rw [← f2, a_r04]
      refine ⟨rr, gk_up M1 2 0 7 (M1 2 0 7 + rr), gk_up M3 14 0 4 (M3 14 0 4 + rr), ?_, ?_, ?_⟩
      · rw [f_X11_go, hmin, q_bnd, h_rng, if_pos p1, if_pos (by rw [z_le, z_n (by omega), z_n (by omega)]; omega), q_bnd, if_pos rfl, hrr]
        exact e1
      · have q3 : gk_up (gk_up M1 2 0 7 (M1 2 0 7 + rr)) 14 0 13 0 14 0 3 = nI dd := by rw [← hM2, m2 _ _ _ (by omega) (by omega), k3 _ _ _ (by omega) (by omega) (by omega) (by omega)]; exact r3
        rw [f_X12_go, q_wr, if_neg (by rw [z_lt, z_n (by omega)]; omega), if_neg (by rw [z_lt, z_n (by omega)]; omega), q3, nI_add, if_pos (by rw [z_le, z_n (by omega)]; omega), ← hM2, f1, q_bnd, q_wr]
      · have kk : ∀ c i j, ¬ r_st c i j → M3 c i j = M2 c i j := f3
        refine h.becomes (A := z_set (z_days (a_c 0 M) dd n) 0 4 (z_days (a_c 0 M) dd n 0 4 + rr)) ?_ ?_ ?_ ?_ (wd.scal (Or.inr (Or.inr rfl)) (fun q => by omega) (fun q => by omega)) hdn
        · have g1 : i_F M1 M2 := by rw [hM2]; exact (i_F.up (n2_ice (by omega))).tr (i_F.up (n2_14 (by omega)))
          exact (((i_F.ch0 e3).tr g1).tr (i_F.rc f3)).tr (i_F.up (n2_14 (by omega)))
        · intro j hj
          constructor
          · rw [u_n (by omega), kk _ _ _ (by unfold r_st; omega), m2 _ _ _ (by omega) (by omega), k3 _ _ _ (by omega) (by omega) (by omega) (by omega)]
          · rw [u_n (by omega), kk _ _ _ (by unfold r_st; omega), m2 _ _ _ (by omega) (by omega), k3 _ _ _ (by omega) (by omega) (by omega) (by omega)]
        · rw [← hh, ← e2, ← a_c_up c1 hN (r0 := 0) (j0 := 4) (Or.inl ⟨rfl, by decide⟩) (by omega)]
          refine a_c_congr (by show gk_up M1 2 0 7 _ 2 0 3 = _; rw [u_n (by omega)]; exact c1) hN (fun c i j q => ?_)
          rw [u_n (by omega), kk _ _ _ (by unfold r_st; omega), hM2, u_n (by omega)]
          rfl
        · rw [← hh3, ← f2]
          exact a_r_up (M := M3) r3' hN (r0 := 0) (j0 := 4) (Or.inl ⟨rfl, by decide⟩) (by omega)
    · refine i_refuse h (q := 6) (x := -6) rfl (by decide) (by decide) ?_ ?_
      · rw [f_X11_go, hmin, q_bnd, h_rng, if_pos p1, if_neg (by rw [z_le, z_n (by omega)]; exact p2), q_bnd, if_neg (by decide)]; exact q_ret
      · intro M1 hE
        have key : X12_go_j28 x (gk_up M1 14 0 13 0) = f_X12_refuse (-6) (gk_up M1 14 0 13 0) := by
          rw [X12_go_j28, if_pos p1, X12_go_j41]; exact q_ret
        rw [f_X12_go, q_wr, if_neg (by rw [z_lt]; omega), key]
        by_cases q : 60 < x
        · rw [if_pos q]
        · rw [if_neg q, u_n (by omega), hE 14 0 3 (by unfold i_kp; omega), r3, if_neg]
          rw [z_lt] at q
          have hx := z_hi x
          rw [z_le, z_add (by rw [z_n (by omega)]; omega) (by rw [z_n (by omega)]; omega), z_n (by omega)]
          omega
  · refine i_refuse h (q := 4) (x := -4) rfl (by decide) (by decide) ?_ ?_
    · rw [f_X11_go, hmin, q_bnd, h_rng, if_neg p1, q_bnd, if_neg (by decide)]; exact q_ret
    · intro M1 hE
      rw [f_X12_go, q_wr, if_pos (by rw [z_lt]; rw [z_le] at p1; omega), X12_go_j28, if_neg p1, X12_go_j41]; exact q_ret
/-! in mind: the class copies what there is, the reference puts it back -/
/-- how the class's part goes in mind, and the reference's -/
theorem i_mind {α : Type} {M M1 M2 : gk_M} (h : i_ok M) {r : α} {f g : gk_M → Option (α × gk_M)} (hf : f M = some (r, M1)) (h1 : a_Ch 1 M M1) (h2 : r_RC (c_T 0 55 (gk_up M1 14 0 13 0)) M2) (hg : g M1 = some (r, c_F 0 55 M2)) : i_same α f g M :=
  ⟨r, M1, c_F 0 55 M2, hf, hg, h.mind h1 (i_th.tr (c_FK h2))⟩
/-- the reference's start in mind -/
theorem i_open {M M1 : gk_M} {N dd : Nat} (hw : a_wf (a_r M) N dd) (h1 : a_Ch 1 M M1) : a_r (c_T 0 55 (gk_up M1 14 0 13 0)) = a_r M ∧ (gk_up M1 14 0 13 0) 14 0 0 = nI N ∧ i_E M (gk_up M1 14 0 13 0) := by
  have hE : i_E M (gk_up M1 14 0 13 0) := (i_E.ch h1).th
  have e := hE.cnt hw.cntR
  refine ⟨?_, e, hE⟩
  rw [(c_TK _).st e hw.1, hE.r hw]
