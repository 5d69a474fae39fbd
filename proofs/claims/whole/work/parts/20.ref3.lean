/-! the reference's day -/
theorem z_one_mul (x : Int32) : (1 : Int32) * x = x := Int32.one_mul x
theorem z_neg1_mul (x : Int32) : (-1 : Int32) * x = -x := by grind
theorem h_drBy {k g : Nat} (hk : k < 6) (hg : g < 10) {e n le ln : Int32} (M : gk_M) : f_X12_driftBy (nI k) (nI g) e n le ln M = some ((), gk_up (gk_up M 14 0 15 (z_dE k (nI g) (M 14 0 3) e n le)) 14 0 16 (z_dN k (nI g) (M 14 0 3) e n ln)) := by
  have e0 : f_X12_driftBy (nI k) (nI g) e n le ln M = X12_driftBy_j17 (nI k) (nI g) e n le ln (z_sg e) M := by
    unfold f_X12_driftBy z_sg
    split
    · split <;> rfl
    · rfl
  rw [e0]
  have hnz : gk_nz (nI g + 2) = true := by
    rw [show (2 : Int32) = nI 2 from rfl, nI_add]
    have : ¬ nI (g + 2) = 0 := nI_ne0 (by omega) (by omega)
    simp [gk_nz, this]
  have hle : ¬ nI g + 2 ≤ 0 := by
    rw [show (2 : Int32) = nI 2 from rfl, nI_add]
    exact nI_nle (by omega) (by omega)
  match k, hk with
  | 0, _ => rfl
  | 1, _ => rfl
  | 2, _ => rfl
  | 3, _ => rfl
  | 4, _ =>
    simp only [X12_driftBy_j17, X12_driftBy_j39, X12_driftBy_j40, X12_driftBy_j164, X12_driftBy_j179, q_gd hnz, q_wr]
    rw [if_neg (show ¬ ¬ nI 4 = 4 by decide)]
    by_cases hr : M 14 0 3 - M 14 0 3 / (nI g + 2) * (nI g + 2) = 0
    · have hw : z_way (M 14 0 3) (nI g) = -1 := by
        unfold z_way
        rw [if_neg hle, if_neg (by simp [hr])]
      rw [if_neg (by simp [hr])]
      simp only [z_dE, z_dN, hw, z_neg1_mul, Int32.neg_neg]
      rfl
    · have hw : z_way (M 14 0 3) (nI g) = 1 := by
        unfold z_way
        rw [if_neg hle, if_pos hr]
      rw [if_pos hr]
      simp only [z_dE, z_dN, hw, z_one_mul]
      rfl
  | 5, _ => rfl
theorem z_rem7 {d : Nat} (h : d < 100100) : nI d - nI d / 7 * 7 = nI (d % 7) := by
  rw [show (7 : Int32) = nI 7 from rfl, pk_rem (by omega) (by omega) (by omega)]
theorem h_drTo {k g dd : Nat} (hk : k < 6) (hg : g < 10) (hd : dd < 100000) (M : gk_M) (hdd : M 14 0 3 = nI dd) : f_X12_driftToday (nI k) (nI g) M = some ((), gk_up (gk_up M 14 0 15 (z_dE k (nI g) (nI dd) (M 15 0 (dd % 7)) (M 15 1 (dd % 7)) (M 15 0 ((dd + 6) % 7)))) 14 0 16 (z_dN k (nI g) (nI dd) (M 15 0 (dd % 7)) (M 15 1 (dd % 7)) (M 15 1 ((dd + 6) % 7)))) := by
  have e6 : nI dd + 6 = nI (dd + 6) := nI_add dd 6
  simp only [f_X12_driftToday, hdd, e6, z_rem7 (show dd < 100100 by omega), z_rem7 (show dd + 6 < 100100 by omega), q_gd (q_in (show dd % 7 < 7 by omega) (by decide)), q_gd (q_in (show (dd + 6) % 7 < 7 by omega) (by decide)), q_cl (show dd % 7 < 2 ^ 31 by omega), q_cl (show (dd + 6) % 7 < 2 ^ 31 by omega), h_drBy hk hg, q_bnd]
theorem h_drAll {N dd : Nat} (hN : N ≤ 6) (hd : dd < 100000) : ∀ (d fuel m : Nat) (M : gk_M), m + d = N → M 14 0 0 = nI N → M 14 0 3 = nI dd → d < fuel → (∀ s, m ≤ s → s < N → (∃ k, k < 6 ∧ M 16 0 s = nI k) ∧ (∃ g, g < 10 ∧ M 16 1 s = nI g)) →
    ∃ M', X12_driftAll_l2 fuel (nI m) M = some ((), M') ∧ (∀ s, m ≤ s → s < N → M' 16 4 s = M 16 4 s + z_dE (M 16 0 s).toNatClampNeg (M 16 1 s) (nI dd) (M 15 0 (dd % 7)) (M 15 1 (dd % 7)) (M 15 0 ((dd + 6) % 7)) ∧ M' 16 5 s = M 16 5 s + z_dN (M 16 0 s).toNatClampNeg (M 16 1 s) (nI dd) (M 15 0 (dd % 7)) (M 15 1 (dd % 7)) (M 15 1 ((dd + 6) % 7))) ∧
      (∀ c i j, ¬ (c = 16 ∧ (i = 4 ∨ i = 5) ∧ m ≤ j ∧ j < N) → ¬ (c = 14 ∧ i = 0 ∧ (j = 15 ∨ j = 16)) → M' c i j = M c i j) := by
  intro d
  induction d with
  | zero =>
    intro fuel m M hm hc hdd hf hq
    obtain ⟨n, rfl⟩ : ∃ n, fuel = n + 1 := ⟨fuel - 1, by omega⟩
    have hcond : M 14 0 0 ≤ nI m := by rw [hc]; exact nI_le (by omega) (by omega)
    refine ⟨M, ?_, fun s h1 h2 => by omega, fun _ _ _ _ _ => rfl⟩
    simp only [X12_driftAll_l2, if_pos hcond]
  | succ d ih =>
    intro fuel m M hm hc hdd hf hq
    obtain ⟨n, rfl⟩ : ∃ n, fuel = n + 1 := ⟨fuel - 1, by omega⟩
    have hcond : ¬ M 14 0 0 ≤ nI m := by rw [hc]; exact nI_ge (by omega) (by omega)
    have hm6 : m < 6 := by omega
    obtain ⟨⟨k, hk, ek⟩, g, hg, eg⟩ := hq m (Nat.le_refl m) (by omega)
    have ekc : (M 16 0 m).toNatClampNeg = k := by rw [ek]; exact q_cl (by omega)
    obtain ⟨E, hE⟩ : ∃ E, E = z_dE k (nI g) (nI dd) (M 15 0 (dd % 7)) (M 15 1 (dd % 7)) (M 15 0 ((dd + 6) % 7)) := ⟨_, rfl⟩
    obtain ⟨F, hF⟩ : ∃ F, F = z_dN k (nI g) (nI dd) (M 15 0 (dd % 7)) (M 15 1 (dd % 7)) (M 15 1 ((dd + 6) % 7)) := ⟨_, rfl⟩
    obtain ⟨M1, hM1⟩ : ∃ M1, M1 = gk_up (gk_up (gk_up (gk_up M 14 0 15 E) 14 0 16 F) 16 4 m (M 16 4 m + E)) 16 5 m (M 16 5 m + F) := ⟨_, rfl⟩
    have un : ∀ c i j, ¬ (c = 16 ∧ (i = 4 ∨ i = 5) ∧ j = m) → ¬ (c = 14 ∧ i = 0 ∧ (j = 15 ∨ j = 16)) → M1 c i j = M c i j := fun c i j a1 a2 => by
      rw [hM1, u_n (by omega), u_n (by omega), u_n (by omega), u_n (by omega)]
    obtain ⟨M', e1, e2, e3⟩ := ih n (m + 1) M1 (by omega) (by rw [un 14 0 0 (by omega) (by omega)]; exact hc) (by rw [un 14 0 3 (by omega) (by omega)]; exact hdd) (by omega) (fun s h1 h2 => by
      rw [un 16 0 s (by omega) (by omega), un 16 1 s (by omega) (by omega)]
      exact hq s (by omega) h2)
    refine ⟨M', ?_, ?_, ?_⟩
    · simp only [X12_driftAll_l2, if_neg hcond, q_gd (q_in hm6 (by decide)), q_cl (show m < 2 ^ 31 by omega), ek, eg, h_drTo hk hg hd M hdd, q_bnd, q_wr, nI_1]
      rw [← hE, ← hF]
      simp only [u_n (show ¬ ((16 : Nat) = 14 ∧ (4 : Nat) = 0 ∧ m = 16) by omega), u_n (show ¬ ((16 : Nat) = 14 ∧ (4 : Nat) = 0 ∧ m = 15) by omega), u_n (show ¬ ((14 : Nat) = 14 ∧ (0 : Nat) = 0 ∧ (15 : Nat) = 16) by omega), u_s, u_n (show ¬ ((16 : Nat) = 16 ∧ (5 : Nat) = 4 ∧ m = m) by omega), u_n (show ¬ ((16 : Nat) = 14 ∧ (5 : Nat) = 0 ∧ m = 16) by omega), u_n (show ¬ ((16 : Nat) = 14 ∧ (5 : Nat) = 0 ∧ m = 15) by omega), u_n (show ¬ ((14 : Nat) = 16 ∧ (0 : Nat) = 4 ∧ (16 : Nat) = m) by omega)]
      rw [← hM1]
      exact e1
    · intro s h1 h2
      rcases Nat.lt_or_ge m s with hs | hs
      · obtain ⟨q1, q2⟩ := e2 s (by omega) h2
        rw [q1, q2, un 16 4 s (by omega) (by omega), un 16 5 s (by omega) (by omega), un 16 0 s (by omega) (by omega), un 16 1 s (by omega) (by omega), un 15 0 _ (by omega) (by omega), un 15 1 _ (by omega) (by omega), un 15 0 _ (by omega) (by omega), un 15 1 _ (by omega) (by omega)]
        exact ⟨rfl, rfl⟩
      · have : s = m := by omega
        subst this
        rw [e3 16 4 s (by omega) (by omega), e3 16 5 s (by omega) (by omega), ekc, eg, ← hE, ← hF, hM1]
        exact ⟨by rw [u_n (by omega), u_s], u_s⟩
    · intro c i j a1 a2
      rw [e3 c i j (by omega) a2, un c i j (by omega) a2]
theorem z_subsub (c b : Int32) : c - (c - b) = b := by grind
theorem z_lkR (c b : Int32) : (if c ≤ b then (0 : Int32) else c - b) = c - z_mn b c ∧ b - (c - (if c ≤ b then (0 : Int32) else c - b)) = b - z_mn b c := by
  unfold z_mn
  by_cases h : c ≤ b
  · rw [if_pos h]
    by_cases h2 : c < b
    · rw [if_pos h2, Int32.sub_self, Int32.sub_zero]; exact ⟨rfl, rfl⟩
    · have : c = b := by rw [z_eq]; rw [z_le] at h; rw [z_lt] at h2; omega
      subst this
      rw [if_neg h2, Int32.sub_self, Int32.sub_zero]; exact ⟨rfl, Int32.sub_self _⟩
  · rw [if_neg h, if_neg (by rw [z_lt]; rw [z_le] at h; omega)]
    exact ⟨rfl, by rw [z_subsub]⟩
theorem h_eat4 {N : Nat} (hN : N ≤ 6) : ∀ (d fuel m : Nat) (acc : Int32) (M : gk_M), m + d = N → M 14 0 0 = nI N → d < fuel →
    ∃ M', X12_eat_l4 fuel acc (nI m) M = some (fN (fun s a => a + z_lk (fun j => M 16 j s)) d m acc, M') ∧ (∀ s, m ≤ s → s < N → M' 16 3 s = M 16 3 s - z_mn (M 16 3 s) (M 16 2 s)) ∧ (∀ c i j, ¬ (c = 16 ∧ i = 3 ∧ m ≤ j ∧ j < N) → M' c i j = M c i j) := by
  intro d
  induction d with
  | zero =>
    intro fuel m acc M hm hc hf
    obtain ⟨n, rfl⟩ : ∃ n, fuel = n + 1 := ⟨fuel - 1, by omega⟩
    have hcond : M 14 0 0 ≤ nI m := by rw [hc]; exact nI_le (by omega) (by omega)
    refine ⟨M, ?_, fun s h1 h2 => by omega, fun _ _ _ _ => rfl⟩
    simp only [X12_eat_l4, if_pos hcond, fN]
  | succ d ih =>
    intro fuel m acc M hm hc hf
    obtain ⟨n, rfl⟩ : ∃ n, fuel = n + 1 := ⟨fuel - 1, by omega⟩
    have hcond : ¬ M 14 0 0 ≤ nI m := by rw [hc]; exact nI_ge (by omega) (by omega)
    have hm6 : m < 6 := by omega
    obtain ⟨k1, k2⟩ := z_lkR (M 16 2 m) (M 16 3 m)
    obtain ⟨M1, hM1⟩ : ∃ M1, M1 = gk_up M 16 3 m (M 16 3 m - z_mn (M 16 3 m) (M 16 2 m)) := ⟨_, rfl⟩
    have un : ∀ c i j, ¬ (c = 16 ∧ i = 3 ∧ j = m) → M1 c i j = M c i j := fun c i j a1 => by rw [hM1, u_n a1]
    obtain ⟨M', e1, e2, e3⟩ := ih n (m + 1) (acc + z_lk (fun j => M 16 j m)) M1 (by omega) (by rw [un 14 0 0 (by omega)]; exact hc) (by omega)
    refine ⟨M', ?_, ?_, ?_⟩
    · have step : X12_eat_l4 (n + 1) acc (nI m) M = X12_eat_l4 n (acc + z_lk (fun j => M 16 j m)) (nI (m + 1)) M1 := by
        simp only [X12_eat_l4, X12_eat_j44, if_neg hcond, q_gd (q_in hm6 (by decide)), q_cl (show m < 2 ^ 31 by omega), q_wr, nI_1]
        rw [hM1, ← k2]
        show _ = X12_eat_l4 n (acc + (M 16 2 m - z_mn (M 16 3 m) (M 16 2 m))) (nI (m + 1)) _
        rw [← k1]
        split <;> rfl
      rw [step, e1]
      refine congrArg (fun x => some (x, M')) ?_
      show _ = fN (fun s a => a + z_lk (fun j => M 16 j s)) d (m + 1) (acc + z_lk (fun j => M 16 j m))
      refine fN_congr d (m + 1) _ (fun s b h1 h2 => ?_)
      rw [z_lk_congr (S := fun j => M1 16 j s) (S' := fun j => M 16 j s) (fun j hj => un 16 j s (by omega))]
    · intro s h1 h2
      rcases Nat.lt_or_ge m s with hs | hs
      · rw [e2 s (by omega) h2, un 16 3 s (by omega), un 16 2 s (by omega)]
      · have : s = m := by omega
        subst this
        rw [e3 16 3 s (by omega), hM1, u_s]
    · intro c i j a1
      rw [e3 c i j (by omega), un c i j (by omega)]
/-- one day of the reference -/
theorem h_day1 {α : Type} {N dd : Nat} {M : gk_M} (h : a_wf (a_r M) N dd) : ∃ M', (∀ F : Int32 → gk_M → Option α, gk_bnd (f_X12_driftAll M) (fun _ M1 => gk_bnd (f_X12_eat M1) (fun r4 M3 => gk_wr M3 14 0 3 (M3 14 0 3 + 1) (fun M5 => F r4 M5))) = F (z_lack (a_r M) N) M') ∧ a_r M' = z_day (a_r M) dd ∧ r_RC M M' := by
  obtain ⟨hN, hc, hdd, h4, hr, hs, hw, hsh⟩ := h
  rw [a_r00] at hc
  rw [a_r01] at hdd
  obtain ⟨M1, e1, e2, e3⟩ := h_drAll hN (show dd < 100000 by omega) N 200 0 M (by omega) hc hdd (by omega) (fun s _ hs => by
    obtain ⟨⟨k, hk, ek⟩, ⟨g, hg, eg⟩, -⟩ := hsh s hs
    rw [a_rs hc hN hs (by decide)] at ek eg
    exact ⟨⟨k, hk, ek⟩, g, hg, eg⟩)
  obtain ⟨M2, f1, f2, f3⟩ := h_eat4 hN N 200 0 0 M1 (by omega) (by rw [e3 14 0 0 (by omega) (by omega)]; exact hc) (by omega)
  have e1 : f_X12_driftAll M = some ((), M1) := e1
  have f1 : f_X12_eat M1 = some (fN (fun s a => a + z_lk (fun j => M1 16 j s)) N 0 0, M2) := f1
  have hlack : fN (fun s a => a + z_lk (fun j => M1 16 j s)) N 0 0 = z_lack (a_r M) N := by
    refine fN_congr N 0 _ (fun s b h1 h2 => ?_)
    have q : z_lk (fun j => M1 16 j s) = z_lk (a_r M (s + 3)) := by
      unfold z_lk
      rw [a_rs hc hN (by omega) (by decide), a_rs hc hN (by omega) (by decide)]
      show M1 16 2 s - z_mn (M1 16 3 s) (M1 16 2 s) = _
      rw [e3 16 2 s (by omega) (by omega), e3 16 3 s (by omega) (by omega)]
    rw [q]
  refine ⟨gk_up M2 14 0 3 (M2 14 0 3 + 1), ?_, ?_, ?_⟩
  · intro F
    rw [e1, q_bnd, f1, q_bnd, q_wr, hlack]
  · have c0 : M2 14 0 0 = M 14 0 0 := by rw [f3 14 0 0 (by omega), e3 14 0 0 (by omega) (by omega)]
    have v : ∀ j, j < 15 → M2 14 0 j = M 14 0 j := fun j hj => by rw [f3 14 0 j (by omega), e3 14 0 j (by omega) (by omega)]
    refine a_ext (by rw [u_n (by omega), c0, a_r00]) (fun j hj => ?_) (fun j hj => ?_) (fun j hj => ?_) (fun s j hs hj => ?_)
    · rcases (show j = 0 ∨ j = 1 ∨ j = 2 ∨ j = 3 ∨ j = 4 by omega) with rfl | rfl | rfl | rfl | rfl
      · show gk_up M2 14 0 3 _ 14 0 0 = a_r M 0 0
        rw [u_n (by omega), v 0 (by decide), a_r00]
      · show gk_up M2 14 0 3 _ 14 0 3 = a_r M 0 1 + 1
        rw [u_s, v 3 (by decide), a_r01]
      · show gk_up M2 14 0 3 _ 14 0 1 = a_r M 0 2
        rw [u_n (by omega), v 1 (by decide), a_r02]
      · show gk_up M2 14 0 3 _ 14 0 2 = a_r M 0 3
        rw [u_n (by omega), v 2 (by decide), a_r03]
      · show gk_up M2 14 0 3 _ 14 0 4 = a_r M 0 4
        rw [u_n (by omega), v 4 (by decide), a_r04]
    · show gk_up M2 14 0 3 _ 15 0 j = a_r M 1 j
      rw [u_n (by omega), f3 15 0 j (by omega), e3 15 0 j (by omega) (by omega), a_r1 hj]
    · show gk_up M2 14 0 3 _ 15 1 j = a_r M 2 j
      rw [u_n (by omega), f3 15 1 j (by omega), e3 15 1 j (by omega) (by omega), a_r2 hj]
    · rw [u_n (by omega), c0, hc, q_cl (by omega)] at hs
      show gk_up M2 14 0 3 _ 16 j s = z_st (a_r M (s + 3)) (nI dd) (a_r M 1 (dd % 7)) (a_r M 2 (dd % 7)) (a_r M 1 ((dd + 6) % 7)) (a_r M 2 ((dd + 6) % 7)) j
      rw [u_n (by omega), a_r1 (by omega), a_r2 (by omega), a_r1 (by omega), a_r2 (by omega), z_st_congr (S := a_r M (s + 3)) (S' := fun j => M 16 j s) (fun j hj => a_rs hc hN hs hj) hj]
      rcases (show j = 0 ∨ j = 1 ∨ j = 2 ∨ j = 3 ∨ j = 4 ∨ j = 5 by omega) with rfl | rfl | rfl | rfl | rfl | rfl
      · show M2 16 0 s = M 16 0 s
        rw [f3 16 0 s (by omega), e3 16 0 s (by omega) (by omega)]
      · show M2 16 1 s = M 16 1 s
        rw [f3 16 1 s (by omega), e3 16 1 s (by omega) (by omega)]
      · show M2 16 2 s = M 16 2 s
        rw [f3 16 2 s (by omega), e3 16 2 s (by omega) (by omega)]
      · show M2 16 3 s = M 16 3 s - z_mn (M 16 3 s) (M 16 2 s)
        rw [f2 s (by omega) hs, e3 16 3 s (by omega) (by omega), e3 16 2 s (by omega) (by omega)]
      · rw [f3 16 4 s (by omega), (e2 s (by omega) hs).1]
        rfl
      · rw [f3 16 5 s (by omega), (e2 s (by omega) hs).2]
        rfl
  · intro c i j hn
    unfold r_st at hn
    rw [u_n (by omega), f3 c i j (by omega), e3 c i j (by omega) (by omega)]
/-- the hunger of d days to come, on top of acc -/
def z_hs (A : a_S) (dd N : Nat) : Nat → Int32 → Int32
  | 0, acc => acc
  | d + 1, acc => z_hs (z_day A dd) (dd + 1) N d (acc + z_lack A N)
theorem z_days_sh (A : a_S) (dd : Nat) : ∀ n, z_days (z_day A dd) (dd + 1) n = z_days A dd (n + 1)
  | 0 => rfl
  | n + 1 => by
    show z_day (z_days (z_day A dd) (dd + 1) n) (dd + 1 + n) = z_day (z_days A dd (n + 1)) (dd + (n + 1))
    rw [z_days_sh A dd n, show dd + 1 + n = dd + (n + 1) by omega]
theorem h_daysL {N : Nat} {n : Nat} (hn : n ≤ 60) : ∀ (d fuel m dd : Nat) (acc : Int32) (M : gk_M), m + d = n → d < fuel → dd + d ≤ 10100 → a_wf (a_r M) N dd →
    ∃ M', X12_daysOn_l4 fuel (nI n) acc (nI m) M = some (z_hs (a_r M) dd N d acc, M') ∧ a_r M' = z_days (a_r M) dd d ∧ r_RC M M' := by
  intro d
  induction d with
  | zero =>
    intro fuel m dd acc M hm hf hd hw
    obtain ⟨k, rfl⟩ : ∃ k, fuel = k + 1 := ⟨fuel - 1, by omega⟩
    refine ⟨M, ?_, rfl, r_RC.rf⟩
    simp only [X12_daysOn_l4, if_pos (show nI n ≤ nI m from nI_le (by omega) (by omega)), z_hs]
  | succ d ih =>
    intro fuel m dd acc M hm hf hd hw
    obtain ⟨k, rfl⟩ : ∃ k, fuel = k + 1 := ⟨fuel - 1, by omega⟩
    obtain ⟨M1, e1, e2, e3⟩ := h_day1 (α := Int32 × gk_M) hw
    have hw1 : a_wf (a_r M1) N (dd + 1) := by rw [e2]; exact hw.day (by omega)
    obtain ⟨M', f1, f2, f3⟩ := ih k (m + 1) (dd + 1) (acc + z_lack (a_r M) N) M1 (by omega) (by omega) (by omega) hw1
    refine ⟨M', ?_, ?_, e3.tr f3⟩
    · simp only [X12_daysOn_l4, if_neg (show ¬ nI n ≤ nI m from nI_ge (by omega) (by omega)), nI_1]
      rw [e1, f1, e2]
      rfl
    · rw [f2, e2, z_days_sh]
theorem h_daysOn {N n dd : Nat} (hn : n ≤ 60) {M : gk_M} (hd : dd + n ≤ 10100) (hw : a_wf (a_r M) N dd) : ∃ M', f_X12_daysOn (nI n) M = some (z_hs (a_r M) dd N n 0, M') ∧ a_r M' = z_days (a_r M) dd n ∧ r_RC M M' :=
  h_daysL hn n 200 0 dd 0 M (by omega) (by omega) hd hw
theorem h_dayR {N dd : Nat} {M : gk_M} (hd : dd + 1 ≤ 10100) (hw : a_wf (a_r M) N dd) : ∃ M' r, f_X12_daysOn 1 M = some (r, M') ∧ a_r M' = z_day (a_r M) dd ∧ r_RC M M' := by
  obtain ⟨M', e1, e2, e3⟩ := h_daysOn (n := 1) (by omega) hd hw
  exact ⟨M', _, e1, e2, e3⟩
theorem a_wf.cntR {N dd : Nat} {M : gk_M} (h : a_wf (a_r M) N dd) : M 14 0 0 = nI N := by
  have hc := h.2.1
  rwa [a_r00] at hc
/-! how far, the reference's way -/
theorem z_apart {a b : Int32} (ha : -200000 ≤ a.toInt ∧ a.toInt ≤ 200000) (hb : -200000 ≤ b.toInt ∧ b.toInt ≤ 200000) : (if b ≤ a then a - b else b - a) = z_ab (a - b) := by
  unfold z_ab
  have e1 : (a - b).toInt = a.toInt - b.toInt := z_sub (by omega) (by omega)
  have e2 : (b - a).toInt = b.toInt - a.toInt := z_sub (by omega) (by omega)
  have e0 : (0 : Int32).toInt = 0 := rfl
  by_cases h : b ≤ a
  · rw [if_pos h, if_pos]
    rw [z_le] at h ⊢
    omega
  · rw [if_neg h, if_neg]
    · rw [z_eq, z_neg (by omega)]; omega
    · rw [z_le] at h ⊢
      omega
theorem h_apart {a b : Int32} {M : gk_M} (ha : -200000 ≤ a.toInt ∧ a.toInt ≤ 200000) (hb : -200000 ≤ b.toInt ∧ b.toInt ≤ 200000) : f_X12_apart a b M = some (z_ab (a - b), M) := by
  rw [← z_apart ha hb]
  unfold f_X12_apart
  split <;> rfl
theorem z_mxR {x y : Int32} : (if x ≤ y then y else x) = z_mx x y := by
  unfold z_mx
  by_cases h : x < y
  · rw [if_pos h, if_pos (by rw [z_le]; rw [z_lt] at h; omega)]
  · rw [if_neg h]
    by_cases h2 : x ≤ y
    · rw [if_pos h2, z_eq]; rw [z_le] at h2; rw [z_lt] at h; omega
    · rw [if_neg h2]
theorem a_wf.pos {A : a_S} {N dd s : Nat} (h : a_wf A N dd) (hs : s < N) : (-200000 ≤ (A (s + 3) 4).toInt ∧ (A (s + 3) 4).toInt ≤ 200000) ∧ (-200000 ≤ (A (s + 3) 5).toInt ∧ (A (s + 3) 5).toInt ≤ 200000) := by
  obtain ⟨hN, hc, hdd, h4, hr, hsi, hw, hsh⟩ := h
  obtain ⟨-, -, -, -, hx, hy⟩ := hsh s hs
  omega
theorem h_far {N dd : Nat} {M : gk_M} (hw : a_wf (a_r M) N dd) {a b : Nat} (ha : a < N) (hb : b < N) : f_X12_farBetween (nI a) (nI b) M = some (z_gp (a_r M) a b, M) := by
  have hc := hw.cntR
  have hN := hw.1
  have pa := hw.pos ha
  have pb := hw.pos hb
  rw [a_rs hc hN ha (by decide), a_rs hc hN ha (by decide)] at pa
  rw [a_rs hc hN hb (by decide), a_rs hc hN hb (by decide)] at pb
  simp only [f_X12_farBetween, q_gd (q_in (show a < 6 by omega) (by decide)), q_gd (q_in (show b < 6 by omega) (by decide)), q_cl (show a < 2 ^ 31 by omega), q_cl (show b < 2 ^ 31 by omega), h_apart pa.1 pb.1, h_apart pa.2 pb.2, q_bnd]
  unfold z_gp z_gq
  rw [a_rs hc hN ha (by decide), a_rs hc hN ha (by decide), a_rs hc hN hb (by decide), a_rs hc hN hb (by decide), ← z_mxR]
  split <;> rfl
