/-! lost -/
theorem z_ab_sy {x y : Int32} (hx : -200000 ≤ x.toInt ∧ x.toInt ≤ 200000) (hy : -200000 ≤ y.toInt ∧ y.toInt ≤ 200000) : z_ab (x - y) = z_ab (y - x) := by
  rw [← z_apart hx hy, ← z_apart hy hx]
  by_cases h1 : y ≤ x
  · rw [if_pos h1]
    by_cases h2 : x ≤ y
    · rw [if_pos h2]
      have : x = y := by rw [z_eq]; rw [z_le] at h1 h2; omega
      rw [this]
    · rw [if_neg h2]
  · rw [if_neg h1, if_pos (by rw [z_le] at h1 ⊢; omega)]
theorem z_gp_sy {A : a_S} {N dd a b : Nat} (h : a_wf A N dd) (ha : a < N) (hb : b < N) : z_gp A a b = z_gp A b a := by
  have pa := h.pos ha
  have pb := h.pos hb
  unfold z_gp z_gq
  rw [z_ab_sy pa.1 pb.1, z_ab_sy pa.2 pb.2]
def z_se (A : a_S) (i j : Nat) : Bool := decide (j ≠ i) && decide (¬ A 0 3 < z_gp A j i)
theorem h_seenL {k N i : Nat} (hk : k < 3) {M : gk_M} (hN : N ≤ 6) (hc : M 2 k 3 = nI N) (hi : i < N) : ∀ (d fuel j : Nat), j + d = N → d < fuel →
    X4_isSeen_l2 fuel k (nI i) (nI j) M = some (if z_any (z_se (a_c k M) i) d j = true then 1 else 0, M) := by
  intro d
  induction d with
  | zero =>
    intro fuel j hj hf
    obtain ⟨n, rfl⟩ : ∃ n, fuel = n + 1 := ⟨fuel - 1, by omega⟩
    have hcond : M 2 k 3 ≤ nI j := by rw [hc]; exact nI_le (by omega) (by omega)
    rw [X4_isSeen_l2]
    dsimp only
    rw [q_gd (q_lt hk), if_pos hcond, q_gd q_b0, z_any, if_neg (by decide)]
  | succ d ih =>
    intro fuel j hj hf
    obtain ⟨n, rfl⟩ : ∃ n, fuel = n + 1 := ⟨fuel - 1, by omega⟩
    have hcond : ¬ M 2 k 3 ≤ nI j := by rw [hc]; exact nI_ge (by omega) (by omega)
    have hr : M 2 k 6 = a_c k M 0 3 := (a_c0 (j := 3) (by decide)).symm
    rw [X4_isSeen_l2]
    dsimp only
    rw [q_gd (q_lt hk), if_neg hcond, z_any]
    by_cases e : j = i
    · subst e
      rw [if_pos rfl, X4_isSeen_j30, q_gd (q_lt hk), nI_1, ih n (j + 1) (by omega) (by omega)]
      have : z_se (a_c k M) j j = false := by simp [z_se]
      rw [this, Bool.false_or]
    · have en : ¬ nI j = nI i := fun q => e ((nI_eq (by omega) (by omega)).mp q)
      rw [if_neg en, h_gap hk hN hc (show j < N by omega) hi, q_bnd, hr]
      by_cases g : a_c k M 0 3 < z_gp (a_c k M) j i
      · rw [if_pos g, X4_isSeen_j30, q_gd (q_lt hk), nI_1, ih n (j + 1) (by omega) (by omega)]
        have : z_se (a_c k M) i j = false := by simp [z_se, g]
        rw [this, Bool.false_or]
      · rw [if_neg g, q_gd q_b1]
        have : z_se (a_c k M) i j = true := by simp [z_se, g, e]
        rw [this, Bool.true_or, if_pos rfl]
theorem h_lostC {N : Nat} {M : gk_M} (hN : N ≤ 6) (hc : M 2 0 3 = nI N) : ∀ (d fuel i b : Nat), i + d = N → d < fuel →
    X11_lost_l4 fuel (nI b) (nI i) M = some (nI (fN (fun i b => if z_any (z_se (a_c 0 M) i) N 0 = true then b else b ||| 2 ^ i) d i b), M) := by
  intro d
  induction d with
  | zero =>
    intro fuel i b hi hf
    obtain ⟨n, rfl⟩ : ∃ n, fuel = n + 1 := ⟨fuel - 1, by omega⟩
    have hcond : M 2 0 3 ≤ nI i := by rw [hc]; exact nI_le (by omega) (by omega)
    simp only [X11_lost_l4, if_pos hcond, fN]
  | succ d ih =>
    intro fuel i b hi hf
    obtain ⟨n, rfl⟩ : ∃ n, fuel = n + 1 := ⟨fuel - 1, by omega⟩
    have hcond : ¬ M 2 0 3 ≤ nI i := by rw [hc]; exact nI_ge (by omega) (by omega)
    rw [X11_lost_l4]
    dsimp only
    rw [if_neg hcond, f_X4_isSeen, q_gd (q_lt (by decide)), show (0 : Int32) = nI 0 from rfl, h_seenL (show 0 < 3 by decide) hN hc (show i < N by omega) N 200 0 (by omega) (by omega), q_bnd]
    rw [show fN (fun i b => if z_any (z_se (a_c 0 M) i) N 0 = true then b else b ||| 2 ^ i) (d + 1) i b = fN (fun i b => if z_any (z_se (a_c 0 M) i) N 0 = true then b else b ||| 2 ^ i) d (i + 1) (if z_any (z_se (a_c 0 M) i) N 0 = true then b else b ||| 2 ^ i) from rfl]
    by_cases g : z_any (z_se (a_c 0 M) i) N 0 = true
    · rw [if_pos g, if_pos g, if_pos (by decide), X11_lost_j32, nI_1, ih n (i + 1) b (by omega) (by omega)]
    · rw [if_neg g, if_neg g, if_neg (by decide), X11_lost_j32, nI_1, b_one i (by omega), b_or', ih n (i + 1) _ (by omega) (by omega)]
theorem h_lostR22 {N dd i b : Nat} {M : gk_M} (hw : a_wf (a_r M) N dd) (hi : i < N) {κ : Int32 → Int32 → gk_M → Option (Int32 × gk_M)} : ∀ (d fuel j : Nat) (fl : Bool), j + d = N → d < fuel →
    X12_lost_l22 κ fuel (nI b) (nI i) (if fl = true then 1 else 0) (nI j) M = κ (nI (if (fl && !z_any (z_se (a_r M) i) d j) = true then b ||| 2 ^ i else b)) (nI (i + 1)) M := by
  have hN := hw.1
  have hc := hw.cntR
  intro d
  induction d with
  | zero =>
    intro fuel j fl hj hf
    obtain ⟨n, rfl⟩ : ∃ n, fuel = n + 1 := ⟨fuel - 1, by omega⟩
    have hcond : M 14 0 0 ≤ nI j := by rw [hc]; exact nI_le (by omega) (by omega)
    rw [X12_lost_l22]
    dsimp only
    rw [if_pos hcond]
    cases fl with
    | true => rw [if_neg (by decide), X12_lost_j79, b_one i (by omega), b_or', nI_1]; rfl
    | false =>
      rw [if_pos (by decide), X12_lost_j79, show (0 : Int32) = nI 0 from rfl, b_or', nI_1, Nat.or_zero]; rfl
  | succ d ih =>
    intro fuel j fl hj hf
    obtain ⟨n, rfl⟩ : ∃ n, fuel = n + 1 := ⟨fuel - 1, by omega⟩
    have hcond : ¬ M 14 0 0 ≤ nI j := by rw [hc]; exact nI_ge (by omega) (by omega)
    rw [X12_lost_l22]
    dsimp only
    rw [if_neg hcond, z_any]
    have ih0 := ih n (j + 1) false (by omega) (by omega)
    have ih1 := ih n (j + 1) true (by omega) (by omega)
    rw [if_neg (show ¬ false = true by decide)] at ih0
    rw [if_pos (show true = true from rfl)] at ih1
    cases fl with
    | false => rw [if_pos (by decide), X12_lost_j59, X12_lost_j60, nI_1, ih0]; rfl
    | true =>
      rw [if_neg (by decide)]
      by_cases e : i = j
      · subst e
        have : z_se (a_r M) i i = false := by simp [z_se]
        rw [if_pos rfl, X12_lost_j55, X12_lost_j60, nI_1, ih1, this, Bool.false_or]
      · have en : ¬ nI i = nI j := fun q => e ((nI_eq (by omega) (by omega)).mp q)
        rw [if_neg en, h_far hw hi (show j < N by omega), q_bnd, ← a_r03 (M := M), z_gp_sy hw hi (show j < N by omega)]
        by_cases g : a_r M 0 3 < z_gp (a_r M) j i
        · have g' : ¬ z_gp (a_r M) j i ≤ a_r M 0 3 := by rw [z_le]; rw [z_lt] at g; omega
          have : z_se (a_r M) i j = false := by simp [z_se, g]
          rw [if_neg g', X12_lost_j55, X12_lost_j60, nI_1, ih1, this, Bool.false_or]
        · have g' : z_gp (a_r M) j i ≤ a_r M 0 3 := by rw [z_le]; rw [z_lt] at g; omega
          have : z_se (a_r M) i j = true := by simp [z_se, g, Ne.symm e]
          rw [if_pos g', X12_lost_j59, X12_lost_j60, nI_1, ih0, this]; rfl
theorem h_lostR {N dd : Nat} {M : gk_M} (hw : a_wf (a_r M) N dd) : ∀ (d fuel i b : Nat), i + d = N → d < fuel →
    X12_lost_l9 fuel (nI b) (nI i) M = some (nI (fN (fun i b => if z_any (z_se (a_r M) i) N 0 = true then b else b ||| 2 ^ i) d i b), M) := by
  have hN := hw.1
  have hc := hw.cntR
  intro d
  induction d with
  | zero =>
    intro fuel i b hi hf
    obtain ⟨n, rfl⟩ : ∃ n, fuel = n + 1 := ⟨fuel - 1, by omega⟩
    have hcond : M 14 0 0 ≤ nI i := by rw [hc]; exact nI_le (by omega) (by omega)
    simp only [X12_lost_l9, if_pos hcond, fN]
  | succ d ih =>
    intro fuel i b hi hf
    obtain ⟨n, rfl⟩ : ∃ n, fuel = n + 1 := ⟨fuel - 1, by omega⟩
    have hcond : ¬ M 14 0 0 ≤ nI i := by rw [hc]; exact nI_ge (by omega) (by omega)
    have l := h_lostR22 (b := b) hw (show i < N by omega) (κ := X12_lost_l9 n) N 200 0 true (by omega) (by omega)
    rw [if_pos (show true = true from rfl)] at l
    rw [X12_lost_l9]
    dsimp only
    rw [if_neg hcond, show X12_lost_l22 (X12_lost_l9 n) 200 (nI b) (nI i) 1 0 M = _ from l, ih n (i + 1) _ (by omega) (by omega)]
    rw [show fN (fun i b => if z_any (z_se (a_r M) i) N 0 = true then b else b ||| 2 ^ i) (d + 1) i b = fN (fun i b => if z_any (z_se (a_r M) i) N 0 = true then b else b ||| 2 ^ i) d (i + 1) (if z_any (z_se (a_r M) i) N 0 = true then b else b ||| 2 ^ i) from rfl]
    cases z_any (z_se (a_r M) i) N 0 <;> rfl
theorem w_lost {M : gk_M} (h : i_ok M) : i_same Int32 f_X11_lost f_X12_lost M := by
  obtain ⟨N, dd, hd, hw, hc, hN, c0, r0, hwc⟩ := h.get
  have hw' : a_wf (a_r (gk_up M 14 0 13 0)) N dd := by rw [i_th.st r0 hN]; exact hw
  refine i_read h (r := nI (fN (fun i b => if z_any (z_se (a_r M) i) N 0 = true then b else b ||| 2 ^ i) N 0 0)) ?_ ?_
  · rw [f_X11_lost, ← hc]
    exact h_lostC hN c0 N 200 0 0 (by omega) (by omega)
  · rw [f_X12_lost, q_wr, ← i_th.st r0 hN]
    exact h_lostR hw' N 200 0 0 (by omega) (by omega)
/-! hungry: what n days lack, ship by ship -/
def sN (f : Nat → Nat) : Nat → Nat → Nat
  | 0, _ => 0
  | n + 1, m => f m + sN f n (m + 1)
theorem sN_congr {f g : Nat → Nat} : ∀ (n m : Nat), (∀ i, m ≤ i → i < m + n → f i = g i) → sN f n m = sN g n m
  | 0, _, _ => rfl
  | n + 1, m, h => by rw [sN, sN, h m (Nat.le_refl m) (by omega), sN_congr n (m + 1) (fun i h1 h2 => h i (by omega) (by omega))]
theorem sN_add {f g : Nat → Nat} : ∀ (n m : Nat), sN f n m + sN g n m = sN (fun i => f i + g i) n m
  | 0, _ => rfl
  | n + 1, m => by rw [sN, sN, sN, ← sN_add n (m + 1)]; omega
theorem sN_I {f : Nat → Nat} {F : Nat → Int32} : ∀ (n m a : Nat), (∀ i, m ≤ i → i < m + n → F i = nI (f i)) → fN (fun s a => a + F s) n m (nI a) = nI (a + sN f n m)
  | 0, _, _, _ => rfl
  | n + 1, m, a, h => by
    show fN _ n (m + 1) (nI a + F m) = _
    rw [h m (Nat.le_refl m) (by omega), nI_add, sN_I n (m + 1) _ (fun i h1 h2 => h i (by omega) (by omega)), sN]
    congr 1; omega
theorem z_lkN {c b : Nat} (hc : c < 1000) (hb : b < 1000) : nI c - z_mn (nI b) (nI c) = nI (c - b) ∧ nI b - z_mn (nI b) (nI c) = nI (b - c) := by
  unfold z_mn
  by_cases q : nI c < nI b
  · rw [if_pos q]
    rw [nI_ltI (by omega) (by omega)] at q
    rw [pk_sub (by omega), pk_sub (by omega), show c - c = c - b by omega]
    exact ⟨rfl, rfl⟩
  · rw [if_neg q]
    rw [nI_ltI (by omega) (by omega)] at q
    rw [pk_sub (by omega), pk_sub (by omega), show b - b = b - c by omega]
    exact ⟨rfl, rfl⟩
theorem h_eatN {N : Nat} (hN : N ≤ 6) {c b : Nat → Nat} {M : gk_M} (hc : M 14 0 0 = nI N) (h : ∀ s, s < N → c s < 1000 ∧ b s < 1000 ∧ M 16 2 s = nI (c s) ∧ M 16 3 s = nI (b s)) :
    ∃ M', f_X12_eat M = some (nI (sN (fun s => c s - b s) N 0), M') ∧ (∀ s, s < N → M' 16 3 s = nI (b s - c s)) ∧ (∀ c i j, ¬ (c = 16 ∧ i = 3 ∧ j < N) → M' c i j = M c i j) := by
  obtain ⟨M', e1, e2, e3⟩ := h_eat4 hN N 200 0 (nI 0) M (by omega) hc (by omega)
  refine ⟨M', ?_, ?_, ?_⟩
  · rw [f_X12_eat]
    rw [show X12_eat_l4 200 0 0 M = X12_eat_l4 200 (nI 0) (nI 0) M from rfl, e1, sN_I (f := fun s => c s - b s) N 0 0 (fun s _ hs => ?_), Nat.zero_add]
    obtain ⟨q1, q2, q3, q4⟩ := h s (by omega)
    show M 16 2 s - z_mn (M 16 3 s) (M 16 2 s) = _
    rw [q3, q4]
    exact (z_lkN q1 q2).1
  · intro s hs
    obtain ⟨q1, q2, q3, q4⟩ := h s hs
    rw [e2 s (by omega) hs, q3, q4]
    exact (z_lkN q1 q2).2
  · intro c i j q
    exact e3 c i j (by omega)
theorem h_hgL {N n : Nat} (hN : N ≤ 6) (hn : n ≤ 60) {c : Nat → Nat} : ∀ (d fuel m acc : Nat) (b : Nat → Nat) (M : gk_M), m + d = n → d < fuel → M 14 0 0 = nI N → (∀ s, s < N → c s < 1000 ∧ b s < 1000 ∧ M 16 2 s = nI (c s) ∧ M 16 3 s = nI (b s)) →
    ∃ M', X12_hungryIn_l4 fuel (nI n) (nI acc) (nI m) M = some (nI (acc + sN (fun s => d * c s - b s) N 0), M') ∧ r_RC M M' := by
  intro d
  induction d with
  | zero =>
    intro fuel m acc b M hm hf hc h
    obtain ⟨k, rfl⟩ : ∃ k, fuel = k + 1 := ⟨fuel - 1, by omega⟩
    refine ⟨M, ?_, r_RC.rf⟩
    rw [X12_hungryIn_l4]
    dsimp only
    rw [if_pos (show nI n ≤ nI m from nI_le (by omega) (by omega)), sN_congr (g := fun _ => 0) N 0 (fun i _ _ => by rw [Nat.zero_mul, Nat.zero_sub])]
    have : ∀ n m, sN (fun _ => 0) n m = 0 := fun n => by
      induction n with
      | zero => intro m; rfl
      | succ n ih => intro m; rw [sN, ih]
    rw [this, Nat.add_zero]
  | succ d ih =>
    intro fuel m acc b M hm hf hc h
    obtain ⟨k, rfl⟩ : ∃ k, fuel = k + 1 := ⟨fuel - 1, by omega⟩
    obtain ⟨M1, e1, e2, e3⟩ := h_eatN hN hc h
    obtain ⟨M', f1, f2⟩ := ih k (m + 1) (acc + sN (fun s => c s - b s) N 0) (fun s => b s - c s) M1 (by omega) (by omega) (by rw [e3 _ _ _ (by omega)]; exact hc) (fun s hs => ⟨(h s hs).1, by have := (h s hs).2.1; show b s - c s < 1000; omega, by rw [e3 _ _ _ (by omega)]; exact (h s hs).2.2.1, e2 s hs⟩)
    refine ⟨M', ?_, r_RC.tr (fun c i j q => e3 c i j (by unfold r_st at q; omega)) f2⟩
    rw [X12_hungryIn_l4]
    dsimp only
    rw [if_neg (show ¬ nI n ≤ nI m from nI_ge (by omega) (by omega)), e1, q_bnd, nI_add, nI_1, f1, Nat.add_assoc, sN_add]
    rw [sN_congr (g := fun s => (d + 1) * c s - b s) N 0 (fun s _ _ => ?_)]
    rw [Nat.succ_mul]
    show c s - b s + (d * c s - (b s - c s)) = _
    omega
theorem z_mx0 {n c b : Nat} (hn : n ≤ 60) (hc : c < 1000) (hb : b < 1000) : z_mx 0 (nI n * nI c - nI b) = nI (n * c - b) := by
  have hnc : n * c ≤ 60 * 1000 := Nat.mul_le_mul hn (by omega)
  rw [pk_mul]
  unfold z_mx
  have e : (nI (n * c) - nI b).toInt = (n * c : Nat) - (b : Int) := by
    rw [z_sub (by rw [z_n (by omega), z_n (by omega)]; omega) (by rw [z_n (by omega), z_n (by omega)]; omega), z_n (by omega), z_n (by omega)]
  have e0 : (0 : Int32).toInt = 0 := rfl
  by_cases q : b < n * c
  · rw [if_pos (by rw [z_lt, e, e0]; omega), pk_sub (by omega)]
  · rw [if_neg (by rw [z_lt, e, e0]; omega), show n * c - b = 0 by omega]; rfl
theorem h_hgC {k N n : Nat} (hk : k < 3) (hN : N ≤ 6) (hn : n ≤ 60) {c b : Nat → Nat} {M : gk_M} (hc : M 2 k 3 = nI N) (h : ∀ s, s < N → c s < 1000 ∧ b s < 1000 ∧ M 5 (6 * k + s) 2 = nI (c s) ∧ M 5 (6 * k + s) 3 = nI (b s)) : ∀ (d fuel m acc : Nat), m + d = N → d < fuel →
    X4_hungerToCome_l4 fuel k (nI n) (nI acc) (nI m) M = some (nI (acc + sN (fun s => n * c s - b s) d m), M) := by
  intro d
  induction d with
  | zero =>
    intro fuel m acc hm hf
    obtain ⟨q, rfl⟩ : ∃ q, fuel = q + 1 := ⟨fuel - 1, by omega⟩
    have hcond : M 2 k 3 ≤ nI m := by rw [hc]; exact nI_le (by omega) (by omega)
    rw [X4_hungerToCome_l4]
    dsimp only
    rw [q_gd (q_lt hk), if_pos hcond, sN, Nat.add_zero]
  | succ d ih =>
    intro fuel m acc hm hf
    obtain ⟨q, rfl⟩ : ∃ q, fuel = q + 1 := ⟨fuel - 1, by omega⟩
    have hcond : ¬ M 2 k 3 ≤ nI m := by rw [hc]; exact nI_ge (by omega) (by omega)
    obtain ⟨q1, q2, q3, q4⟩ := h m (by omega)
    rw [X4_hungerToCome_l4]
    dsimp only
    rw [q_gd (q_lt hk), if_neg hcond, q_gd (q_in (show m < 6 by omega) (by decide)), q_gd (q_in (show m < 6 by omega) (by decide)), q_cl (show m < 2 ^ 31 by omega), q3, q4, h_max, q_bnd, z_mx0 hn q1 q2, nI_add, nI_1, ih q (m + 1) _ (by omega) (by omega), sN, Nat.add_assoc]
/-- crews and bread as numbers -/
theorem a_wf.cb {A : a_S} {N dd : Nat} (h : a_wf A N dd) : ∃ c b : Nat → Nat, ∀ s, s < N → c s < 10 ∧ b s < 1000 ∧ A (s + 3) 2 = nI (c s) ∧ A (s + 3) 3 = nI (b s) := by
  refine ⟨fun s => (A (s + 3) 2).toNatClampNeg, fun s => (A (s + 3) 3).toNatClampNeg, fun s hs => ?_⟩
  obtain ⟨-, -, ⟨c, hc, ec⟩, ⟨b, hb, eb⟩, -⟩ := h.2.2.2.2.2.2.2 s hs
  show (A (s + 3) 2).toNatClampNeg < 10 ∧ (A (s + 3) 3).toNatClampNeg < 1000 ∧ A (s + 3) 2 = nI (A (s + 3) 2).toNatClampNeg ∧ A (s + 3) 3 = nI (A (s + 3) 3).toNatClampNeg
  rw [ec, eb, q_cl (by omega), q_cl (by omega)]
  exact ⟨hc, hb, rfl, rfl⟩
theorem w_hungry (x : Int32) {M : gk_M} (h : i_ok M) : i_same Int32 (f_X11_hungry x) (f_X12_hungry x) M := by
  obtain ⟨N, dd, hd, hw, hc, hN, c0, r0, hwc⟩ := h.get
  rcases z_n60 x 60 60 rfl (by decide) with ⟨n, hn, rfl, y0, y1⟩ | y0 | ⟨y0, y1⟩
  · obtain ⟨c, b, cb⟩ := hw.cb
    obtain ⟨g1, g2, g3⟩ := i_open hw (M1 := M) a_Ch.rf
    have hwo : a_wf (a_r (c_T 0 55 (gk_up M 14 0 13 0))) N dd := by rw [g1]; exact hw
    obtain ⟨M3, k1, k2⟩ := h_hgL (N := N) (n := n) hN hn (c := c) n 200 0 0 b (c_T 0 55 (gk_up M 14 0 13 0)) (by omega) (by omega) hwo.cntR (fun s hs => by
      obtain ⟨q1, q2, q3, q4⟩ := cb s hs
      rw [← g1, a_rs hwo.cntR hN hs (by decide)] at q3
      rw [← g1, a_rs hwo.cntR hN hs (by decide)] at q4
      exact ⟨by omega, q2, q3, q4⟩)
    rw [Nat.zero_add] at k1
    refine i_mind h (M1 := M) (M2 := M3) ?_ a_Ch.rf k2 ?_ (r := nI (sN (fun s => n * c s - b s) N 0))
    · rw [f_X11_hungry, h_rng, if_pos y0, if_pos y1, q_bnd, if_pos rfl, f_X4_hungerToCome, q_gd (q_lt (by decide))]
      have := h_hgC (k := 0) (by decide) hN hn (c := c) (b := b) c0 (fun s hs => by
        obtain ⟨q1, q2, q3, q4⟩ := cb s hs
        rw [← hc, a_cs c0 hN hs (by decide)] at q3
        rw [← hc, a_cs c0 hN hs (by decide)] at q4
        exact ⟨by omega, q2, q3, q4⟩) N 200 0 0 (by omega) (by omega)
      rw [show X4_hungerToCome_l4 200 0 (nI n) 0 0 M = _ from this, q_bnd, Nat.zero_add]
    · rw [f_X12_hungry, q_wr, h_wd, if_pos y0, if_pos y1, q_bnd, if_pos (by decide), h_open, q_bnd, f_X12_hungryIn]
      rw [show X12_hungryIn_l4 200 (nI n) 0 0 (c_T 0 55 (gk_up M 14 0 13 0)) = _ from k1, q_bnd, h_close, q_bnd]
  · refine i_refuse h (q := 4) (x := -4) rfl (by decide) (by decide) ?_ ?_
    · rw [f_X11_hungry, h_rng, if_neg y0, q_bnd, if_neg (by decide)]; exact q_ret
    · intro M1 hE
      rw [f_X12_hungry, q_wr, h_wd, if_neg y0, q_bnd, if_neg (by decide)]; exact q_ret
  · refine i_refuse h (q := 6) (x := -6) rfl (by decide) (by decide) ?_ ?_
    · rw [f_X11_hungry, h_rng, if_pos y0, if_neg y1, q_bnd, if_neg (by decide)]; exact q_ret
    · intro M1 hE
      rw [f_X12_hungry, q_wr, h_wd, if_pos y0, if_neg y1, q_bnd, if_neg (by decide)]; exact q_ret
