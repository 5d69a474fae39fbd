theorem w_nearest (x y n wh : Int32) {M : gk_M} (h : i_ok M) : i_same Int32 (f_X11_nearest x y n wh) (f_X12_nearest x y n wh) M := by
  obtain ⟨N, dd, hd, hw, hc, hN, c0, r0, hwc⟩ := h.get
  by_cases q : ∃ a b, a < N ∧ b < N ∧ a ≠ b ∧ x = nI a ∧ y = nI b
  · obtain ⟨a, b, ha, hb, hab, rfl, rfl⟩ := q
    have bad : ∀ (v : Int32) (q : Nat), v = -nI q → 0 < q → q < 7 → ¬ v = 0 → ¬ 0 ≤ v → ((¬ 0 ≤ n ∧ v = -4) ∨ (0 ≤ n ∧ ¬ n ≤ 60 ∧ v = -6)) → i_same Int32 (f_X11_nearest (nI a) (nI b) n wh) (f_X12_nearest (nI a) (nI b) n wh) M := fun v q hv h0 h7 hz hneg hn => by
      have hr : (if (0 : Int32) ≤ n then if n ≤ 60 then (0 : Int32) else -6 else -4) = v := by
        rcases hn with ⟨p1, rfl⟩ | ⟨p1, p2, rfl⟩
        · rw [if_neg p1]
        · rw [if_pos p1, if_neg p2]
      refine i_refuse h hv h0 h7 ?_ ?_
      · obtain ⟨z, hz2⟩ := h_othE wh 1 M
        rw [f_X11_nearest, h_twoT hN c0 ha hb hab, q_bnd, h_rng, hr, q_bnd, hz2, q_bnd, h_fstN hz, q_bnd, h_fst0, q_bnd, if_neg hz]; exact q_ret
      · intro M1 hE
        rw [f_X12_nearest, q_wr, h_are2T hN (hE.th.cnt r0) ha hb hab, q_bnd, if_neg (by decide), h_wd, hr, q_bnd, X12_nearest_j24, if_pos hz, X12_nearest_j47, X12_nearest_j49, if_neg hneg]; exact q_ret
    rcases z_n60 n 60 60 rfl (by decide) with ⟨n', hn, rfl, y0, y1⟩ | y0 | ⟨y0, y1⟩
    · rcases z_what wh 1 1 rfl with ⟨w1, w2, w3⟩ | ⟨w1, w2⟩
      · obtain ⟨M1, e1, e2, e3⟩ := h_copyW (k := 1) (o := 0) (by decide) (by decide) (by decide) hwc
        have hw1 : a_wf (a_c 1 M1) N dd := by rw [e2]; exact hwc
        obtain ⟨M2, f1, f2⟩ := h_nrC hn ha hb (wh := wh) n' 200 1 dd 0 (z_gp (a_r M) a b) M1 (by omega) (by omega) (by omega) hw1
        have ch := e3.tr f2
        obtain ⟨g1, g2, g3⟩ := i_open hw ch
        have hwo : a_wf (a_r (c_T 0 55 (gk_up M2 14 0 13 0))) N dd := by rw [g1]; exact hw
        obtain ⟨M3, k1, k2⟩ := h_nrR hn ha hb (wh := wh) n' 200 1 dd 0 (z_gp (a_r M) a b) (c_T 0 55 (gk_up M2 14 0 13 0)) (by omega) (by omega) (by omega) hwo
        rw [g1] at k1
        rw [e2, hc] at f1
        have c01 : M1 2 0 3 = nI N := by rw [e3 2 0 3 (by omega) (by omega) (by omega) (by omega)]; exact c0
        have ac0 : a_c 0 M1 = a_r M := by rw [e3.ice (by decide) c0 hN]; exact hc
        refine i_mind h (M1 := M2) (M2 := M3) ?_ ch k2 ?_ (r := if ¬ wh = 0 then (z_nr a b n' (a_r M) dd 1 0 (z_gp (a_r M) a b)).2 else (z_nr a b n' (a_r M) dd 1 0 (z_gp (a_r M) a b)).1)
        · rw [f_X11_nearest, h_twoT hN c0 ha hb hab, q_bnd, h_rng, if_pos y0, if_pos y1, q_bnd, h_othT w1 w2, q_bnd, h_fst0, q_bnd, h_fst0, q_bnd, if_pos rfl, e1, q_bnd, h_gap (by decide) hN c01 ha hb, q_bnd, ac0]
          exact f1
        · rw [f_X12_nearest, q_wr, h_are2T hN g2 ha hb hab, q_bnd, if_neg (by decide), h_wd, if_pos y0, if_pos y1, q_bnd, X12_nearest_j24, if_neg (by decide), h_inT w3, q_bnd, if_pos (by decide), X12_nearest_j47, X12_nearest_j49, if_pos (by decide), h_open, q_bnd, h_far hwo ha hb, q_bnd, g1]
          exact k1
      · refine i_refuse h (q := 2) (x := -2) rfl (by decide) (by decide) ?_ ?_
        · rw [f_X11_nearest, h_twoT hN c0 ha hb hab, q_bnd, h_rng, if_pos y0, if_pos y1, q_bnd, h_othF w1, q_bnd, h_fst0, q_bnd, h_fst0, q_bnd, if_neg (by decide)]; exact q_ret
        · intro M1 hE
          rw [f_X12_nearest, q_wr, h_are2T hN (hE.th.cnt r0) ha hb hab, q_bnd, if_neg (by decide), h_wd, if_pos y0, if_pos y1, q_bnd, X12_nearest_j24, if_neg (by decide), h_inF w2, q_bnd, if_neg (by decide), X12_nearest_j49, if_neg (by decide)]; exact q_ret
    · exact bad (-4) 4 rfl (by decide) (by decide) (by decide) (by decide) (Or.inl ⟨y0, rfl⟩)
    · exact bad (-6) 6 rfl (by decide) (by decide) (by decide) (by decide) (Or.inr ⟨y0, y1, rfl⟩)
  · refine i_refuse h (q := 1) (x := -1) rfl (by decide) (by decide) ?_ ?_
    · obtain ⟨z, hz⟩ := h_rngE n 0 60 M
      obtain ⟨z2, hz2⟩ := h_othE wh 1 M
      rw [f_X11_nearest, h_twoF hN c0 q, q_bnd, hz, q_bnd, hz2, q_bnd, h_fst, q_bnd, h_fstN (by decide), q_bnd, if_neg (by decide)]; exact q_ret
    · intro M1 hE
      rw [f_X12_nearest, q_wr, h_are2F hN (hE.th.cnt r0) q, q_bnd, if_pos rfl, X12_nearest_j24, if_pos (by decide), X12_nearest_j47, X12_nearest_j49, if_neg (by decide)]; exact q_ret
/-! sets of ships as numbers -/
theorem b_or' (a b : Nat) : nI a ||| nI b = nI (a ||| b) := by
  apply Int32.toBitVec_inj.mp
  show BitVec.ofNat 32 a ||| BitVec.ofNat 32 b = BitVec.ofNat 32 (a ||| b)
  apply BitVec.eq_of_getLsbD_eq
  intro i hi
  simp [hi, Nat.testBit_or]
theorem b_and' (a b : Nat) : nI a &&& nI b = nI (a &&& b) := by
  apply Int32.toBitVec_inj.mp
  show BitVec.ofNat 32 a &&& BitVec.ofNat 32 b = BitVec.ofNat 32 (a &&& b)
  apply BitVec.eq_of_getLsbD_eq
  intro i hi
  simp [hi, Nat.testBit_and]
theorem b_one : ∀ i, i < 7 → (1 : Int32) <<< (nI i &&& 31) = nI (2 ^ i) := by decide
theorem b_has : ∀ w, w < 64 → ∀ i, i < 6 → ((nI w &&& (1 : Int32) <<< (nI i &&& 31) = 0) ↔ w.testBit i = false) ∧ (((nI w >>> (nI i &&& 31)) &&& 1 = 1) ↔ w.testBit i = true) := by decide +kernel
/-- one lead on -/
def z_ld (e : Nat → Nat → Bool) (N w : Nat) : Nat := fN (fun i b => fN (fun j b => if (w.testBit i && e i j) = true then b ||| 2 ^ j else b) N 0 b) N 0 w
theorem z_ld_in (c : Nat → Bool) (t : Nat) : ∀ (n m b : Nat), (fN (fun j b => if c j = true then b ||| 2 ^ j else b) n m b).testBit t = (b.testBit t || (decide (m ≤ t ∧ t < m + n) && c t))
  | 0, m, b => by
    show b.testBit t = _
    rw [decide_eq_false (by omega)]
    simp
  | n + 1, m, b => by
    show (fN _ n (m + 1) (if c m = true then b ||| 2 ^ m else b)).testBit t = _
    rw [z_ld_in c t n (m + 1)]
    by_cases h : t = m
    · subst h
      rw [decide_eq_false (by omega), decide_eq_true (by omega)]
      by_cases hc : c t = true
      · rw [if_pos hc, Nat.testBit_or, Nat.testBit_two_pow_self, hc]; simp
      · rw [if_neg hc]
        simp only [Bool.not_eq_true] at hc
        rw [hc]; simp
    · have e : decide (m + 1 ≤ t ∧ t < m + 1 + n) = decide (m ≤ t ∧ t < m + (n + 1)) := decide_eq_decide.mpr (by omega)
      rw [e]
      by_cases hc : c m = true
      · rw [if_pos hc, Nat.testBit_or, Nat.testBit_two_pow_of_ne (Ne.symm h)]; simp
      · rw [if_neg hc]
def z_any (c : Nat → Bool) : Nat → Nat → Bool
  | 0, _ => false
  | n + 1, m => c m || z_any c n (m + 1)
theorem z_any_congr {c c' : Nat → Bool} : ∀ (n m : Nat), (∀ i, m ≤ i → i < m + n → c i = c' i) → z_any c n m = z_any c' n m
  | 0, _, _ => rfl
  | n + 1, m, h => by
    show (c m || z_any c n (m + 1)) = (c' m || z_any c' n (m + 1))
    rw [h m (Nat.le_refl m) (by omega), z_any_congr n (m + 1) (fun i h1 h2 => h i (by omega) (by omega))]
theorem z_any_iff {c : Nat → Bool} : ∀ (n m : Nat), z_any c n m = true ↔ ∃ i, m ≤ i ∧ i < m + n ∧ c i = true
  | 0, m => ⟨fun h => Bool.noConfusion (show false = true from h), fun ⟨i, h1, h2, _⟩ => absurd h1 (by omega)⟩
  | n + 1, m => by
    show (c m || z_any c n (m + 1)) = true ↔ _
    rw [Bool.or_eq_true, z_any_iff n (m + 1)]
    constructor
    · rintro (h | ⟨i, h1, h2, h3⟩)
      · exact ⟨m, Nat.le_refl m, by omega, h⟩
      · exact ⟨i, by omega, by omega, h3⟩
    · rintro ⟨i, h1, h2, h3⟩
      by_cases q : i = m
      · subst q; exact Or.inl h3
      · exact Or.inr ⟨i, by omega, by omega, h3⟩
theorem z_ld_out (e : Nat → Nat → Bool) (N w t : Nat) : ∀ (n m b : Nat), (fN (fun i b => fN (fun j b => if (w.testBit i && e i j) = true then b ||| 2 ^ j else b) N 0 b) n m b).testBit t = (b.testBit t || (decide (t < N) && z_any (fun i => w.testBit i && e i t) n m))
  | 0, m, b => by
    show b.testBit t = _
    simp [z_any]
  | n + 1, m, b => by
    show (fN _ n (m + 1) (fN _ N 0 b)).testBit t = _
    rw [z_ld_out e N w t n (m + 1), z_ld_in (fun j => w.testBit m && e m j) t N 0 b]
    show (b.testBit t || decide (0 ≤ t ∧ t < 0 + N) && (w.testBit m && e m t) || decide (t < N) && z_any (fun i => w.testBit i && e i t) n (m + 1)) = (b.testBit t || decide (t < N) && (w.testBit m && e m t || z_any (fun i => w.testBit i && e i t) n (m + 1)))
    have e0 : decide (0 ≤ t ∧ t < 0 + N) = decide (t < N) := decide_eq_decide.mpr (by omega)
    rw [e0]
    cases b.testBit t <;> cases decide (t < N) <;> cases (w.testBit m && e m t) <;> rfl
theorem z_ld_bit (e : Nat → Nat → Bool) (N w t : Nat) : (z_ld e N w).testBit t = (w.testBit t || (decide (t < N) && z_any (fun i => w.testBit i && e i t) N 0)) := z_ld_out e N w t N 0 w
theorem z_ld_eq {e e' : Nat → Nat → Bool} {N w : Nat} (h : ∀ i j, i < N → j < N → i ≠ j → e i j = e' i j) : z_ld e N w = z_ld e' N w := by
  apply Nat.eq_of_testBit_eq
  intro t
  rw [z_ld_bit, z_ld_bit]
  by_cases ht : t < N
  · rw [decide_eq_true ht]
    cases hw : w.testBit t with
    | true => rfl
    | false =>
      rw [z_any_congr N 0 (fun i _ hi => ?_)]
      by_cases q : i = t
      · subst q; rw [hw]; rfl
      · rw [h i t (by omega) ht q]
  · rw [decide_eq_false ht]; rfl
theorem z_ld_lt {e : Nat → Nat → Bool} {N w : Nat} (hw : w < 2 ^ N) : z_ld e N w < 2 ^ N := by
  apply Nat.lt_pow_two_of_testBit
  intro t ht
  rw [z_ld_bit, decide_eq_false (by omega), Nat.testBit_lt_two_pow (Nat.lt_of_lt_of_le hw (Nat.pow_le_pow_right (by decide) ht))]
  rfl
def z_e (A : a_S) (i j : Nat) : Bool := decide (¬ A 0 2 < z_gp A i j)
