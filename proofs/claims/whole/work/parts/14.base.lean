/-! PURE PART: rows for the decompiled functions -/
theorem q_gd {α : Type} {b : Bool} {X : Option α} (h : b = true) : gk_gd b X = X := by subst h; rfl
theorem q_bnd {α β : Type} {a : α} {M : gk_M} {f : α → gk_M → Option β} : gk_bnd (some (a, M)) f = f a M := rfl
theorem q_wr {α : Type} {M : gk_M} {c i j : Nat} {v : Int32} {f : gk_M → Option α} : gk_wr M c i j v f = f (gk_up M c i j v) := rfl
theorem q_lt {i n : Nat} (h : i < n) : gk_lt i n = true := decide_eq_true h
theorem q_in {m n : Nat} (h : m < n) (hn : n < 2 ^ 31) : gk_in (nI m) n = true := by
  have h1 : (0 : Int32) ≤ nI m := nI_pos' (by omega)
  have h2 : (nI m).toNatClampNeg = m := nI_clamp (by omega)
  simp [gk_in, h1, h2, h]
theorem q_b0 : gk_b 0 = true := rfl
theorem q_b1 : gk_b 1 = true := rfl
theorem q_cl {m : Nat} (h : m < 2 ^ 31) : Int32.toNatClampNeg (nI m) = m := nI_clamp h
theorem u_s {M : gk_M} {c i j : Nat} {v : Int32} : gk_up M c i j v c i j = v := by simp [gk_up]
theorem u_n {M : gk_M} {c i j c' i' j' : Nat} {v : Int32} (h : ¬ (c' = c ∧ i' = i ∧ j' = j)) : gk_up M c i j v c' i' j' = M c' i' j' := by simp only [gk_up, if_neg h]
/-! ints by their values -/
theorem z_le {a b : Int32} : a ≤ b ↔ a.toInt ≤ b.toInt := Int32.le_iff_toInt_le
theorem z_lt {a b : Int32} : a < b ↔ a.toInt < b.toInt := Int32.lt_iff_toInt_lt
theorem z_eq {a b : Int32} : a = b ↔ a.toInt = b.toInt := Int32.toInt_inj.symm
theorem z_lo (x : Int32) : -2147483648 ≤ x.toInt := Int32.le_toInt x
theorem z_hi (x : Int32) : x.toInt < 2147483648 := Int32.toInt_lt x
theorem z_bm {x : Int} (h1 : -2147483648 ≤ x) (h2 : x < 2147483648) : x.bmod (2 ^ 32) = x := by
  rw [Int.bmod_def]
  split <;> omega
theorem z_add {a b : Int32} (h1 : -2147483648 ≤ a.toInt + b.toInt) (h2 : a.toInt + b.toInt < 2147483648) : (a + b).toInt = a.toInt + b.toInt := by
  rw [Int32.toInt_add]; exact z_bm h1 h2
theorem z_sub {a b : Int32} (h1 : -2147483648 ≤ a.toInt - b.toInt) (h2 : a.toInt - b.toInt < 2147483648) : (a - b).toInt = a.toInt - b.toInt := by
  rw [Int32.toInt_sub]; exact z_bm h1 h2
theorem z_neg {a : Int32} (h1 : -2147483647 ≤ a.toInt) : (-a).toInt = -a.toInt := by
  rw [Int32.toInt_neg]; exact z_bm (by have := z_hi a; omega) (by omega)
theorem z_mul {a b : Int32} (h1 : -2147483648 ≤ a.toInt * b.toInt) (h2 : a.toInt * b.toInt < 2147483648) : (a * b).toInt = a.toInt * b.toInt := by
  rw [Int32.toInt_mul]; exact z_bm h1 h2
theorem z_div {a b : Int32} (h : b ≠ -1) : (a / b).toInt = a.toInt.tdiv b.toInt := Int32.toInt_div_of_ne_right a b h
theorem z_n {n : Nat} (h : n < 2 ^ 31) : (nI n).toInt = (n : Int) := nI_toInt h
theorem z_of {x : Int32} {n : Nat} (h0 : 0 ≤ x.toInt) (h1 : x.toInt ≤ n) : ∃ j : Nat, j ≤ n ∧ x = nI j := by
  refine ⟨x.toInt.toNat, by omega, ?_⟩
  have := z_hi x
  rw [z_eq, z_n (by omega)]
  omega
theorem fa_xor' (a b : Nat) : nI a ^^^ nI b = nI (a ^^^ b) := by
  apply Int32.toBitVec_inj.mp
  show BitVec.ofNat 32 a ^^^ BitVec.ofNat 32 b = BitVec.ofNat 32 (a ^^^ b)
  apply BitVec.eq_of_getLsbD_eq
  intro i hi
  simp [hi, Nat.testBit_xor]
/-! a counted loop -/
def fN {σ : Type} (f : Nat → σ → σ) : Nat → Nat → σ → σ
  | 0, _, a => a
  | n + 1, i, a => fN f n (i + 1) (f i a)
theorem fN_congr {σ : Type} {f g : Nat → σ → σ} : ∀ (n i : Nat) (a : σ), (∀ k b, i ≤ k → k < i + n → f k b = g k b) → fN f n i a = fN g n i a
  | 0, _, _, _ => rfl
  | n + 1, i, a, h => by
    show fN f n (i + 1) (f i a) = fN g n (i + 1) (g i a)
    rw [h i a (Nat.le_refl i) (by omega)]
    exact fN_congr n (i + 1) _ (fun k b h1 h2 => h k b (by omega) (by omega))
theorem fN_inv {σ : Type} {f : Nat → σ → σ} (P : Nat → σ → Prop) : ∀ (n i : Nat) (a : σ), P i a → (∀ k b, i ≤ k → k < i + n → P k b → P (k + 1) (f k b)) → P (i + n) (fN f n i a)
  | 0, _, _, h, _ => h
  | n + 1, i, a, h, hs => by
    have := fN_inv P n (i + 1) (f i a) (hs i a (Nat.le_refl i) (by omega) h) (fun k b h1 h2 hb => hs k b (by omega) (by omega) hb)
    rw [show i + (n + 1) = i + 1 + n by omega]
    exact this
/-! what the systems compute -/
def z_ab (x : Int32) : Int32 := if 0 ≤ x then x else -x
def z_mx (x y : Int32) : Int32 := if x < y then y else x
def z_mn (x y : Int32) : Int32 := if y < x then y else x
def z_sg (v : Int32) : Int32 := if v ≤ 0 then (if 0 ≤ v then 0 else -1) else 1
def z_way (day fig : Int32) : Int32 := if fig + 2 ≤ 0 then 1 else if ¬ day - day / (fig + 2) * (fig + 2) = 0 then 1 else -1
theorem h_abs {x : Int32} {M : gk_M} : f_J9_abs_0f7a4 x M = some (z_ab x, M) := by
  unfold f_J9_abs_0f7a4 z_ab; split <;> rfl
theorem h_max {x y : Int32} {M : gk_M} : f_J9_max_7cf53 x y M = some (z_mx x y, M) := by
  unfold f_J9_max_7cf53 z_mx; split <;> rfl
theorem h_min {x y : Int32} {M : gk_M} : f_J9_min_7cf53 x y M = some (z_mn x y, M) := by
  unfold f_J9_min_7cf53 z_mn; split <;> rfl
theorem h_sign {x : Int32} {M : gk_M} : f_X2_sign x M = some (z_sg x, M) := by
  unfold f_X2_sign z_sg; split <;> (try split) <;> rfl
/-- how a kind drifts to the east, to the north -/
def z_dE (k : Nat) (fig day e n le : Int32) : Int32 := match k with
  | 0 => e
  | 1 => e / 2
  | 2 => -n
  | 3 => le
  | 4 => z_way day fig * -n
  | _ => e / 2 + fig * z_sg e
def z_dN (k : Nat) (fig day e n ln : Int32) : Int32 := match k with
  | 0 => n
  | 1 => n / 2
  | 2 => e
  | 3 => ln
  | 4 => z_way day fig * e
  | _ => n / 2
theorem h_way {d f : Int32} {M : gk_M} : f_X9_way d f M = some (z_way d f, M) := by
  unfold f_X9_way z_way
  by_cases h : f + 2 ≤ 0
  · simp [h]; try rfl
  · have h0 : ¬ f + 2 = 0 := fun q => h (by rw [q]; decide)
    simp only [h, if_false]
    rw [q_gd (by simp [gk_nz, h0])]
    split <;> rfl
theorem h_drE {k : Nat} (hk : k < 6) {g : Int32} {M : gk_M} : f_Dr_eastward k g M = some (z_dE k g (M 0 0 0) (M 0 0 1) (M 0 0 2) (M 0 0 3), M) := by
  match k, hk with
  | 0, _ => rfl
  | 1, _ => rfl
  | 2, _ => rfl
  | 3, _ => rfl
  | 4, _ => simp only [f_Dr_eastward, f_X9_eastward, f_X10_eastward, f_X1_northward, q_gd (q_lt (show 4 < 6 by decide)), h_way, q_bnd, z_dE]
  | 5, _ => simp only [f_Dr_eastward, f_X2_eastward, f_X3_eastward, f_X1_eastward, q_gd (q_lt (show 5 < 6 by decide)), h_sign, q_bnd, z_dE]
theorem h_drN {k : Nat} (hk : k < 6) {g : Int32} {M : gk_M} : f_Dr_northward k g M = some (z_dN k g (M 0 0 0) (M 0 0 1) (M 0 0 2) (M 0 0 4), M) := by
  match k, hk with
  | 0, _ => rfl
  | 1, _ => rfl
  | 2, _ => rfl
  | 3, _ => rfl
  | 4, _ => simp only [f_Dr_northward, f_X9_northward, f_X10_northward, f_X1_eastward, q_gd (q_lt (show 4 < 6 by decide)), h_way, q_bnd, z_dN]
  | 5, _ => rfl
