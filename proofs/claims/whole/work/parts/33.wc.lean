/-! share -/
theorem z_mnN {m x : Nat} (hm : m < 2 ^ 31) (hx : x < 2 ^ 31) : z_mn (nI m) (nI x) = nI (min m x) := by
  unfold z_mn
  by_cases q : nI x < nI m
  · rw [if_pos q]; rw [nI_ltI hx hm] at q; rw [show min m x = x by omega]
  · rw [if_neg q]; rw [nI_ltI hx hm] at q; rw [show min m x = m by omega]
theorem h_held {m x : Nat} {M : gk_M} (hm : m < 2 ^ 31) (hx : x < 2 ^ 31) : f_X12_held (nI x) (nI m) M = some (nI (min m x), M) := by
  rw [f_X12_held]
  by_cases q : nI x ≤ nI m
  · rw [if_pos q]; rw [nI_leI hx hm] at q; rw [show min m x = x by omega]
  · rw [if_neg q]; rw [nI_leI hx hm] at q; rw [show min m x = m by omega]
def z_sec (al ca cb : Nat) : Nat := if ca + cb = 0 then al / 2 else al * cb / (ca + cb)
theorem z_sec_le {al ca cb : Nat} : z_sec al ca cb ≤ al := by
  unfold z_sec
  by_cases q : ca + cb = 0
  · rw [if_pos q]; omega
  · rw [if_neg q]
    apply Nat.div_le_of_le_mul
    rw [Nat.mul_comm]
    exact Nat.mul_le_mul (by omega) (Nat.le_refl al)
theorem h_deal {a b ca cb ba bb : Nat} (ha : a < 18) (hb : b < 18) (hca : ca < 10) (hcb : cb < 10) (hba : ba < 1000) (hbb : bb < 1000) {M : gk_M} (e1 : M 5 a 2 = nI ca) (e2 : M 5 b 2 = nI cb) (e3 : M 5 a 3 = nI ba) (e4 : M 5 b 3 = nI bb) :
    f_X11_deal a b M = some ((), gk_up (gk_up M 5 a 3 (nI (min 999 (ba + bb - z_sec (ba + bb) ca cb)))) 5 b 3 (nI (min 999 (z_sec (ba + bb) ca cb)))) := by
  have hs := z_sec_le (al := ba + bb) (ca := ca) (cb := cb)
  have fin : X11_deal_j38 a b (nI (ba + bb)) (nI (z_sec (ba + bb) ca cb)) M = some ((), gk_up (gk_up M 5 a 3 (nI (min 999 (ba + bb - z_sec (ba + bb) ca cb)))) 5 b 3 (nI (min 999 (z_sec (ba + bb) ca cb)))) := by
    rw [X11_deal_j38, q_gd (q_lt ha), q_gd (q_lt hb), h_min, q_bnd, pk_sub hs, show (999 : Int32) = nI 999 from rfl, z_mnN (by decide) (by omega), q_wr, h_min, q_bnd, z_mnN (by decide) (by omega), q_wr]
  rw [f_X11_deal, q_gd (q_lt ha), q_gd (q_lt hb), e1, e2, e3, e4, nI_add, nI_add]
  by_cases q : ca + cb = 0
  · have hz : z_sec (ba + bb) ca cb = (ba + bb) / 2 := if_pos q
    rw [if_pos (by rw [q]; decide), show (2 : Int32) = nI 2 from rfl, pk_div (by omega) (by decide) (by decide), ← hz]
    exact fin
  · have hz : z_sec (ba + bb) ca cb = (ba + bb) * cb / (ca + cb) := if_neg q
    have hm : (ba + bb) * cb ≤ 2000 * 10 := Nat.mul_le_mul (by omega) (by omega)
    rw [if_neg (nI_nle (by omega) (by omega)), q_gd (by simp [gk_nz, nI_ne0 (show 0 < ca + cb by omega) (by omega)]), pk_mul, pk_div (by omega) (by omega) (by omega), ← hz]
    exact fin
theorem h_sh112 {a b al sec : Nat} (ha : a < 6) (hb : b < 6) (hab : a ≠ b) (hal : al < 2000) (hs : sec ≤ al) {s0 : Int32} {M : gk_M} :
    X12_share_j112 (nI a) (nI b) (nI al) (nI sec) s0 M = some (nI (min 999 (al - sec)), gk_up (gk_up M 16 3 a (nI (min 999 (al - sec)))) 16 3 b (nI (min 999 sec))) := by
  rw [X12_share_j112, show s0 + (nI al - s0 - nI sec) = nI al - nI sec by grind, pk_sub hs, show (999 : Int32) = nI 999 from rfl, h_held (by decide) (by omega), q_bnd, q_gd (q_in ha (by decide)), q_wr, h_held (by decide) (by omega), q_bnd, q_gd (q_in hb (by decide)), q_wr, q_gd (q_in ha (by decide)), q_cl (show a < 2 ^ 31 by omega), q_cl (show b < 2 ^ 31 by omega), u_n (by omega), u_s]
theorem a_wf.bread {A : a_S} {N dd s v : Nat} (h : a_wf A N dd) (hv : v < 1000) : a_wf (z_set A (s + 3) 3 (nI v)) N dd := by
  obtain ⟨hN, hc, hdd, h4, hr, hs, hw, hsh⟩ := h
  refine ⟨hN, by rw [zs_n (by omega)]; exact hc, by rw [zs_n (by omega)]; exact hdd, h4, by rw [zs_n (by omega)]; exact hr, by rw [zs_n (by omega)]; exact hs, fun d hd => ?_, fun t ht => ?_⟩
  · unfold a_wd
    rw [zs_n (by omega), zs_n (by omega)]
    exact hw d hd
  · unfold a_sh
    rw [zs_n (by omega), zs_n (by omega), zs_n (by omega), zs_n (j := 4) (by omega), zs_n (j := 5) (by omega)]
    obtain ⟨p1, p2, p3, p4, p5⟩ := hsh t ht
    refine ⟨p1, p2, p3, ?_, p5⟩
    by_cases q : t = s
    · subst q; rw [zs_s]; exact ⟨v, hv, rfl⟩
    · rw [zs_n (by omega)]; exact p4
theorem w_share (x y : Int32) {M : gk_M} (h : i_ok M) : i_same Int32 (f_X11_share x y) (f_X12_share x y) M := by
  obtain ⟨N, dd, hd, hw, hc, hN, c0, r0, hwc⟩ := h.get
  by_cases q : ∃ a b, a < N ∧ b < N ∧ a ≠ b ∧ x = nI a ∧ y = nI b
  · obtain ⟨a, b, ha, hb, hab, rfl, rfl⟩ := q
    have ha6 : a < 6 := by omega
    have hb6 : b < 6 := by omega
    have hw' : a_wf (a_r (gk_up M 14 0 13 0)) N dd := by rw [i_th.st r0 hN]; exact hw
    by_cases g : z_gp (a_r M) a b ≤ 1
    · obtain ⟨c, bd, cb⟩ := hw.cb
      obtain ⟨qa1, qa2, qa3, qa4⟩ := cb a ha
      obtain ⟨qb1, qb2, qb3, qb4⟩ := cb b hb
      rw [a_rs r0 hN ha (by decide)] at qa3 qa4
      rw [a_rs r0 hN hb (by decide)] at qb3 qb4
      have hs := z_sec_le (al := bd a + bd b) (ca := c a) (cb := c b)
      obtain ⟨v1, hv1⟩ : ∃ v1, v1 = min 999 (bd a + bd b - z_sec (bd a + bd b) (c a) (c b)) := ⟨_, rfl⟩
      obtain ⟨v2, hv2⟩ : ∃ v2, v2 = min 999 (z_sec (bd a + bd b) (c a) (c b)) := ⟨_, rfl⟩
      have b1 : v1 < 1000 := by omega
      have b2 : v2 < 1000 := by omega
      have dl := h_deal (a := a) (b := b) (by omega) (by omega) qa1 qb1 qa2 qb2 (M := M) (by rw [i_crs hc c0 r0 hN ha (by decide)]; exact qa3) (by rw [i_crs hc c0 r0 hN hb (by decide)]; exact qb3) (by rw [i_crs hc c0 r0 hN ha (by decide)]; exact qa4) (by rw [i_crs hc c0 r0 hN hb (by decide)]; exact qb4)
      rw [← hv1, ← hv2] at dl
      refine ⟨nI v1, gk_up (gk_up M 5 a 3 (nI v1)) 5 b 3 (nI v2), gk_up (gk_up (gk_up (gk_up (gk_up M 5 a 3 (nI v1)) 5 b 3 (nI v2)) 14 0 13 0) 16 3 a (nI v1)) 16 3 b (nI v2), ?_, ?_, ?_⟩
      · rw [f_X11_share, h_twoT hN c0 ha hb hab, q_bnd, if_pos rfl, h_gap (by decide) hN c0 ha hb, q_bnd, hc, if_pos g, q_gd (q_in ha6 (by decide)), q_gd (q_in hb6 (by decide)), q_cl (show a < 2 ^ 31 by omega), q_cl (show b < 2 ^ 31 by omega), show 6 * 0 + a = a by omega, show 6 * 0 + b = b by omega, dl, q_bnd, q_gd (q_in ha6 (by decide)), u_n (by omega), u_s]
      · have e : ∀ c i j, c ≠ 5 → (gk_up (gk_up (gk_up M 5 a 3 (nI v1)) 5 b 3 (nI v2)) 14 0 13 0) c i j = (gk_up M 14 0 13 0) c i j := fun c i j q => by
          by_cases z : c = 14 ∧ i = 0 ∧ j = 13
          · obtain ⟨rfl, rfl, rfl⟩ := z; rw [u_s, u_s]
          · rw [u_n z, u_n (by omega), u_n (by omega), u_n z]
        have r1 : (gk_up (gk_up (gk_up M 5 a 3 (nI v1)) 5 b 3 (nI v2)) 14 0 13 0) 14 0 0 = nI N := by rw [e _ _ _ (by decide)]; exact hw'.cntR
        have ar : a_r (gk_up (gk_up (gk_up M 5 a 3 (nI v1)) 5 b 3 (nI v2)) 14 0 13 0) = a_r M := by
          rw [← i_th.st r0 hN]
          exact keepR hN hw'.cntR (fun c i j q => e c i j (by omega))
        have d16 : ∀ i j, (gk_up (gk_up (gk_up M 5 a 3 (nI v1)) 5 b 3 (nI v2)) 14 0 13 0) 16 i j = M 16 i j := fun i j => by rw [e _ _ _ (by decide), u_n (by omega)]
        have fin : ∀ s0, X12_share_j112 (nI a) (nI b) (nI (bd a + bd b)) (nI (z_sec (bd a + bd b) (c a) (c b))) s0 (gk_up (gk_up (gk_up M 5 a 3 (nI v1)) 5 b 3 (nI v2)) 14 0 13 0) = some (nI v1, gk_up (gk_up (gk_up (gk_up (gk_up M 5 a 3 (nI v1)) 5 b 3 (nI v2)) 14 0 13 0) 16 3 a (nI v1)) 16 3 b (nI v2)) := fun s0 => by
          rw [h_sh112 ha6 hb6 hab (by omega) hs, ← hv1, ← hv2]
        rw [f_X12_share, q_wr, h_are2T hN r1 ha hb hab, q_bnd, if_pos (by decide), h_far (by rw [ar]; exact hw) ha hb, q_bnd, ar, if_pos g, q_gd (q_in ha6 (by decide)), q_gd (q_in hb6 (by decide)), q_gd (q_in ha6 (by decide)), q_gd (q_in hb6 (by decide)), q_cl (show a < 2 ^ 31 by omega), q_cl (show b < 2 ^ 31 by omega), d16, d16, d16, d16, qa3, qa4, qb3, qb4, nI_add, nI_add]
        by_cases z : c a + c b = 0
        · have hz : z_sec (bd a + bd b) (c a) (c b) = (bd a + bd b) / 2 := if_pos z
          have z0 : nI (c a + c b) = 0 := by rw [z]; rfl
          rw [if_neg (fun w => w z0), show (2 : Int32) = nI 2 from rfl, pk_div (by omega) (by decide) (by decide), ← hz, X12_share_j88, if_neg (fun w => w z0)]
          exact fin _
        · have hz : z_sec (bd a + bd b) (c a) (c b) = (bd a + bd b) * c b / (c a + c b) := if_neg z
          have z0 : ¬ nI (c a + c b) = 0 := nI_ne0 (by omega) (by omega)
          have hm : (bd a + bd b) * c b ≤ 2000 * 10 := Nat.mul_le_mul (by omega) (by omega)
          rw [if_pos z0, q_gd (q_in hb6 (by decide)), q_gd (by simp [gk_nz, z0]), pk_mul, pk_div (by omega) (by omega) (by omega), ← hz, X12_share_j88, if_pos z0, q_gd (q_in ha6 (by decide)), q_gd (by simp [gk_nz, z0])]
          exact fin _
      · have ac : a_c 0 (gk_up (gk_up M 5 a 3 (nI v1)) 5 b 3 (nI v2)) = z_set (z_set (a_r M) (a + 3) 3 (nI v1)) (b + 3) 3 (nI v2) := by
          rw [← hc, ← a_c_up c0 hN (r0 := a + 3) (j0 := 3) (v := nI v1) (Or.inr (Or.inr ⟨by omega, by omega, by decide⟩)) (by omega)]
          exact a_c_up (M := gk_up M 5 a 3 (nI v1)) (by rw [u_n (by omega)]; exact c0) hN (r0 := b + 3) (j0 := 3) (v := nI v2) (Or.inr (Or.inr ⟨by omega, by omega, by decide⟩)) (by omega)
        refine h.becomes (A := z_set (z_set (a_r M) (a + 3) 3 (nI v1)) (b + 3) 3 (nI v2)) ?_ ?_ ?_ ?_ ((hw.bread b1).bread b2) hd
        · exact ((((i_F.up (n2_5 (by omega))).tr (i_F.up (n2_5 (by omega)))).tr (i_F.up (n2_14 (by omega)))).tr (i_F.up (n2_r (by omega)))).tr (i_F.up (n2_r (by omega)))
        · intro j hj
          exact ⟨by rw [u_n (by omega), u_n (by omega), u_n (by omega), u_n (by omega), u_n (by omega)], by rw [u_n (by omega), u_n (by omega), u_n (by omega), u_n (by omega), u_n (by omega)]⟩
        · rw [← ac]
          exact keepC hN (by rw [u_n (by omega), u_n (by omega)]; exact c0) (fun c i j q => by rw [u_n (by omega), u_n (by omega), u_n (by omega)])
        · have e3 : a_r (gk_up (gk_up (gk_up M 5 a 3 (nI v1)) 5 b 3 (nI v2)) 14 0 13 0) = a_r M := keepR hN r0 (fun c i j q => by rw [u_n (by omega), u_n (by omega), u_n (by omega)])
          rw [← e3, ← a_r_up (by rw [u_n (by omega), u_n (by omega), u_n (by omega)]; exact r0) hN (r0 := a + 3) (j0 := 3) (v := nI v1) (Or.inr (Or.inr ⟨by omega, by omega, by decide⟩)) (by omega)]
          exact a_r_up (M := gk_up (gk_up (gk_up (gk_up M 5 a 3 (nI v1)) 5 b 3 (nI v2)) 14 0 13 0) 16 3 a (nI v1)) (by rw [u_n (by omega), u_n (by omega), u_n (by omega), u_n (by omega)]; exact r0) hN (r0 := b + 3) (j0 := 3) (v := nI v2) (Or.inr (Or.inr ⟨by omega, by omega, by decide⟩)) (by omega)
    · refine i_refuse h (q := 3) (x := -3) rfl (by decide) (by decide) ?_ ?_
      · rw [f_X11_share, h_twoT hN c0 ha hb hab, q_bnd, if_pos rfl, h_gap (by decide) hN c0 ha hb, q_bnd, hc, if_neg g]; exact q_ret
      · intro M1 hE
        have ar := hE.th.r hw
        rw [f_X12_share, q_wr, h_are2T hN (hE.th.cnt r0) ha hb hab, q_bnd, if_pos (by decide), h_far (by rw [ar]; exact hw) ha hb, q_bnd, ar, if_neg g]; exact q_ret
  · refine i_refuse h (q := 1) (x := -1) rfl (by decide) (by decide) ?_ ?_
    · rw [f_X11_share, h_twoF hN c0 q, q_bnd, if_neg (by decide)]; exact q_ret
    · intro M1 hE
      rw [f_X12_share, q_wr, h_are2F hN (hE.th.cnt r0) q, q_bnd, if_neg (by decide)]; exact q_ret
/-! count -/
def z_pw (A : a_S) (l : Int32) (i j : Nat) : Nat := if l < z_gp A i j then 0 else 1
theorem h_pw15 {k N i : Nat} (hk : k < 3) (hN : N ≤ 6) {M : gk_M} (hc : M 2 k 3 = nI N) (hi : i < N) {l : Int32} {κ : Nat → Int32 → Int32 → Int32 → gk_M → Option (Int32 × gk_M)} : ∀ (d fuel j p : Nat), j + d = i → d < fuel →
    X4_pairsWithin_l15 κ fuel k l (nI p) (nI i) (nI j) M = κ k l (nI (p + sN (z_pw (a_c k M) l i) d j)) (nI (i + 1)) M := by
  intro d
  induction d with
  | zero =>
    intro fuel j p hj hf
    obtain ⟨n, rfl⟩ : ∃ n, fuel = n + 1 := ⟨fuel - 1, by omega⟩
    rw [X4_pairsWithin_l15]
    dsimp only
    rw [q_gd (q_lt hk), if_pos (nI_le (by omega) (by omega)), nI_1, sN]
    rfl
  | succ d ih =>
    intro fuel j p hj hf
    obtain ⟨n, rfl⟩ : ∃ n, fuel = n + 1 := ⟨fuel - 1, by omega⟩
    rw [X4_pairsWithin_l15]
    dsimp only
    rw [q_gd (q_lt hk), if_neg (nI_ge (by omega) (by omega)), h_gap hk hN hc hi (show j < N by omega), q_bnd, sN]
    by_cases g : l < z_gp (a_c k M) i j
    · rw [if_pos g, X4_pairsWithin_j35, q_gd (q_lt hk), nI_1, ih n (j + 1) p (by omega) (by omega), show z_pw (a_c k M) l i j = 0 from if_pos g, Nat.zero_add]
    · rw [if_neg g, X4_pairsWithin_j35, q_gd (q_lt hk), nI_1, nI_1, ih n (j + 1) (p + 1) (by omega) (by omega), show z_pw (a_c k M) l i j = 1 from if_neg g, Nat.add_assoc]
theorem h_pw4 {k N : Nat} (hk : k < 3) (hN : N ≤ 6) {M : gk_M} (hc : M 2 k 3 = nI N) {l : Int32} : ∀ (d fuel i p : Nat), i + d = N → d < fuel →
    X4_pairsWithin_l4 fuel k l (nI p) (nI i) M = some (nI (p + sN (fun i => sN (z_pw (a_c k M) l i) i 0) d i), M) := by
  intro d
  induction d with
  | zero =>
    intro fuel i p hi hf
    obtain ⟨n, rfl⟩ : ∃ n, fuel = n + 1 := ⟨fuel - 1, by omega⟩
    have hcond : M 2 k 3 ≤ nI i := by rw [hc]; exact nI_le (by omega) (by omega)
    simp only [X4_pairsWithin_l4, q_gd (q_lt hk), if_pos hcond, sN, Nat.add_zero]
  | succ d ih =>
    intro fuel i p hi hf
    obtain ⟨n, rfl⟩ : ∃ n, fuel = n + 1 := ⟨fuel - 1, by omega⟩
    have hcond : ¬ M 2 k 3 ≤ nI i := by rw [hc]; exact nI_ge (by omega) (by omega)
    rw [X4_pairsWithin_l4]
    dsimp only
    rw [q_gd (q_lt hk), if_neg hcond, show (0 : Int32) = nI 0 from rfl, h_pw15 hk hN hc (show i < N by omega) i 200 0 p (by omega) (by omega), ih n (i + 1) _ (by omega) (by omega), sN, Nat.add_assoc]
theorem h_ol16 {N dd a : Nat} {M : gk_M} (hw : a_wf (a_r M) N dd) (ha : a < N) {κ : Int32 → Int32 → gk_M → Option (Int32 × gk_M)} : ∀ (d fuel b p : Nat), b + d = N → a < b → d < fuel →
    X12_openLeads_l16 κ fuel (nI p) (nI a) (nI b) M = κ (nI (p + sN (z_pw (a_r M) (a_r M 0 2) a) d b)) (nI (a + 1)) M := by
  have hN := hw.1
  have hc := hw.cntR
  intro d
  induction d with
  | zero =>
    intro fuel b p hb hab hf
    obtain ⟨n, rfl⟩ : ∃ n, fuel = n + 1 := ⟨fuel - 1, by omega⟩
    have hcond : M 14 0 0 ≤ nI b := by rw [hc]; exact nI_le (by omega) (by omega)
    simp only [X12_openLeads_l16, if_pos hcond, nI_1, sN, Nat.add_zero]
  | succ d ih =>
    intro fuel b p hb hab hf
    obtain ⟨n, rfl⟩ : ∃ n, fuel = n + 1 := ⟨fuel - 1, by omega⟩
    have hcond : ¬ M 14 0 0 ≤ nI b := by rw [hc]; exact nI_ge (by omega) (by omega)
    rw [X12_openLeads_l16]
    dsimp only
    rw [if_neg hcond, h_isOp hw ha (show b < N by omega), q_bnd, sN]
    by_cases g : a_r M 0 2 < z_gp (a_r M) a b
    · have e : ¬ (decide (a ≠ b) && z_e (a_r M) a b) = true := by simp [z_e, g]
      rw [if_neg e, if_pos rfl, X12_openLeads_j39, show (0 : Int32) = nI 0 from rfl, nI_add, nI_1, ih n (b + 1) _ (by omega) (by omega) (by omega), show z_pw (a_r M) (a_r M 0 2) a b = 0 from if_pos g, Nat.add_zero, Nat.zero_add]
    · have e : (decide (a ≠ b) && z_e (a_r M) a b) = true := by simp [z_e, g, show a ≠ b by omega]
      rw [if_pos e, if_neg (by decide), X12_openLeads_j39, nI_1, nI_1, ih n (b + 1) _ (by omega) (by omega) (by omega), show z_pw (a_r M) (a_r M 0 2) a b = 1 from if_neg g, Nat.add_assoc]
theorem h_ol4 {N dd : Nat} {M : gk_M} (hw : a_wf (a_r M) N dd) : ∀ (d fuel a p : Nat), a + d = N → d < fuel →
    X12_openLeads_l4 fuel (nI p) (nI a) M = some (nI (p + sN (fun a => sN (z_pw (a_r M) (a_r M 0 2) a) (N - 1 - a) (a + 1)) d a), M) := by
  have hN := hw.1
  have hc := hw.cntR
  intro d
  induction d with
  | zero =>
    intro fuel a p ha hf
    obtain ⟨n, rfl⟩ : ∃ n, fuel = n + 1 := ⟨fuel - 1, by omega⟩
    have hcond : M 14 0 0 ≤ nI a := by rw [hc]; exact nI_le (by omega) (by omega)
    simp only [X12_openLeads_l4, if_pos hcond, sN, Nat.add_zero]
  | succ d ih =>
    intro fuel a p ha hf
    obtain ⟨n, rfl⟩ : ∃ n, fuel = n + 1 := ⟨fuel - 1, by omega⟩
    have hcond : ¬ M 14 0 0 ≤ nI a := by rw [hc]; exact nI_ge (by omega) (by omega)
    rw [X12_openLeads_l4]
    dsimp only
    rw [if_neg hcond, nI_1, h_ol16 hw (show a < N by omega) (N - 1 - a) 200 (a + 1) p (by omega) (by omega) (by omega), ih n (a + 1) _ (by omega) (by omega), sN, Nat.add_assoc]
theorem sN_tri {N : Nat} (hN : N ≤ 6) {f : Nat → Nat → Nat} (hs : ∀ i j, i < N → j < N → f i j = f j i) : sN (fun i => sN (f i) i 0) N 0 = sN (fun a => sN (f a) (N - 1 - a) (a + 1)) N 0 := by
  rcases (show N = 0 ∨ N = 1 ∨ N = 2 ∨ N = 3 ∨ N = 4 ∨ N = 5 ∨ N = 6 by omega) with rfl | rfl | rfl | rfl | rfl | rfl | rfl
  · rfl
  · rfl
  · simp only [sN, Nat.sub_self, Nat.sub_zero, Nat.reduceSub, Nat.reduceAdd]
    have h10 := hs 1 0 (by decide) (by decide)
    omega
  · simp only [sN, Nat.sub_self, Nat.sub_zero, Nat.reduceSub, Nat.reduceAdd]
    have h10 := hs 1 0 (by decide) (by decide)
    have h20 := hs 2 0 (by decide) (by decide)
    have h21 := hs 2 1 (by decide) (by decide)
    omega
  · simp only [sN, Nat.sub_self, Nat.sub_zero, Nat.reduceSub, Nat.reduceAdd]
    have h10 := hs 1 0 (by decide) (by decide)
    have h20 := hs 2 0 (by decide) (by decide)
    have h21 := hs 2 1 (by decide) (by decide)
    have h30 := hs 3 0 (by decide) (by decide)
    have h31 := hs 3 1 (by decide) (by decide)
    have h32 := hs 3 2 (by decide) (by decide)
    omega
  · simp only [sN, Nat.sub_self, Nat.sub_zero, Nat.reduceSub, Nat.reduceAdd]
    have h10 := hs 1 0 (by decide) (by decide)
    have h20 := hs 2 0 (by decide) (by decide)
    have h21 := hs 2 1 (by decide) (by decide)
    have h30 := hs 3 0 (by decide) (by decide)
    have h31 := hs 3 1 (by decide) (by decide)
    have h32 := hs 3 2 (by decide) (by decide)
    have h40 := hs 4 0 (by decide) (by decide)
    have h41 := hs 4 1 (by decide) (by decide)
    have h42 := hs 4 2 (by decide) (by decide)
    have h43 := hs 4 3 (by decide) (by decide)
    omega
  · simp only [sN, Nat.sub_self, Nat.sub_zero, Nat.reduceSub, Nat.reduceAdd]
    have h10 := hs 1 0 (by decide) (by decide)
    have h20 := hs 2 0 (by decide) (by decide)
    have h21 := hs 2 1 (by decide) (by decide)
    have h30 := hs 3 0 (by decide) (by decide)
    have h31 := hs 3 1 (by decide) (by decide)
    have h32 := hs 3 2 (by decide) (by decide)
    have h40 := hs 4 0 (by decide) (by decide)
    have h41 := hs 4 1 (by decide) (by decide)
    have h42 := hs 4 2 (by decide) (by decide)
    have h43 := hs 4 3 (by decide) (by decide)
    have h50 := hs 5 0 (by decide) (by decide)
    have h51 := hs 5 1 (by decide) (by decide)
    have h52 := hs 5 2 (by decide) (by decide)
    have h53 := hs 5 3 (by decide) (by decide)
    have h54 := hs 5 4 (by decide) (by decide)
    omega
theorem z_pw_sy {A : a_S} {N dd : Nat} (h : a_wf A N dd) {l : Int32} : ∀ i j, i < N → j < N → z_pw A l i j = z_pw A l j i := fun i j hi hj => by unfold z_pw; rw [z_gp_sy h hi hj]
theorem h_sumC {k N : Nat} (hk : k < 3) (hN : N ≤ 6) {M : gk_M} (hc : M 2 k 3 = nI N) : ∀ (d fuel m : Nat) (a : Int32), m + d = N → d < fuel →
    X4_allBread_l4 fuel k a (nI m) M = some (fN (fun s a => a + a_c k M (s + 3) 3) d m a, M) ∧ X4_allCrews_l4 fuel k a (nI m) M = some (fN (fun s a => a + a_c k M (s + 3) 2) d m a, M) := by
  intro d
  induction d with
  | zero =>
    intro fuel m a hm hf
    obtain ⟨n, rfl⟩ : ∃ n, fuel = n + 1 := ⟨fuel - 1, by omega⟩
    have hcond : M 2 k 3 ≤ nI m := by rw [hc]; exact nI_le (by omega) (by omega)
    exact ⟨by simp only [X4_allBread_l4, q_gd (q_lt hk), if_pos hcond, fN], by simp only [X4_allCrews_l4, q_gd (q_lt hk), if_pos hcond, fN]⟩
  | succ d ih =>
    intro fuel m a hm hf
    obtain ⟨n, rfl⟩ : ∃ n, fuel = n + 1 := ⟨fuel - 1, by omega⟩
    have hcond : ¬ M 2 k 3 ≤ nI m := by rw [hc]; exact nI_ge (by omega) (by omega)
    have e3 := a_cs (j := 3) hc hN (show m < N by omega) (by decide)
    have e2 := a_cs (j := 2) hc hN (show m < N by omega) (by decide)
    refine ⟨?_, ?_⟩
    · rw [X4_allBread_l4]
      dsimp only
      rw [q_gd (q_lt hk), if_neg hcond, q_gd (q_in (show m < 6 by omega) (by decide)), q_cl (show m < 2 ^ 31 by omega), nI_1, ← e3, (ih n (m + 1) _ (by omega) (by omega)).1, fN]
    · rw [X4_allCrews_l4]
      dsimp only
      rw [q_gd (q_lt hk), if_neg hcond, q_gd (q_in (show m < 6 by omega) (by decide)), q_cl (show m < 2 ^ 31 by omega), nI_1, ← e2, (ih n (m + 1) _ (by omega) (by omega)).2, fN]
theorem h_sumR {N q : Nat} (hq : q < 6) (hN : N ≤ 6) {M : gk_M} (hc : M 14 0 0 = nI N) : ∀ (d fuel m : Nat) (a : Int32), m + d = N → d < fuel →
    X12_sumOf_l4 fuel q a (nI m) M = some (fN (fun s a => a + a_r M (s + 3) q) d m a, M) := by
  intro d
  induction d with
  | zero =>
    intro fuel m a hm hf
    obtain ⟨n, rfl⟩ : ∃ n, fuel = n + 1 := ⟨fuel - 1, by omega⟩
    have hcond : M 14 0 0 ≤ nI m := by rw [hc]; exact nI_le (by omega) (by omega)
    simp only [X12_sumOf_l4, q_gd (q_lt hq), if_pos hcond, fN]
  | succ d ih =>
    intro fuel m a hm hf
    obtain ⟨n, rfl⟩ : ∃ n, fuel = n + 1 := ⟨fuel - 1, by omega⟩
    have hcond : ¬ M 14 0 0 ≤ nI m := by rw [hc]; exact nI_ge (by omega) (by omega)
    have e := a_rs (j := q) hc hN (show m < N by omega) hq
    rw [X12_sumOf_l4]
    dsimp only
    rw [q_gd (q_lt hq), if_neg hcond, q_gd (q_in (show m < 6 by omega) (by decide)), q_cl (show m < 2 ^ 31 by omega), nI_1, ← e, ih n (m + 1) _ (by omega) (by omega), fN]
theorem w_count (x : Int32) {M : gk_M} (h : i_ok M) : i_same Int32 (f_X11_count x) (f_X12_count x) M := by
  obtain ⟨N, dd, hd, hw, hc, hN, c0, r0, hwc⟩ := h.get
  obtain ⟨e1, e2, e3, e4, -⟩ := i_cr hc
  obtain ⟨⟨-, -, ⟨z, hz, l1, l2, -⟩, ⟨y, hy, o1, o2, -⟩⟩, rf⟩ := id h
  have hw' : a_wf (a_r (gk_up M 14 0 13 0)) N dd := by rw [i_th.st r0 hN]; exact hw
  have ar := i_th.st (M := M) r0 hN
  by_cases k0 : x = 0
  · subst k0
    refine i_read h (r := nI N) ?_ ?_
    · rw [f_X11_count, if_pos (by decide), X11_count_j22, if_pos rfl, c0]
    · rw [f_X12_count, q_wr, if_pos rfl, u_n (by omega), r0]
  by_cases k1 : x = 1
  · subst k1
    refine i_read h (r := M 14 0 3) ?_ ?_
    · rw [f_X11_count, if_pos (by decide), X11_count_j22, if_neg (by decide), if_pos rfl, e1]
    · rw [f_X12_count, q_wr, if_neg (by decide), if_pos rfl, u_n (by omega)]
  by_cases k2 : x = 2
  · subst k2
    refine i_read h (r := M 14 0 1) ?_ ?_
    · rw [f_X11_count, if_pos (by decide), X11_count_j22, if_neg (by decide), if_neg (by decide), if_pos rfl, e2]
    · rw [f_X12_count, q_wr, if_neg (by decide), if_neg (by decide), if_pos rfl, u_n (by omega)]
  by_cases k3 : x = 3
  · subst k3
    refine i_read h (r := M 14 0 2) ?_ ?_
    · rw [f_X11_count, if_pos (by decide), X11_count_j22, if_neg (by decide), if_neg (by decide), if_neg (by decide), if_pos rfl, e3]
    · rw [f_X12_count, q_wr, if_neg (by decide), if_neg (by decide), if_neg (by decide), if_pos rfl, u_n (by omega)]
  by_cases k4 : x = 4
  · subst k4
    refine i_read h (r := fN (fun s a => a + a_r M (s + 3) 3) N 0 0) ?_ ?_
    · rw [f_X11_count, if_pos (by decide), X11_count_j22, if_neg (by decide), if_neg (by decide), if_neg (by decide), if_neg (by decide), if_pos rfl, f_X4_allBread, q_gd (q_lt (by decide)), show X4_allBread_l4 200 0 0 0 M = _ from (h_sumC (by decide) hN c0 N 200 0 0 (by omega) (by omega)).1, q_bnd, hc]
    · rw [f_X12_count, q_wr, if_neg (by decide), if_neg (by decide), if_neg (by decide), if_neg (by decide), if_pos rfl, f_X12_sumOf, q_gd (q_lt (by decide)), show X12_sumOf_l4 200 3 0 0 (gk_up M 14 0 13 0) = _ from h_sumR (by decide) hN hw'.cntR N 200 0 0 (by omega) (by omega), q_bnd, ar]
  by_cases k5 : x = 5
  · subst k5
    refine i_read h (r := fN (fun s a => a + a_r M (s + 3) 2) N 0 0) ?_ ?_
    · rw [f_X11_count, if_pos (by decide), X11_count_j22, if_neg (by decide), if_neg (by decide), if_neg (by decide), if_neg (by decide), if_neg (by decide), if_pos rfl, f_X4_allCrews, q_gd (q_lt (by decide)), show X4_allCrews_l4 200 0 0 0 M = _ from (h_sumC (by decide) hN c0 N 200 0 0 (by omega) (by omega)).2, q_bnd, hc]
    · rw [f_X12_count, q_wr, if_neg (by decide), if_neg (by decide), if_neg (by decide), if_neg (by decide), if_neg (by decide), if_pos rfl, f_X12_sumOf, q_gd (q_lt (by decide)), show X12_sumOf_l4 200 2 0 0 (gk_up M 14 0 13 0) = _ from h_sumR (by decide) hN hw'.cntR N 200 0 0 (by omega) (by omega), q_bnd, ar]
  by_cases k6 : x = 6
  · subst k6
    refine i_read h (r := M 14 0 4) ?_ ?_
    · rw [f_X11_count, if_pos (by decide), X11_count_j22, if_neg (by decide), if_neg (by decide), if_neg (by decide), if_neg (by decide), if_neg (by decide), if_neg (by decide), if_pos rfl, e4]
    · rw [f_X12_count, q_wr, if_neg (by decide), if_neg (by decide), if_neg (by decide), if_neg (by decide), if_neg (by decide), if_neg (by decide), if_pos rfl, u_n (by omega)]
  by_cases k7 : x = 7
  · subst k7
    refine i_read h (r := nI (0 + sN (fun i => sN (z_pw (a_r M) (a_r M 0 2) i) i 0) N 0)) ?_ ?_
    · rw [f_X11_count, if_pos (by decide), X11_count_j22, if_neg (by decide), if_neg (by decide), if_neg (by decide), if_neg (by decide), if_neg (by decide), if_neg (by decide), if_neg (by decide), if_pos rfl, f_X4_pairsWithin, q_gd (q_lt (by decide)), e2, ← a_r02 (M := M), show X4_pairsWithin_l4 200 0 (a_r M 0 2) 0 0 M = _ from h_pw4 (by decide) hN c0 N 200 0 0 (by omega) (by omega), q_bnd, hc]
    · rw [f_X12_count, q_wr, if_neg (by decide), if_neg (by decide), if_neg (by decide), if_neg (by decide), if_neg (by decide), if_neg (by decide), if_neg (by decide), if_pos rfl, f_X12_openLeads, show X12_openLeads_l4 200 0 0 (gk_up M 14 0 13 0) = _ from h_ol4 hw' N 200 0 0 (by omega) (by omega), q_bnd, ar, sN_tri hN (z_pw_sy hw)]
  by_cases k8 : x = 8
  · subst k8
    refine i_read h (r := nI z) ?_ ?_
    · rw [f_X11_count, if_pos (by decide), X11_count_j22, if_neg (by decide), if_neg (by decide), if_neg (by decide), if_neg (by decide), if_neg (by decide), if_neg (by decide), if_neg (by decide), if_neg (by decide), if_pos rfl, l1]
    · rw [f_X12_count, q_wr, if_neg (by decide), if_neg (by decide), if_neg (by decide), if_neg (by decide), if_neg (by decide), if_neg (by decide), if_neg (by decide), if_neg (by decide), if_pos rfl, u_n (by omega), l2]
  by_cases k9 : x = 9
  · subst k9
    refine i_read h (r := nI y) ?_ ?_
    · rw [f_X11_count, if_pos (by decide), X11_count_j22, if_neg (by decide), if_neg (by decide), if_neg (by decide), if_neg (by decide), if_neg (by decide), if_neg (by decide), if_neg (by decide), if_neg (by decide), if_neg (by decide), if_pos rfl, o1]
    · rw [f_X12_count, q_wr, if_neg (by decide), if_neg (by decide), if_neg (by decide), if_neg (by decide), if_neg (by decide), if_neg (by decide), if_neg (by decide), if_neg (by decide), if_neg (by decide), if_pos rfl, u_n (by omega), o2]
  have r10 : ∀ M1, f_X12_count x M1 = gk_bnd (f_X12_in (Int32.toInt64 x) (11 : Int64) (16 : Int64) (gk_up M1 14 0 13 0)) (fun r9 M8 => if r9 = 0 then some ((-9 : Int32), M8) else gk_gd (gk_in (x - (10 : Int32)) 7) (some ((M8 17 0 (Int32.toNatClampNeg (x - (10 : Int32)))), M8))) := fun M1 => by
    rw [f_X12_count, q_wr, if_neg k0, if_neg k1, if_neg k2, if_neg k3, if_neg k4, if_neg k5, if_neg k6, if_neg k7, if_neg k8, if_neg k9]
  have c10 : X11_count_j22 x M = some (-9, M) := by
    rw [X11_count_j22, if_neg k0, if_neg k1, if_neg k2, if_neg k3, if_neg k4, if_neg k5, if_neg k6, if_neg k7, if_neg k8, if_neg k9]
  have v11 : (11 : Int64).toInt = 11 := rfl
  have v16 : (16 : Int64).toInt = 16 := rfl
  have w11 : (11 : Int32).toInt = 11 := rfl
  have w16 : (16 : Int32).toInt = 16 := rfl
  by_cases p1 : x < 11
  · refine i_read h (r := -9) (by rw [f_X11_count, if_pos p1, c10]) ?_
    rw [z_lt] at p1
    rw [r10, h_inF (by rw [v11, v16]; omega), q_bnd, if_pos rfl]
  · by_cases p2 : (16 : Int32) < x
    · refine i_read h (r := -9) (by rw [f_X11_count, if_neg p1, if_pos p2, c10]) ?_
      rw [z_lt] at p2
      rw [r10, h_inF (by rw [v11, v16]; omega), q_bnd, if_pos rfl]
    · have p1' := p1
      have p2' := p2
      rw [z_lt] at p1' p2'
      have w10 : (10 : Int32).toInt = 10 := rfl
      have v : (x - 10).toInt = x.toInt - 10 := by rw [z_sub (by omega) (by omega), w10]
      obtain ⟨j, hj, ej⟩ := z_of (x := x - 10) (n := 6) (by omega) (by omega)
      refine i_read h (r := M 13 0 j) ?_ ?_
      · rw [f_X11_count, if_neg p1, if_neg p2, ej, q_gd (q_in (show j < 7 by omega) (by decide)), q_cl (by omega)]
      · rw [r10, h_inT (by rw [v11, v16]; omega), q_bnd, if_neg (by decide), ej, q_gd (q_in (show j < 7 by omega) (by decide)), q_cl (by omega), u_n (by omega), ← rf j (by omega)]
