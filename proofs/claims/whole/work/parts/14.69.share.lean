/-! PURE: the reference's shares, mixes, centres -/
theorem Lt_nat {u l : Int} {A M : Nat} (h : Lt u l A M) : ∃ a b m : Nat, u = a ∧ l = b ∧ 0 < b ∧ 0 < m ∧ A = a * m ∧ M = b * m := by
  obtain ⟨⟨h1, m, h2, h3, h4⟩, h5⟩ := h
  have hu : 0 ≤ u := by
    rcases Int.lt_or_le u 0 with q | q
    · have := Int.mul_neg_of_neg_of_pos q h2; omega
    · exact q
  obtain ⟨a, rfl⟩ := Int.eq_ofNat_of_zero_le hu
  obtain ⟨b, rfl⟩ := Int.eq_ofNat_of_zero_le (Int.le_of_lt h1)
  obtain ⟨k, rfl⟩ := Int.eq_ofNat_of_zero_le (Int.le_of_lt h2)
  refine ⟨a, b, k, rfl, rfl, by omega, by omega, ?_, ?_⟩
  · rw [← Int.natCast_mul] at h3; omega
  · rw [← Int.natCast_mul] at h4; omega
theorem m_cut {u l : Int} {A M : Nat} (h : Lt u l A M) (hA : 1000 * A < 2 ^ 63) (hM : M < 2 ^ 63) : x_nzl (lI l) = some () ∧ Int64.toInt32 (lI u * (1000 : Int64) / lI l) = nI (1000 * A / M) := by
  obtain ⟨a, b, m, rfl, rfl, b0, m0, rfl, rfl⟩ := Lt_nat h
  have h1 : a * 1 ≤ a * m := Nat.mul_le_mul_left _ m0
  have h2 : b * 1 ≤ b * m := Nat.mul_le_mul_left _ m0
  refine ⟨lI_nz (inL_n (by omega)) (by omega), ?_⟩
  rw [k1000', lU_mul, lI_divn (by omega) (by omega) b0, lI_to32n]
  congr 1
  rw [← Nat.mul_assoc, Nat.mul_div_mul_right _ _ m0, Nat.mul_comm]
theorem m_shareOf {s : S8} {B : Bk} (ok : okB B) {c n : Nat} (hc : c < 3) (n1 : 1 ≤ n) (n9 : n ≤ 99) (h0 : E0 (g8_up s) (g8_low s) B c) (h1 : E1 (g8_up s) (g8_low s) B c) : ∃ U L, f_X8_shareOf s (nI c) (nI n) = some (nI (shr B c n), ul s U L) := by
  have w1 := wi_le ok c
  have u1 := un_le ok c
  have b1 := bt_le ok c
  have f1 := fr_le ok c
  have e51 : (5 : Int32) * nI c + (1 : Int32) = nI (5 * c + 1) := by rw [e5c, nI_1]
  unfold E1 at h1
  by_cases q : 2 ≤ qK B c ∧ 0 < fr B c
  · rw [if_pos q] at h1
    unfold E0 at h0
    rw [if_neg (by omega)] at h0
    obtain ⟨u, l, eu, el, hL⟩ := h1
    obtain ⟨a, b, ea, eb, hW⟩ := h0
    have u0 : 0 < un B c := un_pos q.1
    have hD : 60 * fr B c * un B c ≤ 60 * 40 * 1600 := Nat.mul_le_mul (Nat.mul_le_mul_left 60 f1) u1
    have iL := Fr_in hL.1 (inL_n (by omega)) (inL_n (by omega))
    have r1 : x_rd 15 (g8_low s) ((5 : Int32) * nI c + (1 : Int32)) = some (lI l) := by rw [e51]; exact (p_rd (by omega) (by decide)).trans (congrArg some el)
    have r2 : x_rd 15 (g8_up s) ((5 : Int32) * nI c + (1 : Int32)) = some (lI u) := by rw [e51]; exact (p_rd (by omega) (by decide)).trans (congrArg some eu)
    have r3 : x_rd 15 (g8_up s) ((5 : Int32) * nI c) = some (lI a) := by rw [e5c]; exact (p_rd (by omega) (by decide)).trans (congrArg some ea)
    have r4 : x_rd 15 (g8_low s) ((5 : Int32) * nI c) = some (lI b) := by rw [e5c]; exact (p_rd (by omega) (by decide)).trans (congrArg some eb)
    have l0 : ¬ lg_cmp (lI l) 0 = 0 := by rw [c0_eq iL.2]; have := hL.1.1; omega
    by_cases qu : u = 0
    · refine ⟨g8_upper s, g8_lower s, ?_⟩
      have hb0 : bt B c = 0 := by
        obtain ⟨⟨_, m, _, h3, _⟩, _⟩ := hL
        rw [qu, Int.zero_mul] at h3
        omega
      unfold f_X8_shareOf
      refine (p_bE r1).trans ((if_neg l0).trans ((p_bE r2).trans ((if_pos (by rw [c0_eq iL.1]; exact qu)).trans ?_)))
      unfold shr
      rw [hb0, Nat.mul_zero, Nat.mul_zero, Nat.zero_div]
      rfl
    · have bp : 0 < bt B c := by
        obtain ⟨⟨_, m, h2, h3, _⟩, _⟩ := hL
        rcases Nat.eq_zero_or_pos (bt B c) with h | h
        · rw [h] at h3
          have := Int.mul_eq_zero.mp h3.symm
          omega
        · exact h
      have bn : n * bt B c ≤ 99 * 602173440000 := Nat.mul_le_mul n9 b1
      have wu : wi B c * un B c ≤ 376358400 * 1600 := Nat.mul_le_mul w1 u1
      have np : 0 < n * bt B c := Nat.mul_pos n1 bp
      obtain ⟨x, y, exy, Lxy⟩ := m_mults s hL.1 (Fr_self (a := (n : Int)) (b := 1) (by omega)) (inL_n (by omega)) (inL_n (by omega)) (inL_n (by omega)) inL_1 (by rw [← Int.natCast_mul, Nat.mul_comm]; exact inL_n (by omega)) (by rw [Int.mul_one]; exact inL_n (by omega))
      have exy' : f_X8_multiplies s (lI u) (lI l) (Int32.toInt64 (nI n)) 1 = some (ul s (lI x) (lI y)) := by rw [lI_i (by omega)]; exact exy
      rw [← Int.natCast_mul, Nat.mul_comm (bt B c) n, Int.mul_one] at Lxy
      have hWs := Fr_scale hW.1 (k := (un B c : Int)) (by omega)
      rw [← Int.natCast_mul, ← Int.natCast_mul] at hWs
      obtain ⟨p, r, epr, Lpr⟩ := m_adds (ul s (lI x) (lI y)) Lxy.1 hWs (by rw [← Int.natCast_add]; exact inL_n (by omega)) (inL_n (by omega))
      rw [← Int.natCast_add] at Lpr
      have ixy := Fr_in Lxy.1 (inL_n (by omega)) (inL_n (by omega))
      have ipr := Fr_in Lpr.1 (inL_n (by omega)) (inL_n (by omega))
      obtain ⟨⟨y0, m, m0, xm, ym⟩, gxy⟩ := id Lxy
      obtain ⟨⟨r0, k, k0, pk, rk⟩, gpr⟩ := id Lpr
      have p0 : 0 < p := by
        rcases Int.lt_or_le 0 p with h | h
        · exact h
        · have := Int.mul_nonpos_of_nonpos_of_nonneg h (Int.le_of_lt k0)
          omega
      obtain ⟨z, t, ezt, Lzt⟩ := m_mults2 (ul s (lI p) (lI r)) (a := x) (b := y) (c := r) (d := p) (A := ((n * bt B c : Nat) : Int)) (M := ((n * bt B c + wi B c * un B c : Nat) : Int)) y0 p0 gxy (by rw [Int.gcd_comm]; exact gpr) ixy.1 ixy.2 ipr.2 ipr.1 (by omega) (by
        rw [xm, pk, show x * r * (p * k) = x * p * (r * k) by ac_rfl, show x * m * (y * p) = x * p * (y * m) by ac_rfl, ← rk, ← ym]) (inL_n (by omega)) (inL_n (by omega))
      obtain ⟨c1, c2⟩ := m_cut Lzt (by omega) (by omega)
      refine ⟨lI z, lI t, ?_⟩
      unfold f_X8_shareOf
      refine (p_bE r1).trans ((if_neg l0).trans ((p_bE r2).trans ((if_neg (by rw [c0_eq iL.1]; exact qu)).trans ((p_bE r2).trans ((p_bE r1).trans ((p_bE exy').trans ((p_bE r3).trans ((p_bE r4).trans ((p_bE epr).trans ((p_bE ezt).trans ((p_bE c1).trans ?_)))))))))))
      show some (Int64.toInt32 (lI z * (1000 : Int64) / lI t), ul s (lI z) (lI t)) = _
      rw [c2]
      rfl
  · rw [if_neg q] at h1
    refine ⟨g8_upper s, g8_lower s, ?_⟩
    have r1 : x_rd 15 (g8_low s) ((5 : Int32) * nI c + (1 : Int32)) = some 0 := by rw [e51]; exact (p_rd (by omega) (by decide)).trans (congrArg some h1)
    unfold f_X8_shareOf
    refine (p_bE r1).trans ((if_pos (by decide)).trans ?_)
    have hb0 : bt B c = 0 := by unfold bt; rw [if_neg q]
    unfold shr
    rw [hb0, Nat.mul_zero, Nat.mul_zero, Nat.zero_div]
    rfl
theorem m_mixes (s : S8) {a b c d : Int} {A M C L p : Nat} (hp : p ≤ 1000) (h : Fr a b A M) (k : Fr c d C L) (bA : 1000 * A < 2 ^ 63) (bM : 1000 * M < 2 ^ 63) (bC : 1000 * C < 2 ^ 63) (bL : 1000 * L < 2 ^ 63) (bT : 1000 * M * L < 2 ^ 63) (bS : p * A * L + (1000 - p) * C * M < 2 ^ 63) : ∃ u l, f_X8_mixes s (nI p) (lI a) (lI b) (lI c) (lI d) = some (ul s (lI u) (lI l)) ∧ Lt u l ((p * A * L + (1000 - p) * C * M : Nat) : Int) ((1000 * M * L : Nat) : Int) := by
  have M0 : 0 < (M : Int) := Fr_pos h
  have L0 : 0 < (L : Int) := Fr_pos k
  have pA : A * p ≤ A * 1000 := Nat.mul_le_mul_left _ hp
  have pC : C * (1000 - p) ≤ C * 1000 := Nat.mul_le_mul_left _ (by omega)
  obtain ⟨x, y, e1, L1⟩ := m_mults s h (Fr_self (a := (p : Int)) (b := ((1000 : Nat) : Int)) (by omega)) (inL_n (by omega)) (inL_n (by omega)) (inL_n (by omega)) (inL_n (by omega)) (by rw [← Int.natCast_mul]; exact inL_n (by omega)) (by rw [← Int.natCast_mul]; exact inL_n (by omega))
  obtain ⟨z, w, e2, L2⟩ := m_mults (ul s (lI x) (lI y)) k (Fr_self (a := ((1000 - p : Nat) : Int)) (b := ((1000 : Nat) : Int)) (by omega)) (inL_n (by omega)) (inL_n (by omega)) (inL_n (by omega)) (inL_n (by omega)) (by rw [← Int.natCast_mul]; exact inL_n (by omega)) (by rw [← Int.natCast_mul]; exact inL_n (by omega))
  have e1' : f_X8_multiplies s (lI a) (lI b) (Int32.toInt64 (nI p)) 1000 = some (ul s (lI x) (lI y)) := by rw [lI_i (by omega), k1000']; exact e1
  have e2' : f_X8_multiplies (ul s (lI x) (lI y)) (lI c) (lI d) (Int32.toInt64 ((1000 : Int32) - nI p)) 1000 = some (ul s (lI z) (lI w)) := by rw [show (1000 : Int32) - nI p = nI (1000 - p) from pk_sub (a := 1000) hp, lI_i (by omega), k1000']; exact e2
  rw [← Int.natCast_mul, ← Int.natCast_mul] at L1 L2
  have F1 := Fr_scale L1.1 (k := (L : Int)) L0
  have F2 := Fr_scale L2.1 (k := (M : Int)) M0
  rw [← Int.natCast_mul, ← Int.natCast_mul] at F1 F2
  rw [show M * 1000 * L = 1000 * M * L by ac_rfl, show A * p * L = p * A * L by ac_rfl] at F1
  rw [show L * 1000 * M = 1000 * M * L by ac_rfl, show C * (1000 - p) * M = (1000 - p) * C * M by ac_rfl] at F2
  obtain ⟨u, l, e3, L3⟩ := m_adds (ul s (lI z) (lI w)) F1 F2 (by rw [← Int.natCast_add]; exact inL_n bS) (inL_n bT)
  rw [← Int.natCast_add] at L3
  refine ⟨u, l, ?_, L3⟩
  unfold f_X8_mixes
  exact (p_bE e1').trans ((p_bE e2').trans ((p_bE e3).trans rfl))
theorem m_shares {s : S8} {B : Bk} (h : rM (g8_now s) B) (ok : okB B) (hn : rows8 s B (len B)) {c : Nat} (hc : c < 3) (hs : ∀ i, i < len B → inK B c i = true → g8_share s i = nI (sh B i)) : f_X8_shares s (nI c) = some (nI (qSH B c)) := by
  have w := ok.1.1
  change len B ≤ 8 at w
  unfold f_X8_shares lp_X8_shares_p4
  refine p_for (len B) (fun j => (s, nI c, nI (kS B c (sh B) j), nI j)) _ (by omega) (fun j k hj ih => ?_) (fun k => ?_) 0 (Nat.zero_le _)
  · have ei := m_isIn h ok hn hj hc
    dsimp only
    unfold f_X8_shares_p4
    rw [m_manyL h, p_bind, if_neg (by rw [p_le (by omega) (by omega)]; omega), ei, p_bind]
    by_cases q : inK B c j = true
    · rw [if_pos q, if_neg (by decide), show x_rd 8 (g8_share s) (nI j) = some (nI (sh B j)) from (p_rd (by omega) (by decide)).trans (congrArg some (hs j hj q)), p_bind, nI_add, nI_1]
      rw [kS_T q] at ih
      exact ih
    · rw [if_neg q, if_pos rfl, nI_1]
      rw [kS_F q] at ih
      exact ih
  · dsimp only
    unfold f_X8_shares_p4
    rw [m_manyL h, p_bind, if_pos (by rw [p_le (by omega) (by omega)]; omega)]
    rfl
theorem m_centres120 {s : S8} {B : Bk} (h : rM (g8_now s) B) (ok : okB B) (hcl : cls8 s B (len B)) (hwh : whole8 s B) {c : Nat} (hc : c < 3) (n0 : 0 < qN B c) {u l : Int} (hU : g8_upper s = lI u) (hL : g8_lower s = lI l) (hC : Lt u l (cu B c) (cl B c)) : ∃ U L f g, f_X8_centres_p120 s (nI c) = some (ul (u8_steadied (u8_low (u8_up s f) g) (upd (g8_steadied s) c (nI (yy B c)))) U L) ∧ (∀ k, k ≠ 5 * c + 2 → k ≠ 5 * c + 3 → f k = g8_up s k ∧ g k = g8_low s k) ∧ tl f g (5 * c + 2) (cu B c) (cl B c) ∧ tl f g (5 * c + 3) (bu B c) (bl B c) := by
  obtain ⟨v1, v2, v3⟩ := hcl c hc
  change g8_spans s c = nI (qN B c) at v2
  have n40 := qN_le ok c
  have s50 := ok.1.2.2.2.2.2
  have a0 : 0 < aN B (len B) := Nat.lt_of_lt_of_le n0 (qN_aN c (len B))
  have a40 := aN_le ok
  have as := aS_le ok (len B)
  have cl4 := cl_le ok c
  have cu4 := cu_le ok c
  have y1 := yy_le B c
  have bl1 := bl_le ok c
  have bu1 := bu_le ok c
  unfold whole8 at hwh
  rw [if_neg (by omega)] at hwh
  obtain ⟨wu, wl, ew1, ew2, hW⟩ := hwh
  have ep := m_puts s hc (k := 2) (by omega) (x := 2) rfl
  rw [hU, hL] at ep
  have e_sp : x_rd 3 (g8_spans s) (nI c) = some (nI (qN B c)) := (p_rd hc (by decide)).trans (congrArg some v2)
  have e_st : x_rd 140 (g8_now s) 1 = some (nI B.2.2.2) := (p_rd (i := 1) (by decide) (by decide)).trans (congrArg some h.2.2.1)
  have e_nz : x_nz (nI (qN B c) + nI B.2.2.2) = some () := p_nz (by rw [nI_add, show (0 : Int32) = nI 0 from rfl, p_eq (by omega) (by omega)]; omega)
  have e_y : ((1000 : Int32) * nI (qN B c)) / (nI (qN B c) + nI B.2.2.2) = nI (yy B c) := by
    rw [nI_add, show (1000 : Int32) = nI 1000 from rfl, pk_mul, pk_div (by omega) (by omega) (by omega)]
    rfl
  have e_w : x_wr 3 (g8_steadied s) (nI c) (((1000 : Int32) * nI (qN B c)) / (nI (qN B c) + nI B.2.2.2)) = some (upd (g8_steadied s) c (nI (yy B c))) := by rw [e_y]; exact p_wr hc (by decide)
  have e_r : x_rd 3 (upd (g8_steadied s) c (nI (yy B c))) (nI c) = some (nI (yy B c)) := (p_rd hc (by decide)).trans (congrArg some (upd_same _ _ _))
  generalize hs1 : u8_low (u8_up s (vp_updL (g8_up s) (5 * c + 2) (lI u))) (vp_updL (g8_low s) (5 * c + 2) (lI l)) = s1 at ep
  have g1 : g8_spans s1 = g8_spans s := by rw [← hs1]; rfl
  have g2 : g8_now s1 = g8_now s := by rw [← hs1]; rfl
  have g3 : g8_steadied s1 = g8_steadied s := by rw [← hs1]; rfl
  have g4 : g8_upper s1 = lI u := by rw [← hs1]; exact hU
  have g5 : g8_lower s1 = lI l := by rw [← hs1]; exact hL
  have g6 : g8_wholeUp s1 = lI wu := by rw [← hs1]; exact ew1
  have g7 : g8_wholeLow s1 = lI wl := by rw [← hs1]; exact ew2
  obtain ⟨x, y, ex, Lx⟩ := m_mixes (u8_steadied s1 (upd (g8_steadied s) c (nI (yy B c)))) (p := yy B c) y1 hC.1 hW.1 (by omega) (by omega) (by omega) (by omega) (by have : bl B c = 1000 * cl B c * aN B (len B) := rfl; omega) (by have : bu B c = yy B c * cu B c * aN B (len B) + (1000 - yy B c) * aS B (len B) * cl B c := rfl; omega)
  have ep2 := m_puts (ul (u8_steadied s1 (upd (g8_steadied s) c (nI (yy B c)))) (lI x) (lI y)) hc (k := 3) (by omega) (x := 3) rfl
  refine ⟨lI x, lI y, vp_updL (vp_updL (g8_up s) (5 * c + 2) (lI u)) (5 * c + 3) (lI x), vp_updL (vp_updL (g8_low s) (5 * c + 2) (lI l)) (5 * c + 3) (lI y), ?_, fun k k1 k2 => ?_, ?_, ?_⟩
  · unfold f_X8_centres_p120
    refine (p_bE ep).trans ?_
    rw [g1, g2, g3, g4, g5, g6, g7]
    refine (p_bE e_sp).trans ((p_bE e_sp).trans ((p_bE e_st).trans ((p_bE e_nz).trans ((p_bE e_w).trans ((p_bE e_r).trans ((p_bE ex).trans ((p_bE ep2).trans ?_)))))))
    rw [← hs1]
    rfl
  · rw [vl_ne k2, vl_ne k1, vl_ne k2, vl_ne k1]; exact ⟨rfl, rfl⟩
  · refine ⟨u, l, ?_, ?_, hC⟩
    · rw [vl_ne (by omega), vl_same]
    · rw [vl_ne (by omega), vl_same]
  · exact ⟨x, y, vl_same _ _ _, vl_same _ _ _, Lx⟩
theorem m_centres {s : S8} {B : Bk} (h : rM (g8_now s) B) (ok : okB B) (hn : rows8 s B (len B)) (hcl : cls8 s B (len B)) (hwh : whole8 s B) {c : Nat} (hc : c < 3) (n0 : 0 < qN B c) (hs : ∀ i, i < len B → inK B c i = true → g8_share s i = nI (sh B i)) : ∃ U L f g, f_X8_centres s (nI c) = some (ul (u8_steadied (u8_low (u8_up s f) g) (upd (g8_steadied s) c (nI (yy B c)))) U L) ∧ (∀ k, k ≠ 5 * c + 2 → k ≠ 5 * c + 3 → f k = g8_up s k ∧ g k = g8_low s k) ∧ tl f g (5 * c + 2) (cu B c) (cl B c) ∧ tl f g (5 * c + 3) (bu B c) (bl B c) := by
  have w := ok.1.1
  change len B ≤ 8 at w
  obtain ⟨v1, v2, v3⟩ := hcl c hc
  change g8_spans s c = nI (qN B c) at v2
  change g8_totals s c = nI (qT B c) at v3
  have n40 := qN_le ok c
  have t1 := qT_le ok c
  have sh8 := qSH_le ok c
  have wm1 := qWM_le ok c
  have e_sp : x_rd 3 (g8_spans s) (nI c) = some (nI (qN B c)) := (p_rd hc (by decide)).trans (congrArg some v2)
  have e_tt : x_rd 3 (g8_totals s) (nI c) = some (nI (qT B c)) := (p_rd hc (by decide)).trans (congrArg some v3)
  unfold f_X8_centres
  rw [m_shares h ok hn hc hs, p_bind]
  simp only [show (nI (qSH B c) = 0) = (qSH B c = 0) from p_eq (b := 0) (by omega) (by omega)]
  by_cases q : qSH B c = 0
  · rw [if_pos q]
    obtain ⟨u, l, e1, L1⟩ := m_is s (inL_n (show qT B c < 2 ^ 63 by omega)) (inL_n (show qN B c < 2 ^ 63 by omega)) (by omega)
    have e1' : f_X8_is s (Int32.toInt64 (nI (qT B c))) (Int32.toInt64 (nI (qN B c))) = some (ul s (lI u) (lI l)) := by rw [lI_i (by omega), lI_i (by omega)]; exact e1
    obtain ⟨U, L, f, g, e2, e3, e4, e5⟩ := m_centres120 (s := ul s (lI u) (lI l)) h ok hcl hwh hc n0 rfl rfl (by unfold cu cl; rw [if_pos q, if_pos q]; exact L1)
    exact ⟨U, L, f, g, (p_bE e_tt).trans ((p_bE e_sp).trans ((p_bE e1').trans e2)), e3, e4, e5⟩
  · rw [if_neg q]
    unfold lp_X8_centres_p39
    have key := p_forI (body := fun (k : S8 × Int32 × Int32 × Int64 × Int64 × Int32 → Option (S8)) (z : S8 × Int32 × Int32 × Int64 × Int64 × Int32) => f_X8_centres_p39 (fun s x1 x2 x3 x5 x7 => k (s, x1, x2, x3, x5, x7)) z.1 z.2.1 z.2.2.1 z.2.2.2.1 z.2.2.2.2.1 z.2.2.2.2.2) (len B)
      (fun i t => ∃ (x y : Int) (U L : Int64), t = (ul s U L, nI c, nI (qSH B c), lI x, lI y, nI i) ∧ Lt x y (kS B c (fun i => sS B i * sh B i * (60 / nf B i)) i) 60)
      (fun r => ∃ U L f g, r = ul (u8_steadied (u8_low (u8_up s f) g) (upd (g8_steadied s) c (nI (yy B c)))) U L ∧ (∀ k, k ≠ 5 * c + 2 → k ≠ 5 * c + 3 → f k = g8_up s k ∧ g k = g8_low s k) ∧ tl f g (5 * c + 2) (cu B c) (cl B c) ∧ tl f g (5 * c + 3) (bu B c) (bl B c)) (by omega) (fun i k t hi hI ih => ?_) (fun k t hI => ?_) 0 (s, nI c, nI (qSH B c), 0, 1, 0) (Nat.zero_le _) ⟨0, 1, g8_upper s, g8_lower s, rfl, Lt_zero (by decide)⟩
    · obtain ⟨r, e1, U, L, f, g, rfl, h1⟩ := key
      exact ⟨U, L, f, g, e1, h1⟩
    · obtain ⟨x, y, U, L, rfl, hS⟩ := hI
      have n5 := nf_le ok i
      have s1 := sS_le ok i
      have sh1 : sh B i ≤ 1000 := sh_le _ _ _
      have ei := m_isIn (s := ul s U L) h ok hn hi hc
      have em : f_X8_many (ul s U L) = some (nI (len B)) := m_manyL h
      have el : ¬ nI (len B) ≤ nI i := by rw [p_le (by omega) (by omega)]; omega
      dsimp only
      by_cases qk : inK B c i = true
      · obtain ⟨m0, -⟩ := inK_n qk
        obtain ⟨d1, d2⟩ := div60 (nf B i) (by omega) m0
        rw [if_pos qk] at ei
        have hle : kS B c (fun i => sS B i * sh B i * (60 / nf B i)) (i + 1) ≤ qWM B c := kS_mono hi
        rw [kS_T qk] at hle
        obtain ⟨u, l, ea, La⟩ := m_adds (ul s U L) hS.1 (Fr_div (a := sS B i * sh B i) m0 d1) (by rw [← Int.natCast_add]; exact inL_n (by omega)) ⟨by omega, by omega⟩
        have r1 : x_rd 8 (g8_losses s) (nI i) = some (nI (sS B i)) := (p_rd (by omega) (by decide)).trans (congrArg some (hn i hi).2.1)
        have r2 : x_rd 8 (g8_n s) (nI i) = some (nI (nf B i)) := (p_rd (by omega) (by decide)).trans (congrArg some (hn i hi).1)
        have r3 : x_rd 8 (g8_share s) (nI i) = some (nI (sh B i)) := (p_rd (by omega) (by decide)).trans (congrArg some (hs i hi qk))
        have ea' : f_X8_adds (ul s U L) (lI x) (lI y) (Int32.toInt64 (nI (sS B i)) * Int32.toInt64 (nI (sh B i))) (Int32.toInt64 (nI (nf B i))) = some (ul s (lI u) (lI l)) := by
          rw [lI_i (by omega), lI_i (by omega), lI_i (by omega), lU_mul]; exact ea
        obtain ⟨r, e1, e2⟩ := ih (ul s (lI u) (lI l), nI c, nI (qSH B c), lI u, lI l, nI (i + 1)) ⟨u, l, lI u, lI l, rfl, by rw [kS_T qk, Int.natCast_add]; exact La⟩
        refine ⟨r, ?_, e2⟩
        rw [← nI_1 i] at e1
        unfold f_X8_centres_p39
        exact (p_bE em).trans ((if_neg el).trans ((p_bE ei).trans ((if_neg (by decide)).trans ((p_bE r1).trans ((p_bE r3).trans ((p_bE r2).trans ((p_bE ea').trans e1)))))))
      · rw [if_neg qk] at ei
        obtain ⟨r, e1, e2⟩ := ih (ul s U L, nI c, nI (qSH B c), lI x, lI y, nI (i + 1)) ⟨x, y, U, L, rfl, by rw [kS_F qk]; exact hS⟩
        refine ⟨r, ?_, e2⟩
        rw [← nI_1 i] at e1
        unfold f_X8_centres_p39
        exact (p_bE em).trans ((if_neg el).trans ((p_bE ei).trans ((if_pos rfl).trans e1)))
    · obtain ⟨x, y, U, L, rfl, hS⟩ := hI
      have em : f_X8_many (ul s U L) = some (nI (len B)) := m_manyL h
      have el : nI (len B) ≤ nI (len B) := by rw [p_le (by omega) (by omega)]; omega
      change Lt x y (qWM B c) 60 at hS
      obtain ⟨u, l, e1, L1⟩ := m_mults (ul s U L) hS.1 (Fr_self (a := 1) (b := (qSH B c : Int)) (by omega)) (inL_n (by omega)) ⟨by omega, by omega⟩ inL_1 (inL_n (by omega)) (by rw [Int.mul_one]; exact inL_n (by omega)) (by constructor <;> omega)
      have e1' : f_X8_multiplies (ul s U L) (lI x) (lI y) 1 (Int32.toInt64 (nI (qSH B c))) = some (ul s (lI u) (lI l)) := by rw [lI_i (by omega)]; exact e1
      obtain ⟨U2, L2, f, g, e2, e3, e4, e5⟩ := m_centres120 (s := ul s (lI u) (lI l)) h ok hcl hwh hc n0 rfl rfl (by
        unfold cu cl
        rw [if_neg q, if_neg q, Int.natCast_mul]
        rw [Int.mul_one] at L1
        exact L1)
      dsimp only
      refine ⟨ul (u8_steadied (u8_low (u8_up s f) g) (upd (g8_steadied s) c (nI (yy B c)))) U2 L2, ?_, U2, L2, f, g, rfl, e3, e4, e5⟩
      unfold f_X8_centres_p39
      exact (p_bE em).trans ((if_pos el).trans ((p_bE e1').trans e2))
