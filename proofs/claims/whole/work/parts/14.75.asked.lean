/-! PURE: questions, one by one, on -/
theorem ne_out {x : Int32} {n : Nat} (hn : n < 2 ^ 31) (hx : x < 0 ∨ (¬ x < 0 ∧ nI n ≤ x)) {k : Nat} (hk : k < n) : ¬ x = nI k := by
  intro e
  rw [e] at hx
  rcases hx with h | ⟨-, h⟩
  · exact nI_pos (by omega) h
  · rw [p_le (by omega) (by omega)] at h; omega
theorem p_in0' {x b : Int32} {n : Nat} (hb : b = nI n - (1 : Int32)) (hn : n < 2 ^ 31) (hx : x < 0 ∨ (¬ x < 0 ∧ nI n ≤ x)) : f_X8_in x 0 b = some 0 := by
  rw [hb]
  exact p_in0 (p_test hn hx)
theorem op_claimOf {s : S7} {q : S8} (h : RR s q) (x y : Int32) : ∃ r, f_X7_claimOf s x y = some r ∧ f_X8_claimOf q x y = some r := by
  obtain ⟨g, hc, hm⟩ := id h
  have hb := hc.1
  have hw := hm.1
  have w1 := hb.1.2.1
  rcases p_ix x (n := g.1.2.1.length) (by omega) with ⟨i, i1, rfl⟩ | hx
  · obtain ⟨c, hcl, hcm⟩ := p_at i1
    obtain ⟨t1, t2, t3⟩ := hw.2.2.2.2.2.2 i c hcl
    have e7 := (show f_X7_claimOf s (nI i) y = _ from (by unfold f_X7_claimOf; rw [p_yes (c_hasC hb i1), c_fleetOf hb hcl, p_bind, c_yearOf hb hcl, p_bind, c_amountOf hb hcl, p_bind, c_countedOf hb hcl, p_bind]))
    have e8 := (show f_X8_claimOf q (nI i) y = _ from (by unfold f_X8_claimOf; rw [p_yes (m_isClaim hw i1), m_counted hw hcl, p_bind]))
    rcases p_ix y (n := 4) (by decide) with ⟨k, k1, rfl⟩ | hy
    · rw [p_yes (p_in1 (nI_pos (by omega)) (by rw [show (3 : Int32) = nI 3 from rfl, p_lt (by omega) (by omega)]; omega))] at e8
      rcases (show k = 0 ∨ k = 1 ∨ k = 2 ∨ k = 3 by omega) with rfl | rfl | rfl | rfl
      · refine ⟨_, e7.trans (if_pos rfl), e8.trans ((if_neg (by decide)).trans (p_bE ?_))⟩
        rw [show (nI 0 : Int32) = 0 from rfl, p_a0, e20]
        exact (p_rd (by omega) (by decide)).trans (congrArg some t1)
      · refine ⟨_, e7.trans ((if_neg (by decide)).trans (if_pos rfl)), e8.trans ((if_neg (by decide)).trans (p_bE ?_))⟩
        rw [show (nI 1 : Int32) = 1 from rfl, e21]
        exact (p_rd (by omega) (by decide)).trans (congrArg some t2)
      · refine ⟨_, e7.trans ((if_neg (by decide)).trans ((if_neg (by decide)).trans (if_pos rfl))), e8.trans ((if_neg (by decide)).trans (p_bE ?_))⟩
        rw [show (nI 2 : Int32) = 2 from rfl, e22]
        exact (p_rd (by omega) (by decide)).trans (congrArg some t3)
      · exact ⟨_, e7.trans ((if_neg (by decide)).trans ((if_neg (by decide)).trans ((if_neg (by decide)).trans (if_pos rfl)))), e8.trans (if_pos (by decide))⟩
    · have n0 : ¬ y = 0 := ne_out (n := 4) (by decide) hy (k := 0) (by omega)
      have n1 : ¬ y = 1 := ne_out (n := 4) (by decide) hy (k := 1) (by omega)
      have n2 : ¬ y = 2 := ne_out (n := 4) (by decide) hy (k := 2) (by omega)
      have n3 : ¬ y = 3 := ne_out (n := 4) (by decide) hy (k := 3) (by omega)
      exact ⟨_, e7.trans ((if_neg n0).trans ((if_neg n1).trans ((if_neg n2).trans (if_neg n3)))), e8.trans (p_no (p_in0' (n := 4) (by decide) (by decide) hy))⟩
  · exact ⟨_, (by unfold f_X7_claimOf; exact p_no (c_hasC0 hb hx)), (by unfold f_X8_claimOf; exact p_no (m_isClaim0 hw hx))⟩
theorem op_claimsIn {s : S7} {q : S8} (h : RR s q) (x : Int32) : ∃ r, f_X7_claimsIn s x = some r ∧ f_X8_claimsIn q x = some r := by
  obtain ⟨g, hc, hm⟩ := id h
  have hb := hc.1
  have hw := hm.1
  have w1 := hb.1.2.1
  rcases p_ix x (n := 5) (by decide) with ⟨j, j1, rfl⟩ | hx
  · refine ⟨_, (by unfold f_X7_claimsIn; rw [p_yes (c_isYear j1), c_claimsOfYear hb, p_bind]), ?_⟩
    unfold f_X8_claimsIn
    rw [p_yes (m_isYear j1)]
    unfold lp_X8_claimsIn_p13
    refine p_for g.1.2.1.length (fun i => (q, nI j, nI (cnt (fun c => decide (nI c.2.1 = nI j)) (g.1.2.1.take i)), nI i)) _ (by omega) (fun i k hi ih => ?_) (fun k => ?_) 0 (Nat.zero_le _)
    · obtain ⟨c, hcl, hcm⟩ := p_at hi
      dsimp only
      unfold f_X8_claimsIn_p13
      rw [m_claims hw, p_bind, if_neg (by rw [p_le (by omega) (by omega)]; omega), m_yearOf hw hcl, p_bind]
      by_cases q1 : nI c.2.1 = nI j
      · rw [if_pos q1]
        rw [cnt_T _ hcl (by simp [q1]), ← nI_1] at ih
        exact ih
      · rw [if_neg q1]
        rw [cnt_F _ hcl (by simp [q1]), ← nI_1] at ih
        exact ih
    · dsimp only
      unfold f_X8_claimsIn_p13
      rw [m_claims hw, p_bind, if_pos (by rw [p_le (by omega) (by omega)]; omega), cnt_all]
  · exact ⟨_, (by unfold f_X7_claimsIn; exact p_no (c_isYear0 hx)), (by unfold f_X8_claimsIn; exact p_no (m_isYear0 hx))⟩
/-! above the cap -/
abbrev abv (B : Bk) (f : Nat) (c : Cm) : Bool := decide (c.1 = f) && decide (B.2.2.1 < c.2.2)
theorem c_above {b : S0} {B : Bk} (h : rC b B) {f : Nat} (hf : f < 8) : f_X0_claimsAboveCap b (nI f) = some (nI (cnt (abv B f) B.2.1)) := by
  have w0 := h.1.2.1
  have w1 := h.1.2.2.2.2.1
  unfold f_X0_claimsAboveCap lp_X0_claimsAboveCap_p4
  refine p_for B.2.1.length (fun i => (b, nI f, nI (cnt (abv B f) (B.2.1.take i)), nI i)) _ (by omega) (fun i k hi ih => ?_) (fun k => ?_) 0 (Nat.zero_le _)
  · obtain ⟨c, hc, hcm⟩ := p_at hi
    have wc := h.1.2.2.2.1 c hcm
    have wc1 := wc.1
    have wc2 := wc.2.2
    dsimp only
    unfold f_X0_claimsAboveCap_p4
    rw [h.2.2.1, if_neg (by rw [p_le (by omega) (by omega)]; omega), c_fleetOf h hc, p_bind, c_amountOf h hc, p_bind, h.2.2.2.1, p_a0]
    by_cases q1 : c.1 = f
    · rw [if_pos (by rw [q1])]
      by_cases q2 : c.2.2 ≤ B.2.2.1
      · rw [if_pos (by rw [p_le (by omega) (by omega)]; exact q2)]
        rw [cnt_F _ hc (by simp; omega), ← nI_1] at ih
        exact ih
      · rw [if_neg (by rw [p_le (by omega) (by omega)]; exact q2)]
        rw [cnt_T _ hc (by simp; omega), ← nI_1] at ih
        exact ih
    · rw [if_neg (by rw [p_eq (by omega) (by omega)]; exact q1)]
      rw [cnt_F _ hc (by simp [q1]), ← nI_1] at ih
      exact ih
  · dsimp only
    unfold f_X0_claimsAboveCap_p4
    rw [h.2.2.1, if_pos (by rw [p_le (by omega) (by omega)]; omega), cnt_all]
theorem m_above {s : S8} {B : Bk} (h : rM (g8_now s) B) (x : Int32) : f_X8_aboveCap s x = some (nI (cnt (fun c => (decide (x = -1) || decide (nI c.1 = x)) && decide (B.2.2.1 < c.2.2)) B.2.1)) := by
  have w0 := h.1.2.1
  have w1 := h.1.2.2.2.2.1
  unfold f_X8_aboveCap lp_X8_aboveCap_p4
  refine p_for B.2.1.length (fun i => (s, x, nI (cnt (fun c => (decide (x = -1) || decide (nI c.1 = x)) && decide (B.2.2.1 < c.2.2)) (B.2.1.take i)), nI i)) _ (by omega) (fun i k hi ih => ?_) (fun k => ?_) 0 (Nat.zero_le _)
  · obtain ⟨c, hc, hcm⟩ := p_at hi
    have wc := h.1.2.2.2.1 c hcm
    have wc2 := wc.2.2
    have e26 : f_X8_aboveCap_p26 (fun s x1 x2 x3 => k (s, x1, x2, x3)) s x (nI (cnt (fun c => (decide (x = -1) || decide (nI c.1 = x)) && decide (B.2.2.1 < c.2.2)) (B.2.1.take i))) (nI i) = if c.2.2 ≤ B.2.2.1 then k (s, x, nI (cnt (fun c => (decide (x = -1) || decide (nI c.1 = x)) && decide (B.2.2.1 < c.2.2)) (B.2.1.take i)), nI (i + 1)) else k (s, x, nI (cnt (fun c => (decide (x = -1) || decide (nI c.1 = x)) && decide (B.2.2.1 < c.2.2)) (B.2.1.take i)) + 1, nI (i + 1)) := by
      unfold f_X8_aboveCap_p26
      rw [m_amountOf h hc, p_bind, show x_rd 140 (g8_now s) 0 = some (nI B.2.2.1) from (p_rd (i := 0) (by decide) (by decide)).trans (congrArg some h.2.1), p_bind]
      simp only [p_le (a := c.2.2) (b := B.2.2.1) (by omega) (by omega), nI_1]
    dsimp only
    unfold f_X8_aboveCap_p4
    rw [m_claims h, p_bind, if_neg (by rw [p_le (by omega) (by omega)]; omega), m_fleetOf h hc, p_bind, e26, nI_1 i]
    have hyes : (decide (x = -1) || decide (nI c.1 = x)) = true → (if c.2.2 ≤ B.2.2.1 then k (s, x, nI (cnt (fun c => (decide (x = -1) || decide (nI c.1 = x)) && decide (B.2.2.1 < c.2.2)) (B.2.1.take i)), nI (i + 1)) else k (s, x, nI (cnt (fun c => (decide (x = -1) || decide (nI c.1 = x)) && decide (B.2.2.1 < c.2.2)) (B.2.1.take i)) + 1, nI (i + 1))) = some (nI (cnt (fun c => (decide (x = -1) || decide (nI c.1 = x)) && decide (B.2.2.1 < c.2.2)) B.2.1)) := by
      intro hx
      by_cases q2 : c.2.2 ≤ B.2.2.1
      · rw [if_pos q2]
        rw [cnt_F _ hc (by simp; omega)] at ih
        exact ih
      · rw [if_neg q2]
        rw [cnt_T _ hc (by rw [hx]; simp; omega)] at ih
        exact ih
    by_cases q1 : x = -1
    · rw [if_pos q1]
      exact hyes (by simp [q1])
    · rw [if_neg q1]
      by_cases q2 : nI c.1 = x
      · rw [if_pos q2]
        exact hyes (by simp [q2])
      · rw [if_neg q2]
        rw [cnt_F _ hc (by simp [q1, q2])] at ih
        exact ih
  · dsimp only
    unfold f_X8_aboveCap_p4
    rw [m_claims h, p_bind, if_pos (by rw [p_le (by omega) (by omega)]; omega), cnt_all]
theorem op_of {s : S7} {q : S8} (h : RR s q) (x y : Int32) : ∃ r s' q', f_X7_of s x y = some (r, s') ∧ f_X8_of q x y = some (r, q') ∧ RR s' q' := by
  obtain ⟨g, hc, hm⟩ := id h
  have hb := hc.1
  have ok := hc.2.1
  have w := ok.1.1
  change len g.1 ≤ 8 at w
  rcases p_ix x (n := len g.1) (by omega) with ⟨i, hi, rfl⟩ | hx
  · obtain ⟨f, hf, hfm⟩ := p_at (l := g.1.1) hi
    obtain ⟨l, e1, hl⟩ := c_reckon (g7_ledger s) hb ok
    have e7 := (show f_X7_of s (nI i) y = _ from (by unfold f_X7_of; rw [p_yes (c_hasF hb hi), e1, p_bind]))
    have e8 := (show f_X8_of q (nI i) y = _ from (by unfold f_X8_of; rw [p_yes (m_isFleet hm.1 hi)]))
    rcases p_ix y (n := 8) (by decide) with ⟨k, k1, rfl⟩ | hy
    · obtain ⟨q', e2, k2, w2⟩ := m_works hm.1 ok
      have hm' : rM (g8_now q') g.1 := by rw [k2.1]; exact hm.1
      obtain ⟨t1, t2, t3, t4⟩ := hl.2.2.1 i hi
      have t5 := hl.2.2.2.1 i hi
      obtain ⟨v1, v2, v3⟩ := w2.1.1 i hi
      have n5 := nf_le ok i
      rw [p_yes (p_in1 (nI_pos (by omega)) (by rw [show (7 : Int32) = nI 7 from rfl, p_lt (by omega) (by omega)]; omega)), e2, p_bind] at e8
      have hR := RR_K hc hm (s' := u7_ledger s l) ⟨rfl, rfl, rfl⟩ (K8_k k2)
      rcases (show k = 0 ∨ k = 1 ∨ k = 2 ∨ k = 3 ∨ k = 4 ∨ k = 5 ∨ k = 6 ∨ k = 7 by omega) with rfl | rfl | rfl | rfl | rfl | rfl | rfl | rfl
      · exact ⟨_, _, _, e7.trans ((if_pos rfl).trans (p_bE (c_classOf hb hf))), e8.trans ((if_pos rfl).trans (p_bE (m_classOf hm' hf))), hR⟩
      · exact ⟨_, _, _, e7.trans ((if_neg (by decide)).trans ((if_pos rfl).trans (p_bE (c_yearsOf hb hf)))), e8.trans ((if_neg (by decide)).trans ((if_pos rfl).trans (p_bE (m_yearsOf hm' hf)))), hR⟩
      · refine ⟨nI (nf g.1 i), _, _, e7.trans ((if_neg (by decide)).trans ((if_neg (by decide)).trans ((if_pos rfl).trans (p_bE ?_)))), e8.trans ((if_neg (by decide)).trans ((if_neg (by decide)).trans ((if_pos rfl).trans (p_bE ?_)))), hR⟩
        · unfold f_X1_spanOf; rw [p_yes (c_hasRow w hl.1 hi), p_rd (by omega) (by decide), p_bind, t2]
        · exact (p_rd (by omega) (by decide)).trans (congrArg some v1)
      · refine ⟨nI (sS g.1 i), _, _, e7.trans ((if_neg (by decide)).trans ((if_neg (by decide)).trans ((if_neg (by decide)).trans ((if_pos rfl).trans (p_bE ?_))))), e8.trans ((if_neg (by decide)).trans ((if_neg (by decide)).trans ((if_neg (by decide)).trans ((if_pos rfl).trans (p_bE ?_))))), hR⟩
        · unfold f_X1_sumOf; rw [p_yes (c_hasRow w hl.1 hi), p_rd (by omega) (by decide), p_bind, t3]
        · exact (p_rd (by omega) (by decide)).trans (congrArg some v2)
      · refine ⟨nI (sQ g.1 i), _, _, e7.trans ((if_neg (by decide)).trans ((if_neg (by decide)).trans ((if_neg (by decide)).trans ((if_neg (by decide)).trans ((if_pos rfl).trans (p_bE ?_)))))), e8.trans ((if_neg (by decide)).trans ((if_neg (by decide)).trans ((if_neg (by decide)).trans ((if_neg (by decide)).trans ((if_pos rfl).trans (p_bE ?_)))))), hR⟩
        · unfold f_X1_squaresOf; rw [p_yes (c_hasRow w hl.1 hi), p_rd (by omega) (by decide), p_bind, t4]
        · exact (p_rd (by omega) (by decide)).trans (congrArg some v3)
      · refine ⟨_, _, _, e7.trans ((if_neg (by decide)).trans ((if_neg (by decide)).trans ((if_neg (by decide)).trans ((if_neg (by decide)).trans ((if_neg (by decide)).trans ((if_pos rfl).trans (p_bE (c_claimsWith hb _)))))))), e8.trans ((if_neg (by decide)).trans ((if_neg (by decide)).trans ((if_neg (by decide)).trans ((if_neg (by decide)).trans ((if_neg (by decide)).trans ((if_pos rfl).trans (p_bE ((m_claimsOf hm' _ _).trans ?_)))))))), hR⟩
        congr 2
        exact cnt_congr (fun c _ => by simp)
      · refine ⟨_, _, _, e7.trans ((if_neg (by decide)).trans ((if_neg (by decide)).trans ((if_neg (by decide)).trans ((if_neg (by decide)).trans ((if_neg (by decide)).trans ((if_neg (by decide)).trans ((if_pos rfl).trans (p_bE (c_above hb (by omega)))))))))), e8.trans ((if_neg (by decide)).trans ((if_neg (by decide)).trans ((if_neg (by decide)).trans ((if_neg (by decide)).trans ((if_neg (by decide)).trans ((if_neg (by decide)).trans ((if_pos rfl).trans (p_bE ((m_above hm' _).trans ?_))))))))), hR⟩
        congr 2
        refine cnt_congr (fun c hcm => ?_)
        have := (ok.1.2.2.2.1 c hcm).1
        simp [nI_m1 (n := i) (by omega), p_eq (a := c.1) (b := i) (by omega) (by omega)]
      · have r1 : x_rd 8 (g8_n q') (nI i) = some (nI (nf g.1 i)) := (p_rd (by omega) (by decide)).trans (congrArg some v1)
        have e9 : f_X1_shareOf l (nI i) = some (if nf g.1 i = 0 then -2 else nI (sh g.1 i)) := by
          unfold f_X1_shareOf; rw [p_yes (c_hasRow w hl.1 hi), p_rd (by omega) (by decide), p_bind, t5]
        refine ⟨_, _, q', e7.trans ((if_neg (by decide)).trans ((if_neg (by decide)).trans ((if_neg (by decide)).trans ((if_neg (by decide)).trans ((if_neg (by decide)).trans ((if_neg (by decide)).trans ((if_neg (by decide)).trans ((if_pos rfl).trans (p_bE e9))))))))), e8.trans ((if_neg (by decide)).trans ((if_neg (by decide)).trans ((if_neg (by decide)).trans ((if_neg (by decide)).trans ((if_neg (by decide)).trans ((if_neg (by decide)).trans ((if_neg (by decide)).trans ((p_bE r1).trans ?_)))))))), hR⟩
        by_cases q0 : nf g.1 i = 0
        · rw [if_pos q0, q0, if_pos (by decide)]
        · rw [if_neg q0, if_neg (by rw [show (0 : Int32) = nI 0 from rfl, p_eq (by omega) (by omega)]; exact q0)]
          exact p_bE ((p_rd (by omega) (by decide)).trans (congrArg some (w2.2.2 i hi (by omega)).1))
    · have hn : ∀ k, k < 8 → ¬ y = nI k := fun k hk => ne_out (n := 8) (by decide) hy hk
      exact ⟨_, _, _, e7.trans ((if_neg (hn 0 (by omega))).trans ((if_neg (hn 1 (by omega))).trans ((if_neg (hn 2 (by omega))).trans ((if_neg (hn 3 (by omega))).trans ((if_neg (hn 4 (by omega))).trans ((if_neg (hn 5 (by omega))).trans ((if_neg (hn 6 (by omega))).trans (if_neg (hn 7 (by omega)))))))))), e8.trans (p_no (p_in0' (n := 8) (by decide) (by decide) hy)), RR_K hc hm ⟨rfl, rfl, rfl⟩ (K8_r q)⟩
  · exact ⟨_, _, _, (by unfold f_X7_of; exact p_no (c_hasF0 hb hx)), (by unfold f_X8_of; exact p_no (m_isFleet0 hm.1 hx)), h⟩
