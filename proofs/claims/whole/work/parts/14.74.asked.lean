/-! PURE: questions, one by one -/
theorem rt_0 {B : Bk} {i : Nat} (h : nf B i = 0) : rt B i = -2 := by unfold rt; rw [if_pos h]
theorem rt_1 {B : Bk} {i : Nat} (h : 0 < nf B i) : rt B i = nI (thN B i) := by unfold rt; rw [if_neg (by omega)]
theorem c_rateIn3 {s : S7} {g : Sg} (hc : RC s g) {i : Nat} (hi : i < len g.1) : ∃ s', f_X7_rateIn_i3 s (nI i) = some (rt g.1 i, s') ∧ K7 s s' := by
  obtain ⟨l, e1, hl⟩ := c_reckon (g7_ledger s) hc.1 hc.2.1
  obtain ⟨l', e2, hl'⟩ := c_rateCut hc.2.1 hl hi
  refine ⟨u7_ledger s l', ?_, rfl, rfl, rfl⟩
  unfold f_X7_rateIn_i3
  rw [p_yes (c_hasF hc.1 hi), e1, p_bind, e2, p_bind]
theorem c_rateIn30 {s : S7} {g : Sg} (hc : RC s g) {x : Int32} (hx : x < 0 ∨ (¬ x < 0 ∧ nI (len g.1) ≤ x)) : f_X7_rateIn_i3 s x = some (-1, s) := by
  unfold f_X7_rateIn_i3
  exact p_no (c_hasF0 hc.1 hx)
theorem op_thousandths {s : S7} {q : S8} (h : RR s q) (x : Int32) : ∃ r s' q', f_X7_thousandths s x = some (r, s') ∧ f_X8_thousandths q x = some (r, q') ∧ RR s' q' := by
  obtain ⟨g, hc, hm⟩ := id h
  have w := hc.2.1.1.1
  change len g.1 ≤ 8 at w
  rcases p_ix x (n := len g.1) (by omega) with ⟨i, hi, rfl⟩ | hx
  · obtain ⟨s', e1, k1⟩ := c_rateIn3 hc hi
    have e7 : f_X7_thousandths s (nI i) = some (rt g.1 i, s') := by unfold f_X7_thousandths; rw [e1, p_bind]
    by_cases q0 : nf g.1 i = 0
    · refine ⟨_, s', q, e7, ?_, RR_K hc hm k1 (K8_r q)⟩
      unfold f_X8_thousandths
      rw [p_yes (m_isFleet hm.1 hi), m_isRated hc.2.1 hm.1 hi, if_pos q0, p_bind, if_pos rfl, rt_0 q0]
    · obtain ⟨q', e2, k2, -⟩ := m_ratedNow hc.2.1 hm.1 hi (by omega)
      refine ⟨_, s', q', e7, ?_, RR_K hc hm k1 (K8_k k2)⟩
      unfold f_X8_thousandths
      rw [p_yes (m_isFleet hm.1 hi), m_isRated hc.2.1 hm.1 hi, if_neg q0, p_bind, if_neg (by decide), e2, p_bind, rt_1 (by omega)]
  · refine ⟨-1, s, q, ?_, ?_, h⟩
    · unfold f_X7_thousandths; rw [c_rateIn30 hc hx, p_bind]
    · unfold f_X8_thousandths; exact p_no (m_isFleet0 hm.1 hx)
theorem th_ge {B : Bk} (ok : okB B) {i : Nat} (hi : i < len B) (hn : 0 < nf B i) : 0 ≤ rt B i ∧ ¬ rt B i < 0 := by
  have := th_le ok hi hn
  rw [rt_1 hn]
  refine ⟨?_, nI_pos (by omega)⟩
  rw [show (0 : Int32) = nI 0 from rfl, p_le (by omega) (by omega)]
  omega
theorem op_gap {s : S7} {q : S8} (h : RR s q) (x y : Int32) : ∃ r s' q', f_X7_gap s x y = some (r, s') ∧ f_X8_gap q x y = some (r, q') ∧ RR s' q' := by
  obtain ⟨g, hc, hm⟩ := id h
  have ok := hc.2.1
  have w := ok.1.1
  change len g.1 ≤ 8 at w
  rcases p_ix x (n := len g.1) (by omega) with ⟨i, hi, rfl⟩ | hx
  · obtain ⟨s1, e1, k1⟩ := c_rateIn3 hc hi
    have hc1 := RC_K hc k1
    rcases p_ix y (n := len g.1) (by omega) with ⟨j, hj, rfl⟩ | hy
    · obtain ⟨s2, e2, k2⟩ := c_rateIn3 hc1 hj
      have k3 : K7 s s2 := ⟨k2.1.trans k1.1, k2.2.1.trans k1.2.1, k2.2.2.trans k1.2.2⟩
      have e7 := (show f_X7_gap s (nI i) (nI j) = _ from (by unfold f_X7_gap; rw [e1, p_bind, e2, p_bind]))
      dsimp only at e7
      have e8 := (show f_X8_gap q (nI i) (nI j) = _ from (by unfold f_X8_gap; rw [p_yes (m_isFleet hm.1 hi), p_yes (m_isFleet hm.1 hj), m_isRated ok hm.1 hi, p_bind, m_isRated ok hm.1 hj, p_bind]))
      by_cases n1 : nf g.1 i = 0
      · rw [if_pos n1, if_pos rfl] at e8
        rw [rt_0 n1, if_pos (by decide)] at e7
        exact ⟨_, _, _, e7, e8, RR_K hc hm k3 (K8_r q)⟩
      · rw [if_neg n1, if_neg (by decide)] at e8
        rw [if_neg (th_ge ok hi (by omega)).2] at e7
        by_cases n2 : nf g.1 j = 0
        · rw [if_pos n2, if_pos rfl] at e8
          rw [rt_0 n2, if_neg (by decide)] at e7
          exact ⟨_, _, _, e7, e8, RR_K hc hm k3 (K8_r q)⟩
        · obtain ⟨q', e3, k4, w4⟩ := m_works hm.1 ok
          rw [if_neg n2, if_neg (by decide), e3, p_bind, m_thou ok (by omega) (w4.2.2 i hi (by omega)).2, p_bind, m_thou ok (by omega) (w4.2.2 j hj (by omega)).2, p_bind] at e8
          rw [if_pos (th_ge ok hj (by omega)).1, rt_1 (by omega), rt_1 (by omega)] at e7
          exact ⟨_, _, _, e7, e8, RR_K hc hm k3 (K8_k k4)⟩
    · refine ⟨-1000000, s1, q, ?_, ?_, RR_K hc hm k1 (K8_r q)⟩
      · unfold f_X7_gap
        rw [e1, p_bind, c_rateIn30 hc1 hy, p_bind]
        dsimp only
        split
        · rfl
        · rw [if_neg (by decide)]
      · unfold f_X8_gap
        rw [p_yes (m_isFleet hm.1 hi), p_no (m_isFleet0 hm.1 hy)]
  · have e8 : f_X8_gap q x y = some (-1000000, q) := by unfold f_X8_gap; exact p_no (m_isFleet0 hm.1 hx)
    rcases p_ix y (n := len g.1) (by omega) with ⟨j, hj, rfl⟩ | hy
    · obtain ⟨s2, e2, k2⟩ := c_rateIn3 hc hj
      refine ⟨-1000000, s2, q, ?_, e8, RR_K hc hm k2 (K8_r q)⟩
      unfold f_X7_gap
      rw [c_rateIn30 hc hx, p_bind, e2, p_bind]
      dsimp only
      rw [if_pos (by decide)]
    · refine ⟨-1000000, s, q, ?_, e8, h⟩
      unfold f_X7_gap
      rw [c_rateIn30 hc hx, p_bind, c_rateIn30 hc hy, p_bind]
      dsimp only
      rw [if_pos (by decide)]
/-- a number between two bounds, as both ask it -/
theorem p_btw (x : Int32) {n : Nat} {b : Int32} (hb : b = nI n) (hn : n < 2 ^ 31 - 1) : (∃ j : Nat, 1 ≤ j ∧ j ≤ n ∧ x = nI j ∧ ¬ x < 1 ∧ x ≤ b ∧ ¬ b < x) ∨ ((x < 1 ∨ b < x) ∧ (x < 1 ∨ ¬ x ≤ b)) := by
  subst hb
  by_cases q1 : x < 1
  · exact Or.inr ⟨Or.inl q1, Or.inl q1⟩
  · rcases p_ix x (n := n + 1) (by omega) with ⟨j, hj, rfl⟩ | hx
    · have j1 : 1 ≤ j := by
        rcases Nat.eq_zero_or_pos j with h | h
        · rw [h] at q1; exact absurd (by decide) q1
        · exact h
      exact Or.inl ⟨j, j1, by omega, rfl, q1, by rw [p_le (by omega) (by omega)]; omega, by rw [p_lt (by omega) (by omega)]; omega⟩
    · have h2 : nI n < x := by
        rcases hx with h | ⟨-, h⟩
        · exact absurd (by rw [i_lt] at h ⊢; exact Int.lt_trans h (by decide)) q1
        · rw [i_lt]
          rw [i_le, nI_toInt (by omega)] at h
          rw [nI_toInt (by omega)]
          omega
      exact Or.inr ⟨Or.inr h2, Or.inr (by rw [i_le]; rw [i_lt] at h2; omega)⟩
theorem op_premium {s : S7} {q : S8} (h : RR s q) (x y : Int32) : ∃ r s' q', f_X7_premium s x y = some (r, s') ∧ f_X8_premium q x y = some (r, q') ∧ RR s' q' := by
  obtain ⟨g, hc, hm⟩ := id h
  have ok := hc.2.1
  have w := ok.1.1
  change len g.1 ≤ 8 at w
  rcases p_btw y (n := 60) (b := 60) rfl (by decide) with ⟨j, j1, j2, ej, y1, y2, y3⟩ | ⟨hy, hy'⟩
  · have e7 := (show f_X7_premium s x y = _ from (by unfold f_X7_premium; rw [if_neg y1, if_pos y2]))
    rcases p_ix x (n := len g.1) (by omega) with ⟨i, hi, rfl⟩ | hx
    · obtain ⟨s1, e1, k1⟩ := c_rateIn3 hc hi
      have e8 := (show f_X8_premium q (nI i) y = _ from (by unfold f_X8_premium; rw [p_yes (m_isFleet hm.1 hi), p_yes (p_in1 y1 y3), m_isRated ok hm.1 hi, p_bind]))
      rw [e1, p_bind] at e7
      dsimp only at e7
      by_cases n1 : nf g.1 i = 0
      · rw [if_pos n1, if_pos rfl] at e8
        rw [rt_0 n1, if_neg (by decide)] at e7
        exact ⟨_, _, _, e7, e8, RR_K hc hm k1 (K8_r q)⟩
      · obtain ⟨q', e3, k4, -⟩ := m_ratedNow ok hm.1 hi (by omega)
        rw [if_neg n1, if_neg (by decide), e3, p_bind] at e8
        rw [if_pos (th_ge ok hi (by omega)).1, rt_1 (by omega)] at e7
        exact ⟨_, _, _, e7, e8, RR_K hc hm k1 (K8_k k4)⟩
    · rw [c_rateIn30 hc hx, p_bind] at e7
      dsimp only at e7
      rw [if_neg (by decide)] at e7
      exact ⟨_, _, _, e7, (by unfold f_X8_premium; exact p_no (m_isFleet0 hm.1 hx)), h⟩
  · refine ⟨-1, s, q, ?_, ?_, h⟩
    · unfold f_X7_premium
      rcases hy' with h' | h'
      · rw [if_pos h']
      · rw [if_neg h']
        split <;> rfl
    · unfold f_X8_premium
      rcases p_ix x (n := len g.1) (by omega) with ⟨i, hi, rfl⟩ | hx
      · rw [p_yes (m_isFleet hm.1 hi), p_no (p_in0 hy)]
      · exact p_no (m_isFleet0 hm.1 hx)
theorem op_rate {s : S7} {q : S8} (h : RR s q) (x y : Int32) : ∃ r s' q', f_X7_rate s x y = some (r, s') ∧ f_X8_rate q x y = some (r, q') ∧ RR s' q' := by
  obtain ⟨g, hc, hm⟩ := id h
  have ok := hc.2.1
  have w := ok.1.1
  change len g.1 ≤ 8 at w
  obtain ⟨l, e1, hl⟩ := c_reckon (g7_ledger s) hc.1 ok
  have e7 := (show f_X7_rate s x y = _ from (by unfold f_X7_rate; rw [e1, p_bind]))
  have hnone : f_X1_isRated l x = some 0 → f_X7_rate s x y = some (-1000000000, u7_told (u7_ledger s l) (lI 0, lI 0)) := by
    intro hr
    have e2 : f_X1_putRate l (g7_told s) x = some (lI 0, lI 0) := by
      unfold f_X1_putRate f_X5_putNone
      rw [p_bind, hr, p_bind, if_pos rfl]; rfl
    rw [e7, e2, p_bind, c_part0 inL_0 (by omega), p_bind]
  rcases p_ix x (n := len g.1) (by omega) with ⟨i, hi, rfl⟩ | hx
  · have e8 := (show f_X8_rate q (nI i) y = _ from (by unfold f_X8_rate; rw [p_yes (m_isFleet hm.1 hi), m_isRated ok hm.1 hi, p_bind]))
    by_cases n1 : nf g.1 i = 0
    · rw [if_pos n1, if_pos rfl] at e8
      exact ⟨_, _, _, hnone (by rw [c_isRated ok hl hi, if_pos n1]), e8, RR_K hc hm ⟨rfl, rfl, rfl⟩ (K8_r q)⟩
    · obtain ⟨q', e3, k4, w4⟩ := m_works hm.1 ok
      obtain ⟨u, v, eu, ev, hL⟩ := (w4.2.2 i hi (by omega)).2
      have a1 := rl_le ok i
      have a2 := ru_le ok i
      have r1 : x_rd 8 (g8_rateUp q') (nI i) = some (lI u) := (p_rd (by omega) (by decide)).trans (congrArg some eu)
      have r2 : x_rd 8 (g8_rateLow q') (nI i) = some (lI v) := (p_rd (by omega) (by decide)).trans (congrArg some ev)
      rw [if_neg n1, if_neg (by decide), e3, p_bind, r1, p_bind, r2, p_bind] at e8
      rw [c_putRate ok hl hi (by omega), p_bind, c_part (inL_n (by omega)) (inL_n (by omega)) hL, p_bind] at e7
      refine ⟨_, _, q', e7, ?_, RR_K hc hm ⟨rfl, rfl, rfl⟩ (K8_k k4)⟩
      rw [e8]
      split <;> rfl
  · exact ⟨_, _, _, hnone (c_isRated0 hl hx), (by unfold f_X8_rate; exact p_no (m_isFleet0 hm.1 hx)), RR_K hc hm ⟨rfl, rfl, rfl⟩ (K8_r q)⟩
theorem op_whole {s : S7} {q : S8} (h : RR s q) (y : Int32) : ∃ r s' q', f_X7_whole s y = some (r, s') ∧ f_X8_whole q y = some (r, q') ∧ RR s' q' := by
  obtain ⟨g, hc, hm⟩ := id h
  have ok := hc.2.1
  have s40 := aN_le ok
  have s41 := aS_le ok (len g.1)
  obtain ⟨l, e1, hl⟩ := c_reckon (g7_ledger s) hc.1 ok
  obtain ⟨q', e2, k2, w2⟩ := m_sums hm.1 ok
  have ep : f_X1_putWhole l (g7_told s) = some (lU (aS g.1 (len g.1)), lU (aN g.1 (len g.1))) := by
    unfold f_X1_putWhole f_X5_put
    rw [hl.2.2.2.2.2.2.2.1, hl.2.2.2.2.2.2.2.2, lI_i (by omega), lI_i (by omega)]
    rfl
  have e7 := (show f_X7_whole s y = _ from (by unfold f_X7_whole; rw [e1, p_bind, ep, p_bind]))
  have e8 := (show f_X8_whole q y = _ from (by unfold f_X8_whole; rw [e2, p_bind]))
  have hw := w2.2.2
  unfold whole8 at hw
  by_cases a0 : aN g.1 (len g.1) = 0
  · rw [if_pos a0] at hw
    rw [hw, if_pos (by decide)] at e8
    rw [c_part0 (inL_n (by omega)) (by omega), p_bind] at e7
    exact ⟨_, _, _, e7, e8, RR_K hc hm ⟨rfl, rfl, rfl⟩ (K8_k k2)⟩
  · rw [if_neg a0] at hw
    obtain ⟨u, v, eu, ev, hL⟩ := hw
    have il := Fr_in hL.1 (inL_n (by omega)) (inL_n (by omega))
    rw [eu, ev, if_neg (show ¬ lg_cmp (lI v) 0 = 0 by rw [c0_eq il.2]; have := hL.1.1; omega)] at e8
    rw [c_part (inL_n (by omega)) (inL_n (by omega)) hL, p_bind] at e7
    refine ⟨_, _, q', e7, ?_, RR_K hc hm ⟨rfl, rfl, rfl⟩ (K8_k k2)⟩
    rw [e8]
    split <;> rfl
theorem c_spreadIn {s : S7} {b : S0} {B : Bk} (hb : rC b B) (ok : okB B) {c k : Nat} (hc : c < 3) (hk : k < 5) {z : S8} (hz : clsOK z B c) (y : Int32) : ∃ l, Option.bind (f_X1_reckon (g7_ledger s) b) (fun v1 => Option.bind (f_X1_putSpread v1 (g7_told s) (nI c) (nI k)) (fun v3 => Option.bind (f_X5_part v3 y) (fun v5 => some (v5, (u7_told (u7_ledger s v1) v3))))) = some ((if lg_cmp (g8_low z (5 * c + k)) 0 = 0 then -1000000000 else if y = 0 then g8_up z (5 * c + k) else g8_low z (5 * c + k)), u7_told (u7_ledger s l) (lI (spA B c k), lI (spM B c k : Int))) := by
  obtain ⟨l, e1, hl⟩ := c_reckon (g7_ledger s) hb ok
  have hi := sp_in ok c k
  refine ⟨l, ?_⟩
  rw [e1, p_bind, c_putSpread ok hl hc hk, p_bind, tell_part (cls_tell ok hz hk) hi.1 hi.2, p_bind]
theorem m_spreadNow {s : S8} {B : Bk} (ok : okB B) (h : rM (g8_now s) B) {c k : Nat} (hc : c < 3) (hk : k < 5) (y : Int32) : ∃ z, f_X8_spreadNow s (nI c) (nI k) y = some ((if lg_cmp (g8_low z (5 * c + k)) 0 = 0 then -1000000000 else if y = 0 then g8_up z (5 * c + k) else g8_low z (5 * c + k)), z) ∧ keep8 s z ∧ rW z B := by
  obtain ⟨z, e1, k1, w1⟩ := m_works h ok
  refine ⟨z, ?_, k1, w1⟩
  have r1 : x_rd 15 (g8_low z) ((5 : Int32) * nI c + nI k) = some (g8_low z (5 * c + k)) := by rw [e5c, nI_add]; exact p_rd (by omega) (by decide)
  have r2 : x_rd 15 (g8_up z) ((5 : Int32) * nI c + nI k) = some (g8_up z (5 * c + k)) := by rw [e5c, nI_add]; exact p_rd (by omega) (by decide)
  unfold f_X8_spreadNow
  refine (p_bE e1).trans ((p_bE r1).trans ?_)
  by_cases q : lg_cmp (g8_low z (5 * c + k)) 0 = 0
  · rw [if_pos q, if_pos q]
  · rw [if_neg q, if_neg q]
    by_cases q2 : y = 0
    · rw [if_pos q2, if_pos q2]; exact p_bE r2
    · rw [if_neg q2, if_neg q2]; exact p_bE r1
theorem op_spread {s : S7} {q : S8} (h : RR s q) (x y z : Int32) : ∃ r s' q', f_X7_spread s x y z = some (r, s') ∧ f_X8_spread q x y z = some (r, q') ∧ RR s' q' := by
  obtain ⟨g, hc, hm⟩ := id h
  have ok := hc.2.1
  rcases p_ix x (n := 3) (by decide) with ⟨c, c1, rfl⟩ | hx
  · rcases p_ix y (n := 5) (by decide) with ⟨k, k1, rfl⟩ | hy
    · obtain ⟨q', e8, kk, w8⟩ := m_spreadNow ok hm.1 c1 k1 z
      obtain ⟨l, e7⟩ := c_spreadIn (s := s) hc.1 ok c1 k1 (w8.2.1 c c1) z
      have E7 := (show f_X7_spread s (nI c) (nI k) z = _ from (by unfold f_X7_spread f_X7_spreadIn_i3; rw [p_yes (c_isClass c1), e7, p_bind]))
      have E8 := (show f_X8_spread q (nI c) (nI k) z = _ from (by unfold f_X8_spread; rw [p_yes (m_isClass c1), p_yes (p_in1 (nI_pos (by omega)) (by rw [show (4 : Int32) = nI 4 from rfl, p_lt (by omega) (by omega)]; omega)), e8, p_bind]))
      exact ⟨_, _, _, E7, E8, RR_K hc hm ⟨rfl, rfl, rfl⟩ (K8_k kk)⟩
    · obtain ⟨l, e1, hl⟩ := c_reckon (g7_ledger s) hc.1 ok
      refine ⟨-1000000000, u7_told (u7_ledger s l) (lI 0, lI 0), q, ?_, ?_, RR_K hc hm ⟨rfl, rfl, rfl⟩ (K8_r q)⟩
      · unfold f_X7_spread f_X7_spreadIn_i3
        rw [p_yes (c_isClass c1), e1, p_bind, c_putSpread0 c1 hy, p_bind, c_part0 inL_0 (by omega), p_bind, p_bind]
      · unfold f_X8_spread
        have hy' : y < 0 ∨ (4 : Int32) < y := p_test (n := 5) (by decide) hy
        rw [p_yes (m_isClass c1), p_no (p_in0 hy')]
  · exact ⟨_, _, _, (by unfold f_X7_spread; exact p_no (c_isClass0 hx)), (by unfold f_X8_spread; exact p_no (m_isClass0 hx)), h⟩
theorem op_loss {s : S7} {q : S8} (h : RR s q) (x y : Int32) : ∃ r s', f_X7_loss s x y = some (r, s') ∧ f_X8_loss q x y = some r ∧ RR s' q := by
  obtain ⟨g, hc, hm⟩ := id h
  have ok := hc.2.1
  have w := ok.1.1
  change len g.1 ≤ 8 at w
  rcases p_ix x (n := len g.1) (by omega) with ⟨i, hi, rfl⟩ | hx
  · obtain ⟨f, hf, hfm⟩ := p_at (l := g.1.1) hi
    rcases p_ix y (n := 5) (by decide) with ⟨j, j1, rfl⟩ | hy
    · have e7 := (show f_X7_loss s (nI i) (nI j) = _ from (by unfold f_X7_loss; rw [p_yes (c_hasF hc.1 hi), p_yes (c_isYear j1), c_isInsured hc.1 hf j1, p_bind]))
      have e8 := (show f_X8_loss q (nI i) (nI j) = _ from (by unfold f_X8_loss; rw [p_yes (m_isFleet hm.1 hi), p_yes (m_isYear j1), m_isInsured hm.1 hf j1, p_bind]))
      by_cases e : f.2 / 2 ^ j % 2 = 1
      · obtain ⟨l, e1, hl⟩ := c_reckon (g7_ledger s) hc.1 ok
        rw [if_pos e, if_neg (by decide), e1, p_bind, c_lossOf w hl.1 hl.2.1 hi j1, p_bind] at e7
        rw [if_pos e, if_neg (by decide), m_lossIn hm.1 (by omega) j1, p_bind] at e8
        exact ⟨_, _, e7, e8, RR_K hc hm ⟨rfl, rfl, rfl⟩ (K8_r q)⟩
      · rw [if_neg e, if_pos rfl] at e7 e8
        exact ⟨_, _, e7, e8, h⟩
    · exact ⟨_, _, (by unfold f_X7_loss; rw [p_yes (c_hasF hc.1 hi), p_no (c_isYear0 hy)]), (by unfold f_X8_loss; rw [p_yes (m_isFleet hm.1 hi), p_no (m_isYear0 hy)]), h⟩
  · exact ⟨_, _, (by unfold f_X7_loss; exact p_no (c_hasF0 hc.1 hx)), (by unfold f_X8_loss; exact p_no (m_isFleet0 hm.1 hx)), h⟩
