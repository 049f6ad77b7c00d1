/-! PURE: another cap, without a fleet, a claim, classes joined -/
abbrev capB (B : Bk) (v : Nat) : Bk := (B.1, B.2.1, v, B.2.2.2)
theorem ok_cap {B : Bk} (ok : okB B) {v : Nat} (h1 : 1 ≤ v) (h2 : v ≤ 99) : okB (capB B v) := by
  obtain ⟨⟨a1, a2, a3, a4, a5, a6⟩, o1, o2, o3⟩ := ok
  exact ⟨⟨a1, a2, a3, a4, by dsimp only; omega, a6⟩, h1, o2, o3⟩
theorem r_cap {w : Nat → Int32} {B : Bk} (h : rM w B) {v : Nat} (h2 : v ≤ 99) : rM (upd w 0 (nI v)) (capB B v) := by
  obtain ⟨⟨a1, a2, a3, a4, a5, a6⟩, o1, o2, o3, o4, o5, o6⟩ := h
  refine ⟨⟨a1, a2, a3, a4, by dsimp only; omega, a6⟩, rfl, o2, o3, o4, fun i f hf => ?_, fun k c hk => ?_⟩
  · rw [u_at, u_at, if_neg (by omega), if_neg (by omega)]; exact o5 i f hf
  · rw [u_at, u_at, u_at, if_neg (by omega), if_neg (by omega), if_neg (by omega)]; exact o6 k c hk
theorem k_byCap {s : S7} {g : Sg} (hc : RC s g) {i v : Nat} (hi : i < len g.1) (h1 : 1 ≤ v) (h2 : v ≤ 99) : ∃ s', f_X7_byCap s (nI i) (nI v) = some (rt (capB g.1 v) i, s') ∧ K7 s s' := by
  have ok := hc.2.1
  obtain ⟨t1, e1, b1⟩ := c_copyFrom hc.1 (g7_trial s)
  have b2 : rC (u0_cap t1 (nI v)) (capB g.1 v) := by
    obtain ⟨⟨a1, a2, a3, a4, a5, a6⟩, o1, o2, o3, o4, o5, o6⟩ := b1
    exact ⟨⟨a1, a2, a3, a4, by dsimp only; omega, a6⟩, o1, o2, rfl, o4, o5, o6⟩
  obtain ⟨l, e3⟩ := c_rateIn7 (s := u7_trial s (u0_cap t1 (nI v))) b2 (ok_cap ok h1 h2) (i := i) hi
  refine ⟨u7_ledger (u7_trial s (u0_cap t1 (nI v))) l, ?_, rfl, rfl, rfl⟩
  unfold f_X7_byCap
  rw [p_yes (c_hasF hc.1 hi), p_yes (c_isAmount h1 h2), e1, p_bind, e3, p_bind]
theorem m_byCap {q : S8} {B : Bk} (ok : okB B) (h : rM (g8_now q) B) {i v : Nat} (hi : i < len B) (hn : 0 < nf B i) (h1 : 1 ≤ v) (h2 : v ≤ 99) {x : Int32} (hx : x = nI v) : ∃ z, f_X8_ratedBy q (nI i) 0 x = some (nI (thN (capB B v) i), z) ∧ K8 q z := by
  subst hx
  exact m_ratedBy (ok_cap ok h1 h2) (k := 0) (by decide) rfl (r_cap h h2) hi hn
theorem op_byCap {s : S7} {q : S8} (h : RR s q) (x y : Int32) : ∃ r s' q', f_X7_byCap s x y = some (r, s') ∧ f_X8_byCap q x y = some (r, q') ∧ RR s' q' := by
  obtain ⟨g, hc, hm⟩ := id h
  have ok := hc.2.1
  have w := ok.1.1
  change len g.1 ≤ 8 at w
  rcases p_ix x (n := len g.1) (by omega) with ⟨i, hi, rfl⟩ | hx
  · rcases p_amount y with ⟨v, v1, v2, rfl⟩ | hy
    · obtain ⟨s', e7, k7⟩ := k_byCap hc hi v1 v2
      have e8 := (show f_X8_byCap q (nI i) (nI v) = _ from (by unfold f_X8_byCap; rw [p_yes (m_isFleet hm.1 hi), p_yes (m_isAmount v1 v2), m_isRated ok hm.1 hi, p_bind]))
      by_cases n1 : nf g.1 i = 0
      · rw [if_pos n1, if_pos rfl] at e8
        rw [rt_0 (B := capB g.1 v) n1] at e7
        exact ⟨_, _, _, e7, e8, RR_K hc hm k7 (K8_r q)⟩
      · obtain ⟨z, e3, k3⟩ := m_byCap ok hm.1 hi (by omega) v1 v2 rfl
        rw [if_neg n1, if_neg (by decide), e3, p_bind] at e8
        rw [rt_1 (B := capB g.1 v) (by show 0 < nf g.1 i; omega)] at e7
        exact ⟨_, _, _, e7, e8, RR_K hc hm k7 k3⟩
    · exact ⟨_, _, _, (by unfold f_X7_byCap; rw [p_yes (c_hasF hc.1 hi), p_no (c_isAmount0 hy)]), (by unfold f_X8_byCap; rw [p_yes (m_isFleet hm.1 hi), p_no (m_isAmount0 hy)]), h⟩
  · exact ⟨_, _, _, (by unfold f_X7_byCap; exact p_no (c_hasF0 hc.1 hx)), (by unfold f_X8_byCap; exact p_no (m_isFleet0 hm.1 hx)), h⟩
theorem op_capFor {s : S7} {q : S8} (h : RR s q) (x : Int32) : ∃ r s' q', f_X7_capFor s x = some (r, s') ∧ f_X8_capFor q x = some (r, q') ∧ RR s' q' := by
  obtain ⟨g, hc, hm⟩ := id h
  have ok := hc.2.1
  have w := ok.1.1
  change len g.1 ≤ 8 at w
  rcases p_ix x (n := len g.1) (by omega) with ⟨i, hi, rfl⟩ | hx
  · obtain ⟨s0, e7, k7⟩ := k_byCap hc hi (v := 99) (by decide) (by decide)
    have e7' := (show f_X7_capFor s (nI i) = _ from (by unfold f_X7_capFor; rw [show f_X7_byCap s (nI i) 99 = _ from e7, p_bind]))
    have e8' := (show f_X8_capFor q (nI i) = _ from (by unfold f_X8_capFor; rw [p_yes (m_isFleet hm.1 hi), m_isRated ok hm.1 hi, p_bind]))
    dsimp only at e7'
    by_cases n1 : nf g.1 i = 0
    · rw [if_pos n1, if_pos rfl] at e8'
      rw [rt_0 (B := capB g.1 99) n1, if_neg (by decide)] at e7'
      exact ⟨_, _, _, e7', e8', RR_K hc hm k7 (K8_r q)⟩
    · have np : 0 < nf g.1 i := by omega
      have thc : ∀ v, 1 ≤ v → v ≤ 99 → thN (capB g.1 v) i ≤ 396000 := fun v a b => th_le (ok_cap ok a b) (B := capB g.1 v) hi np
      obtain ⟨q0, e8, k8⟩ := m_byCap ok hm.1 hi np (v := 99) (by decide) (by decide) (x := 99) rfl
      rw [if_neg n1, if_neg (by decide), e8, p_bind] at e8'
      rw [rt_1 (B := capB g.1 99) np, if_pos (by have := thc 99 (by decide) (by decide); rw [show (0 : Int32) = nI 0 from rfl, p_le (by omega) (by omega)]; omega)] at e7'
      dsimp only at e8'
      have hdec : ∀ v, 1 ≤ v → v ≤ 99 → (nI (thN (capB g.1 v) i) = nI (thN (capB g.1 99) i)) = (thN (capB g.1 v) i = thN (capB g.1 99) i) := fun v a b => p_eq (by have := thc v a b; omega) (by have := thc 99 (by decide) (by decide); omega)
      have hA : ∃ s', lp_X7_capFor_p16 s0 (nI i) (nI (thN (capB g.1 99) i)) 1 = some (firstN (fun v => decide (thN (capB g.1 v) i = thN (capB g.1 99) i)) 99 98 1, s') ∧ K7 s s' := by
        unfold lp_X7_capFor_p16
        have key := p_forI (body := fun (k : S7 × Int32 × Int32 × Int32 → Option (Int32 × S7)) (z : S7 × Int32 × Int32 × Int32) => f_X7_capFor_p16 (fun s x1 x2 x3 => k (s, x1, x2, x3)) z.1 z.2.1 z.2.2.1 z.2.2.2) 98
          (fun n t => ∃ s', t = (s', nI i, nI (thN (capB g.1 99) i), nI (n + 1)) ∧ K7 s s' ∧ firstN (fun v => decide (thN (capB g.1 v) i = thN (capB g.1 99) i)) 99 98 1 = firstN (fun v => decide (thN (capB g.1 v) i = thN (capB g.1 99) i)) 99 (98 - n) (n + 1))
          (fun r => ∃ s', r = (firstN (fun v => decide (thN (capB g.1 v) i = thN (capB g.1 99) i)) 99 98 1, s') ∧ K7 s s') (by omega) (fun n k t hn hI ih => ?_) (fun k t hI => ?_) 0 (s0, nI i, nI (thN (capB g.1 99) i), 1) (Nat.zero_le _) ⟨s0, rfl, k7, rfl⟩
        · obtain ⟨r, e, s', rfl, hs⟩ := key
          exact ⟨s', e, hs⟩
        · obtain ⟨s', rfl, ks, hF⟩ := hI
          obtain ⟨s2, e9, k9⟩ := k_byCap (RC_K hc ks) hi (v := n + 1) (by omega) (by omega)
          have ks2 : K7 s s2 := ⟨k9.1.trans ks.1, k9.2.1.trans ks.2.1, k9.2.2.trans ks.2.2⟩
          rw [rt_1 (B := capB g.1 (n + 1)) np] at e9
          rw [show 98 - n = (98 - (n + 1)) + 1 by omega] at hF
          dsimp only
          unfold f_X7_capFor_p16
          rw [if_neg (by rw [show (99 : Int32) = nI 99 from rfl, p_le (by omega) (by omega)]; omega), e9, p_bind, nI_1]
          simp only [hdec (n + 1) (by omega) (by omega)]
          by_cases z : thN (capB g.1 (n + 1)) i = thN (capB g.1 99) i
          · rw [if_pos z]
            rw [firstN_T (d := 98 - (n + 1)) (i := n + 1) (by simp [z])] at hF
            exact ⟨_, rfl, s2, by rw [hF], ks2⟩
          · rw [if_neg z]
            rw [firstN_F (d := 98 - (n + 1)) (i := n + 1) (by simp [z])] at hF
            exact ih _ ⟨s2, rfl, ks2, hF⟩
        · obtain ⟨s', rfl, ks, hF⟩ := hI
          dsimp only
          unfold f_X7_capFor_p16
          rw [if_pos (by decide)]
          exact ⟨_, rfl, s', by rw [hF]; rfl, ks⟩
      have hB : ∃ q', lp_X8_capFor_p32 q0 (nI i) (nI (thN (capB g.1 99) i)) 1 = some (firstN (fun v => decide (thN (capB g.1 v) i = thN (capB g.1 99) i)) 99 98 1, q') ∧ K8 q q' := by
        unfold lp_X8_capFor_p32
        have key := p_forI (body := fun (k : S8 × Int32 × Int32 × Int32 → Option (Int32 × S8)) (z : S8 × Int32 × Int32 × Int32) => f_X8_capFor_p32 (fun s x1 x2 x3 => k (s, x1, x2, x3)) z.1 z.2.1 z.2.2.1 z.2.2.2) 98
          (fun n t => ∃ q', t = (q', nI i, nI (thN (capB g.1 99) i), nI (n + 1)) ∧ K8 q q' ∧ firstN (fun v => decide (thN (capB g.1 v) i = thN (capB g.1 99) i)) 99 98 1 = firstN (fun v => decide (thN (capB g.1 v) i = thN (capB g.1 99) i)) 99 (98 - n) (n + 1))
          (fun r => ∃ q', r = (firstN (fun v => decide (thN (capB g.1 v) i = thN (capB g.1 99) i)) 99 98 1, q') ∧ K8 q q') (by omega) (fun n k t hn hI ih => ?_) (fun k t hI => ?_) 0 (q0, nI i, nI (thN (capB g.1 99) i), 1) (Nat.zero_le _) ⟨q0, rfl, k8, rfl⟩
        · obtain ⟨r, e, s', rfl, hs⟩ := key
          exact ⟨s', e, hs⟩
        · obtain ⟨q', rfl, ks, hF⟩ := hI
          obtain ⟨q2, e9, k9⟩ := m_byCap ok (RM_K hm ks).1 hi np (v := n + 1) (by omega) (by omega) rfl
          rw [show 98 - n = (98 - (n + 1)) + 1 by omega] at hF
          dsimp only
          unfold f_X8_capFor_p32
          rw [e9, p_bind, nI_1]
          simp only [hdec (n + 1) (by omega) (by omega)]
          by_cases z : thN (capB g.1 (n + 1)) i = thN (capB g.1 99) i
          · rw [if_pos z]
            rw [firstN_T (d := 98 - (n + 1)) (i := n + 1) (by simp [z])] at hF
            exact ⟨_, rfl, q2, by rw [hF], K8_t ks k9⟩
          · rw [if_neg z]
            rw [firstN_F (d := 98 - (n + 1)) (i := n + 1) (by simp [z])] at hF
            exact ih _ ⟨q2, rfl, K8_t ks k9, hF⟩
        · obtain ⟨q', rfl, ks, hF⟩ := hI
          obtain ⟨q2, e9, k9⟩ := m_byCap ok (RM_K hm ks).1 hi np (v := 98 + 1) (by decide) (by decide) rfl
          dsimp only
          unfold f_X8_capFor_p32
          rw [e9, p_bind]
          dsimp only
          rw [if_pos rfl]
          exact ⟨_, rfl, q2, by rw [hF]; rfl, K8_t ks k9⟩
      obtain ⟨s', e9, k9⟩ := hA
      obtain ⟨q', e10, k10⟩ := hB
      exact ⟨_, _, _, e7'.trans e9, e8'.trans e10, RR_K hc hm k9 k10⟩
  · refine ⟨-1, s, q, ?_, by unfold f_X8_capFor; exact p_no (m_isFleet0 hm.1 hx), h⟩
    unfold f_X7_capFor f_X7_byCap
    rw [p_no (c_hasF0 hc.1 hx), p_bind]
    dsimp only
    rw [if_neg (by decide)]
/-! without a claim -/
abbrev dropB (B : Bk) (j : Nat) : Bk := (B.1, B.2.1.eraseIdx j, B.2.2)
theorem ok_drop {B : Bk} (ok : okB B) (j : Nat) : okB (dropB B j) := ok_sub ok (List.eraseIdx_sublist _ _)
theorem k_without {s : S7} {g : Sg} (hc : RC s g) {i j : Nat} (hi : i < len g.1) (hj : j < g.1.2.1.length) : ∃ l t, f_X7_withoutClaim s (nI i) (nI j) = some (rt (dropB g.1 j) i, u7_ledger (u7_trial s t) l) := by
  obtain ⟨t1, e1, b1⟩ := c_copyFrom hc.1 (g7_trial s)
  obtain ⟨t2, e2, b2⟩ := c_dropClaim b1 hj
  obtain ⟨l, e3⟩ := c_rateIn7 (s := u7_trial s t2) b2 (ok_drop hc.2.1 j) (i := i) hi
  refine ⟨l, t2, ?_⟩
  unfold f_X7_withoutClaim
  rw [p_yes (c_hasF hc.1 hi), p_yes (c_hasC hc.1 hj), e1, p_bind, e2, p_bind, e3, p_bind]
theorem m_without {q : S8} {B : Bk} (ok : okB B) (h : rM (g8_now q) B) {i j : Nat} (hi : i < len B) (hn : 0 < nf B i) (hj : j < B.2.1.length) : ∃ z, f_X8_ratedWithout q (nI i) (nI j) = some (nI (thN (dropB B j) i), z) ∧ K8 q z := by
  obtain ⟨a, e1, ha⟩ := m_aside q
  obtain ⟨w, e2, h2⟩ := m_drops (s := u8_aside q a) h hj
  obtain ⟨z, e3, k3, -⟩ := m_ratedNow (s := u8_now (u8_aside q a) w) (ok_drop ok j) h2 (i := i) hi hn
  obtain ⟨z', e4, k4⟩ := m_round ha k3
  refine ⟨z', ?_, k4⟩
  unfold f_X8_ratedWithout
  rw [e1, p_bind, e2, p_bind, e3, p_bind, e4, p_bind]
theorem op_withoutClaim {s : S7} {q : S8} (h : RR s q) (x y : Int32) : ∃ r s' q', f_X7_withoutClaim s x y = some (r, s') ∧ f_X8_withoutClaim q x y = some (r, q') ∧ RR s' q' := by
  obtain ⟨g, hc, hm⟩ := id h
  have ok := hc.2.1
  have w := ok.1.1
  have w1 := ok.1.2.1
  change len g.1 ≤ 8 at w
  rcases p_ix x (n := len g.1) (by omega) with ⟨i, hi, rfl⟩ | hx
  · rcases p_ix y (n := g.1.2.1.length) (by omega) with ⟨j, hj, rfl⟩ | hy
    · obtain ⟨l, t, e7⟩ := k_without hc hi hj
      have e8 := (show f_X8_withoutClaim q (nI i) (nI j) = _ from (by unfold f_X8_withoutClaim; rw [p_yes (m_isFleet hm.1 hi), p_yes (m_isClaim hm.1 hj), m_isRated ok hm.1 hi, p_bind]))
      by_cases n1 : nf g.1 i = 0
      · rw [if_pos n1, if_pos rfl] at e8
        rw [rt_0 (B := dropB g.1 j) n1] at e7
        exact ⟨_, _, _, e7, e8, RR_K hc hm ⟨rfl, rfl, rfl⟩ (K8_r q)⟩
      · obtain ⟨z, e3, k3⟩ := m_without ok hm.1 hi (by omega) hj
        rw [if_neg n1, if_neg (by decide), e3, p_bind] at e8
        rw [rt_1 (B := dropB g.1 j) (by show 0 < nf g.1 i; omega)] at e7
        exact ⟨_, _, _, e7, e8, RR_K hc hm ⟨rfl, rfl, rfl⟩ k3⟩
    · exact ⟨_, _, _, (by unfold f_X7_withoutClaim; rw [p_yes (c_hasF hc.1 hi), p_no (c_hasC0 hc.1 hy)]), (by unfold f_X8_withoutClaim; rw [p_yes (m_isFleet hm.1 hi), p_no (m_isClaim0 hm.1 hy)]), h⟩
  · exact ⟨_, _, _, (by unfold f_X7_withoutClaim; exact p_no (c_hasF0 hc.1 hx)), (by unfold f_X8_withoutClaim; exact p_no (m_isFleet0 hm.1 hx)), h⟩
/-! without a fleet -/
abbrev goB (B : Bk) (o : Nat) : Bk := (B.1.eraseIdx o, (B.2.1.filter (fun c => !decide (c.1 = o))).map (gapC o), B.2.2)
theorem ok_go {B : Bk} (ok : okB B) (o : Nat) : okB (goB B o) := ok_erase ok (fun c hcm => by simpa using (List.mem_filter.mp hcm).2) (ok_sub ok List.filter_sublist)
theorem op_withoutFleet {s : S7} {q : S8} (h : RR s q) (x y : Int32) : ∃ r s' q', f_X7_withoutFleet s x y = some (r, s') ∧ f_X8_withoutFleet q x y = some (r, q') ∧ RR s' q' := by
  obtain ⟨g, hc, hm⟩ := id h
  have hb := hc.1
  have ok := hc.2.1
  have w := ok.1.1
  change len g.1 ≤ 8 at w
  rcases p_ix x (n := len g.1) (by omega) with ⟨i, hi, rfl⟩ | hx
  · rcases p_ix y (n := len g.1) (by omega) with ⟨o, ho, rfl⟩ | hy
    · have e7 := (show f_X7_withoutFleet s (nI i) (nI o) = _ from (by unfold f_X7_withoutFleet; rw [p_yes (c_hasF hb hi), p_yes (c_hasF hb ho)]))
      have e8 := (show f_X8_withoutFleet q (nI i) (nI o) = _ from (by unfold f_X8_withoutFleet; rw [p_yes (m_isFleet hm.1 hi), p_yes (m_isFleet hm.1 ho), m_isRated ok hm.1 hi, p_bind]))
      simp only [p_eq (a := i) (b := o) (by omega) (by omega), p_le (a := i) (b := o) (by omega) (by omega)] at e7 e8
      by_cases q0 : i = o
      · rw [if_pos q0] at e7 e8
        exact ⟨_, _, _, e7, e8, h⟩
      · rw [if_neg q0] at e7 e8
        obtain ⟨t1, f1, b1⟩ := c_copyFrom hb (g7_trial s)
        obtain ⟨t2, f2, b2⟩ := c_dropFleet b1 ho
        rw [f1, p_bind, f2, p_bind] at e7
        -- its number then
        obtain ⟨i', hi', hii, hnn⟩ : ∃ i', i' < len (goB g.1 o) ∧ (if i ≤ o then i' = i else i' = i - 1 ∧ 1 ≤ i) ∧ nf (goB g.1 o) i' = nf g.1 i := by
          have hl : len (goB g.1 o) = len g.1 - 1 := List.length_eraseIdx_of_lt ho
          by_cases z : i ≤ o
          · refine ⟨i, by omega, by rw [if_pos z], ?_⟩
            unfold nf
            rw [show (goB g.1 o).1[i]? = g.1.1[i]? from by show (g.1.1.eraseIdx o)[i]? = _; rw [List.getElem?_eraseIdx, if_pos (by omega)]]
          · refine ⟨i - 1, by omega, by rw [if_neg z]; exact ⟨rfl, by omega⟩, ?_⟩
            unfold nf
            rw [show (goB g.1 o).1[i - 1]? = g.1.1[i]? from by show (g.1.1.eraseIdx o)[i - 1]? = _; rw [List.getElem?_eraseIdx, if_neg (by omega), show i - 1 + 1 = i by omega]]
        obtain ⟨l, f3⟩ := c_rateIn7 (s := u7_trial s t2) b2 (ok_go ok o) hi'
        have f4 : f_X7_withoutFleet_p65 (u7_trial s t2) (nI i') = some (rt (goB g.1 o) i', u7_ledger (u7_trial s t2) l) := by unfold f_X7_withoutFleet_p65; rw [f3, p_bind]
        have E7 : f_X7_withoutFleet s (nI i) (nI o) = some (rt (goB g.1 o) i', u7_ledger (u7_trial s t2) l) := by
          rw [e7]
          by_cases z : i ≤ o
          · rw [if_pos z] at hii ⊢
            rw [← hii]; exact f4
          · rw [if_neg z] at hii ⊢
            rw [m1 hii.2, ← hii.1]; exact f4
        by_cases n1 : nf g.1 i = 0
        · rw [if_pos n1, if_pos rfl] at e8
          rw [rt_0 (hnn.trans n1)] at E7
          exact ⟨_, _, _, E7, e8, RR_K hc hm ⟨rfl, rfl, rfl⟩ (K8_r q)⟩
        · obtain ⟨a, g1, ha⟩ := m_aside q
          obtain ⟨w2, g2, h2⟩ := m_dropsAll (s := u8_aside q a) hm.1 (nI o) (-1)
          rw [filter_eq (q := fun c => !decide (c.1 = o)) (fun c hcm => by rw [mat_f (by omega) (hb.1.2.2.2.1 c hcm)])] at h2
          obtain ⟨w3, g3, h3⟩ := m_goes (s := u8_now (u8_aside q a) w2) h2 (f := o) ho
          obtain ⟨z, g4, k4, -⟩ := m_ratedNow (s := u8_now (u8_now (u8_aside q a) w2) w3) (ok_go ok o) h3 hi' (by omega)
          obtain ⟨z', g5, k5⟩ := m_round (a := a) (w := w3) ha k4
          have g6 : f_X8_withoutFleet_p63 (u8_now (u8_now (u8_aside q a) w2) w3) (nI i') = some (nI (thN (goB g.1 o) i'), z') := by
            unfold f_X8_withoutFleet_p63
            rw [g4, p_bind, g5, p_bind]
          rw [if_neg n1, if_neg (by decide), g1, p_bind, g2, p_bind, g3, p_bind] at e8
          have E8 : f_X8_withoutFleet q (nI i) (nI o) = some (nI (thN (goB g.1 o) i'), z') := by
            rw [e8]
            by_cases z : i ≤ o
            · rw [if_pos z] at hii ⊢
              rw [← hii]; exact g6
            · rw [if_neg z] at hii ⊢
              rw [m1 hii.2, ← hii.1]; exact g6
          rw [rt_1 (by omega)] at E7
          exact ⟨_, _, _, E7, E8, RR_K hc hm ⟨rfl, rfl, rfl⟩ k5⟩
    · exact ⟨_, _, _, (by unfold f_X7_withoutFleet; rw [p_yes (c_hasF hb hi), p_no (c_hasF0 hb hy)]), (by unfold f_X8_withoutFleet; rw [p_yes (m_isFleet hm.1 hi), p_no (m_isFleet0 hm.1 hy)]), h⟩
  · exact ⟨_, _, _, (by unfold f_X7_withoutFleet; exact p_no (c_hasF0 hb hx)), (by unfold f_X8_withoutFleet; exact p_no (m_isFleet0 hm.1 hx)), h⟩
/-! classes joined -/
theorem op_joined {s : S7} {q : S8} (h : RR s q) (x y z u : Int32) : ∃ r s' q', f_X7_joined s x y z u = some (r, s') ∧ f_X8_joined q x y z u = some (r, q') ∧ RR s' q' := by
  obtain ⟨g, hc, hm⟩ := id h
  have hb := hc.1
  have ok := hc.2.1
  rcases p_ix x (n := 3) (by decide) with ⟨c, c1, rfl⟩ | hx
  · rcases p_ix y (n := 3) (by decide) with ⟨d, d1, rfl⟩ | hy
    · have e7 := (show f_X7_joined s (nI c) (nI d) z u = _ from (by unfold f_X7_joined; rw [p_yes (c_isClass c1), p_yes (c_isClass d1)]))
      have e8 := (show f_X8_joined q (nI c) (nI d) z u = _ from (by unfold f_X8_joined; rw [p_yes (m_isClass c1), p_yes (m_isClass d1)]))
      by_cases q0 : nI c = nI d
      · rw [if_pos q0] at e7 e8
        exact ⟨_, _, _, e7, e8, h⟩
      · obtain ⟨t1, f1, b1⟩ := c_copyFrom hb (g7_trial s)
        obtain ⟨t2, f2, b2⟩ := c_moveAll b1 c1 d1
        rw [if_neg q0, f1, p_bind, f2, p_bind] at e7
        rw [if_neg q0] at e8
        have ok' := ok_join ok c d1
        rcases p_ix z (n := 5) (by decide) with ⟨k, k1, rfl⟩ | hz
        · obtain ⟨a, g1, ha⟩ := m_aside q
          obtain ⟨w2, g2, h2⟩ := m_joins (s := u8_aside q a) hm.1 c1 d1
          obtain ⟨v, g3, k3, w3⟩ := m_spreadNow (s := u8_now (u8_aside q a) w2) ok' h2 d1 k1 u
          obtain ⟨z', g5, k5⟩ := m_round ha k3
          obtain ⟨l, f3⟩ := c_spreadIn (s := u7_trial s t2) b2 ok' d1 k1 (w3.2.1 d d1) u
          have f4 := (show f_X7_spreadIn_i7 (u7_trial s t2) (nI d) (nI k) u = _ from (by unfold f_X7_spreadIn_i7; exact f3))
          rw [f4, p_bind] at e7
          rw [p_yes (p_in1 (nI_pos (by omega)) (by rw [show (4 : Int32) = nI 4 from rfl, p_lt (by omega) (by omega)]; omega)), g1, p_bind, g2, p_bind, g3, p_bind, g5, p_bind] at e8
          exact ⟨_, _, _, e7, e8, RR_K hc hm ⟨rfl, rfl, rfl⟩ k5⟩
        · obtain ⟨l, e1, hl⟩ := c_reckon (g7_ledger (u7_trial s t2)) b2 ok'
          have f4 : f_X7_spreadIn_i7 (u7_trial s t2) (nI d) z u = some (-1000000000, u7_told (u7_ledger (u7_trial s t2) l) (lI 0, lI 0)) := by
            unfold f_X7_spreadIn_i7
            rw [show f_X1_reckon (g7_ledger (u7_trial s t2)) (g7_trial (u7_trial s t2)) = _ from e1, p_bind, c_putSpread0 d1 hz, p_bind, c_part0 inL_0 (by omega), p_bind]
          rw [f4, p_bind] at e7
          exact ⟨_, _, _, e7, e8.trans (p_no (p_in0' (n := 5) (by decide) (by decide) hz)), RR_K hc hm ⟨rfl, rfl, rfl⟩ (K8_r q)⟩
    · exact ⟨_, _, _, (by unfold f_X7_joined; rw [p_yes (c_isClass c1), p_no (c_isClass0 hy)]), (by unfold f_X8_joined; rw [p_yes (m_isClass c1), p_no (m_isClass0 hy)]), h⟩
  · exact ⟨_, _, _, (by unfold f_X7_joined; exact p_no (c_isClass0 hx)), (by unfold f_X8_joined; exact p_no (m_isClass0 hx)), h⟩
