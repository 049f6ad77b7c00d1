/-! PURE: the first of several, orders -/
/-- the one to take of those up to a place -/
def pick (p : Nat → Bool) (bet : Nat → Nat → Bool) : Nat → Option Nat
  | 0 => none
  | i + 1 => if p i = true then (match pick p bet i with | none => some i | some m => if bet i m = true then some i else some m) else pick p bet i
def encP : Option Nat → Int32
  | none => -2
  | some m => nI m
theorem pick_lt (p : Nat → Bool) (bet : Nat → Nat → Bool) : ∀ {i m : Nat}, pick p bet i = some m → m < i ∧ p m = true
  | 0, m, h => by cases h
  | i + 1, m, h => by
    unfold pick at h
    by_cases q : p i = true
    · rw [if_pos q] at h
      cases e : pick p bet i with
      | none =>
        rw [e] at h
        have : i = m := Option.some.inj h
        subst this
        exact ⟨by omega, q⟩
      | some k =>
        rw [e] at h
        dsimp only at h
        have hk := pick_lt p bet e
        by_cases q2 : bet i k = true
        · rw [if_pos q2] at h
          have : i = m := Option.some.inj h
          subst this
          exact ⟨by omega, q⟩
        · rw [if_neg q2] at h
          have : k = m := Option.some.inj h
          subst this
          exact ⟨by omega, hk.2⟩
    · rw [if_neg q] at h
      have := pick_lt p bet h
      exact ⟨by omega, this.2⟩
theorem pick_F {p : Nat → Bool} {bet : Nat → Nat → Bool} {i : Nat} (h : ¬ p i = true) : pick p bet (i + 1) = pick p bet i := by rw [pick, if_neg h]
theorem pick_N {p : Nat → Bool} {bet : Nat → Nat → Bool} {i : Nat} (h : p i = true) (e : pick p bet i = none) : pick p bet (i + 1) = some i := by rw [pick, if_pos h, e]
theorem pick_B {p : Nat → Bool} {bet : Nat → Nat → Bool} {i m : Nat} (h : p i = true) (e : pick p bet i = some m) (q : bet i m = true) : pick p bet (i + 1) = some i := by rw [pick, if_pos h, e]; dsimp only; rw [if_pos q]
theorem pick_S {p : Nat → Bool} {bet : Nat → Nat → Bool} {i m : Nat} (h : p i = true) (e : pick p bet i = some m) (q : ¬ bet i m = true) : pick p bet (i + 1) = some m := by rw [pick, if_pos h, e]; dsimp only; rw [if_neg q]
def insY (B : Bk) (y i : Nat) : Bool := decide (byr B i y = 1)
def btY (B : Bk) (y i m : Nat) : Bool := decide (lossN B m y < lossN B i y)
theorem byr_at {B : Bk} {i y : Nat} {f : Nat × Nat} (h : B.1[i]? = some f) : byr B i y = f.2 / 2 ^ y % 2 := by unfold byr; rw [h]
theorem op_worst {s : S7} {q : S8} (h : RR s q) (x : Int32) : ∃ r s', f_X7_worst s x = some (r, s') ∧ f_X8_worst q x = some r ∧ RR s' q := by
  obtain ⟨g, hc, hm⟩ := id h
  have hb := hc.1
  have ok := hc.2.1
  have w := ok.1.1
  change len g.1 ≤ 8 at w
  rcases p_ix x (n := 5) (by decide) with ⟨y, y1, rfl⟩ | hx
  · obtain ⟨l, e1, hl⟩ := c_reckon (g7_ledger s) hb ok
    have e7 := (show f_X7_worst s (nI y) = _ from (by unfold f_X7_worst; rw [p_yes (c_isYear y1), e1, p_bind]))
    have e8 := (show f_X8_worst q (nI y) = _ from (by unfold f_X8_worst; rw [p_yes (m_isYear y1)]))
    have hA : lp_X7_worst_p25 (u7_ledger s l) (nI y) (-2) 0 = some (encP (pick (insY g.1 y) (btY g.1 y) (len g.1)), u7_ledger s l) := by
      unfold lp_X7_worst_p25
      refine p_for (len g.1) (fun i => (u7_ledger s l, nI y, encP (pick (insY g.1 y) (btY g.1 y) i), nI i)) _ (by omega) (fun i k hi ih => ?_) (fun k => ?_) 0 (Nat.zero_le _)
      · obtain ⟨f, hf, hfm⟩ := p_at (l := g.1.1) hi
        dsimp only
        unfold f_X7_worst_p25
        rw [show g0_fleets (g7_book (u7_ledger s l)) = nI (len g.1) from hb.2.1, if_neg (by rw [p_le (by omega) (by omega)]; omega), show f_X0_isInsured (g7_book (u7_ledger s l)) (nI i) (nI y) = _ from c_isInsured hb hf y1, p_bind, nI_1]
        by_cases q1 : f.2 / 2 ^ y % 2 = 1
        · have qi : insY g.1 y i = true := by unfold insY; rw [byr_at hf]; simp [q1]
          rw [if_pos q1, if_neg (by decide)]
          cases e : pick (insY g.1 y) (btY g.1 y) i with
          | none =>
            rw [pick_N qi e] at ih
            rw [if_pos (show encP none = -2 from rfl)]
            exact ih
          | some m =>
            have hml := (pick_lt _ _ e).1
            rw [show encP (some m) = nI m from rfl, if_neg (fun e' => by
              have := nI_pos (n := m) (by omega)
              rw [e'] at this
              exact this (by decide)), show f_X1_lossOf (g7_ledger (u7_ledger s l)) (nI i) (nI y) = _ from c_lossOf w hl.1 hl.2.1 hi y1, p_bind, show f_X1_lossOf (g7_ledger (u7_ledger s l)) (nI m) (nI y) = _ from c_lossOf w hl.1 hl.2.1 (by omega) y1, p_bind]
            have b1 := loss_396 ok i y
            have b2 := loss_396 ok m y
            by_cases q2 : lossN g.1 i y ≤ lossN g.1 m y
            · rw [if_pos (by rw [p_le (by omega) (by omega)]; exact q2)]
              rw [pick_S qi e (by unfold btY; simp; omega)] at ih
              exact ih
            · rw [if_neg (by rw [p_le (by omega) (by omega)]; exact q2)]
              rw [pick_B qi e (by unfold btY; simp; omega)] at ih
              exact ih
        · rw [if_neg q1, if_pos rfl]
          rw [pick_F (by unfold insY; rw [byr_at hf]; simp [q1])] at ih
          exact ih
      · dsimp only
        unfold f_X7_worst_p25
        rw [show g0_fleets (g7_book (u7_ledger s l)) = nI (len g.1) from hb.2.1, if_pos (by rw [p_le (by omega) (by omega)]; omega)]
    have hB : lp_X8_worst_p14 q (nI y) (-2) 0 = some (encP (pick (insY g.1 y) (btY g.1 y) (len g.1))) := by
      unfold lp_X8_worst_p14
      refine p_for (len g.1) (fun i => (q, nI y, encP (pick (insY g.1 y) (btY g.1 y) i), nI i)) _ (by omega) (fun i k hi ih => ?_) (fun k => ?_) 0 (Nat.zero_le _)
      · obtain ⟨f, hf, hfm⟩ := p_at (l := g.1.1) hi
        dsimp only
        unfold f_X8_worst_p14
        rw [m_manyL hm.1, p_bind, if_neg (by rw [p_le (by omega) (by omega)]; omega), m_isInsured hm.1 hf y1, p_bind, nI_1]
        by_cases q1 : f.2 / 2 ^ y % 2 = 1
        · have qi : insY g.1 y i = true := by unfold insY; rw [byr_at hf]; simp [q1]
          rw [if_pos q1, if_neg (by decide)]
          cases e : pick (insY g.1 y) (btY g.1 y) i with
          | none =>
            rw [pick_N qi e] at ih
            rw [show encP none = (-2 : Int32) from rfl, if_pos (by decide)]
            exact ih
          | some m =>
            have hml := (pick_lt _ _ e).1
            rw [show encP (some m) = nI m from rfl, if_neg (nI_pos (by omega)), m_lossIn hm.1 (by omega) y1, p_bind, m_lossIn hm.1 (by omega) y1, p_bind]
            have b1 := loss_396 ok i y
            have b2 := loss_396 ok m y
            by_cases q2 : lossN g.1 i y ≤ lossN g.1 m y
            · rw [if_pos (by rw [p_le (by omega) (by omega)]; exact q2)]
              rw [pick_S qi e (by unfold btY; simp; omega)] at ih
              exact ih
            · rw [if_neg (by rw [p_le (by omega) (by omega)]; exact q2)]
              rw [pick_B qi e (by unfold btY; simp; omega)] at ih
              exact ih
        · rw [if_neg q1, if_pos rfl]
          rw [pick_F (by unfold insY; rw [byr_at hf]; simp [q1])] at ih
          exact ih
      · dsimp only
        unfold f_X8_worst_p14
        rw [m_manyL hm.1, p_bind, if_pos (by rw [p_le (by omega) (by omega)]; omega)]
    exact ⟨_, _, e7.trans hA, e8.trans hB, RR_K hc hm ⟨rfl, rfl, rfl⟩ (K8_r q)⟩
  · exact ⟨_, _, (by unfold f_X7_worst; exact p_no (c_isYear0 hx)), (by unfold f_X8_worst; exact p_no (m_isYear0 hx)), h⟩
theorem ahead_gt {B : Bk} {i m : Nat} (h : m < i) : (ahead B i m = true ↔ cmpN (ru B i * rl B m) (ru B m * rl B i) = 1) := by
  unfold ahead cmpN
  by_cases q : ru B m * rl B i < ru B i * rl B m
  · simp [q]
  · simp [q, show ¬ i < m by omega]
    split <;> decide
theorem op_dearestOf {s : S7} {q : S8} (h : RR s q) (x : Int32) : ∃ r s' q', f_X7_dearestOf s x = some (r, s') ∧ f_X8_dearestOf q x = some (r, q') ∧ RR s' q' := by
  obtain ⟨g, hc, hm⟩ := id h
  have hb := hc.1
  have ok := hc.2.1
  have w := ok.1.1
  change len g.1 ≤ 8 at w
  rcases p_ix x (n := 3) (by decide) with ⟨c, c1, rfl⟩ | hx
  · obtain ⟨l, e1, hl⟩ := c_reckon (g7_ledger s) hb ok
    obtain ⟨q', e2, k2, w2⟩ := m_works hm.1 ok
    have hm' : rM (g8_now q') g.1 := by rw [k2.1]; exact hm.1
    have e7 := (show f_X7_dearestOf s (nI c) = _ from (by unfold f_X7_dearestOf; rw [p_yes (c_isClass c1), e1, p_bind]))
    have e8 := (show f_X8_dearestOf q (nI c) = _ from (by unfold f_X8_dearestOf; rw [p_yes (m_isClass c1), e2, p_bind]))
    have hA : ∃ l', lp_X7_dearestOf_p25 (u7_ledger s l) (nI c) (-2) 0 = some (encP (pick (inK g.1 c) (ahead g.1) (len g.1)), u7_ledger s l') := by
      unfold lp_X7_dearestOf_p25
      have key := p_forI (body := fun (k : S7 × Int32 × Int32 × Int32 → Option (Int32 × S7)) (z : S7 × Int32 × Int32 × Int32) => f_X7_dearestOf_p25 (fun s x1 x2 x3 => k (s, x1, x2, x3)) z.1 z.2.1 z.2.2.1 z.2.2.2) (len g.1) (fun i t => ∃ l, t = (u7_ledger s l, nI c, encP (pick (inK g.1 c) (ahead g.1) i), nI i) ∧ rL l g.1) (fun r => ∃ l', r = (encP (pick (inK g.1 c) (ahead g.1) (len g.1)), u7_ledger s l')) (by omega) (fun i k t hi hI ih => ?_) (fun k t hI => ?_) 0 (u7_ledger s l, nI c, -2, 0) (Nat.zero_le _) ⟨l, rfl, hl⟩
      · obtain ⟨r, e, l', rfl⟩ := key
        exact ⟨l', e⟩
      · obtain ⟨l, rfl, hl⟩ := hI
        obtain ⟨f, hf, hfm⟩ := p_at (l := g.1.1) hi
        have c3 := cf_lt ok hi
        dsimp only
        unfold f_X7_dearestOf_p25
        rw [show g0_fleets (g7_book (u7_ledger s l)) = nI (len g.1) from hb.2.1, if_neg (by rw [p_le (by omega) (by omega)]; omega), show f_X0_classOf (g7_book (u7_ledger s l)) (nI i) = _ from c_classOf hb hf, p_bind, ← cf_at hf, show f_X1_isRated (g7_ledger (u7_ledger s l)) (nI i) = _ from c_isRated ok hl hi, p_bind, nI_1]
        by_cases q1 : inK g.1 c i = true
        · obtain ⟨n0, ec⟩ := inK_n q1
          rw [if_pos (by rw [ec]), if_neg (show ¬ nf g.1 i = 0 by omega), if_neg (by decide)]
          cases e : pick (inK g.1 c) (ahead g.1) i with
          | none =>
            rw [if_pos (show encP none = -2 from rfl)]
            exact ih _ ⟨l, by rw [pick_N q1 e]; rfl, hl⟩
          | some m =>
            obtain ⟨hml, hmk⟩ := pick_lt _ _ e
            have hmn := (inK_n hmk).1
            obtain ⟨l', e3, hl'⟩ := c_compareRates ok hl hi n0 (show m < len g.1 by omega) hmn
            rw [show encP (some m) = nI m from rfl, if_neg (fun e' => by
              have := nI_pos (n := m) (by omega)
              rw [e'] at this
              exact this (by decide)), show f_X1_compareRates (g7_ledger (u7_ledger s l)) (nI i) (nI m) = _ from e3, p_bind]
            have ha := ahead_gt (B := g.1) hml
            dsimp only
            by_cases q2 : ahead g.1 i m = true
            · rw [ha.mp q2, if_neg (by decide)]
              exact ih _ ⟨l', by rw [pick_B q1 e q2]; rfl, hl'⟩
            · rw [if_pos (by
                have hne : ¬ cmpN (ru g.1 i * rl g.1 m) (ru g.1 m * rl g.1 i) = 1 := fun e => q2 (ha.mpr e)
                unfold cmpN at hne ⊢
                split at hne
                · exact absurd rfl hne
                · rename_i z
                  rw [if_neg z]
                  split <;> decide)]
              exact ih _ ⟨l', by rw [pick_S q1 e q2]; rfl, hl'⟩
        · have hk : pick (inK g.1 c) (ahead g.1) (i + 1) = pick (inK g.1 c) (ahead g.1) i := pick_F q1
          by_cases ec : cf g.1 i = c
          · have n0 : nf g.1 i = 0 := by
              rcases Nat.eq_zero_or_pos (nf g.1 i) with h | h
              · exact h
              · exact absurd (inK_yes ec h) q1
            rw [if_pos (by rw [ec]), if_pos n0, if_pos rfl]
            exact ih _ ⟨l, by rw [hk], hl⟩
          · rw [if_neg (by rw [p_eq (by omega) (by omega)]; exact ec)]
            exact ih _ ⟨l, by rw [hk], hl⟩
      · obtain ⟨l, rfl, hl⟩ := hI
        dsimp only
        unfold f_X7_dearestOf_p25
        rw [show g0_fleets (g7_book (u7_ledger s l)) = nI (len g.1) from hb.2.1, if_pos (by rw [p_le (by omega) (by omega)]; omega)]
        exact ⟨_, rfl, l, rfl⟩
    have hB : lp_X8_dearestOf_p18 q' (nI c) (-2) 0 = some (encP (pick (inK g.1 c) (ahead g.1) (len g.1)), q') := by
      unfold lp_X8_dearestOf_p18
      refine p_for (len g.1) (fun i => (q', nI c, encP (pick (inK g.1 c) (ahead g.1) i), nI i)) _ (by omega) (fun i k hi ih => ?_) (fun k => ?_) 0 (Nat.zero_le _)
      · dsimp only
        unfold f_X8_dearestOf_p18
        rw [m_manyL hm', p_bind, if_neg (by rw [p_le (by omega) (by omega)]; omega), m_isIn hm' ok w2.1.1 hi c1, p_bind, nI_1]
        by_cases q1 : inK g.1 c i = true
        · obtain ⟨n0, ec⟩ := inK_n q1
          rw [if_pos q1, if_neg (by decide)]
          cases e : pick (inK g.1 c) (ahead g.1) i with
          | none =>
            rw [pick_N q1 e] at ih
            rw [show encP none = (-2 : Int32) from rfl, if_pos (by decide)]
            exact ih
          | some m =>
            obtain ⟨hml, hmk⟩ := pick_lt _ _ e
            have hmn := (inK_n hmk).1
            rw [show encP (some m) = nI m from rfl, if_neg (nI_pos (by omega)), m_isAhead ok (by omega) (by omega) (w2.2.2 i hi n0).2 (w2.2.2 m (by omega) hmn).2, p_bind]
            by_cases q2 : ahead g.1 i m = true
            · rw [if_pos q2, if_neg (by decide)]
              rw [pick_B q1 e q2] at ih
              exact ih
            · rw [if_neg q2, if_pos rfl]
              rw [pick_S q1 e q2] at ih
              exact ih
        · rw [if_neg q1, if_pos rfl]
          rw [pick_F q1] at ih
          exact ih
      · dsimp only
        unfold f_X8_dearestOf_p18
        rw [m_manyL hm', p_bind, if_pos (by rw [p_le (by omega) (by omega)]; omega)]
    obtain ⟨l', e3⟩ := hA
    exact ⟨_, _, _, e7.trans e3, e8.trans hB, RR_K hc hm ⟨rfl, rfl, rfl⟩ (K8_k k2)⟩
  · exact ⟨_, _, _, (by unfold f_X7_dearestOf; exact p_no (c_isClass0 hx)), (by unfold f_X8_dearestOf; exact p_no (m_isClass0 hx)), h⟩
