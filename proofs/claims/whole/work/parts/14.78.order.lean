/-! PURE: ranks, counts -/
def ahC (B : Bk) (i j : Nat) : Nat := sumI (fun o => if (!decide (o = i) && decide (0 < nf B o) && ahead B o i) = true then 1 else 0) j
theorem ahC_s (B : Bk) (i j : Nat) : ahC B i (j + 1) = ahC B i j + (if (!decide (j = i) && decide (0 < nf B j) && ahead B j i) = true then 1 else 0) := rfl
theorem ahC_le (B : Bk) (i j : Nat) : ahC B i j ≤ j := sumI_len _ (fun o _ => by split <;> omega)
theorem c_placeOf {l : S1} {B : Bk} (ok : okB B) (h : rL l B) {i : Nat} (hi : i < len B) (ni : 0 < nf B i) : ∃ l', f_X1_placeOf l (nI i) = some (nI (ahC B i (len B)), l') ∧ rL l' B := by
  have w := ok.1.1
  change len B ≤ 8 at w
  unfold f_X1_placeOf lp_X1_placeOf_p4
  have key := p_forI (body := fun (k : S1 × Int32 × Int32 × Int32 → Option (Int32 × S1)) (z : S1 × Int32 × Int32 × Int32) => f_X1_placeOf_p4 (fun s x1 x2 x3 => k (s, x1, x2, x3)) z.1 z.2.1 z.2.2.1 z.2.2.2) (len B) (fun o t => ∃ l, t = (l, nI i, nI (ahC B i o), nI o) ∧ rL l B) (fun r => ∃ l', r = (nI (ahC B i (len B)), l') ∧ rL l' B) (by omega) (fun o k t ho hI ih => ?_) (fun k t hI => ?_) 0 (l, nI i, 0, 0) (Nat.zero_le _) ⟨l, rfl, h⟩
  · obtain ⟨r, e, l', rfl, hl'⟩ := key
    exact ⟨l', e, hl'⟩
  · obtain ⟨l, rfl, hl⟩ := hI
    dsimp only
    unfold f_X1_placeOf_p4
    rw [hl.1, if_neg (by rw [p_le (by omega) (by omega)]; omega)]
    have no : ∀ l2, rL l2 B → ¬ (!decide (o = i) && decide (0 < nf B o) && ahead B o i) = true → ∃ r, k (l2, nI i, nI (ahC B i o), nI o + 1) = some r ∧ ∃ l', r = (nI (ahC B i (len B)), l') ∧ rL l' B := by
      intro l2 h2 hn
      refine ih _ ⟨l2, ?_, h2⟩
      rw [ahC_s, if_neg hn, nI_1]; rfl
    have yes : ∀ l2, rL l2 B → (!decide (o = i) && decide (0 < nf B o) && ahead B o i) = true → ∃ r, k (l2, nI i, nI (ahC B i o) + 1, nI o + 1) = some r ∧ ∃ l', r = (nI (ahC B i (len B)), l') ∧ rL l' B := by
      intro l2 h2 hn
      refine ih _ ⟨l2, ?_, h2⟩
      rw [ahC_s, if_pos hn, nI_1, nI_1]
    by_cases q1 : o = i
    · rw [if_pos (by rw [q1])]
      exact no l hl (by simp [q1])
    · rw [if_neg (by rw [p_eq (by omega) (by omega)]; exact q1), c_isRated ok hl ho, p_bind]
      by_cases q2 : nf B o = 0
      · rw [if_pos q2, if_pos rfl]
        exact no l hl (by simp [q2])
      · obtain ⟨l', e3, hl'⟩ := c_compareRates ok hl ho (by omega) hi ni
        rw [if_neg q2, if_neg (by decide), e3, p_bind]
        dsimp only
        have hpo : decide (0 < nf B o) = true := by simp; omega
        rcases Nat.lt_trichotomy (ru B o * rl B i) (ru B i * rl B o) with z | z | z
        · rw [cmp_lt z, if_neg (by decide), if_neg (by decide), p_a0]
          refine no l' hl' ?_
          unfold ahead
          simp [z]
          intro _ _
          omega
        · rw [cmp_eq z, if_neg (by decide), if_pos rfl]
          by_cases q3 : i ≤ o
          · rw [if_pos (by rw [p_le (by omega) (by omega)]; exact q3), p_a0]
            refine no l' hl' ?_
            unfold ahead
            simp [z]
            intro _ _
            omega
          · rw [if_neg (by rw [p_le (by omega) (by omega)]; exact q3)]
            refine yes l' hl' ?_
            unfold ahead
            simp [z, q1]
            exact ⟨by omega, by omega⟩
        · rw [cmp_gt z, if_pos (by decide)]
          refine yes l' hl' ?_
          unfold ahead
          simp [z, q1]
          omega
  · obtain ⟨l, rfl, hl⟩ := hI
    dsimp only
    unfold f_X1_placeOf_p4
    rw [hl.1, if_pos (by rw [p_le (by omega) (by omega)]; omega)]
    exact ⟨_, rfl, l, rfl, hl⟩
abbrev rkP (B : Bk) (x : Int32) (i : Nat) : Bool := decide (0 < nf B i) && decide (nI (ahC B i (len B)) = x)
theorem op_ranked {s : S7} {q : S8} (h : RR s q) (x : Int32) : ∃ r s' q', f_X7_ranked s x = some (r, s') ∧ f_X8_ranked q x = some (r, q') ∧ RR s' q' := by
  obtain ⟨g, hc, hm⟩ := id h
  have hb := hc.1
  have ok := hc.2.1
  have w := ok.1.1
  change len g.1 ≤ 8 at w
  obtain ⟨l, e1, hl⟩ := c_reckon (g7_ledger s) hb ok
  obtain ⟨q', e2, k2, w2⟩ := m_works hm.1 ok
  have hm' : rM (g8_now q') g.1 := by rw [k2.1]; exact hm.1
  have e7 := (show f_X7_ranked s x = _ from (by unfold f_X7_ranked; rw [e1, p_bind]))
  have e8 := (show f_X8_ranked q x = _ from (by unfold f_X8_ranked; rw [e2, p_bind]))
  have hA : ∃ l', lp_X7_ranked_p13 (u7_ledger s l) x 0 = some (firstN (rkP g.1 x) (-1) (len g.1) 0, u7_ledger s l') := by
    unfold lp_X7_ranked_p13
    have key := p_forI (body := fun (k : S7 × Int32 × Int32 → Option (Int32 × S7)) (z : S7 × Int32 × Int32) => f_X7_ranked_p13 (fun s x1 x2 => k (s, x1, x2)) z.1 z.2.1 z.2.2) (len g.1) (fun i t => ∃ l, t = (u7_ledger s l, x, nI i) ∧ rL l g.1 ∧ firstN (rkP g.1 x) (-1) (len g.1) 0 = firstN (rkP g.1 x) (-1) (len g.1 - i) i) (fun r => ∃ l', r = (firstN (rkP g.1 x) (-1) (len g.1) 0, u7_ledger s l')) (by omega) (fun i k t hi hI ih => ?_) (fun k t hI => ?_) 0 (u7_ledger s l, x, 0) (Nat.zero_le _) ⟨l, rfl, hl, rfl⟩
    · obtain ⟨r, e, l', rfl⟩ := key
      exact ⟨l', e⟩
    · obtain ⟨l, rfl, hl, hF⟩ := hI
      rw [show len g.1 - i = (len g.1 - (i + 1)) + 1 by omega] at hF
      dsimp only
      unfold f_X7_ranked_p13
      rw [show g0_fleets (g7_book (u7_ledger s l)) = nI (len g.1) from hb.2.1, if_neg (by rw [p_le (by omega) (by omega)]; omega), show f_X1_isRated (g7_ledger (u7_ledger s l)) (nI i) = _ from c_isRated ok hl hi, p_bind, nI_1]
      by_cases n0 : nf g.1 i = 0
      · rw [if_pos n0, if_pos rfl]
        rw [firstN_F (d := len g.1 - (i + 1)) (by simp [n0])] at hF
        exact ih _ ⟨l, rfl, hl, hF⟩
      · obtain ⟨l', e3, hl'⟩ := c_placeOf ok hl hi (by omega)
        rw [if_neg n0, if_neg (by decide), show f_X1_placeOf (g7_ledger (u7_ledger s l)) (nI i) = _ from e3, p_bind]
        dsimp only
        by_cases q1 : nI (ahC g.1 i (len g.1)) = x
        · rw [if_pos q1]
          rw [firstN_T (d := len g.1 - (i + 1)) (by simp [q1]; omega)] at hF
          exact ⟨_, rfl, l', by rw [hF]; rfl⟩
        · rw [if_neg q1]
          rw [firstN_F (d := len g.1 - (i + 1)) (by simp [q1])] at hF
          exact ih _ ⟨l', rfl, hl', hF⟩
    · obtain ⟨l, rfl, hl, hF⟩ := hI
      dsimp only
      unfold f_X7_ranked_p13
      rw [show g0_fleets (g7_book (u7_ledger s l)) = nI (len g.1) from hb.2.1, if_pos (by rw [p_le (by omega) (by omega)]; omega)]
      rw [Nat.sub_self] at hF
      exact ⟨_, rfl, l, by rw [hF]; rfl⟩
  have hB : lp_X8_ranked_p6 q' x 0 = some (firstN (rkP g.1 x) (-1) (len g.1) 0, q') := by
    unfold lp_X8_ranked_p6
    have key := p_forI (body := fun (k : S8 × Int32 × Int32 → Option (Int32 × S8)) (z : S8 × Int32 × Int32) => f_X8_ranked_p6 (fun s x1 x2 => k (s, x1, x2)) z.1 z.2.1 z.2.2) (len g.1) (fun i t => t = (q', x, nI i) ∧ firstN (rkP g.1 x) (-1) (len g.1) 0 = firstN (rkP g.1 x) (-1) (len g.1 - i) i) (fun r => r = (firstN (rkP g.1 x) (-1) (len g.1) 0, q')) (by omega) (fun i k t hi hI ih => ?_) (fun k t hI => ?_) 0 (q', x, 0) (Nat.zero_le _) ⟨rfl, rfl⟩
    · obtain ⟨r, e, rfl⟩ := key
      exact e
    · obtain ⟨rfl, hF⟩ := hI
      have n5 := nf_le ok i
      have rn : ∀ {o : Nat}, o < len g.1 → x_rd 8 (g8_n q') (nI o) = some (nI (nf g.1 o)) := fun {o} ho => (p_rd (by omega) (by decide)).trans (congrArg some (w2.1.1 o ho).1)
      rw [show len g.1 - i = (len g.1 - (i + 1)) + 1 by omega] at hF
      dsimp only
      unfold f_X8_ranked_p6
      rw [m_manyL hm', p_bind, if_neg (by rw [p_le (by omega) (by omega)]; omega), rn hi, p_bind]
      by_cases n0 : nf g.1 i = 0
      · rw [n0, if_pos (by decide), nI_1]
        rw [firstN_F (d := len g.1 - (i + 1)) (by simp [n0])] at hF
        exact ih _ ⟨rfl, hF⟩
      · rw [if_neg (by rw [show (0 : Int32) = nI 0 from rfl, p_eq (by omega) (by omega)]; exact n0)]
        have hin : lp_X8_ranked_p31 (fun s x1 x2 => k (s, x1, x2)) q' x (nI i) 0 0 = if nI (ahC g.1 i (len g.1)) = x then some (nI i, q') else k (q', x, nI i + 1) := by
          unfold lp_X8_ranked_p31
          refine p_forE (len g.1) (fun o => (q', x, nI i, nI (ahC g.1 i o), nI o)) _ (by omega) (fun o k2 ho ih2 => ?_) (fun k2 => ?_) 0 (Nat.zero_le _)
          · have o5 := nf_le ok o
            dsimp only
            unfold f_X8_ranked_p31
            rw [m_manyL hm', p_bind, if_neg (by rw [p_le (by omega) (by omega)]; omega)]
            rw [ahC_s] at ih2
            by_cases q1 : o = i
            · rw [if_pos (by rw [q1]), nI_1]
              rw [if_neg (by simp [q1])] at ih2
              exact ih2
            · rw [if_neg (by rw [p_eq (by omega) (by omega)]; exact q1), rn ho, p_bind]
              by_cases q2 : nf g.1 o = 0
              · rw [q2, if_pos (by decide), nI_1]
                rw [if_neg (by simp [q2])] at ih2
                exact ih2
              · rw [if_neg (by rw [show (0 : Int32) = nI 0 from rfl, p_le (by omega) (by omega)]; omega), m_isAhead ok (by omega) (by omega) (w2.2.2 o ho (by omega)).2 (w2.2.2 i hi (by omega)).2, p_bind]
                by_cases q3 : ahead g.1 o i = true
                · rw [if_pos q3, if_neg (by decide), nI_1, nI_1]
                  rw [if_pos (by simp [q1, q3]; omega)] at ih2
                  exact ih2
                · rw [if_neg q3, if_pos rfl, nI_1]
                  rw [if_neg (by simp [q3])] at ih2
                  exact ih2
          · dsimp only
            unfold f_X8_ranked_p31
            rw [m_manyL hm', p_bind, if_pos (by rw [p_le (by omega) (by omega)]; omega)]
        rw [hin]
        by_cases q1 : nI (ahC g.1 i (len g.1)) = x
        · rw [if_pos q1]
          rw [firstN_T (d := len g.1 - (i + 1)) (by simp [q1]; omega)] at hF
          exact ⟨_, rfl, by rw [hF]⟩
        · rw [if_neg q1, nI_1]
          rw [firstN_F (d := len g.1 - (i + 1)) (by simp [q1])] at hF
          exact ih _ ⟨rfl, hF⟩
    · obtain ⟨rfl, hF⟩ := hI
      dsimp only
      unfold f_X8_ranked_p6
      rw [m_manyL hm', p_bind, if_pos (by rw [p_le (by omega) (by omega)]; omega)]
      rw [Nat.sub_self] at hF
      exact ⟨_, rfl, by rw [hF]; rfl⟩
  obtain ⟨l', e3⟩ := hA
  exact ⟨_, _, _, e7.trans e3, e8.trans hB, RR_K hc hm ⟨rfl, rfl, rfl⟩ (K8_k k2)⟩
/-! claims by amounts -/
def gtC (a c : Cm) (o j : Nat) : Bool := decide (a.1 = c.1) && (decide (c.2.2 < a.2.2) || (decide (a.2.2 = c.2.2) && decide (o < j)))
def gtL (l : List Cm) (c : Cm) (j o : Nat) : Bool := match l[o]? with | some a => gtC a c o j | none => false
def plC (l : List Cm) (c : Cm) (j n : Nat) : Nat := sumI (fun o => if gtL l c j o = true then 1 else 0) n
theorem plC_s {l : List Cm} {c a : Cm} {j n : Nat} (h : l[n]? = some a) : plC l c j (n + 1) = plC l c j n + (if gtC a c n j = true then 1 else 0) := by
  unfold plC
  rw [sumI_s]
  unfold gtL
  rw [h]
theorem c_placeC {b : S0} {B : Bk} (h : rC b B) {j : Nat} {c : Cm} (hc : B.2.1[j]? = some c) : f_X0_placeOf b (nI j) = some (nI (plC B.2.1 c j B.2.1.length)) := by
  have w0 := h.1.2.1
  have hj := (List.getElem?_eq_some_iff.mp hc).1
  have wc := h.1.2.2.2.1 c (List.mem_of_getElem? hc)
  have wc1 := wc.1
  have wc3 := wc.2.2
  unfold f_X0_placeOf lp_X0_placeOf_p4
  refine p_for B.2.1.length (fun o => (b, nI j, nI (plC B.2.1 c j o), nI o)) _ (by omega) (fun o k ho ih => ?_) (fun k => ?_) 0 (Nat.zero_le _)
  · obtain ⟨a, ha, ham⟩ := p_at ho
    have wa := h.1.2.2.2.1 a ham
    have wa1 := wa.1
    have wa3 := wa.2.2
    rw [plC_s ha] at ih
    unfold gtC at ih
    dsimp only
    unfold f_X0_placeOf_p4
    rw [h.2.2.1, if_neg (by rw [p_le (by omega) (by omega)]; omega), c_fleetOf h ha, p_bind, c_fleetOf h hc, p_bind, c_amountOf h ha, p_bind, c_amountOf h hc, p_bind, p_bind, p_bind]
    by_cases q1 : a.1 = c.1
    · rw [if_pos (by rw [q1])]
      by_cases q2 : c.2.2 < a.2.2
      · rw [if_pos (by rw [p_lt (by omega) (by omega)]; exact q2), nI_1, nI_1]
        rw [if_pos (by simp [q1, q2])] at ih
        exact ih
      · rw [if_neg (by rw [p_lt (by omega) (by omega)]; exact q2)]
        by_cases q3 : a.2.2 = c.2.2
        · rw [if_pos (by rw [q3])]
          by_cases q4 : j ≤ o
          · rw [if_pos (by rw [p_le (by omega) (by omega)]; exact q4), nI_1]
            rw [if_neg (by simp [q2]; intro _ _; omega)] at ih
            exact ih
          · rw [if_neg (by rw [p_le (by omega) (by omega)]; exact q4), nI_1, nI_1]
            rw [if_pos (by simp [q1, q3]; omega)] at ih
            exact ih
        · rw [if_neg (by rw [p_eq (by omega) (by omega)]; exact q3), nI_1]
          rw [if_neg (by simp [q2, q3])] at ih
          exact ih
    · rw [if_neg (by rw [p_eq (by omega) (by omega)]; exact q1), nI_1]
      rw [if_neg (by simp [q1])] at ih
      exact ih
  · dsimp only
    unfold f_X0_placeOf_p4
    rw [h.2.2.1, if_pos (by rw [p_le (by omega) (by omega)]; omega)]
def grP (B : Bk) (i : Nat) (x : Int32) (j : Nat) : Bool := match B.2.1[j]? with | some c => decide (c.1 = i) && decide (nI (plC B.2.1 c j B.2.1.length) = x) | none => false
theorem grP_at {B : Bk} {i j : Nat} {x : Int32} {c : Cm} (h : B.2.1[j]? = some c) : grP B i x j = (decide (c.1 = i) && decide (nI (plC B.2.1 c j B.2.1.length) = x)) := by unfold grP; rw [h]
theorem op_greatest {s : S7} {q : S8} (h : RR s q) (x y : Int32) : ∃ r, f_X7_greatest s x y = some r ∧ f_X8_greatest q x y = some r := by
  obtain ⟨g, hc, hm⟩ := id h
  have hb := hc.1
  have hw := hm.1
  have ok := hc.2.1
  have w := ok.1.1
  have w1 := hb.1.2.1
  change len g.1 ≤ 8 at w
  rcases p_ix x (n := len g.1) (by omega) with ⟨i, hi, rfl⟩ | hx
  · refine ⟨firstN (grP g.1 i y) (-1) g.1.2.1.length 0, ?_, ?_⟩
    · unfold f_X7_greatest lp_X7_greatest_p2
      have key := p_forI (body := fun (k : S7 × Int32 × Int32 × Int32 → Option (Int32)) (z : S7 × Int32 × Int32 × Int32) => f_X7_greatest_p2 (fun s x1 x2 x3 => k (s, x1, x2, x3)) z.1 z.2.1 z.2.2.1 z.2.2.2) g.1.2.1.length (fun j t => t = (s, nI i, y, nI j) ∧ firstN (grP g.1 i y) (-1) g.1.2.1.length 0 = firstN (grP g.1 i y) (-1) (g.1.2.1.length - j) j) (fun r => r = firstN (grP g.1 i y) (-1) g.1.2.1.length 0) (by omega) (fun j k t hj hI ih => ?_) (fun k t hI => ?_) 0 (s, nI i, y, 0) (Nat.zero_le _) ⟨rfl, rfl⟩
      · obtain ⟨r, e, rfl⟩ := key
        exact e
      · obtain ⟨rfl, hF⟩ := hI
        obtain ⟨c, hcl, hcm⟩ := p_at hj
        have wc := (hb.1.2.2.2.1 c hcm).1
        rw [show g.1.2.1.length - j = (g.1.2.1.length - (j + 1)) + 1 by omega] at hF
        dsimp only
        unfold f_X7_greatest_p2
        rw [hb.2.2.1, if_neg (by rw [p_le (by omega) (by omega)]; omega), c_fleetOf hb hcl, p_bind, c_placeC hb hcl, p_bind, nI_1]
        by_cases q1 : c.1 = i
        · rw [if_pos (by rw [q1])]
          by_cases q2 : nI (plC g.1.2.1 c j g.1.2.1.length) = y
          · rw [if_pos q2]
            rw [firstN_T (d := g.1.2.1.length - (j + 1)) (by rw [grP_at hcl]; simp [q1, q2])] at hF
            exact ⟨_, rfl, hF.symm⟩
          · rw [if_neg q2]
            rw [firstN_F (d := g.1.2.1.length - (j + 1)) (by rw [grP_at hcl]; simp [q2])] at hF
            exact ih _ ⟨rfl, hF⟩
        · rw [if_neg (by rw [p_eq (by omega) (by omega)]; exact q1)]
          rw [firstN_F (d := g.1.2.1.length - (j + 1)) (by rw [grP_at hcl]; simp [q1])] at hF
          exact ih _ ⟨rfl, hF⟩
      · obtain ⟨rfl, hF⟩ := hI
        dsimp only
        unfold f_X7_greatest_p2
        rw [hb.2.2.1, if_pos (by rw [p_le (by omega) (by omega)]; omega)]
        rw [Nat.sub_self] at hF
        exact ⟨_, rfl, hF.symm⟩
    · unfold f_X8_greatest
      rw [p_yes (m_isFleet hw hi)]
      unfold lp_X8_greatest_p12
      have key := p_forI (body := fun (k : S8 × Int32 × Int32 × Int32 → Option (Int32)) (z : S8 × Int32 × Int32 × Int32) => f_X8_greatest_p12 (fun s x1 x2 x3 => k (s, x1, x2, x3)) z.1 z.2.1 z.2.2.1 z.2.2.2) g.1.2.1.length (fun j t => t = (q, nI i, y, nI j) ∧ firstN (grP g.1 i y) (-1) g.1.2.1.length 0 = firstN (grP g.1 i y) (-1) (g.1.2.1.length - j) j) (fun r => r = firstN (grP g.1 i y) (-1) g.1.2.1.length 0) (by omega) (fun j k t hj hI ih => ?_) (fun k t hI => ?_) 0 (q, nI i, y, 0) (Nat.zero_le _) ⟨rfl, rfl⟩
      · obtain ⟨r, e, rfl⟩ := key
        exact e
      · obtain ⟨rfl, hF⟩ := hI
        obtain ⟨c, hcl, hcm⟩ := p_at hj
        have wc := (hb.1.2.2.2.1 c hcm).1
        have wc3 := (hb.1.2.2.2.1 c hcm).2.2
        rw [show g.1.2.1.length - j = (g.1.2.1.length - (j + 1)) + 1 by omega] at hF
        dsimp only
        unfold f_X8_greatest_p12
        rw [m_claims hw, p_bind, if_neg (by rw [p_le (by omega) (by omega)]; omega), m_fleetOf hw hcl, p_bind]
        by_cases q1 : c.1 = i
        · have hin : lp_X8_greatest_p38 (fun s x1 x2 x3 => k (s, x1, x2, x3)) q (nI i) y (nI j) 0 0 = if nI (plC g.1.2.1 c j g.1.2.1.length) = y then some (nI j) else k (q, nI i, y, nI j + 1) := by
            unfold lp_X8_greatest_p38
            refine p_forE g.1.2.1.length (fun o => (q, nI i, y, nI j, nI (plC g.1.2.1 c j o), nI o)) _ (by omega) (fun o k2 ho ih2 => ?_) (fun k2 => ?_) 0 (Nat.zero_le _)
            · obtain ⟨a, ha, ham⟩ := p_at ho
              have wa := hb.1.2.2.2.1 a ham
              have wa1 := wa.1
              have wa3 := wa.2.2
              rw [plC_s ha] at ih2
              unfold gtC at ih2
              dsimp only
              unfold f_X8_greatest_p38
              rw [m_claims hw, p_bind, if_neg (by rw [p_le (by omega) (by omega)]; omega), m_fleetOf hw ha, p_bind]
              by_cases z1 : a.1 = i
              · rw [if_pos (by rw [z1])]
                unfold f_X8_isGreater
                rw [m_amountOf hw ha, p_bind, m_amountOf hw hcl, p_bind, p_bind, p_bind]
                by_cases z2 : c.2.2 < a.2.2
                · rw [if_pos (by rw [p_lt (by omega) (by omega)]; exact z2), p_bind, if_neg (by decide), nI_1, nI_1]
                  rw [if_pos (by simp [z1, q1, z2])] at ih2
                  exact ih2
                · rw [if_neg (by rw [p_lt (by omega) (by omega)]; exact z2)]
                  by_cases z3 : a.2.2 = c.2.2
                  · rw [if_pos (by rw [z3])]
                    by_cases z4 : j ≤ o
                    · rw [if_pos (by rw [p_le (by omega) (by omega)]; exact z4), p_bind, if_pos rfl, nI_1]
                      rw [if_neg (by simp [z2]; intro _ _; omega)] at ih2
                      exact ih2
                    · rw [if_neg (by rw [p_le (by omega) (by omega)]; exact z4), p_bind, if_neg (by decide), nI_1, nI_1]
                      rw [if_pos (by simp [z1, q1, z3]; omega)] at ih2
                      exact ih2
                  · rw [if_neg (by rw [p_eq (by omega) (by omega)]; exact z3), p_bind, if_pos rfl, nI_1]
                    rw [if_neg (by simp [z2, z3])] at ih2
                    exact ih2
              · rw [if_neg (by rw [p_eq (by omega) (by omega)]; exact z1), nI_1]
                rw [if_neg (by simp [q1, z1])] at ih2
                exact ih2
            · dsimp only
              unfold f_X8_greatest_p38
              rw [m_claims hw, p_bind, if_pos (by rw [p_le (by omega) (by omega)]; omega)]
          rw [if_pos (by rw [q1]), hin]
          by_cases q2 : nI (plC g.1.2.1 c j g.1.2.1.length) = y
          · rw [if_pos q2]
            rw [firstN_T (d := g.1.2.1.length - (j + 1)) (by rw [grP_at hcl]; simp [q1, q2])] at hF
            exact ⟨_, rfl, hF.symm⟩
          · rw [if_neg q2, nI_1]
            rw [firstN_F (d := g.1.2.1.length - (j + 1)) (by rw [grP_at hcl]; simp [q2])] at hF
            exact ih _ ⟨rfl, hF⟩
        · rw [if_neg (by rw [p_eq (by omega) (by omega)]; exact q1), nI_1]
          rw [firstN_F (d := g.1.2.1.length - (j + 1)) (by rw [grP_at hcl]; simp [q1])] at hF
          exact ih _ ⟨rfl, hF⟩
      · obtain ⟨rfl, hF⟩ := hI
        dsimp only
        unfold f_X8_greatest_p12
        rw [m_claims hw, p_bind, if_pos (by rw [p_le (by omega) (by omega)]; omega)]
        rw [Nat.sub_self] at hF
        exact ⟨_, rfl, hF.symm⟩
  · refine ⟨-1, ?_, by unfold f_X8_greatest; exact p_no (m_isFleet0 hw hx)⟩
    unfold f_X7_greatest lp_X7_greatest_p2
    refine p_for g.1.2.1.length (fun j => (s, x, y, nI j)) _ (by omega) (fun j k hj ih => ?_) (fun k => ?_) 0 (Nat.zero_le _)
    · obtain ⟨c, hcl, hcm⟩ := p_at hj
      have hcl2 := ok_len ok hcm
      dsimp only
      unfold f_X7_greatest_p2
      rw [hb.2.2.1, if_neg (by rw [p_le (by omega) (by omega)]; omega), c_fleetOf hb hcl, p_bind, if_neg (fun e => ne_out (n := len g.1) (by omega) hx (k := c.1) hcl2 e.symm), nI_1]
      exact ih
    · dsimp only
      unfold f_X7_greatest_p2
      rw [hb.2.2.1, if_pos (by rw [p_le (by omega) (by omega)]; omega)]
