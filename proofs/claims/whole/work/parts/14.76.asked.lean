/-! PURE: questions of classes, of years -/
theorem m_group89 {s : S8} {B : Bk} (h : rM (g8_now s) B) {c : Nat} (hc : c < 3) : lp_X8_group_p89 s (nI c) 0 0 = some (nI (orTo (inCl c) B.1 B.1.length), s) := by
  have w0 := h.1.1
  unfold lp_X8_group_p89
  refine p_for B.1.length (fun j => (s, nI c, nI (orTo (inCl c) B.1 j), nI j)) _ (by omega) (fun j k hj ih => ?_) (fun k => ?_) 0 (Nat.zero_le _)
  · obtain ⟨f, hf, hfm⟩ := p_at hj
    have hf3 := h.1.2.2.1 f hfm
    have hlt := orTo_lt (inCl c) B.1 j
    have h8 : 2 ^ j ≤ 2 ^ 8 := Nat.pow_le_pow_right (by omega) (by omega)
    dsimp only
    unfold f_X8_group_p89
    rw [m_many h, p_bind, if_neg (by rw [p_le (by omega) (by omega)]; omega), m_classOf h hf, p_bind]
    rw [show orTo (inCl c) B.1 (j + 1) = orTo (inCl c) B.1 j ||| (if B.1[j]?.any (inCl c) = true then 2 ^ j else 0) from rfl, hf, Option.any_some] at ih
    by_cases q : f.1 = c
    · rw [if_pos (by rw [q]), show (1 : Int32) = nI 1 from rfl, p_shl (by omega) (by omega), Nat.one_mul, p_or (by omega) (by omega)]
      rw [if_pos (by simp [q]), ← nI_1] at ih
      exact ih
    · rw [if_neg (by rw [p_eq (by omega) (by omega)]; exact q)]
      rw [if_neg (by simp [q]), Nat.or_zero, ← nI_1] at ih
      exact ih
  · dsimp only
    unfold f_X8_group_p89
    rw [m_many h, p_bind, if_pos (by rw [p_le (by omega) (by omega)]; omega)]
theorem op_group {s : S7} {q : S8} (h : RR s q) (x y : Int32) : ∃ r s' q', f_X7_group s x y = some (r, s') ∧ f_X8_group q x y = some (r, q') ∧ RR s' q' := by
  obtain ⟨g, hc, hm⟩ := id h
  have hb := hc.1
  have ok := hc.2.1
  rcases p_ix x (n := 3) (by decide) with ⟨c, c1, rfl⟩ | hx
  · obtain ⟨l, e1, hl⟩ := c_reckon (g7_ledger s) hb ok
    have e8 := (show f_X8_group q (nI c) y = _ from (by unfold f_X8_group; rw [p_yes (m_isClass c1)]))
    have hG : ∀ r : Int32, (∀ p, rPf p g.1 c → (if y = 0 then some ((g4_fleets p), (u7_ledger s l)) else (if y = 1 then some ((g4_span p), (u7_ledger s l)) else (if y = 2 then some ((g4_sum p), (u7_ledger s l)) else (if y = 3 then (if (g4_span p) = 0 then some ((-2), (u7_ledger s l)) else Option.bind (f_X4_steadiness p (g0_steady (g7_book s))) (fun v14 => some (v14, (u7_ledger s l)))) else (if y = 4 then Option.bind (f_X0_fleetsIn (g7_book s) (nI c)) (fun v17 => some (v17, (u7_ledger s l))) else (if y = 5 then some ((g4_shares p), (u7_ledger s l)) else some ((-1), (u7_ledger s l)))))))) = some (r, u7_ledger s l)) → f_X7_group s (nI c) y = some (r, u7_ledger s l) := by
      intro r hp
      obtain ⟨-, -, -, -, h5, h6, h7, -⟩ := id hl
      unfold f_X7_group
      rw [p_yes (c_isClass c1), e1, p_bind, c_poolOf _ c1, p_bind]
      rcases (show c = 0 ∨ c = 1 ∨ c = 2 by omega) with rfl | rfl | rfl
      · exact (if_pos rfl).trans (hp _ h5)
      · exact (if_neg (by decide)).trans ((if_pos rfl).trans (hp _ h6))
      · exact (if_neg (by decide)).trans ((if_neg (by decide)).trans ((if_pos rfl).trans (hp _ h7)))
    rcases p_ix y (n := 6) (by decide) with ⟨k, k1, rfl⟩ | hy
    · obtain ⟨q', e2, k2, w2⟩ := m_works hm.1 ok
      have hm' : rM (g8_now q') g.1 := by rw [k2.1]; exact hm.1
      obtain ⟨v1, v2, v3⟩ := w2.1.2.1 c c1
      have n40 := qN_le ok c
      have nk := qN_K ok c
      rw [p_yes (p_in1 (nI_pos (by omega)) (by rw [show (5 : Int32) = nI 5 from rfl, p_lt (by omega) (by omega)]; omega)), e2, p_bind] at e8
      have hR := RR_K hc hm (s' := u7_ledger s l) ⟨rfl, rfl, rfl⟩ (K8_k k2)
      rcases (show k = 0 ∨ k = 1 ∨ k = 2 ∨ k = 3 ∨ k = 4 ∨ k = 5 by omega) with rfl | rfl | rfl | rfl | rfl | rfl
      · refine ⟨nI (qK g.1 c), _, q', hG _ (fun p hp => ?_), e8.trans ((if_pos rfl).trans (p_bE ((p_rd c1 (by decide)).trans (congrArg some v1)))), hR⟩
        rw [hp.1]; rfl
      · refine ⟨nI (qN g.1 c), _, q', hG _ (fun p hp => ?_), e8.trans ((if_neg (by decide)).trans ((if_pos rfl).trans (p_bE ((p_rd c1 (by decide)).trans (congrArg some v2))))), hR⟩
        rw [hp.2.1]; rfl
      · refine ⟨nI (qT g.1 c), _, q', hG _ (fun p hp => ?_), e8.trans ((if_neg (by decide)).trans ((if_neg (by decide)).trans ((if_pos rfl).trans (p_bE ((p_rd c1 (by decide)).trans (congrArg some v3)))))), hR⟩
        rw [hp.2.2.1]; rfl
      · have hst : g8_steadied q' c = if qN g.1 c = 0 then -2 else nI (yy g.1 c) := by
          have := w2.2.1 c c1
          unfold clsOK at this
          by_cases z : qK g.1 c = 0
          · rw [if_pos z] at this
            rw [if_pos (nk.mpr z)]; exact this.1
          · rw [if_neg z] at this
            rw [if_neg (fun e => z (nk.mp e))]; exact this.1
        refine ⟨if qN g.1 c = 0 then -2 else nI (yy g.1 c), _, q', hG _ (fun p hp => ?_), e8.trans ((if_neg (by decide)).trans ((if_neg (by decide)).trans ((if_neg (by decide)).trans ((if_pos rfl).trans (p_bE ((p_rd c1 (by decide)).trans (congrArg some hst))))))), hR⟩
        refine (if_neg (by decide)).trans ((if_neg (by decide)).trans ((if_neg (by decide)).trans ((if_pos rfl).trans ?_)))
        rw [hp.2.1, hb.2.2.2.2.1]
        simp only [show (nI (qN g.1 c) = 0) = (qN g.1 c = 0) from p_eq (b := 0) (by omega) (by omega)]
        by_cases z : qN g.1 c = 0
        · rw [if_pos z, if_pos z]
        · rw [if_neg z, if_neg z, c_steadiness ok hp.2.1 (by omega), p_bind]
      · refine ⟨nI (orTo (inCl c) g.1.1 g.1.1.length), _, q', hG _ (fun p hp => ?_), e8.trans ((if_neg (by decide)).trans ((if_neg (by decide)).trans ((if_neg (by decide)).trans ((if_neg (by decide)).trans ((if_pos rfl).trans (m_group89 hm' c1)))))), hR⟩
        exact (if_neg (by decide)).trans ((if_neg (by decide)).trans ((if_neg (by decide)).trans ((if_neg (by decide)).trans ((if_pos rfl).trans (p_bE (c_fleetsIn hb c1))))))
      · refine ⟨nI (qSH g.1 c), _, q', hG _ (fun p hp => ?_), e8.trans ((if_neg (by decide)).trans ((if_neg (by decide)).trans ((if_neg (by decide)).trans ((if_neg (by decide)).trans ((if_neg (by decide)).trans (p_bE (m_shares hm' ok w2.1.1 c1 (fun i hi hk => (w2.2.2 i hi (inK_n hk).1).1)))))))), hR⟩
        rw [hp.2.2.2.2.2.2.2.1]; rfl
    · have hn : ∀ k, k < 6 → ¬ y = nI k := fun k hk => ne_out (n := 6) (by decide) hy hk
      refine ⟨-1, u7_ledger s l, q, hG _ (fun p hp => ?_), e8.trans (p_no (p_in0' (n := 6) (by decide) (by decide) hy)), RR_K hc hm ⟨rfl, rfl, rfl⟩ (K8_r q)⟩
      exact (if_neg (hn 0 (by omega))).trans ((if_neg (hn 1 (by omega))).trans ((if_neg (hn 2 (by omega))).trans ((if_neg (hn 3 (by omega))).trans ((if_neg (hn 4 (by omega))).trans (if_neg (hn 5 (by omega)))))))
  · exact ⟨_, _, _, (by unfold f_X7_group; exact p_no (c_isClass0 hx)), (by unfold f_X8_group; exact p_no (m_isClass0 hx)), h⟩
theorem rPf_b {p : S4} {B : Bk} {c : Nat} (h : rPf p B c) : rPb p B c (len B) := by
  obtain ⟨h1, h2, h3, h4, h5, h6, h7, h8, h9, h10, h11, -⟩ := h
  exact ⟨h1, h2, h3, h4, h5, h6, h7, h8, h9, h10, h11⟩
theorem c_shareBySpan1 {l : S1} {B : Bk} (ok : okB B) (h : rL l B) {i n : Nat} (hi : i < len B) (n9 : n ≤ 99) : f_X1_shareBySpan l (nI i) (nI n) = some (nI (shr B (cf B i) n)) := by
  have w := ok.1.1
  change len B ≤ 8 at w
  have c3 := cf_lt ok hi
  obtain ⟨-, -, -, -, h5, h6, h7, -⟩ := id h
  unfold f_X1_shareBySpan
  rw [p_yes (c_hasRow w h.1 hi), show x_rd 8 (g1_classes l) (nI i) = some (nI (cf B i)) from (p_rd (by omega) (by decide)).trans (congrArg some (h.2.2.1 i hi).1), p_bind, c_poolOf _ c3, p_bind]
  rcases (show cf B i = 0 ∨ cf B i = 1 ∨ cf B i = 2 by omega) with c0 | c0 | c0
  · rw [if_pos c0, if_pos rfl, c_shareBySpan ok (rPf_b h5) n9, p_bind, c0]
  · rw [if_neg (show ¬ cf B i = 0 by omega), if_pos c0, if_neg (by decide), if_pos rfl, c_shareBySpan ok (rPf_b h6) n9, p_bind, c0]
  · rw [if_neg (show ¬ cf B i = 0 by omega), if_neg (show ¬ cf B i = 1 by omega), if_neg (by decide), if_neg (by decide), if_pos rfl, c_shareBySpan ok (rPf_b h7) n9, p_bind, c0]
theorem m_sharedBy {s : S8} {B : Bk} (ok : okB B) (h : rM (g8_now s) B) (hW : ∀ c, c < 3 → clsOK s B c) {i n : Nat} (hi : i < len B) (hn : 0 < nf B i) (n1 : 1 ≤ n) (n9 : n ≤ 99) : ∃ U L, f_X8_sharedBy s (nI i) (nI n) = some (nI (shr B (cf B i) n), ul s U L) := by
  obtain ⟨f, hf, hfm⟩ := p_at (l := B.1) hi
  have c3 := cf_lt ok hi
  have hk := hW (cf B i) c3
  unfold clsOK at hk
  have k0 : ¬ qK B (cf B i) = 0 := fun e => kK_0 e i hi (inK_yes rfl hn)
  rw [if_neg k0] at hk
  obtain ⟨U, L, e1⟩ := m_shareOf ok c3 n1 n9 hk.2.1 hk.2.2.1
  refine ⟨U, L, ?_⟩
  unfold f_X8_sharedBy
  rw [m_classOf h hf, p_bind, ← cf_at hf, e1, p_bind]
theorem op_shareBy {s : S7} {q : S8} (h : RR s q) (x y : Int32) : ∃ r s' q', f_X7_shareBy s x y = some (r, s') ∧ f_X8_shareBy q x y = some (r, q') ∧ RR s' q' := by
  obtain ⟨g, hc, hm⟩ := id h
  have hb := hc.1
  have ok := hc.2.1
  have w := ok.1.1
  change len g.1 ≤ 8 at w
  rcases p_ix x (n := len g.1) (by omega) with ⟨i, hi, rfl⟩ | hx
  · have e7 := (show f_X7_shareBy s (nI i) y = _ from (by unfold f_X7_shareBy; rw [p_yes (c_hasF hb hi)]))
    have e8 := (show f_X8_shareBy q (nI i) y = _ from (by unfold f_X8_shareBy; rw [p_yes (m_isFleet hm.1 hi)]))
    rcases p_btw y (n := 99) (b := 99) rfl (by decide) with ⟨j, j1, j2, rfl, y1, y2, y3⟩ | ⟨hy, hy'⟩
    · obtain ⟨l, e1, hl⟩ := c_reckon (g7_ledger s) hb ok
      rw [if_neg y1, if_pos y2, e1, p_bind, c_isRated ok hl hi, p_bind] at e7
      rw [p_yes (m_isAmount j1 j2), m_isRated ok hm.1 hi, p_bind] at e8
      by_cases n1 : nf g.1 i = 0
      · rw [if_pos n1, if_pos rfl] at e7 e8
        exact ⟨_, _, _, e7, e8, RR_K hc hm ⟨rfl, rfl, rfl⟩ (K8_r q)⟩
      · obtain ⟨q', e2, k2, w2⟩ := m_works hm.1 ok
        have hm' : rM (g8_now q') g.1 := by rw [k2.1]; exact hm.1
        obtain ⟨U, L, e3⟩ := m_sharedBy ok hm' w2.2.1 hi (by omega) j1 j2
        rw [if_neg n1, if_neg (by decide), c_shareBySpan1 ok hl hi j2, p_bind] at e7
        rw [if_neg n1, if_neg (by decide), e2, p_bind, e3, p_bind] at e8
        exact ⟨_, _, _, e7, e8, RR_K hc hm ⟨rfl, rfl, rfl⟩ (K8_k (keep8_t k2 ⟨rfl, rfl, rfl, rfl, rfl, rfl, rfl⟩))⟩
    · rw [p_no (m_isAmount0 hy)] at e8
      refine ⟨-1, s, q, ?_, e8, h⟩
      rw [e7]
      rcases hy' with h' | h'
      · rw [if_pos h']
      · rw [if_neg h']
        split <;> rfl
  · exact ⟨_, _, _, (by unfold f_X7_shareBy; exact p_no (c_hasF0 hb hx)), (by unfold f_X8_shareBy; exact p_no (m_isFleet0 hm.1 hx)), h⟩
/-- the first place that has it -/
def firstN (p : Nat → Bool) (e : Int32) : Nat → Nat → Int32
  | 0, _ => e
  | d + 1, i => if p i = true then nI i else firstN p e d (i + 1)
theorem firstN_T {p : Nat → Bool} {e : Int32} {d i : Nat} (h : p i = true) : firstN p e (d + 1) i = nI i := by unfold firstN; rw [if_pos h]
theorem firstN_F {p : Nat → Bool} {e : Int32} {d i : Nat} (h : ¬ p i = true) : firstN p e (d + 1) i = firstN p e d (i + 1) := by rw [firstN, if_neg h]
theorem op_yearsFor {s : S7} {q : S8} (h : RR s q) (x y : Int32) : ∃ r s' q', f_X7_yearsFor s x y = some (r, s') ∧ f_X8_yearsFor q x y = some (r, q') ∧ RR s' q' := by
  obtain ⟨g, hc, hm⟩ := id h
  have hb := hc.1
  have ok := hc.2.1
  have w := ok.1.1
  change len g.1 ≤ 8 at w
  rcases p_ix x (n := len g.1) (by omega) with ⟨i, hi, rfl⟩ | hx
  · have e7 := (show f_X7_yearsFor s (nI i) y = _ from (by unfold f_X7_yearsFor; rw [p_yes (c_hasF hb hi)]))
    have e8 := (show f_X8_yearsFor q (nI i) y = _ from (by unfold f_X8_yearsFor; rw [p_yes (m_isFleet hm.1 hi)]))
    rcases p_btw y (n := 1000) (b := 1000) rfl (by decide) with ⟨j, j1, j2, ej, y1, y2, y3⟩ | ⟨hy, hy'⟩
    · obtain ⟨l, e1, hl⟩ := c_reckon (g7_ledger s) hb ok
      rw [if_neg y1, if_pos y2, e1, p_bind, c_isRated ok hl hi, p_bind] at e7
      rw [p_yes (p_in1 y1 y3), m_isRated ok hm.1 hi, p_bind] at e8
      by_cases n1 : nf g.1 i = 0
      · rw [if_pos n1, if_pos rfl] at e7 e8
        exact ⟨_, _, _, e7, e8, RR_K hc hm ⟨rfl, rfl, rfl⟩ (K8_r q)⟩
      · obtain ⟨q', e2, k2, w2⟩ := m_works hm.1 ok
        have hm' : rM (g8_now q') g.1 := by rw [k2.1]; exact hm.1
        rw [if_neg n1, if_neg (by decide)] at e7
        rw [if_neg n1, if_neg (by decide), e2, p_bind] at e8
        have hA : lp_X7_yearsFor_p52 (u7_ledger s l) (nI i) y 1 = some (firstN (fun n => !decide (nI (shr g.1 (cf g.1 i) n) < y)) (-2) 99 1, u7_ledger s l) := by
          unfold lp_X7_yearsFor_p52
          have key := p_forI (body := fun (k : S7 × Int32 × Int32 × Int32 → Option (Int32 × S7)) (z : S7 × Int32 × Int32 × Int32) => f_X7_yearsFor_p52 (fun s x1 x2 x3 => k (s, x1, x2, x3)) z.1 z.2.1 z.2.2.1 z.2.2.2) 99
            (fun n t => t = (u7_ledger s l, nI i, y, nI (n + 1)) ∧ firstN (fun n => !decide (nI (shr g.1 (cf g.1 i) n) < y)) (-2) 99 1 = firstN (fun n => !decide (nI (shr g.1 (cf g.1 i) n) < y)) (-2) (99 - n) (n + 1))
            (fun r => r = (firstN (fun n => !decide (nI (shr g.1 (cf g.1 i) n) < y)) (-2) 99 1, u7_ledger s l)) (by omega) (fun n k t hn hI ih => ?_) (fun k t hI => ?_) 0 (u7_ledger s l, nI i, y, 1) (Nat.zero_le _) ⟨rfl, rfl⟩
          · obtain ⟨r, e, rfl⟩ := key
            exact e
          · obtain ⟨rfl, hF⟩ := hI
            rw [show 99 - n = (99 - (n + 1)) + 1 by omega] at hF
            dsimp only
            unfold f_X7_yearsFor_p52
            rw [if_neg (by rw [show (99 : Int32) = nI 99 from rfl, p_lt (by omega) (by omega)]; omega), show f_X1_shareBySpan (g7_ledger (u7_ledger s l)) (nI i) (nI (n + 1)) = _ from c_shareBySpan1 (l := l) ok hl hi (by omega), p_bind]
            by_cases z : nI (shr g.1 (cf g.1 i) (n + 1)) < y
            · rw [if_pos z, nI_1]
              rw [firstN_F (d := 99 - (n + 1)) (i := n + 1) (by simp [z])] at hF
              exact ih _ ⟨rfl, hF⟩
            · rw [if_neg z]
              rw [firstN_T (d := 99 - (n + 1)) (i := n + 1) (by simp [z])] at hF
              exact ⟨_, rfl, by rw [show firstN (fun n => !decide (nI (shr g.1 (cf g.1 i) n) < y)) (-2) 99 1 = nI (n + 1) from hF]⟩
          · obtain ⟨rfl, hF⟩ := hI
            dsimp only
            unfold f_X7_yearsFor_p52
            rw [if_pos (by decide)]
            exact ⟨_, rfl, by rw [hF]; rfl⟩
        have hB : ∃ z, lp_X8_yearsFor_p38 q' (nI i) y 1 = some (firstN (fun n => !decide (nI (shr g.1 (cf g.1 i) n) < y)) (-2) 99 1, z) ∧ keep8 q' z := by
          unfold lp_X8_yearsFor_p38
          have key := p_forI (body := fun (k : S8 × Int32 × Int32 × Int32 → Option (Int32 × S8)) (z : S8 × Int32 × Int32 × Int32) => f_X8_yearsFor_p38 (fun s x1 x2 x3 => k (s, x1, x2, x3)) z.1 z.2.1 z.2.2.1 z.2.2.2) 99
            (fun n t => ∃ U L, t = (ul q' U L, nI i, y, nI (n + 1)) ∧ firstN (fun n => !decide (nI (shr g.1 (cf g.1 i) n) < y)) (-2) 99 1 = firstN (fun n => !decide (nI (shr g.1 (cf g.1 i) n) < y)) (-2) (99 - n) (n + 1))
            (fun r => ∃ z, r = (firstN (fun n => !decide (nI (shr g.1 (cf g.1 i) n) < y)) (-2) 99 1, z) ∧ keep8 q' z) (by omega) (fun n k t hn hI ih => ?_) (fun k t hI => ?_) 0 (q', nI i, y, 1) (Nat.zero_le _) ⟨g8_upper q', g8_lower q', rfl, rfl⟩
          · obtain ⟨r, e, z, rfl, hz⟩ := key
            exact ⟨z, e, hz⟩
          · obtain ⟨U, L, rfl, hF⟩ := hI
            obtain ⟨U2, L2, e3⟩ := m_sharedBy (s := ul q' U L) ok hm' w2.2.1 hi (by omega) (n := n + 1) (by omega) (by omega)
            rw [show 99 - n = (99 - (n + 1)) + 1 by omega] at hF
            dsimp only
            unfold f_X8_yearsFor_p38
            rw [if_neg (by rw [show (99 : Int32) = nI 99 from rfl, p_lt (by omega) (by omega)]; omega), e3, p_bind]
            by_cases z : nI (shr g.1 (cf g.1 i) (n + 1)) < y
            · rw [if_pos z, nI_1]
              rw [firstN_F (d := 99 - (n + 1)) (i := n + 1) (by simp [z])] at hF
              exact ih _ ⟨U2, L2, rfl, hF⟩
            · rw [if_neg z]
              rw [firstN_T (d := 99 - (n + 1)) (i := n + 1) (by simp [z])] at hF
              exact ⟨_, rfl, ul q' U2 L2, by rw [show firstN (fun n => !decide (nI (shr g.1 (cf g.1 i) n) < y)) (-2) 99 1 = nI (n + 1) from hF]; rfl, ⟨rfl, rfl, rfl, rfl, rfl, rfl, rfl⟩⟩
          · obtain ⟨U, L, rfl, hF⟩ := hI
            dsimp only
            unfold f_X8_yearsFor_p38
            rw [if_pos (by decide)]
            exact ⟨_, rfl, ul q' U L, by rw [hF]; rfl, ⟨rfl, rfl, rfl, rfl, rfl, rfl, rfl⟩⟩
        obtain ⟨z, e3, k3⟩ := hB
        exact ⟨_, _, _, e7.trans hA, e8.trans e3, RR_K hc hm ⟨rfl, rfl, rfl⟩ (K8_k (keep8_t k2 k3))⟩
    · rw [p_no (p_in0 hy)] at e8
      refine ⟨-1, s, q, ?_, e8, h⟩
      rw [e7]
      rcases hy' with h' | h'
      · rw [if_pos h']
      · rw [if_neg h']
        split <;> rfl
  · exact ⟨_, _, _, (by unfold f_X7_yearsFor; exact p_no (c_hasF0 hb hx)), (by unfold f_X8_yearsFor; exact p_no (m_isFleet0 hm.1 hx)), h⟩
