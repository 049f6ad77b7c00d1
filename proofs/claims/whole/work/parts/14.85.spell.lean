/-! PURE: all spelled, on both sides -/
theorem c_spell {s : S7} {g : Sg} (hc : RC s g) {x : Int32} (hx : (-1 : Int32) ≤ x) : ∃ p, f_X7_spell s x = some ((if x = -1 then nI (spC g.1 g.1.2.1.length).length else lookT (spC g.1 g.1.2.1.length) x), u7_pen s p) := by
  have hb := hc.1
  have ok := hc.2.1
  have w := ok.1.1
  have w1 := ok.1.2.1
  have k1 := ok.1.2.2.2.2.1
  have k2 := ok.1.2.2.2.2.2
  have n1 := num_len (n := g.1.2.2.1) (k := 1) (by omega) (by omega)
  have n2 := num_len (n := g.1.2.2.2) (k := 1) (by omega) (by omega)
  obtain ⟨l0, l1, -⟩ := l_wd
  obtain ⟨-, -, -, -, -, b5, b6, -⟩ := b_wd
  obtain ⟨p0, a0, h0⟩ := c_begin (g7_pen s) hx
  obtain ⟨p1, a1, h1⟩ := c_named h0 (by show 0 < 880; omega) (w := 5) (n := g.1.2.2.1) (by omega) (by omega)
  rw [b5, List.nil_append] at h1
  have L1 : (wdL 0 ++ 32 :: num g.1.2.2.1).length ≤ 6 := by rw [List.length_append, List.length_cons]; omega
  obtain ⟨p2, a2, h2⟩ := c_end h1 (by omega)
  obtain ⟨p3, a3, h3⟩ := c_named h2 (by rw [List.length_append]; show _ + 1 < 880; omega) (w := 6) (n := g.1.2.2.2) (by omega) (by omega)
  rw [b6] at h3
  obtain ⟨p4, a4, h4⟩ := c_end h3 (by simp only [List.length_append, List.length_cons, List.length_nil]; omega)
  have h4' : rPen p4 x (spF g.1 0) := by
    have e : spF g.1 0 = spT g.1 := by unfold spF; simp
    rw [e]
    unfold spT
    rw [← List.append_assoc]
    exact h4
  have e7 := (show f_X7_spell s x = _ from (by unfold f_X7_spell; rw [if_pos hx, hb.2.2.2.1, hb.2.2.2.2.1, a0, p_bind, a1, p_bind, a2, p_bind, a3, p_bind, a4, p_bind]))
  have hB : ∀ p, rPen p x (spC g.1 0) → ∃ p', lp_X7_spell_p89 (u7_pen s p) 0 = some ((if x = -1 then nI (spC g.1 g.1.2.1.length).length else lookT (spC g.1 g.1.2.1.length) x), u7_pen s p') := by
    intro p hp
    unfold lp_X7_spell_p89
    have key := p_forI (body := fun (k : S7 × Int32 → Option (Int32 × S7)) (z : S7 × Int32) => f_X7_spell_p89 (fun s x2 => k (s, x2)) z.1 z.2) g.1.2.1.length (fun j t => ∃ p', t = (u7_pen s p', nI j) ∧ rPen p' x (spC g.1 j)) (fun r => ∃ p', r = ((if x = -1 then nI (spC g.1 g.1.2.1.length).length else lookT (spC g.1 g.1.2.1.length) x), u7_pen s p')) (by omega) (fun j k t hj hI ih => ?_) (fun k t hI => ?_) 0 (u7_pen s p, 0) (Nat.zero_le _) ⟨p, rfl, hp⟩
    · obtain ⟨r, e, p', rfl⟩ := key
      exact ⟨p', e⟩
    · obtain ⟨p', rfl, h'⟩ := hI
      obtain ⟨p2, a2, h2⟩ := c_spellClaim hc hj h'
      dsimp only
      unfold f_X7_spell_p89
      rw [show g0_claims (g7_book (u7_pen s p')) = _ from hb.2.2.1, if_neg (by rw [p_le (by omega) (by omega)]; omega), a2, p_bind, nI_1]
      exact ih _ ⟨p2, rfl, h2⟩
    · obtain ⟨p', rfl, h'⟩ := hI
      dsimp only
      unfold f_X7_spell_p89
      rw [show g0_claims (g7_book (u7_pen s p')) = _ from hb.2.2.1, if_pos (by rw [p_le (by omega) (by omega)]; omega), show f_X3_answer (g7_pen (u7_pen s p')) = _ from c_answer h', p_bind]
      exact ⟨_, rfl, p', rfl⟩
  have hA : ∃ p', lp_X7_spell_p65 (u7_pen s p4) 0 = some ((if x = -1 then nI (spC g.1 g.1.2.1.length).length else lookT (spC g.1 g.1.2.1.length) x), u7_pen s p') := by
    unfold lp_X7_spell_p65
    have key := p_forI (body := fun (k : S7 × Int32 → Option (Int32 × S7)) (z : S7 × Int32) => f_X7_spell_p65 (fun s x2 => k (s, x2)) z.1 z.2) g.1.1.length (fun j t => ∃ p', t = (u7_pen s p', nI j) ∧ rPen p' x (spF g.1 j)) (fun r => ∃ p', r = ((if x = -1 then nI (spC g.1 g.1.2.1.length).length else lookT (spC g.1 g.1.2.1.length) x), u7_pen s p')) (by omega) (fun j k t hj hI ih => ?_) (fun k t hI => ?_) 0 (u7_pen s p4, 0) (Nat.zero_le _) ⟨p4, rfl, h4'⟩
    · obtain ⟨r, e, p', rfl⟩ := key
      exact ⟨p', e⟩
    · obtain ⟨p', rfl, h'⟩ := hI
      obtain ⟨p2, a2, h2⟩ := c_spellFleet hc hj h'
      dsimp only
      unfold f_X7_spell_p65
      rw [show g0_fleets (g7_book (u7_pen s p')) = _ from hb.2.1, if_neg (by rw [p_le (by omega) (by omega)]; omega), a2, p_bind, nI_1]
      exact ih _ ⟨p2, rfl, h2⟩
    · obtain ⟨p', rfl, h'⟩ := hI
      dsimp only
      unfold f_X7_spell_p65
      rw [show g0_fleets (g7_book (u7_pen s p')) = _ from hb.2.1, if_pos (by rw [p_le (by omega) (by omega)]; omega)]
      obtain ⟨p2, e2⟩ := hB p' (by
        have e : spC g.1 0 = spF g.1 g.1.1.length := by unfold spC; simp
        rw [e]; exact h')
      exact ⟨_, e2, p2, rfl⟩
  obtain ⟨p', e9⟩ := hA
  exact ⟨p', e7.trans e9⟩
theorem m_spell {q : S8} {B : Bk} (hm : rM (g8_now q) B) (ok : okB B) (hs : g8_words q = x_words) {x : Int32} (hx : (-1 : Int32) ≤ x) : ∃ f n, f_X8_spell q x = some ((if x = -1 then nI (spC B B.2.1.length).length else lookT (spC B B.2.1.length) x), tx q f n) := by
  have w := ok.1.1
  have w1 := ok.1.2.1
  have k1 := ok.1.2.2.2.2.1
  have k2 := ok.1.2.2.2.2.2
  have n1 := num_len (n := B.2.2.1) (k := 1) (by omega) (by omega)
  have n2 := num_len (n := B.2.2.2) (k := 1) (by omega) (by omega)
  obtain ⟨l0, l1, l2, l3, -⟩ := l_wd
  obtain ⟨f1, c1, i1⟩ := m_one (s := q) hs (isT_nil (g8_text q)) (w := 0) (n := B.2.2.1) (k := 1) (by omega) (by omega) (by omega) (by show 0 + 1 + 8 ≤ 800; omega) (x := 0) rfl
  rw [List.nil_append] at c1 i1
  have L1 : (wdL 0 ++ 32 :: num B.2.2.1).length ≤ 6 := by rw [List.length_append, List.length_cons]; omega
  obtain ⟨f2, c2, i2⟩ := m_writes (s := q) i1 (by omega) 59
  obtain ⟨f3, c3, i3⟩ := m_one (s := q) hs i2 (w := 1) (n := B.2.2.2) (k := 1) (by omega) (by omega) (by omega) (by rw [List.length_append]; show _ + 1 + 1 + 8 ≤ 800; omega) (x := 1) rfl
  obtain ⟨f4, c4, i4⟩ := m_writes (s := q) i3 (by simp only [List.length_append, List.length_cons, List.length_nil]; omega) 59
  have eT : ((wdL 0 ++ 32 :: num B.2.2.1) ++ [59] ++ (wdL 1 ++ 32 :: num B.2.2.2)) ++ [59] = spF B 0 := by
    have e : spF B 0 = spT B := by unfold spF; simp
    rw [e]
    unfold spT
    simp only [List.append_assoc, List.cons_append, List.nil_append]
  rw [eT] at c4 i4
  have rnow : ∀ (ff : Nat → Int32) (n : Nat), x_rd 140 (g8_now (tx q ff n)) 1 = some (nI B.2.2.2) := fun ff n => (p_rd (i := 1) (by decide) (by decide)).trans (congrArg some hm.2.2.1)
  have e8 := (show f_X8_spell q x = _ from (by unfold f_X8_spell; rw [if_pos hx, show x_rd 140 (g8_now q) 0 = some (nI B.2.2.1) from (p_rd (i := 0) (by decide) (by decide)).trans (congrArg some hm.2.1), p_bind, show f_X8_writesOne (u8_textMany q 0) 0 (nI B.2.2.1) = _ from c1, p_bind, c2, p_bind, rnow, p_bind, c3, p_bind, c4, p_bind]))
  have hB : ∀ f, isT f (spC B 0) → ∃ f' n, lp_X8_spell_p107 (tx q f (spC B 0).length) x 0 = some ((if x = -1 then nI (spC B B.2.1.length).length else lookT (spC B B.2.1.length) x), tx q f' n) := by
    intro f hf
    unfold lp_X8_spell_p107
    have key := p_forI (body := fun (k : S8 × Int32 × Int32 → Option (Int32 × S8)) (z : S8 × Int32 × Int32) => f_X8_spell_p107 (fun s x1 x2 => k (s, x1, x2)) z.1 z.2.1 z.2.2) B.2.1.length (fun j t => ∃ f', t = (tx q f' (spC B j).length, x, nI j) ∧ isT f' (spC B j)) (fun r => ∃ f' n, r = ((if x = -1 then nI (spC B B.2.1.length).length else lookT (spC B B.2.1.length) x), tx q f' n)) (by omega) (fun j k t hj hI ih => ?_) (fun k t hI => ?_) 0 (tx q f (spC B 0).length, x, 0) (Nat.zero_le _) ⟨f, rfl, hf⟩
    · obtain ⟨r, e, f', n, rfl⟩ := key
      exact ⟨f', n, e⟩
    · obtain ⟨f', rfl, h'⟩ := hI
      obtain ⟨c, hcl, hcm⟩ := p_at hj
      have wc := ok.1.2.2.2.1 c hcm
      have wc1 := wc.1
      have wc2 := wc.2.1
      have wc3 := (ok.2.2.1 c hcm).1.2
      have sl := spC_len ok j (by omega)
      obtain ⟨t1, t2, t3⟩ := hm.2.2.2.2.2.2 j c hcl
      have nl1 := num_len (n := c.1) (k := 0) (by omega) (by omega)
      have nl2 := num_len (n := c.2.1) (k := 0) (by omega) (by omega)
      have nl3 := num_len (n := c.2.2) (k := 1) (by omega) (by omega)
      obtain ⟨g1, d1, j1⟩ := m_word (s := q) hs h' (w := 3) (by omega) (by omega)
      have M1 : (spC B j ++ wdL 3).length ≤ 686 := by rw [List.length_append]; omega
      obtain ⟨g2, d2, j2⟩ := m_number (s := q) j1 (n := c.1) (k := 0) (by omega) (by omega) (by omega)
      have M2 : ((spC B j ++ wdL 3) ++ 32 :: num c.1).length ≤ 688 := by rw [List.length_append, List.length_cons]; omega
      obtain ⟨g3, d3, j3⟩ := m_number (s := q) j2 (n := c.2.1) (k := 0) (by omega) (by omega) (by omega)
      have M3 : (((spC B j ++ wdL 3) ++ 32 :: num c.1) ++ 32 :: num c.2.1).length ≤ 690 := by rw [List.length_append, List.length_cons]; omega
      obtain ⟨g4, d4, j4⟩ := m_number (s := q) j3 (n := c.2.2) (k := 1) (by omega) (by omega) (by omega)
      obtain ⟨g5, d5, j5⟩ := m_writes (s := q) j4 (by rw [List.length_append, List.length_cons]; omega) 59
      have eC : ((((spC B j ++ wdL 3) ++ 32 :: num c.1) ++ 32 :: num c.2.1) ++ 32 :: num c.2.2) ++ [59] = spC B (j + 1) := by
        rw [spC_s hcl]
        unfold cT
        simp only [List.append_assoc, List.cons_append]
      rw [eC] at d5 j5
      obtain ⟨r, e9, e10⟩ := ih (tx q g5 (spC B (j + 1)).length, x, nI (j + 1)) ⟨g5, rfl, j5⟩
      refine ⟨r, ?_, e10⟩
      have hcl8 : f_X8_claims (tx q f' (spC B j).length) = some (nI B.2.1.length) := m_claims (s := tx q f' (spC B j).length) hm
      dsimp only
      unfold f_X8_spell_p107
      rw [hcl8, p_bind, if_neg (by rw [p_le (by omega) (by omega)]; omega), show f_X8_writesWord (tx q f' (spC B j).length) 3 = _ from d1, p_bind]
      unfold lp_X8_spell_p122
      refine p_for (body := fun (k2 : S8 × Int32 × Int32 × Int32 → Option (Int32 × S8)) (z : S8 × Int32 × Int32 × Int32) => f_X8_spell_p122 (fun s x1 x2 => k (s, x1, x2)) (fun s x1 x2 x3 => k2 (s, x1, x2, x3)) z.1 z.2.1 z.2.2.1 z.2.2.2) 3 (fun i => (if i = 0 then tx q g1 (spC B j ++ wdL 3).length else if i = 1 then tx q g2 ((spC B j ++ wdL 3) ++ 32 :: num c.1).length else if i = 2 then tx q g3 (((spC B j ++ wdL 3) ++ 32 :: num c.1) ++ 32 :: num c.2.1).length else tx q g4 ((((spC B j ++ wdL 3) ++ 32 :: num c.1) ++ 32 :: num c.2.1) ++ 32 :: num c.2.2).length, x, nI j, nI i)) r (by omega) (fun i k2 hi3 ih2 => ?_) (fun k2 => ?_) 0 (Nat.zero_le _)
      · rcases (show i = 0 ∨ i = 1 ∨ i = 2 by omega) with rfl | rfl | rfl
        · dsimp only
          rw [if_pos rfl]
          unfold f_X8_spell_p122
          rw [if_neg (by decide), show (nI 0 : Int32) = 0 from rfl, p_a0, e20, show x_rd 140 (g8_now (tx q g1 (spC B j ++ wdL 3).length)) (nI (20 + 3 * j)) = some (nI c.1) from (p_rd (by omega) (by decide)).trans (congrArg some t1), p_bind, d2, p_bind]
          exact ih2
        · dsimp only
          rw [if_neg (by decide), if_pos rfl]
          unfold f_X8_spell_p122
          rw [if_neg (by decide), show (nI 1 : Int32) = 1 from rfl, e21, show x_rd 140 (g8_now (tx q g2 ((spC B j ++ wdL 3) ++ 32 :: num c.1).length)) (nI (21 + 3 * j)) = some (nI c.2.1) from (p_rd (by omega) (by decide)).trans (congrArg some t2), p_bind, d3, p_bind]
          exact ih2
        · dsimp only
          rw [if_neg (by decide), if_neg (by decide), if_pos rfl]
          unfold f_X8_spell_p122
          rw [if_neg (by decide), show (nI 2 : Int32) = 2 from rfl, e22, show x_rd 140 (g8_now (tx q g3 (((spC B j ++ wdL 3) ++ 32 :: num c.1) ++ 32 :: num c.2.1).length)) (nI (22 + 3 * j)) = some (nI c.2.2) from (p_rd (by omega) (by decide)).trans (congrArg some t3), p_bind, d4, p_bind]
          exact ih2
      · dsimp only
        rw [if_neg (by decide), if_neg (by decide), if_neg (by decide)]
        unfold f_X8_spell_p122
        rw [if_pos (by decide), d5, p_bind, nI_1]
        exact e9
    · obtain ⟨f', rfl, h'⟩ := hI
      have sl := spC_len ok B.2.1.length (Nat.le_refl _)
      have hcl8 : f_X8_claims (tx q f' (spC B B.2.1.length).length) = some (nI B.2.1.length) := m_claims (s := tx q f' (spC B B.2.1.length).length) hm
      dsimp only
      unfold f_X8_spell_p107
      rw [hcl8, p_bind, if_pos (by rw [p_le (by omega) (by omega)]; omega), m_told h' (by omega) hx, p_bind]
      exact ⟨_, rfl, f', _, rfl⟩
  have hA : ∃ f' n, lp_X8_spell_p48 (tx q f4 (spF B 0).length) x 0 = some ((if x = -1 then nI (spC B B.2.1.length).length else lookT (spC B B.2.1.length) x), tx q f' n) := by
    unfold lp_X8_spell_p48
    have key := p_forI (body := fun (k : S8 × Int32 × Int32 → Option (Int32 × S8)) (z : S8 × Int32 × Int32) => f_X8_spell_p48 (fun s x1 x2 => k (s, x1, x2)) z.1 z.2.1 z.2.2) B.1.length (fun i t => ∃ f', t = (tx q f' (spF B i).length, x, nI i) ∧ isT f' (spF B i)) (fun r => ∃ f' n, r = ((if x = -1 then nI (spC B B.2.1.length).length else lookT (spC B B.2.1.length) x), tx q f' n)) (by omega) (fun i k t hi hI ih => ?_) (fun k t hI => ?_) 0 (tx q f4 (spF B 0).length, x, 0) (Nat.zero_le _) ⟨f4, rfl, i4⟩
    · obtain ⟨r, e, f', n, rfl⟩ := key
      exact ⟨f', n, e⟩
    · obtain ⟨f', rfl, h'⟩ := hI
      obtain ⟨f, hf, hfm⟩ := p_at hi
      have f3 := ok.1.2.2.1 f hfm
      have sl := spF_len ok i (by omega)
      have nl := num_len (n := f.1) (k := 0) (by omega) (by omega)
      obtain ⟨g1, d1, j1⟩ := m_one (s := q) hs h' (w := 2) (n := f.1) (k := 0) (by omega) (by omega) (by omega) (by omega) (x := 2) rfl
      have M1 : (spF B i ++ (wdL 2 ++ 32 :: num f.1)).length ≤ 24 + 18 * i := by rw [List.length_append, List.length_append, List.length_cons]; omega
      have hmany : f_X8_many (tx q f' (spF B i).length) = some (nI B.1.length) := m_many (s := tx q f' (spF B i).length) hm
      have hcls : f_X8_classOf (tx q f' (spF B i).length) (nI i) = some (nI f.1) := m_classOf (s := tx q f' (spF B i).length) hm hf
      dsimp only
      unfold f_X8_spell_p48
      rw [hmany, p_bind, if_neg (by rw [p_le (by omega) (by omega)]; omega), hcls, p_bind, d1, p_bind]
      unfold lp_X8_spell_p68
      refine p_forI (body := fun (k2 : S8 × Int32 × Int32 × Int32 → Option (Int32 × S8)) (z : S8 × Int32 × Int32 × Int32) => f_X8_spell_p68 (fun s x1 x2 => k (s, x1, x2)) (fun s x1 x2 x3 => k2 (s, x1, x2, x3)) z.1 z.2.1 z.2.2.1 z.2.2.2) 5 (fun j t => ∃ f', t = (tx q f' ((spF B i ++ (wdL 2 ++ 32 :: num f.1)) ++ yT f j).length, x, nI i, nI j) ∧ isT f' ((spF B i ++ (wdL 2 ++ 32 :: num f.1)) ++ yT f j)) (fun r => ∃ f' n, r = ((if x = -1 then nI (spC B B.2.1.length).length else lookT (spC B B.2.1.length) x), tx q f' n)) (by omega) (fun j k2 t hj hI2 ih2 => ?_) (fun k2 t hI2 => ?_) 0 (tx q g1 (spF B i ++ (wdL 2 ++ 32 :: num f.1)).length, x, nI i, 0) (Nat.zero_le _) ⟨g1, by rw [show yT f 0 = [] from rfl, List.append_nil]; rfl, by rw [show yT f 0 = [] from rfl, List.append_nil]; exact j1⟩
      · obtain ⟨f2, rfl, h2⟩ := hI2
        have yl := yT_len f j (by omega)
        have nlj := num_len (n := j) (k := 0) (by omega) (by omega)
        have hins : f_X8_isInsured (tx q f2 ((spF B i ++ (wdL 2 ++ 32 :: num f.1)) ++ yT f j).length) (nI i) (nI j) = some (if f.2 / 2 ^ j % 2 = 1 then 1 else 0) := m_isInsured (s := tx q f2 _) hm hf hj
        dsimp only
        unfold f_X8_spell_p68
        rw [if_neg (by rw [show (5 : Int32) = nI 5 from rfl, p_le (by omega) (by omega)]; omega), hins, p_bind, nI_1]
        by_cases z : f.2 / 2 ^ j % 2 = 1
        · obtain ⟨g2, d2, j2⟩ := m_number (s := q) h2 (n := j) (k := 0) (by omega) (by omega) (by rw [List.length_append]; omega)
          rw [if_pos z, if_neg (by decide), d2, p_bind]
          refine ih2 _ ⟨g2, ?_, ?_⟩
          · rw [yT, if_pos z, List.append_assoc (spF B i ++ (wdL 2 ++ 32 :: num f.1)) (yT f j)]
          · rw [yT, if_pos z, ← List.append_assoc]; exact j2
        · rw [if_neg z, if_pos rfl]
          refine ih2 _ ⟨f2, ?_, ?_⟩
          · rw [yT, if_neg z, List.append_nil]
          · rw [yT, if_neg z, List.append_nil]; exact h2
      · obtain ⟨f2, rfl, h2⟩ := hI2
        have yl := yT_len f 5 (by omega)
        obtain ⟨g2, d2, j2⟩ := m_writes (s := q) h2 (by rw [List.length_append]; omega) 59
        have eF : ((spF B i ++ (wdL 2 ++ 32 :: num f.1)) ++ yT f 5) ++ [59] = spF B (i + 1) := by
          rw [spF_s hf]
          unfold fT
          simp only [List.append_assoc]
        rw [eF] at d2 j2
        dsimp only
        unfold f_X8_spell_p68
        rw [if_pos (by decide), d2, p_bind, nI_1]
        exact ih _ ⟨g2, rfl, j2⟩
    · obtain ⟨f', rfl, h'⟩ := hI
      have hmany : f_X8_many (tx q f' (spF B B.1.length).length) = some (nI B.1.length) := m_many (s := tx q f' (spF B B.1.length).length) hm
      have e0 : spC B 0 = spF B B.1.length := by unfold spC; simp
      dsimp only
      unfold f_X8_spell_p48
      rw [hmany, p_bind, if_pos (by rw [p_le (by omega) (by omega)]; omega), ← e0]
      obtain ⟨f2, n2, e2⟩ := hB f' (by rw [e0]; exact h')
      exact ⟨_, e2, f2, n2, rfl⟩
  obtain ⟨f', n', e9⟩ := hA
  exact ⟨f', n', e8.trans e9⟩
theorem op_spell {s : S7} {q : S8} (h : RR s q) (x : Int32) : ∃ r s' q', f_X7_spell s x = some (r, s') ∧ f_X8_spell q x = some (r, q') ∧ RR s' q' := by
  obtain ⟨g, hc, hm⟩ := id h
  by_cases hx : (-1 : Int32) ≤ x
  · obtain ⟨p, e7⟩ := c_spell hc hx
    obtain ⟨f, n, e8⟩ := m_spell hm.1 hc.2.1 hm.2.2.2 hx
    exact ⟨_, _, _, e7, e8, RR_K hc hm ⟨rfl, rfl, rfl⟩ (K8_k ⟨rfl, rfl, rfl, rfl, rfl, rfl, rfl⟩)⟩
  · exact ⟨_, _, _, (by unfold f_X7_spell; rw [if_neg hx]), (by unfold f_X8_spell; rw [if_neg hx]), h⟩
