/-! PURE: reports and spelling -/
theorem b_wd : x_byt.getD 0 [] = wdL 2 ∧ x_byt.getD 1 [] = 32 :: wdL 4 ∧ x_byt.getD 2 [] = 32 :: wdL 5 ∧ x_byt.getD 3 [] = 32 :: wdL 6 ∧ x_byt.getD 4 [] = 32 :: wdL 7 ∧ x_byt.getD 5 [] = wdL 0 ∧ x_byt.getD 6 [] = wdL 1 ∧ x_byt.getD 7 [] = wdL 3 := by decide
theorem l_wd : (wdL 0).length = 3 ∧ (wdL 1).length = 6 ∧ (wdL 2).length = 5 ∧ (wdL 3).length = 5 ∧ (wdL 4).length = 5 ∧ (wdL 5).length = 5 ∧ (wdL 6).length = 5 ∧ (wdL 7).length = 4 := by decide
theorem c_begin (p : S3) {x : Int32} (hx : (-1 : Int32) ≤ x) : ∃ p', f_X3_begin p x = some p' ∧ rPen p' x [] := by
  refine ⟨_, rfl, rfl, rfl, ?_⟩
  show (-2 : Int32) = _
  unfold lookT
  split <;> rfl
theorem isT_nil (f : Nat → Int32) : isT f [] := fun i x h => by cases h
theorem m_blank {s : S8} (hs : g8_words s = x_words) {f : Nat → Int32} {T : List Int32} (h : isT f T) {w n k : Nat} (hw : w < 8) (hk : k ≤ 8) (hn : n < 10 ^ (k + 1)) (hl : T.length + k + 9 ≤ 800) {x : Int32} (hx : x = nI w) : ∃ f1 f', f_X8_writes (tx s f T.length) 32 = some (tx s f1 (T ++ [32]).length) ∧ f_X8_writesOne (tx s f1 (T ++ [32]).length) x (nI n) = some (tx s f' (T ++ ((32 :: wdL w) ++ 32 :: num n)).length) ∧ isT f' (T ++ ((32 :: wdL w) ++ 32 :: num n)) := by
  obtain ⟨f1, e1, h1⟩ := m_writes (s := s) h (by omega) 32
  obtain ⟨f2, e2, h2⟩ := m_one (s := s) hs h1 hw hk hn (by rw [List.length_append]; show T.length + 1 + k + 8 ≤ 800; omega) hx
  rw [List.append_assoc] at e2 h2
  exact ⟨f1, f2, e1, e2, h2⟩
theorem op_report {s : S7} {q : S8} (h : RR s q) (x y : Int32) : ∃ r s' q', f_X7_report s x y = some (r, s') ∧ f_X8_report q x y = some (r, q') ∧ RR s' q' := by
  obtain ⟨g, hc, hm⟩ := id h
  have hb := hc.1
  have ok := hc.2.1
  have w := ok.1.1
  change len g.1 ≤ 8 at w
  rcases p_ix x (n := len g.1) (by omega) with ⟨i, hi, rfl⟩ | hx
  · by_cases hy : (-1 : Int32) ≤ y
    · obtain ⟨f, hf, hfm⟩ := p_at (l := g.1.1) hi
      have f3 := ok.1.2.2.1 f hfm
      have n5 := nf_le ok i
      have sh1 : sh g.1 i ≤ 1000 := sh_le _ _ _
      obtain ⟨b0, b1, b2, b3, b4, -⟩ := b_wd
      obtain ⟨-, -, l2, -, l4, l5, l6, l7⟩ := l_wd
      obtain ⟨l, e1, hl⟩ := c_reckon (g7_ledger s) hb ok
      obtain ⟨q1, m1', k1, w1⟩ := m_works hm.1 ok
      have hm1 : rM (g8_now q1) g.1 := by rw [k1.1]; exact hm.1
      have hs1 : g8_words q1 = x_words := by rw [k1.2.2.2.2.2.2]; exact hm.2.2.2
      obtain ⟨t1, t2, t3, t4⟩ := hl.2.2.1 i hi
      have t5 := hl.2.2.2.1 i hi
      obtain ⟨v1, v2, v3⟩ := w1.1.1 i hi
      have nl1 := num_len (n := i) (k := 0) (by omega) (by omega)
      have nl2 := num_len (n := f.1) (k := 0) (by omega) (by omega)
      have nl3 := num_len (n := nf g.1 i) (k := 0) (by omega) (by omega)
      have nl4 := num_len (n := sh g.1 i) (k := 3) (by omega) (by omega)
      -- the class
      obtain ⟨p0, a0, h0⟩ := c_begin (g7_pen s) hy
      obtain ⟨p1, a1, h1⟩ := c_named h0 (by show 0 < 880; omega) (w := 0) (n := i) (by omega) (by omega)
      rw [b0, List.nil_append] at h1
      have L1 : (wdL 2 ++ 32 :: num i).length ≤ 7 := by rw [List.length_append, List.length_cons]; omega
      obtain ⟨p2, a2, h2⟩ := c_named h1 (by omega) (w := 1) (n := f.1) (by omega) (by omega)
      rw [b1] at h2
      have L2 : ((wdL 2 ++ 32 :: num i) ++ ((32 :: wdL 4) ++ 32 :: num f.1)).length ≤ 15 := by rw [List.length_append, List.length_append (as := 32 :: wdL 4), List.length_cons, List.length_cons]; omega
      obtain ⟨p3, a3, h3⟩ := c_named h2 (by omega) (w := 2) (n := nf g.1 i) (by omega) (by omega)
      rw [b2] at h3
      have e_sp : f_X1_spanOf l (nI i) = some (nI (nf g.1 i)) := by unfold f_X1_spanOf; rw [p_yes (c_hasRow w hl.1 hi), p_rd (by omega) (by decide), p_bind, t2]
      have e7 := (show f_X7_report s (nI i) y = _ from (by unfold f_X7_report; rw [p_yes (c_hasF hb hi), if_pos hy, e1, p_bind, a0, p_bind, a1, p_bind, c_classOf hb hf, p_bind, a2, p_bind, e_sp, p_bind, a3, p_bind, c_isRated ok hl hi, p_bind]))
      -- the reference
      obtain ⟨g1, c1, i1⟩ := m_one (s := q1) hs1 (isT_nil (g8_text q1)) (w := 2) (n := i) (k := 0) (by omega) (by omega) (by omega) (by show 0 + 0 + 8 ≤ 800; omega) (x := 2) rfl
      rw [List.nil_append] at c1 i1
      obtain ⟨g2, g3, c2, c3, i3⟩ := m_blank (s := q1) hs1 i1 (w := 4) (n := f.1) (k := 0) (by omega) (by omega) (by omega) (by omega) (x := 4) rfl
      obtain ⟨g4, g5, c4, c5, i5⟩ := m_blank (s := q1) hs1 i3 (w := 5) (n := nf g.1 i) (k := 0) (by omega) (by omega) (by omega) (by omega) (x := 5) rfl
      have rn : ∀ (ff : Nat → Int32) (n : Nat), x_rd 8 (g8_n (tx q1 ff n)) (nI i) = some (nI (nf g.1 i)) := fun ff n => (p_rd (by omega) (by decide)).trans (congrArg some v1)
      have rcl : ∀ (ff : Nat → Int32) (n : Nat), f_X8_classOf (tx q1 ff n) (nI i) = some (nI f.1) := fun ff n => m_classOf (s := tx q1 ff n) hm1 hf
      have e8 := (show f_X8_report q (nI i) y = _ from (by unfold f_X8_report; rw [p_yes (m_isFleet hm.1 hi), if_pos hy, m1', p_bind, show f_X8_writesOne (u8_textMany q1 0) 2 (nI i) = _ from c1, p_bind, c2, p_bind, rcl, p_bind, c3, p_bind, c4, p_bind, rn, p_bind, c5, p_bind, rn, p_bind]))
      generalize hT3 : ((wdL 2 ++ 32 :: num i) ++ ((32 :: wdL 4) ++ 32 :: num f.1)) ++ ((32 :: wdL 5) ++ 32 :: num (nf g.1 i)) = T3 at h3 i5 e8
      have L3 : T3.length ≤ 23 := by rw [← hT3, List.length_append, List.length_append (as := 32 :: wdL 5), List.length_cons, List.length_cons]; omega
      by_cases n0 : nf g.1 i = 0
      · rw [if_pos n0, if_pos rfl] at e7
        rw [if_pos (by rw [n0]; decide)] at e8
        obtain ⟨p4, a4, h4⟩ := c_end h3 (by omega)
        obtain ⟨g6, c6, i6⟩ := m_writes (s := q1) i5 (by omega) 59
        have E7 : f_X7_report s (nI i) y = some ((if y = -1 then nI (T3 ++ [59]).length else lookT (T3 ++ [59]) y), u7_pen (u7_pen (u7_ledger s l) p3) p4) := by
          rw [e7]
          unfold f_X7_report_p131
          rw [show f_X3_writeEnd (g7_pen (u7_pen (u7_ledger s l) p3)) = _ from a4, p_bind, c_answer h4, p_bind]
        have E8 : f_X8_report q (nI i) y = some ((if y = -1 then nI (T3 ++ [59]).length else lookT (T3 ++ [59]) y), tx q1 g6 (T3 ++ [59]).length) := by
          rw [e8]
          unfold f_X8_report_p107
          rw [c6, p_bind, m_told i6 (by rw [List.length_append]; show T3.length + 1 ≤ 800; omega) hy, p_bind]
        exact ⟨_, _, _, E7, E8, RR_K hc hm ⟨rfl, rfl, rfl⟩ (K8_k (keep8_t k1 ⟨rfl, rfl, rfl, rfl, rfl, rfl, rfl⟩))⟩
      · have np : 0 < nf g.1 i := by omega
        have th1 := th_le ok hi np
        have nl5 := num_len (n := thN g.1 i) (k := 5) (by omega) (by omega)
        obtain ⟨l', e2, hl'⟩ := c_rateCut ok hl hi
        rw [rt_1 np] at e2
        have e_sh : f_X1_shareOf l (nI i) = some (nI (sh g.1 i)) := by unfold f_X1_shareOf; rw [p_yes (c_hasRow w hl.1 hi), p_rd (by omega) (by decide), p_bind, t5, if_neg n0]
        obtain ⟨p4, a4, h4⟩ := c_named h3 (by omega) (w := 3) (n := sh g.1 i) (by omega) (by omega)
        rw [b3] at h4
        have L4 : (T3 ++ ((32 :: wdL 6) ++ 32 :: num (sh g.1 i))).length ≤ 34 := by rw [List.length_append, List.length_append (as := 32 :: wdL 6), List.length_cons, List.length_cons]; omega
        obtain ⟨p5, a5, h5⟩ := c_named h4 (by omega) (w := 4) (n := thN g.1 i) (by omega) (by omega)
        rw [b4] at h5
        rw [if_neg n0, if_neg (by decide), e_sh, p_bind, a4, p_bind, e2, p_bind, a5, p_bind] at e7
        obtain ⟨g6, g7, c6, c7, i7⟩ := m_blank (s := q1) hs1 i5 (w := 6) (n := sh g.1 i) (k := 3) (by omega) (by omega) (by omega) (by omega) (x := 6) rfl
        obtain ⟨g8, g9, c8, c9, i9⟩ := m_blank (s := q1) hs1 i7 (w := 7) (n := thN g.1 i) (k := 5) (by omega) (by omega) (by omega) (by omega) (x := 7) rfl
        have rs : ∀ (ff : Nat → Int32) (n : Nat), x_rd 8 (g8_share (tx q1 ff n)) (nI i) = some (nI (sh g.1 i)) := fun ff n => (p_rd (by omega) (by decide)).trans (congrArg some (w1.2.2 i hi np).1)
        have rt' : ∀ (ff : Nat → Int32) (n : Nat), f_X8_inThousandths (tx q1 ff n) (nI i) = some (nI (thN g.1 i)) := fun ff n => m_thou (s := tx q1 ff n) ok (by omega) (w1.2.2 i hi np).2
        rw [if_neg (by rw [show (0 : Int32) = nI 0 from rfl, p_le (by omega) (by omega)]; omega), c6, p_bind, rs, p_bind, c7, p_bind, c8, p_bind, rt', p_bind, c9, p_bind] at e8
        generalize hT5 : (T3 ++ ((32 :: wdL 6) ++ 32 :: num (sh g.1 i))) ++ ((32 :: wdL 7) ++ 32 :: num (thN g.1 i)) = T5 at h5 i9 e8
        have L5 : T5.length ≤ 46 := by rw [← hT5, List.length_append, List.length_append (as := 32 :: wdL 7), List.length_cons, List.length_cons]; omega
        obtain ⟨p6, a6, h6⟩ := c_end h5 (by omega)
        obtain ⟨g10, c10, i10⟩ := m_writes (s := q1) i9 (by omega) 59
        have E7 : f_X7_report s (nI i) y = some ((if y = -1 then nI (T5 ++ [59]).length else lookT (T5 ++ [59]) y), u7_pen (u7_pen (u7_ledger s l') p5) p6) := by
          rw [e7]
          unfold f_X7_report_p131
          rw [show f_X3_writeEnd (g7_pen (u7_pen (u7_ledger s l') p5)) = _ from a6, p_bind, c_answer h6, p_bind]
        have E8 : f_X8_report q (nI i) y = some ((if y = -1 then nI (T5 ++ [59]).length else lookT (T5 ++ [59]) y), tx q1 g10 (T5 ++ [59]).length) := by
          rw [e8]
          unfold f_X8_report_p107
          rw [c10, p_bind, m_told i10 (by rw [List.length_append]; show T5.length + 1 ≤ 800; omega) hy, p_bind]
        exact ⟨_, _, _, E7, E8, RR_K hc hm ⟨rfl, rfl, rfl⟩ (K8_k (keep8_t k1 ⟨rfl, rfl, rfl, rfl, rfl, rfl, rfl⟩))⟩
    · exact ⟨_, _, _, (by unfold f_X7_report; rw [p_yes (c_hasF hb hi), if_neg hy]), (by unfold f_X8_report; rw [p_yes (m_isFleet hm.1 hi), if_neg hy]), h⟩
  · exact ⟨_, _, _, (by unfold f_X7_report; exact p_no (c_hasF0 hb hx)), (by unfold f_X8_report; exact p_no (m_isFleet0 hm.1 hx)), h⟩
/-! all spelled -/
def yT (f : Nat × Nat) : Nat → List Int32
  | 0 => []
  | j + 1 => yT f j ++ (if f.2 / 2 ^ j % 2 = 1 then 32 :: num j else [])
theorem yT_len (f : Nat × Nat) : ∀ j, j ≤ 5 → (yT f j).length ≤ 2 * j
  | 0, _ => Nat.le_refl _
  | j + 1, h => by
    have ih := yT_len f j (by omega)
    have nl := num_len (n := j) (k := 0) (by omega) (by omega)
    unfold yT
    rw [List.length_append]
    split
    · rw [List.length_cons]; omega
    · rw [List.length_nil]; omega
def fT (f : Nat × Nat) : List Int32 := (wdL 2 ++ 32 :: num f.1) ++ (yT f 5 ++ [59])
def cT (c : Cm) : List Int32 := (wdL 3 ++ 32 :: num c.1) ++ (32 :: num c.2.1 ++ (32 :: num c.2.2 ++ [59]))
def spT (B : Bk) : List Int32 := ((wdL 0 ++ 32 :: num B.2.2.1) ++ [59]) ++ ((wdL 1 ++ 32 :: num B.2.2.2) ++ [59])
def spF (B : Bk) (i : Nat) : List Int32 := spT B ++ ((B.1.take i).map fT).flatten
def spC (B : Bk) (j : Nat) : List Int32 := spF B B.1.length ++ ((B.2.1.take j).map cT).flatten
theorem spF_s {B : Bk} {i : Nat} {f : Nat × Nat} (h : B.1[i]? = some f) : spF B (i + 1) = spF B i ++ fT f := by
  unfold spF
  rw [take_pred h, List.map_append, List.flatten_append, List.append_assoc]
  simp
theorem spC_s {B : Bk} {j : Nat} {c : Cm} (h : B.2.1[j]? = some c) : spC B (j + 1) = spC B j ++ cT c := by
  unfold spC
  rw [take_pred h, List.map_append, List.flatten_append, List.append_assoc]
  simp
theorem fT_len {f : Nat × Nat} (h : f.1 < 3) : (fT f).length ≤ 18 := by
  have nl := num_len (n := f.1) (k := 0) (by omega) (by omega)
  have yl := yT_len f 5 (by omega)
  have l2 := l_wd.2.2.1
  unfold fT
  rw [List.length_append, List.length_append, List.length_append, List.length_cons]
  show _ + _ + (_ + 1) ≤ 18
  omega
theorem cT_len {c : Cm} (h : c.1 < 8) (h2 : c.2.1 < 5) (h3 : c.2.2 < 100) : (cT c).length ≤ 13 := by
  have n1 := num_len (n := c.1) (k := 0) (by omega) (by omega)
  have n2 := num_len (n := c.2.1) (k := 0) (by omega) (by omega)
  have n3 := num_len (n := c.2.2) (k := 1) (by omega) (by omega)
  have l3 := l_wd.2.2.2.1
  unfold cT
  rw [List.length_append, List.length_append, List.length_append (as := 32 :: num c.2.1), List.length_append (as := 32 :: num c.2.2), List.length_cons, List.length_cons, List.length_cons]
  show _ + _ + (_ + (_ + 1)) ≤ 13
  omega
theorem spT_len {B : Bk} (ok : okB B) : (spT B).length ≤ 17 := by
  have h1 := ok.1.2.2.2.2.1
  have h2 := ok.1.2.2.2.2.2
  have n1 := num_len (n := B.2.2.1) (k := 1) (by omega) (by omega)
  have n2 := num_len (n := B.2.2.2) (k := 1) (by omega) (by omega)
  have l0 := l_wd.1
  have l1 := l_wd.2.1
  unfold spT
  simp only [List.length_append, List.length_cons, List.length_nil]
  omega
theorem spF_len {B : Bk} (ok : okB B) : ∀ i, i ≤ B.1.length → (spF B i).length ≤ 17 + 18 * i
  | 0, _ => by
    have := spT_len ok
    unfold spF
    simp
    omega
  | i + 1, h => by
    have ih := spF_len ok i (by omega)
    obtain ⟨f, hf, hfm⟩ := p_at (l := B.1) (i := i) (by omega)
    have := fT_len (ok.1.2.2.1 f hfm).1
    rw [spF_s hf, List.length_append]
    omega
theorem spC_len {B : Bk} (ok : okB B) : ∀ j, j ≤ B.2.1.length → (spC B j).length ≤ 161 + 13 * j
  | 0, _ => by
    have := spF_len ok B.1.length (Nat.le_refl _)
    have := ok.1.1
    unfold spC
    simp
    omega
  | j + 1, h => by
    have ih := spC_len ok j (by omega)
    obtain ⟨c, hc, hcm⟩ := p_at (l := B.2.1) (i := j) (by omega)
    have wc := ok.1.2.2.2.1 c hcm
    have := cT_len wc.1 wc.2.1 (by have := (ok.2.2.1 c hcm).1.2; omega)
    rw [spC_s hc, List.length_append]
    omega
theorem c_spellFleet {s : S7} {g : Sg} (hc : RC s g) {x : Int32} {i : Nat} (hi : i < g.1.1.length) {p : S3} (hp : rPen p x (spF g.1 i)) : ∃ p', f_X7_spellFleet (u7_pen s p) (nI i) = some (u7_pen s p') ∧ rPen p' x (spF g.1 (i + 1)) := by
  have hb := hc.1
  have ok := hc.2.1
  have w := ok.1.1
  obtain ⟨f, hf, hfm⟩ := p_at hi
  have f3 := ok.1.2.2.1 f hfm
  have sl := spF_len ok i (by omega)
  have nl := num_len (n := f.1) (k := 0) (by omega) (by omega)
  have l2 := l_wd.2.2.1
  obtain ⟨p1, a1, h1⟩ := c_named hp (by omega) (w := 0) (n := f.1) (by omega) (by omega)
  rw [b_wd.1] at h1
  unfold f_X7_spellFleet
  rw [show f_X0_classOf (g7_book (u7_pen s p)) (nI i) = _ from c_classOf hb hf, p_bind, show f_X3_writeNamed (g7_pen (u7_pen s p)) 0 (nI f.1) = _ from a1, p_bind]
  unfold lp_X7_spellFleet_p20
  have key := p_forI (body := fun (k : S7 × Int32 × Int32 → Option (S7)) (z : S7 × Int32 × Int32) => f_X7_spellFleet_p20 (fun s x1 x2 => k (s, x1, x2)) z.1 z.2.1 z.2.2) 5 (fun j t => ∃ p', t = (u7_pen s p', nI i, nI j) ∧ rPen p' x ((spF g.1 i ++ (wdL 2 ++ 32 :: num f.1)) ++ yT f j)) (fun r => ∃ p', r = u7_pen s p' ∧ rPen p' x (spF g.1 (i + 1))) (by omega) (fun j k t hj hI ih => ?_) (fun k t hI => ?_) 0 (u7_pen (u7_pen s p) p1, nI i, 0) (Nat.zero_le _) ⟨p1, rfl, by rw [show yT f 0 = [] from rfl, List.append_nil]; exact h1⟩
  · obtain ⟨r, e, p', rfl, h'⟩ := key
    exact ⟨p', e, h'⟩
  · obtain ⟨p', rfl, h'⟩ := hI
    have yl := yT_len f j (by omega)
    dsimp only
    unfold f_X7_spellFleet_p20
    rw [if_neg (by rw [show (5 : Int32) = nI 5 from rfl, p_le (by omega) (by omega)]; omega), show f_X0_isInsured (g7_book (u7_pen s p')) (nI i) (nI j) = _ from c_isInsured hb hf hj, p_bind, nI_1]
    by_cases q : f.2 / 2 ^ j % 2 = 1
    · obtain ⟨p2, a2, h2⟩ := c_behind h' (by rw [List.length_append, List.length_append, List.length_append, List.length_cons]; omega) (n := j) (by omega)
      rw [if_pos q, if_neg (by decide), show f_X3_writeBehind (g7_pen (u7_pen s p')) (nI j) = _ from a2, p_bind]
      refine ih _ ⟨p2, rfl, ?_⟩
      rw [yT, if_pos q, ← List.append_assoc]
      exact h2
    · rw [if_neg q, if_pos rfl]
      refine ih _ ⟨p', rfl, ?_⟩
      rw [yT, if_neg q, List.append_nil]
      exact h'
  · obtain ⟨p', rfl, h'⟩ := hI
    have yl := yT_len f 5 (by omega)
    obtain ⟨p2, a2, h2⟩ := c_end h' (by rw [List.length_append, List.length_append, List.length_append, List.length_cons]; omega)
    dsimp only
    unfold f_X7_spellFleet_p20
    rw [if_pos (by decide), show f_X3_writeEnd (g7_pen (u7_pen s p')) = _ from a2, p_bind]
    refine ⟨_, rfl, p2, rfl, ?_⟩
    rw [spF_s hf]
    unfold fT
    rw [List.append_assoc, List.append_assoc] at h2
    exact h2
theorem c_spellClaim {s : S7} {g : Sg} (hc : RC s g) {x : Int32} {j : Nat} (hj : j < g.1.2.1.length) {p : S3} (hp : rPen p x (spC g.1 j)) : ∃ p', f_X7_spellClaim (u7_pen s p) (nI j) = some (u7_pen s p') ∧ rPen p' x (spC g.1 (j + 1)) := by
  have hb := hc.1
  have ok := hc.2.1
  have w1 := ok.1.2.1
  obtain ⟨c, hcl, hcm⟩ := p_at hj
  have wc := ok.1.2.2.2.1 c hcm
  have wc1 := wc.1
  have wc2 := wc.2.1
  have wc3 := wc.2.2
  have sl := spC_len ok j (by omega)
  have n1 := num_len (n := c.1) (k := 0) (by omega) (by omega)
  have n2 := num_len (n := c.2.1) (k := 0) (by omega) (by omega)
  have n3 := num_len (n := c.2.2) (k := 2) (by omega) (by omega)
  have l3 := l_wd.2.2.2.1
  obtain ⟨p1, a1, h1⟩ := c_named hp (by omega) (w := 7) (n := c.1) (by omega) (by omega)
  rw [b_wd.2.2.2.2.2.2.2] at h1
  have L1 : (spC g.1 j ++ (wdL 3 ++ 32 :: num c.1)).length ≤ 690 := by rw [List.length_append, List.length_append, List.length_cons]; omega
  obtain ⟨p2, a2, h2⟩ := c_behind h1 (by omega) (n := c.2.1) (by omega)
  have L2 : ((spC g.1 j ++ (wdL 3 ++ 32 :: num c.1)) ++ 32 :: num c.2.1).length ≤ 700 := by rw [List.length_append, List.length_cons]; omega
  obtain ⟨p3, a3, h3⟩ := c_behind h2 (by omega) (n := c.2.2) (by omega)
  obtain ⟨p4, a4, h4⟩ := c_end h3 (by rw [List.length_append, List.length_cons]; omega)
  refine ⟨p4, ?_, ?_⟩
  · unfold f_X7_spellClaim
    rw [show f_X0_fleetOf (g7_book (u7_pen s p)) (nI j) = _ from c_fleetOf hb hcl, p_bind, show f_X3_writeNamed (g7_pen (u7_pen s p)) 7 (nI c.1) = _ from a1, p_bind, show f_X0_yearOf (g7_book (u7_pen s p)) (nI j) = _ from c_yearOf hb hcl, p_bind, a2, p_bind, show f_X0_amountOf (g7_book (u7_pen s p)) (nI j) = _ from c_amountOf hb hcl, p_bind, a3, p_bind, a4, p_bind]
    rfl
  · rw [spC_s hcl]
    unfold cT
    rw [List.append_assoc, List.append_assoc, List.append_assoc] at h4
    exact h4
