/-! PURE: what would be -/
theorem c_rateIn7 {s : S7} {B : Bk} (hb : rC (g7_trial s) B) (ok : okB B) {i : Nat} (hi : i < len B) : ∃ l, f_X7_rateIn_i7 s (nI i) = some (rt B i, u7_ledger s l) := by
  obtain ⟨l, e1, hl⟩ := c_reckon (g7_ledger s) hb ok
  obtain ⟨l', e2, hl'⟩ := c_rateCut ok hl hi
  refine ⟨l', ?_⟩
  unfold f_X7_rateIn_i7
  rw [p_yes (c_hasF hb hi), e1, p_bind, e2, p_bind]
theorem m_ratedBy {s : S8} {B : Bk} (ok : okB B) {k : Nat} (hk : k < 140) {x y : Int32} (hy : y = nI k) (h : rM (upd (g8_now s) k x) B) {i : Nat} (hi : i < len B) (hn : 0 < nf B i) : ∃ z, f_X8_ratedBy s (nI i) y x = some (nI (thN B i), z) ∧ K8 s z := by
  subst hy
  obtain ⟨z, e1, k1, -⟩ := m_ratedNow (s := u8_now s (upd (g8_now s) k x)) ok h hi hn
  refine ⟨u8_now z (upd (g8_now z) k (g8_now s k)), ?_, ?_⟩
  · unfold f_X8_ratedBy
    rw [p_rd hk (by decide), p_bind, p_wr hk (by decide), p_bind, e1, p_bind, p_wr hk (by decide), p_bind]
  · obtain ⟨a1, a2, a3, a4, a5, a6, a7⟩ := k1
    refine ⟨fun j _ => ?_, a3, a4, a5, a6, a7⟩
    show upd (g8_now z) k (g8_now s k) j = g8_now s j
    rw [a1]
    show upd (upd (g8_now s) k x) k (g8_now s k) j = _
    rw [upd_upd]
    by_cases q : j = k
    · rw [q, upd_same]
    · rw [upd_ne q]
theorem m_aside (s : S8) : ∃ a, f_X8_putsAside s = some (u8_aside s a) ∧ ∀ j, j < 140 → a j = g8_now s j := by
  unfold f_X8_putsAside lp_X8_putsAside_p2
  have key := p_forI (body := fun (k : S8 × Int32 → Option (S8)) (z : S8 × Int32) => f_X8_putsAside_p2 (fun s x1 => k (s, x1)) z.1 z.2) 140 (fun i t => ∃ a, t = (u8_aside s a, nI i) ∧ ∀ j, j < i → a j = g8_now s j) (fun r => ∃ a, r = u8_aside s a ∧ ∀ j, j < 140 → a j = g8_now s j) (by omega) (fun i k t hi hI ih => ?_) (fun k t hI => ?_) 0 (s, 0) (Nat.zero_le _) ⟨g8_aside s, rfl, fun j hj => by omega⟩
  · obtain ⟨r, e, a, rfl, ha⟩ := key
    exact ⟨a, e, ha⟩
  · obtain ⟨a, rfl, ha⟩ := hI
    dsimp only
    unfold f_X8_putsAside_p2
    rw [if_neg (by rw [show (140 : Int32) = nI 140 from rfl, p_le (by omega) (by omega)]; omega), p_rd hi (by decide), p_bind, p_wr hi (by decide), p_bind, nI_1]
    refine ih _ ⟨upd a i (g8_now s i), rfl, fun j hj => ?_⟩
    by_cases q : j = i
    · rw [q, upd_same]
    · rw [upd_ne q]; exact ha j (by omega)
  · obtain ⟨a, rfl, ha⟩ := hI
    dsimp only
    unfold f_X8_putsAside_p2
    rw [if_pos (by decide)]
    exact ⟨_, rfl, a, rfl, ha⟩
theorem m_takesBack (s : S8) : ∃ w, f_X8_takesBack s = some (u8_now s w) ∧ ∀ j, j < 140 → w j = g8_aside s j := by
  unfold f_X8_takesBack lp_X8_takesBack_p2
  have key := p_forI (body := fun (k : S8 × Int32 → Option (S8)) (z : S8 × Int32) => f_X8_takesBack_p2 (fun s x1 => k (s, x1)) z.1 z.2) 140 (fun i t => ∃ a, t = (u8_now s a, nI i) ∧ ∀ j, j < i → a j = g8_aside s j) (fun r => ∃ a, r = u8_now s a ∧ ∀ j, j < 140 → a j = g8_aside s j) (by omega) (fun i k t hi hI ih => ?_) (fun k t hI => ?_) 0 (s, 0) (Nat.zero_le _) ⟨g8_now s, rfl, fun j hj => by omega⟩
  · obtain ⟨r, e, a, rfl, ha⟩ := key
    exact ⟨a, e, ha⟩
  · obtain ⟨a, rfl, ha⟩ := hI
    dsimp only
    unfold f_X8_takesBack_p2
    rw [if_neg (by rw [show (140 : Int32) = nI 140 from rfl, p_le (by omega) (by omega)]; omega), p_rd hi (by decide), p_bind, p_wr hi (by decide), p_bind, nI_1]
    refine ih _ ⟨upd a i (g8_aside s i), rfl, fun j hj => ?_⟩
    by_cases q : j = i
    · rw [q, upd_same]
    · rw [upd_ne q]; exact ha j (by omega)
  · obtain ⟨a, rfl, ha⟩ := hI
    dsimp only
    unfold f_X8_takesBack_p2
    rw [if_pos (by decide)]
    exact ⟨_, rfl, a, rfl, ha⟩
/-- aside, another book, work, and back -/
theorem m_round {s z : S8} {a w : Nat → Int32} (ha : ∀ j, j < 140 → a j = g8_now s j) (hk : keep8 (u8_now (u8_aside s a) w) z) : ∃ z', f_X8_takesBack z = some z' ∧ K8 s z' := by
  obtain ⟨v, e1, h1⟩ := m_takesBack z
  obtain ⟨a1, a2, a3, a4, a5, a6, a7⟩ := hk
  refine ⟨u8_now z v, e1, fun j hj => ?_, a3, a4, a5, a6, a7⟩
  show v j = _
  rw [h1 j hj, a2]
  exact ha j hj
theorem nf_fst {B B' : Bk} (h : B'.1 = B.1) (i : Nat) : nf B' i = nf B i := by unfold nf; rw [h]
theorem nf_set {B : Bk} {i v : Nat} {f : Nat × Nat} (hf : B.1[i]? = some f) (X : List Cm × Nat × Nat) : nf (B.1.set i (v, f.2), X) i = nf B i := by
  rw [nf_at hf]
  unfold nf
  dsimp only
  rw [set_at hf]
/-! another class -/
theorem k_inClass {s : S7} {g : Sg} (hc : RC s g) {i c : Nat} {f : Nat × Nat} (hf : g.1.1[i]? = some f) (c1 : c < 3) : okB (g.1.1.set i (c, f.2), g.1.2) ∧ ∃ s', f_X7_inClass s (nI i) (nI c) = some (rt (g.1.1.set i (c, f.2), g.1.2) i, s') ∧ K7 s s' := by
  have hi := (List.getElem?_eq_some_iff.mp hf).1
  have ok := hc.2.1
  have f3 := ok.1.2.2.1 f (List.mem_of_getElem? hf)
  have ok' : okB (g.1.1.set i (c, f.2), g.1.2) := ok_set ok c1 f3.2 (fun k hk ek => ok_bit ok hk hf ek)
  obtain ⟨t1, e1, h1⟩ := c_copyFrom hc.1 (g7_trial s)
  obtain ⟨t2, e2, h2⟩ := c_putClass h1 hf c1
  obtain ⟨l, e3⟩ := c_rateIn7 (s := u7_trial s t2) h2 ok' (i := i) (by show i < (g.1.1.set i (c, f.2)).length; rw [List.length_set]; exact hi)
  refine ⟨ok', u7_ledger (u7_trial s t2) l, ?_, rfl, rfl, rfl⟩
  unfold f_X7_inClass
  rw [p_yes (c_hasF hc.1 hi), p_yes (c_isClass c1), e1, p_bind, e2, p_bind, e3, p_bind]
theorem m_inClass {q : S8} {B : Bk} (ok : okB B) (h : rM (g8_now q) B) {i c : Nat} {f : Nat × Nat} (hf : B.1[i]? = some f) (c1 : c < 3) (ok' : okB (B.1.set i (c, f.2), B.2)) (hn : 0 < nf B i) {x : Int32} (hx : x = nI c) : ∃ z, f_X8_ratedBy q (nI i) ((4 : Int32) + (2 : Int32) * nI i) x = some (nI (thN (B.1.set i (c, f.2), B.2) i), z) ∧ K8 q z := by
  subst hx
  have hi := (List.getElem?_eq_some_iff.mp hf).1
  have w := ok.1.1
  refine m_ratedBy ok' (k := 4 + 2 * i) (by omega) (e4 i) (r_class h hf c1) (by show i < (B.1.set i (c, f.2)).length; rw [List.length_set]; exact hi) ?_
  rw [show nf (B.1.set i (c, f.2), B.2) i = nf B i from nf_set hf _]; exact hn
theorem op_inClass {s : S7} {q : S8} (h : RR s q) (x y : Int32) : ∃ r s' q', f_X7_inClass s x y = some (r, s') ∧ f_X8_inClass q x y = some (r, q') ∧ RR s' q' := by
  obtain ⟨g, hc, hm⟩ := id h
  have ok := hc.2.1
  have w := ok.1.1
  change len g.1 ≤ 8 at w
  rcases p_ix x (n := len g.1) (by omega) with ⟨i, hi, rfl⟩ | hx
  · obtain ⟨f, hf, hfm⟩ := p_at (l := g.1.1) hi
    rcases p_ix y (n := 3) (by decide) with ⟨c, c1, rfl⟩ | hy
    · obtain ⟨ok', s', e7, k7⟩ := k_inClass hc hf c1
      have hnf : nf (g.1.1.set i (c, f.2), g.1.2) i = nf g.1 i := nf_set hf _
      have e8 := (show f_X8_inClass q (nI i) (nI c) = _ from (by unfold f_X8_inClass; rw [p_yes (m_isFleet hm.1 hi), p_yes (m_isClass c1), m_isRated ok hm.1 hi, p_bind]))
      by_cases n1 : nf g.1 i = 0
      · rw [if_pos n1, if_pos rfl] at e8
        rw [rt_0 (hnf.trans n1)] at e7
        exact ⟨_, _, _, e7, e8, RR_K hc hm k7 (K8_r q)⟩
      · obtain ⟨z, e3, k3⟩ := m_inClass ok hm.1 hf c1 ok' (by omega) rfl
        rw [if_neg n1, if_neg (by decide), e3, p_bind] at e8
        rw [rt_1 (by omega)] at e7
        exact ⟨_, _, _, e7, e8, RR_K hc hm k7 k3⟩
    · exact ⟨_, _, _, (by unfold f_X7_inClass; rw [p_yes (c_hasF hc.1 hi), p_no (c_isClass0 hy)]), (by unfold f_X8_inClass; rw [p_yes (m_isFleet hm.1 hi), p_no (m_isClass0 hy)]), h⟩
  · exact ⟨_, _, _, (by unfold f_X7_inClass; exact p_no (c_hasF0 hc.1 hx)), (by unfold f_X8_inClass; exact p_no (m_isFleet0 hm.1 hx)), h⟩
theorem op_bestClass {s : S7} {q : S8} (h : RR s q) (x : Int32) : ∃ r s' q', f_X7_bestClass s x = some (r, s') ∧ f_X8_bestClass q x = some (r, q') ∧ RR s' q' := by
  obtain ⟨g, hc, hm⟩ := id h
  have ok := hc.2.1
  have w := ok.1.1
  change len g.1 ≤ 8 at w
  rcases p_ix x (n := len g.1) (by omega) with ⟨i, hi, rfl⟩ | hx
  · obtain ⟨f, hf, hfm⟩ := p_at (l := g.1.1) hi
    have hnf : ∀ c, nf (g.1.1.set i (c, f.2), g.1.2) i = nf g.1 i := fun c => nf_set hf _
    obtain ⟨ok0, s0, e7, k7⟩ := k_inClass hc hf (c := 0) (by decide)
    have e7' := (show f_X7_bestClass s (nI i) = _ from (by unfold f_X7_bestClass; rw [show f_X7_inClass s (nI i) 0 = _ from e7, p_bind]))
    have e8' := (show f_X8_bestClass q (nI i) = _ from (by unfold f_X8_bestClass; rw [p_yes (m_isFleet hm.1 hi), m_isRated ok hm.1 hi, p_bind]))
    dsimp only at e7'
    by_cases n1 : nf g.1 i = 0
    · rw [if_pos n1, if_pos rfl] at e8'
      rw [rt_0 ((hnf 0).trans n1), if_neg (by decide)] at e7'
      exact ⟨_, _, _, e7', e8', RR_K hc hm k7 (K8_r q)⟩
    · have np : 0 < nf g.1 i := by omega
      have hii : ∀ c, i < len (g.1.1.set i (c, f.2), g.1.2) := fun c => by show i < (g.1.1.set i (c, f.2)).length; rw [List.length_set]; exact hi
      have okc : ∀ c, c < 3 → okB (g.1.1.set i (c, f.2), g.1.2) := fun c hc3 => (k_inClass hc hf hc3).1
      have thc : ∀ c, c < 3 → thN (g.1.1.set i (c, f.2), g.1.2) i ≤ 396000 := fun c hc3 => th_le (okc c hc3) (hii c) (by rw [hnf]; exact np)
      obtain ⟨q0, e8, k8⟩ := m_inClass ok hm.1 hf (by decide) ok0 np (x := 0) rfl
      rw [if_neg n1, if_neg (by decide), e8, p_bind] at e8'
      rw [rt_1 (by rw [hnf]; exact np), if_pos (by have := thc 0 (by decide); rw [show (0 : Int32) = nI 0 from rfl, p_le (by omega) (by omega)]; omega)] at e7'
      dsimp only at e8'
      -- both loops, side by side
      have b : ∀ c, thN (g.1.1.set i (c, f.2), g.1.2) i = thN (g.1.1.set i (c, f.2), g.1.2) i := fun _ => rfl
      let T : Nat → Nat := fun c => thN (g.1.1.set i (c, f.2), g.1.2) i
      have hA : ∃ s', lp_X7_bestClass_p18 s0 (nI i) (nI (T 0)) 0 1 = some (encP (pick (fun _ => true) (fun a m => decide (T a < T m)) 3), s') ∧ K7 s s' := by
        unfold lp_X7_bestClass_p18
        have key := p_forI (body := fun (k : S7 × Int32 × Int32 × Int32 × Int32 → Option (Int32 × S7)) (z : S7 × Int32 × Int32 × Int32 × Int32) => f_X7_bestClass_p18 (fun s x1 x2 x3 x4 => k (s, x1, x2, x3, x4)) z.1 z.2.1 z.2.2.1 z.2.2.2.1 z.2.2.2.2) 2
          (fun c t => ∃ s' m, t = (s', nI i, nI (T m), nI m, nI (c + 1)) ∧ K7 s s' ∧ pick (fun _ => true) (fun a m => decide (T a < T m)) (c + 1) = some m)
          (fun r => ∃ s', r = (encP (pick (fun _ => true) (fun a m => decide (T a < T m)) 3), s') ∧ K7 s s') (by omega) (fun c k t hc3 hI ih => ?_) (fun k t hI => ?_) 0 (s0, nI i, nI (T 0), 0, 1) (Nat.zero_le _) ⟨s0, 0, rfl, k7, rfl⟩
        · obtain ⟨r, e, s', rfl, hs⟩ := key
          exact ⟨s', e, hs⟩
        · obtain ⟨s', m, rfl, ks, hp⟩ := hI
          have hml := (pick_lt _ _ hp).1
          obtain ⟨okc', s2, e9, k9⟩ := k_inClass (RC_K hc ks) hf (c := c + 1) (by omega)
          have t1 := thc (c + 1) (by omega)
          have t2 := thc m (by omega)
          have ks2 : K7 s s2 := ⟨k9.1.trans ks.1, k9.2.1.trans ks.2.1, k9.2.2.trans ks.2.2⟩
          rw [rt_1 (by rw [hnf]; exact np)] at e9
          dsimp only
          unfold f_X7_bestClass_p18
          rw [if_neg (by rw [show (3 : Int32) = nI 3 from rfl, p_le (by omega) (by omega)]; omega), e9, p_bind, nI_1]
          dsimp only
          by_cases z : T m ≤ T (c + 1)
          · rw [if_pos (show nI (T m) ≤ nI (T (c + 1)) by rw [p_le (show T m < 2 ^ 31 from by show thN _ _ < _; omega) (show T (c + 1) < 2 ^ 31 from by show thN _ _ < _; omega)]; exact z)]
            exact ih _ ⟨s2, m, rfl, ks2, pick_S rfl hp (by simp; omega)⟩
          · rw [if_neg (show ¬ nI (T m) ≤ nI (T (c + 1)) by rw [p_le (show T m < 2 ^ 31 from by show thN _ _ < _; omega) (show T (c + 1) < 2 ^ 31 from by show thN _ _ < _; omega)]; exact z)]
            exact ih _ ⟨s2, c + 1, rfl, ks2, pick_B rfl hp (by simp; omega)⟩
        · obtain ⟨s', m, rfl, ks, hp⟩ := hI
          dsimp only
          unfold f_X7_bestClass_p18
          rw [if_pos (by decide)]
          exact ⟨_, rfl, s', by rw [hp]; rfl, ks⟩
      have hB : ∃ q', lp_X8_bestClass_p38 q0 (nI i) 0 (nI (T 0)) 1 = some (encP (pick (fun _ => true) (fun a m => decide (T a < T m)) 3), q') ∧ K8 q q' := by
        unfold lp_X8_bestClass_p38
        have key := p_forI (body := fun (k : S8 × Int32 × Int32 × Int32 × Int32 → Option (Int32 × S8)) (z : S8 × Int32 × Int32 × Int32 × Int32) => f_X8_bestClass_p38 (fun s x1 x2 x3 x4 => k (s, x1, x2, x3, x4)) z.1 z.2.1 z.2.2.1 z.2.2.2.1 z.2.2.2.2) 2
          (fun c t => ∃ q' m, t = (q', nI i, nI m, nI (T m), nI (c + 1)) ∧ K8 q q' ∧ pick (fun _ => true) (fun a m => decide (T a < T m)) (c + 1) = some m)
          (fun r => ∃ q', r = (encP (pick (fun _ => true) (fun a m => decide (T a < T m)) 3), q') ∧ K8 q q') (by omega) (fun c k t hc3 hI ih => ?_) (fun k t hI => ?_) 0 (q0, nI i, 0, nI (T 0), 1) (Nat.zero_le _) ⟨q0, 0, rfl, k8, rfl⟩
        · obtain ⟨r, e, s', rfl, hs⟩ := key
          exact ⟨s', e, hs⟩
        · obtain ⟨q', m, rfl, ks, hp⟩ := hI
          have hml := (pick_lt _ _ hp).1
          obtain ⟨q2, e9, k9⟩ := m_inClass ok (RM_K hm ks).1 hf (c := c + 1) (by omega) (okc (c + 1) (by omega)) np rfl
          have t1 := thc (c + 1) (by omega)
          have t2 := thc m (by omega)
          dsimp only
          unfold f_X8_bestClass_p38
          rw [if_neg (by rw [show (3 : Int32) = nI 3 from rfl, p_le (by omega) (by omega)]; omega), e9, p_bind, nI_1]
          dsimp only
          by_cases z : T m ≤ T (c + 1)
          · rw [if_neg (show ¬ nI (T (c + 1)) < nI (T m) by rw [p_lt (show T (c + 1) < 2 ^ 31 from by show thN _ _ < _; omega) (show T m < 2 ^ 31 from by show thN _ _ < _; omega)]; omega)]
            exact ih _ ⟨q2, m, rfl, K8_t ks k9, pick_S rfl hp (by simp; omega)⟩
          · rw [if_pos (show nI (T (c + 1)) < nI (T m) by rw [p_lt (show T (c + 1) < 2 ^ 31 from by show thN _ _ < _; omega) (show T m < 2 ^ 31 from by show thN _ _ < _; omega)]; omega)]
            exact ih _ ⟨q2, c + 1, rfl, K8_t ks k9, pick_B rfl hp (by simp; omega)⟩
        · obtain ⟨q', m, rfl, ks, hp⟩ := hI
          dsimp only
          unfold f_X8_bestClass_p38
          rw [if_pos (by decide)]
          exact ⟨_, rfl, q', by rw [hp]; rfl, ks⟩
      obtain ⟨s', e9, k9⟩ := hA
      obtain ⟨q', e10, k10⟩ := hB
      exact ⟨_, _, _, e7'.trans e9, e8'.trans e10, RR_K hc hm k9 k10⟩
  · refine ⟨-1, s, q, ?_, by unfold f_X8_bestClass; exact p_no (m_isFleet0 hm.1 hx), h⟩
    unfold f_X7_bestClass f_X7_inClass
    rw [p_no (c_hasF0 hc.1 hx), p_bind]
    dsimp only
    rw [if_neg (by decide)]
