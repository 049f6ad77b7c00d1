/-! PURE: claim, forget, join -/
/-- a loop whose states are known one by one; any end -/
theorem p_forE {σ ρ : Type} {body : (σ → Option ρ) → σ → Option ρ} (n : Nat) (st : Nat → σ) (r : Option ρ) (hn : n < 90000) (hs : ∀ (i : Nat) (k : σ → Option ρ), i < n → k (st (i + 1)) = r → body k (st i) = r) (he : ∀ k : σ → Option ρ, body k (st n) = r) : ∀ i : Nat, i ≤ n → x_loop body FU (st i) = r := by
  have key : ∀ (d i m : Nat), i + d = n → d < m → x_loop body m (st i) = r := by
    intro d
    induction d with
    | zero =>
      intro i m h1 h2
      obtain ⟨m, rfl⟩ : ∃ m', m = m' + 1 := ⟨m - 1, by omega⟩
      rw [show i = n by omega]
      exact he _
    | succ d ih =>
      intro i m h1 h2
      obtain ⟨m, rfl⟩ : ∃ m', m = m' + 1 := ⟨m - 1, by omega⟩
      exact hs i _ (by omega) (ih (i + 1) m (by omega) (by omega))
  intro i hi
  exact key (n - i) i FU (by omega) (by have := FU_ge; omega)
theorem cnt_T {α : Type} (p : α → Bool) {l : List α} {i : Nat} {a : α} (h : l[i]? = some a) (q : p a = true) : nI (cnt p (l.take (i + 1))) = nI (cnt p (l.take i)) + 1 := by
  rw [cnt_take p h, if_pos q, nI_1]
theorem cnt_F {α : Type} (p : α → Bool) {l : List α} {i : Nat} {a : α} (h : l[i]? = some a) (q : ¬ p a = true) : nI (cnt p (l.take (i + 1))) = nI (cnt p (l.take i)) := by
  rw [cnt_take p h, if_neg q]; rfl
abbrev ofFY (i y : Nat) (c : Cm) : Bool := decide (c.1 = i) && decide (c.2.1 = y)
abbrev hasY (y : Nat) (g : Nat × Nat) : Bool := decide (g.2 / 2 ^ y % 2 = 1)
theorem isOfN_y {i y : Nat} (hy : y < 5) {c : Cm} (h : wfc c) : isOfN i (2 ^ y) c = ofFY i y c := by
  unfold isOfN ofFY
  have := (p_pow5 y hy).2 c.2.1 h.2.1
  simp [this]
theorem c_canClaim {b : S0} {B : Bk} (h : rC b B) {i y : Nat} {f : Nat × Nat} (hf : B.1[i]? = some f) (hy : y < 5) : f_X0_canClaim b (nI i) (nI y) = some (if B.2.1.length < 40 ∧ f.2 / 2 ^ y % 2 = 1 ∧ cnt (ofFY i y) B.2.1 < 4 then 1 else 0) := by
  have w0 := h.1.2.1
  have w8 := h.1.1
  have hi := (List.getElem?_eq_some_iff.mp hf).1
  have hle := cnt_le (ofFY i y) B.2.1
  have p5 := (p_pow5 y hy).1
  have hloop : lp_X0_canClaim_p25 b (nI i) (nI y) 0 0 = some (if cnt (ofFY i y) B.2.1 < 4 then 1 else 0) := by
    unfold lp_X0_canClaim_p25
    refine p_for B.2.1.length (fun j => (b, nI i, nI y, nI (cnt (ofFY i y) (B.2.1.take j)), nI j)) _ (by omega) (fun j k hj ih => ?_) (fun k => ?_) 0 (Nat.zero_le _)
    · obtain ⟨c, hc, hcm⟩ := p_at hj
      have e := isOfN_y (i := i) hy (h.1.2.2.2.1 c hcm)
      dsimp only
      unfold f_X0_canClaim_p25
      rw [h.2.2.1, if_neg (by rw [p_le (by omega) (by omega)]; omega), p_1sh hy, c_isOfN h hc (by omega) (by omega), p_bind, e]
      by_cases q : ofFY i y c = true
      · rw [if_pos q, if_neg (by decide)]
        rw [cnt_T _ hc q, ← nI_1] at ih
        exact ih
      · rw [if_neg q, if_pos rfl, p_a0]
        rw [cnt_F _ hc q, ← nI_1] at ih
        exact ih
    · dsimp only
      unfold f_X0_canClaim_p25
      rw [h.2.2.1, if_pos (by rw [p_le (by omega) (by omega)]; omega), cnt_all]
      simp only [show ((4 : Int32) ≤ nI (cnt (ofFY i y) B.2.1)) = (4 ≤ cnt (ofFY i y) B.2.1) from p_le (a := 4) (by omega) (by omega)]
      by_cases q : cnt (ofFY i y) B.2.1 < 4
      · rw [if_neg (by omega), if_pos q]
      · rw [if_pos (by omega), if_neg q]
  unfold f_X0_canClaim
  rw [h.2.2.1]
  simp only [show ((40 : Int32) ≤ nI B.2.1.length) = (40 ≤ B.2.1.length) from p_le (a := 40) (by omega) (by omega)]
  by_cases q1 : 40 ≤ B.2.1.length
  · rw [if_pos q1, if_neg (by omega)]
  · rw [if_neg q1, c_isInsured h hf hy, p_bind]
    by_cases q2 : f.2 / 2 ^ y % 2 = 1
    · rw [if_pos q2, if_neg (by decide), hloop]
      congr 1
      by_cases q3 : cnt (ofFY i y) B.2.1 < 4
      · rw [if_pos q3, if_pos ⟨by omega, q2, q3⟩]
      · rw [if_neg q3, if_neg (fun e => q3 e.2.2)]
    · rw [if_neg q2, if_pos rfl, if_neg (fun e => q2 e.2.1)]
theorem m_claimsOf {s : S8} {B : Bk} (h : rM (g8_now s) B) (x1 x2 : Int32) : f_X8_claimsOf s x1 x2 = some (nI (cnt (fun c => decide (nI c.1 = x1) && (decide (x2 = -1) || decide (nI c.2.1 = x2))) B.2.1)) := by
  have w0 := h.1.2.1
  unfold f_X8_claimsOf lp_X8_claimsOf_p5
  refine p_for B.2.1.length (fun j => (s, x1, x2, nI (cnt (fun c => decide (nI c.1 = x1) && (decide (x2 = -1) || decide (nI c.2.1 = x2))) (B.2.1.take j)), nI j)) _ (by omega) (fun j k hj ih => ?_) (fun k => ?_) 0 (Nat.zero_le _)
  · obtain ⟨c, hc, hcm⟩ := p_at hj
    dsimp only
    unfold f_X8_claimsOf_p5
    rw [m_claims h, p_bind, if_neg (by rw [p_le (by omega) (by omega)]; omega), m_fleetOf h hc, p_bind]
    by_cases q1 : nI c.1 = x1
    · rw [if_pos q1]
      by_cases q2 : x2 = -1
      · rw [if_pos q2]
        rw [cnt_T _ hc (by simp [q1, q2]), ← nI_1] at ih
        exact ih
      · rw [if_neg q2, m_yearOf h hc, p_bind]
        by_cases q3 : nI c.2.1 = x2
        · rw [if_pos q3]
          rw [cnt_T _ hc (by simp [q1, q3]), ← nI_1] at ih
          exact ih
        · rw [if_neg q3]
          rw [cnt_F _ hc (by simp [q2, q3]), ← nI_1] at ih
          exact ih
    · rw [if_neg q1]
      rw [cnt_F _ hc (by simp [q1]), ← nI_1] at ih
      exact ih
  · dsimp only
    unfold f_X8_claimsOf_p5
    rw [m_claims h, p_bind, if_pos (by rw [p_le (by omega) (by omega)]; omega), cnt_all]
theorem cnt_congr {α : Type} {p q : α → Bool} {l : List α} (h : ∀ a ∈ l, p a = q a) : cnt p l = cnt q l := by
  unfold cnt
  rw [List.filter_congr h]
theorem m_claimsFY {s : S8} {B : Bk} (h : rM (g8_now s) B) {i y : Nat} (hi : i < 8) (hy : y < 5) : f_X8_claimsOf s (nI i) (nI y) = some (nI (cnt (ofFY i y) B.2.1)) := by
  rw [m_claimsOf h]
  congr 2
  refine cnt_congr (fun c hc => ?_)
  have w := h.1.2.2.2.1 c hc
  have w1 := w.1
  have w2 := w.2.1
  simp [nI_m1 (n := y) (by omega), p_eq (a := c.1) (b := i) (by omega) (by omega), p_eq (a := c.2.1) (b := y) (by omega) (by omega)]
theorem ok_addC {B : Bk} (h : okB B) (hn : B.2.1.length < 40) {i y a : Nat} {f : Nat × Nat} (hf : B.1[i]? = some f) (hy : y < 5) (hb : f.2 / 2 ^ y % 2 = 1) (hc : cnt (ofFY i y) B.2.1 < 4) (h1 : 1 ≤ a) (h2 : a ≤ 99) : okB (B.1, B.2.1 ++ [(i, y, a)], B.2.2) := by
  obtain ⟨⟨a1, a2, a3, a4, a5, a6⟩, o1, o2, o3⟩ := h
  have hi := (List.getElem?_eq_some_iff.mp hf).1
  refine ⟨⟨a1, by simp; omega, a3, fun c hcm => ?_, a5, a6⟩, o1, fun k hk => ?_, fun f' y' => ?_⟩
  · rcases List.mem_append.mp hcm with h | h
    · exact a4 c h
    · rw [List.mem_singleton.mp h]; exact ⟨by dsimp only; omega, hy, by dsimp only; omega⟩
  · rcases List.mem_append.mp hk with h | h
    · exact o2 k h
    · rw [List.mem_singleton.mp h]; exact ⟨⟨h1, h2⟩, f, hf, hb⟩
  · have e := o3 f' y'
    unfold cnt at e hc ⊢
    rw [List.filter_append, List.length_append]
    by_cases q : i = f' ∧ y = y'
    · obtain ⟨rfl, rfl⟩ := q
      simp
      exact Nat.le_of_lt_succ hc
    · have : ([(i, y, a)] : List Cm).filter (fun c : Cm => decide (c.1 = f') && decide (c.2.1 = y')) = [] := by
        simp
        intro e1 e2
        exact q ⟨e1, e2⟩
      rw [this]
      exact e
theorem op_claim {s : S7} {q : S8} (h : RR s q) (x y z : Int32) : ∃ r s' q', f_X7_claim s x y z = some (r, s') ∧ f_X8_claim q x y z = some (r, q') ∧ RR s' q' := by
  obtain ⟨g, hc, hm⟩ := id h
  have hb := hc.1
  have hw := hm.1
  have w1 := hb.1.1
  have w2 := hb.1.2.1
  rcases p_ix x (n := g.1.1.length) (by omega) with ⟨i, i1, rfl⟩ | hx
  · have e7 := (show f_X7_claim s (nI i) y z = _ from (by unfold f_X7_claim; exact p_yes (c_hasF hb i1)))
    have e8 := (show f_X8_claim q (nI i) y z = _ from (by unfold f_X8_claim; exact p_yes (m_isFleet hw i1)))
    obtain ⟨f, hf, hfm⟩ := p_at i1
    have hf3 := hb.1.2.2.1 f hfm
    rcases p_ix y (n := 5) (by decide) with ⟨j, j1, rfl⟩ | hy
    · have hcl := cnt_le (ofFY i j) g.1.2.1
      rw [p_yes (c_isYear j1)] at e7
      rw [p_yes (m_isYear j1), m_isInsured hw hf j1, p_bind] at e8
      rcases p_amount z with ⟨a, a1, a2, rfl⟩ | hz
      · rw [p_yes (c_isAmount a1 a2), c_canClaim hb hf j1, p_bind] at e7
        by_cases q1 : f.2 / 2 ^ j % 2 = 1
        · rw [if_pos q1, if_neg (by decide), p_yes (m_isAmount a1 a2), m_claims hw, p_bind] at e8
          simp only [show (nI g.1.2.1.length = 40) = (g.1.2.1.length = 40) from p_eq (b := 40) (by omega) (by omega)] at e8
          by_cases q2 : g.1.2.1.length = 40
          · rw [if_pos q2] at e8
            rw [if_neg (fun e : g.1.2.1.length < 40 ∧ f.2 / 2 ^ j % 2 = 1 ∧ cnt (ofFY i j) g.1.2.1 < 4 => by omega), if_pos rfl] at e7
            exact ⟨_, _, _, e7, e8, h⟩
          · rw [if_neg q2, m_claimsFY hw (by omega) j1, p_bind] at e8
            simp only [show (nI (cnt (ofFY i j) g.1.2.1) = 4) = (cnt (ofFY i j) g.1.2.1 = 4) from p_eq (b := 4) (by omega) (by omega)] at e8
            have o4 := hc.2.1.2.2.2 i j
            by_cases q3 : cnt (ofFY i j) g.1.2.1 = 4
            · rw [if_pos q3] at e8
              rw [if_neg (fun e : g.1.2.1.length < 40 ∧ f.2 / 2 ^ j % 2 = 1 ∧ cnt (ofFY i j) g.1.2.1 < 4 => by omega), if_pos rfl] at e7
              exact ⟨_, _, _, e7, e8, h⟩
            · have q4 : cnt (ofFY i j) g.1.2.1 < 4 := Nat.lt_of_le_of_ne o4 q3
              rw [if_pos (show g.1.2.1.length < 40 ∧ f.2 / 2 ^ j % 2 = 1 ∧ cnt (ofFY i j) g.1.2.1 < 4 from ⟨by omega, q1, q4⟩), if_neg (by decide)] at e7
              rw [if_neg q3] at e8
              obtain ⟨p', e1, h1⟩ := c_keep hc.2.2.1 hb
              obtain ⟨b', e2, h2⟩ := c_addClaim hb (f := i) (y := j) (a := a) (by omega) ⟨by dsimp only; omega, j1, by dsimp only; omega⟩
              obtain ⟨bf, ac, e3, h3⟩ := m_keeps hw hm.2.1
              have h4 := r_addC hw (f := i) (y := j) (a := a) (by omega) ⟨by dsimp only; omega, j1, by dsimp only; omega⟩
              rw [e1, p_bind, e2, p_bind] at e7
              have mm : ∀ (s : S8) {n : Nat}, g8_now s 3 = nI n → f_X8_claims s = some (nI n) := fun s n hn => by
                unfold f_X8_claims
                rw [show x_rd 140 (g8_now s) 3 = _ from p_rd (i := 3) (n := 140) (by decide) (by decide), hn]; rfl
              rw [e3, p_bind, mm (u8_acts (u8_before q bf) ac) hw.2.2.2.2.1, p_bind, e21, e22, e20, p_wr (by omega) (by decide), p_bind, p_wr (by omega) (by decide), p_bind, p_wr (by omega) (by decide), p_bind, show x_rd 140 _ 3 = some (nI g.1.2.1.length) from (p_rd (i := 3) (by decide) (by decide)).trans (congrArg some (by rw [u_at, u_at, u_at, if_neg (by omega), if_neg (by omega), if_neg (by omega)]; exact hw.2.2.2.2.1)), p_bind, nI_1, show x_wr 140 _ 3 _ = _ from p_wr (i := 3) (by decide) (by decide), p_bind, mm _ (n := g.1.2.1.length + 1) (by rfl), p_bind, m1 (by omega)] at e8
              exact ⟨_, _, _, e7, e8, R_act hc hm (ok_addC hc.2.1 (by omega) hf j1 q1 q4 a1 a2) h1 h2 h3 h4⟩
        · rw [if_neg q1, if_pos rfl] at e8
          rw [if_neg (fun e : g.1.2.1.length < 40 ∧ f.2 / 2 ^ j % 2 = 1 ∧ cnt (ofFY i j) g.1.2.1 < 4 => q1 e.2.1), if_pos rfl] at e7
          exact ⟨_, _, _, e7, e8, h⟩
      · rw [p_no (c_isAmount0 hz)] at e7
        refine ⟨_, _, _, e7, ?_, h⟩
        rw [e8]
        by_cases q1 : f.2 / 2 ^ j % 2 = 1
        · rw [if_pos q1, if_neg (by decide), p_no (m_isAmount0 hz)]
        · rw [if_neg q1, if_pos rfl]
    · exact ⟨_, _, _, e7.trans (p_no (c_isYear0 hy)), e8.trans (p_no (m_isYear0 hy)), h⟩
  · exact ⟨_, _, _, (by unfold f_X7_claim; exact p_no (c_hasF0 hb hx)), (by unfold f_X8_claim; exact p_no (m_isFleet0 hw hx)), h⟩
/-! years that end for all -/
theorem c_countInsured {b : S0} {B : Bk} (h : rC b B) {y : Nat} (hy : y < 5) : f_X0_countInsured b (nI y) = some (nI (cnt (hasY y) B.1)) := by
  have w0 := h.1.1
  unfold f_X0_countInsured lp_X0_countInsured_p4
  refine p_for B.1.length (fun j => (b, nI y, nI (cnt (hasY y) (B.1.take j)), nI j)) _ (by omega) (fun j k hj ih => ?_) (fun k => ?_) 0 (Nat.zero_le _)
  · obtain ⟨f, hf, hfm⟩ := p_at hj
    dsimp only
    unfold f_X0_countInsured_p4
    rw [h.2.1, if_neg (by rw [p_le (by omega) (by omega)]; omega), c_isInsured h hf hy, p_bind]
    by_cases q : f.2 / 2 ^ y % 2 = 1
    · rw [if_pos q, if_neg (by decide)]
      rw [cnt_T _ hf (by simp [q]), ← nI_1] at ih
      exact ih
    · rw [if_neg q, if_pos rfl]
      rw [cnt_F _ hf (by simp [q]), ← nI_1] at ih
      exact ih
  · dsimp only
    unfold f_X0_countInsured_p4
    rw [h.2.1, if_pos (by rw [p_le (by omega) (by omega)]; omega), cnt_all]
theorem m_forget1 {s : S8} {B : Bk} (h : rM (g8_now s) B) {y : Nat} (hy : y < 5) : lp_X8_forget_p13 s (nI y) 0 0 = (if nI (cnt (hasY y) B.1) = 0 then some ((-1), s) else Option.bind (f_X8_keeps s) (fun v5 => lp_X8_forget_p51 v5 (nI y) (nI (cnt (hasY y) B.1)) 0)) := by
  have w0 := h.1.1
  unfold lp_X8_forget_p13
  refine p_forE B.1.length (fun j => (s, nI y, nI (cnt (hasY y) (B.1.take j)), nI j)) _ (by omega) (fun j k hj ih => ?_) (fun k => ?_) 0 (Nat.zero_le _)
  · obtain ⟨f, hf, hfm⟩ := p_at hj
    dsimp only
    unfold f_X8_forget_p13
    rw [m_many h, p_bind, if_neg (by rw [p_le (by omega) (by omega)]; omega), m_isInsured h hf hy, p_bind]
    by_cases q : f.2 / 2 ^ y % 2 = 1
    · rw [if_pos q, if_neg (by decide)]
      rw [cnt_T _ hf (by simp [q]), ← nI_1] at ih
      exact ih
    · rw [if_neg q, if_pos rfl]
      rw [cnt_F _ hf (by simp [q]), ← nI_1] at ih
      exact ih
  · dsimp only
    unfold f_X8_forget_p13
    rw [m_many h, p_bind, if_pos (by rw [p_le (by omega) (by omega)]; omega), cnt_all]
abbrev endF (s : Nat) (g : Nat × Nat) : Nat × Nat := (g.1, notIn g.2 s)
theorem m_forget2 {s : S8} {B : Bk} (h : rM (g8_now s) B) {y : Nat} (hy : y < 5) (x : Int32) : ∃ w, lp_X8_forget_p51 s (nI y) x 0 = some (x, u8_now s w) ∧ rM w (B.1.map (endF (2 ^ y)), B.2.1.filter (fun c => !mat (-1) (nI y) c), B.2.2) := by
  have w0 := h.1.1
  unfold lp_X8_forget_p51
  have key := p_forI (body := fun (k : S8 × Int32 × Int32 × Int32 → Option (Int32 × S8)) (z : S8 × Int32 × Int32 × Int32) => f_X8_forget_p51 (fun s x1 x2 x3 => k (s, x1, x2, x3)) z.1 z.2.1 z.2.2.1 z.2.2.2) B.1.length (fun i t => ∃ w, t = (u8_now s w, nI y, x, nI i) ∧ rM w (mapTo (endF (2 ^ y)) i B.1, B.2)) (fun r => ∃ w, r = (x, u8_now s w) ∧ rM w (B.1.map (endF (2 ^ y)), B.2.1.filter (fun c => !mat (-1) (nI y) c), B.2.2)) (by omega) (fun i k t hi hI ih => ?_) (fun k t hI => ?_) 0 (s, nI y, x, 0) (Nat.zero_le _) ⟨g8_now s, rfl, by rw [mapTo_0]; exact h⟩
  · obtain ⟨r, e1, w, rfl, hw⟩ := key
    exact ⟨w, e1, hw⟩
  · obtain ⟨w, rfl, hb⟩ := hI
    obtain ⟨g, hg, hgm⟩ := p_at hi
    have hg' : (mapTo (endF (2 ^ y)) i B.1)[i]? = some g := by rw [mapTo_get, if_neg (by omega)]; exact hg
    have wg := h.1.2.2.1 g hgm
    have o := p_notIn g.2 wg.2 (2 ^ y) (p_pow5 y hy).1
    have hb' : rM (g8_now (u8_now s w)) (mapTo (endF (2 ^ y)) i B.1, B.2) := hb
    dsimp only
    unfold f_X8_forget_p51
    rw [m_many hb', p_bind, if_neg (by rw [p_le (by simp [mapTo_len]; omega) (by omega)]; simp [mapTo_len]; omega), e5, show x_rd 140 (g8_now (u8_now s w)) (nI (5 + 2 * i)) = some (nI g.2) from (p_rd (by omega) (by decide)).trans (congrArg some (hb.2.2.2.2.2.1 i g hg').2), p_bind, p_1sh hy, o.1, p_wr (by omega) (by decide), p_bind]
    refine ih _ ⟨_, by rw [nI_1]; rfl, ?_⟩
    rw [mapTo_step _ hg]
    exact r_years hb hg' o.2
  · obtain ⟨w, rfl, hb⟩ := hI
    rw [mapTo_all] at hb
    have hb' : rM (g8_now (u8_now s w)) (B.1.map (endF (2 ^ y)), B.2) := hb
    dsimp only
    unfold f_X8_forget_p51
    obtain ⟨w2, e2, h2⟩ := m_dropsAll hb' (-1) (nI y)
    rw [m_many hb', p_bind, if_pos (by rw [p_le (by simp; omega) (by omega)]; simp), e2, p_bind]
    exact ⟨_, rfl, w2, rfl, h2⟩
theorem p_notS0 : ∀ a, a < 32 → ∀ s, s < 32 → ∀ k, k < 5 → (s / 2 ^ k % 2 = 1 ∨ notIn a s / 2 ^ k % 2 = a / 2 ^ k % 2) := by
  unfold notIn
  decide +kernel
theorem ok_len {B : Bk} (h : okB B) {c : Cm} (hc : c ∈ B.2.1) : c.1 < B.1.length := by
  obtain ⟨f, e, -⟩ := (h.2.2.1 c hc).2
  exact (List.getElem?_eq_some_iff.mp e).1
theorem ok_end {B : Bk} (h : okB B) {s : Nat} (hs : s < 32) : okB (B.1.map (endF s), B.2.1.filter (fun c => !inSetTo B.1.length s c), B.2.2) := by
  obtain ⟨⟨a1, a2, a3, a4, a5, a6⟩, o1, o2, o3⟩ := ok_sub h (l := B.2.1.filter (fun c => !inSetTo B.1.length s c)) List.filter_sublist
  refine ⟨⟨by simpa using a1, a2, fun f hf => ?_, a4, a5, a6⟩, o1, fun c hc => ⟨(o2 c hc).1, ?_⟩, o3⟩
  · obtain ⟨g, hg, rfl⟩ := List.mem_map.mp hf
    have := a3 g hg
    exact ⟨this.1, (p_notIn g.2 this.2 s hs).2⟩
  · obtain ⟨f, e, e'⟩ := (o2 c hc).2
    refine ⟨endF s f, ?_, ?_⟩
    · show (B.1.map (endF s))[c.1]? = _
      rw [List.getElem?_map, show B.1[c.1]? = some f from e]; rfl
    · obtain ⟨k1, k2⟩ := List.mem_filter.mp hc
      have hl := ok_len h k1
      have hfm := a3 f (List.mem_of_getElem? e)
      rcases p_notS0 f.2 hfm.2 s hs c.2.1 (a4 c hc).2.1 with h' | h'
      · simp [inSetTo, hl, h'] at k2
      · show notIn f.2 s / 2 ^ c.2.1 % 2 = 1
        rw [h', e']
theorem end_filter {B : Bk} (h : okB B) {y : Nat} (hy : y < 5) : B.2.1.filter (fun c => !mat (-1) (nI y) c) = B.2.1.filter (fun c => !inSetTo B.1.length (2 ^ y) c) := by
  refine filter_eq (fun c hc => ?_)
  have w := h.1.2.2.2.1 c hc
  have w2 := w.2.1
  unfold mat inSetTo
  simp [ok_len h hc, nI_m1 (n := y) (by omega), p_eq (a := c.2.1) (b := y) (by omega) (by omega), (p_pow5 y hy).2 c.2.1 w2]
theorem op_forget {s : S7} {q : S8} (h : RR s q) (x : Int32) : ∃ r s' q', f_X7_forget s x = some (r, s') ∧ f_X8_forget q x = some (r, q') ∧ RR s' q' := by
  obtain ⟨g, hc, hm⟩ := id h
  have hb := hc.1
  have hw := hm.1
  have w1 := hb.1.1
  rcases p_ix x (n := 5) (by decide) with ⟨j, j1, rfl⟩ | hx
  · have e7 := (show f_X7_forget s (nI j) = _ from (by unfold f_X7_forget; exact p_yes (c_isYear j1)))
    have e8 := (show f_X8_forget q (nI j) = _ from (by unfold f_X8_forget; exact p_yes (m_isYear j1)))
    rw [c_countInsured hb j1, p_bind] at e7
    rw [m_forget1 hw j1] at e8
    by_cases q1 : nI (cnt (hasY j) g.1.1) = 0
    · rw [if_pos q1] at e7 e8
      exact ⟨_, _, _, e7, e8, h⟩
    · rw [if_neg q1] at e7 e8
      obtain ⟨p', e1, h1⟩ := c_keep hc.2.2.1 hb
      obtain ⟨b', e2, h2⟩ := c_endYearsOfAll hb (s := 2 ^ j) (p_pow5 j j1).1
      obtain ⟨bf, a, e3, h3⟩ := m_keeps hw hm.2.1
      obtain ⟨w, e4, h4⟩ := m_forget2 (s := u8_acts (u8_before q bf) a) hw j1 (nI (cnt (hasY j) g.1.1))
      rw [e1, p_bind, p_bind, p_1sh j1, e2, p_bind] at e7
      rw [e3, p_bind, e4] at e8
      rw [end_filter hc.2.1 j1] at h4
      exact ⟨_, _, _, e7, e8, R_act hc hm (ok_end hc.2.1 (p_pow5 j j1).1) h1 h2 h3 h4⟩
  · exact ⟨_, _, _, (by unfold f_X7_forget; exact p_no (c_isYear0 hx)), (by unfold f_X8_forget; exact p_no (m_isYear0 hx)), h⟩
/-! a class joined to another -/
abbrev inCl (c : Nat) (g : Nat × Nat) : Bool := decide (g.1 = c)
theorem c_fleetsIn {b : S0} {B : Bk} (h : rC b B) {c : Nat} (hc : c < 3) : f_X0_fleetsIn b (nI c) = some (nI (orTo (inCl c) B.1 B.1.length)) := by
  have w0 := h.1.1
  unfold f_X0_fleetsIn lp_X0_fleetsIn_p4
  refine p_for B.1.length (fun j => (b, nI c, nI (orTo (inCl c) B.1 j), nI j)) _ (by omega) (fun j k hj ih => ?_) (fun k => ?_) 0 (Nat.zero_le _)
  · obtain ⟨f, hf, hfm⟩ := p_at hj
    have hf3 := h.1.2.2.1 f hfm
    have hlt := orTo_lt (inCl c) B.1 j
    have h8 : 2 ^ j ≤ 2 ^ 8 := Nat.pow_le_pow_right (by omega) (by omega)
    dsimp only
    unfold f_X0_fleetsIn_p4
    rw [h.2.1, if_neg (by rw [p_le (by omega) (by omega)]; omega), c_classOf h hf, p_bind]
    rw [show orTo (inCl c) B.1 (j + 1) = orTo (inCl c) B.1 j ||| (if B.1[j]?.any (inCl c) = true then 2 ^ j else 0) from rfl, hf, Option.any_some] at ih
    by_cases q : f.1 = c
    · rw [if_pos (by rw [q]), show (1 : Int32) = nI 1 from rfl, p_shl (by omega) (by omega), Nat.one_mul, p_or (by omega) (by omega)]
      rw [if_pos (by simp [q]), ← nI_1] at ih
      exact ih
    · rw [if_neg (by rw [p_eq (by omega) (by omega)]; exact q)]
      rw [if_neg (by simp [q]), Nat.or_zero, ← nI_1] at ih
      exact ih
  · dsimp only
    unfold f_X0_fleetsIn_p4
    rw [h.2.1, if_pos (by rw [p_le (by omega) (by omega)]; omega)]
abbrev joinF (c d : Nat) (g : Nat × Nat) : Nat × Nat := if g.1 = c then (d, g.2) else g
theorem m_joins {s : S8} {B : Bk} (h : rM (g8_now s) B) {c d : Nat} (hc : c < 3) (hd : d < 3) : ∃ w, f_X8_joins s (nI c) (nI d) = some (u8_now s w) ∧ rM w (B.1.map (joinF c d), B.2) := by
  have w0 := h.1.1
  unfold f_X8_joins lp_X8_joins_p2
  have key := p_forI (body := fun (k : S8 × Int32 × Int32 × Int32 → Option (S8)) (z : S8 × Int32 × Int32 × Int32) => f_X8_joins_p2 (fun s x1 x2 x3 => k (s, x1, x2, x3)) z.1 z.2.1 z.2.2.1 z.2.2.2) B.1.length (fun i t => ∃ w, t = (u8_now s w, nI c, nI d, nI i) ∧ rM w (mapTo (joinF c d) i B.1, B.2)) (fun r => ∃ w, r = u8_now s w ∧ rM w (B.1.map (joinF c d), B.2)) (by omega) (fun i k t hi hI ih => ?_) (fun k t hI => ?_) 0 (s, nI c, nI d, 0) (Nat.zero_le _) ⟨g8_now s, rfl, by rw [mapTo_0]; exact h⟩
  · obtain ⟨r, e1, w, rfl, hw⟩ := key
    exact ⟨w, e1, hw⟩
  · obtain ⟨w, rfl, hb⟩ := hI
    obtain ⟨g, hg, hgm⟩ := p_at hi
    have hg' : (mapTo (joinF c d) i B.1)[i]? = some g := by rw [mapTo_get, if_neg (by omega)]; exact hg
    have wg := h.1.2.2.1 g hgm
    have hb' : rM (g8_now (u8_now s w)) (mapTo (joinF c d) i B.1, B.2) := hb
    dsimp only
    unfold f_X8_joins_p2
    rw [m_many hb', p_bind, if_neg (by rw [p_le (by simp [mapTo_len]; omega) (by omega)]; simp [mapTo_len]; omega), m_classOf hb' hg', p_bind]
    by_cases q : g.1 = c
    · rw [if_pos (by rw [q]), e4, p_wr (by omega) (by decide), p_bind]
      refine ih _ ⟨_, by rw [nI_1]; rfl, ?_⟩
      rw [mapTo_step _ hg]
      unfold joinF
      rw [if_pos q]
      exact r_class hb hg' hd
    · rw [if_neg (by rw [p_eq (by omega) (by omega)]; exact q)]
      refine ih _ ⟨w, by rw [nI_1], ?_⟩
      rw [mapTo_id _ hg (by unfold joinF; rw [if_neg q])]
      exact hb
  · obtain ⟨w, rfl, hb⟩ := hI
    rw [mapTo_all] at hb
    have hb' : rM (g8_now (u8_now s w)) (B.1.map (joinF c d), B.2) := hb
    dsimp only
    unfold f_X8_joins_p2
    rw [m_many hb', p_bind, if_pos (by rw [p_le (by simp; omega) (by omega)]; simp)]
    exact ⟨_, rfl, w, rfl, hb⟩
theorem m_join1 {s : S8} {B : Bk} (h : rM (g8_now s) B) {c d : Nat} (hc : c < 3) (hd : d < 3) : lp_X8_join_p26 s (nI c) (nI d) 0 0 = (if nI (cnt (inCl c) B.1) = 0 then some ((-1), s) else Option.bind (f_X8_keeps s) (fun v5 => Option.bind (f_X8_joins v5 (nI c) (nI d)) (fun v7 => some (nI (cnt (inCl c) B.1), v7)))) := by
  have w0 := h.1.1
  unfold lp_X8_join_p26
  refine p_forE B.1.length (fun j => (s, nI c, nI d, nI (cnt (inCl c) (B.1.take j)), nI j)) _ (by omega) (fun j k hj ih => ?_) (fun k => ?_) 0 (Nat.zero_le _)
  · obtain ⟨f, hf, hfm⟩ := p_at hj
    have hf3 := h.1.2.2.1 f hfm
    dsimp only
    unfold f_X8_join_p26
    rw [m_many h, p_bind, if_neg (by rw [p_le (by omega) (by omega)]; omega), m_classOf h hf, p_bind]
    by_cases q : f.1 = c
    · rw [if_pos (by rw [q])]
      rw [cnt_T _ hf (by simp [q]), ← nI_1] at ih
      exact ih
    · rw [if_neg (by rw [p_eq (by omega) (by omega)]; exact q)]
      rw [cnt_F _ hf (by simp [q]), ← nI_1] at ih
      exact ih
  · dsimp only
    unfold f_X8_join_p26
    rw [m_many h, p_bind, if_pos (by rw [p_le (by omega) (by omega)]; omega), cnt_all]
theorem ok_mapF {B : Bk} (h : okB B) {m : Nat × Nat → Nat × Nat} (hm : ∀ g ∈ B.1, (m g).1 < 3 ∧ (m g).2 = g.2) : okB (B.1.map m, B.2) := by
  obtain ⟨⟨a1, a2, a3, a4, a5, a6⟩, o1, o2, o3⟩ := h
  refine ⟨⟨by simpa using a1, a2, fun f hf => ?_, a4, a5, a6⟩, o1, fun c hc => ⟨(o2 c hc).1, ?_⟩, o3⟩
  · obtain ⟨g, hg, rfl⟩ := List.mem_map.mp hf
    exact ⟨(hm g hg).1, by rw [(hm g hg).2]; exact (a3 g hg).2⟩
  · obtain ⟨f, e, e'⟩ := (o2 c hc).2
    refine ⟨m f, ?_, by rw [(hm f (List.mem_of_getElem? e)).2]; exact e'⟩
    show (B.1.map m)[c.1]? = _
    rw [List.getElem?_map, e]; rfl
theorem ok_join {B : Bk} (h : okB B) (c : Nat) {d : Nat} (hd : d < 3) : okB (B.1.map (joinF c d), B.2) := by
  refine ok_mapF h (fun g hg => ?_)
  unfold joinF
  split
  · exact ⟨hd, rfl⟩
  · exact ⟨(h.1.2.2.1 g hg).1, rfl⟩
theorem op_join {s : S7} {q : S8} (h : RR s q) (x y : Int32) : ∃ r s' q', f_X7_join s x y = some (r, s') ∧ f_X8_join q x y = some (r, q') ∧ RR s' q' := by
  obtain ⟨g, hc, hm⟩ := id h
  have hb := hc.1
  have hw := hm.1
  have w1 := hb.1.1
  rcases p_ix x (n := 3) (by decide) with ⟨c, c1, rfl⟩ | hx
  · have e7 := (show f_X7_join s (nI c) y = _ from (by unfold f_X7_join; exact p_yes (c_isClass c1)))
    have e8 := (show f_X8_join q (nI c) y = _ from (by unfold f_X8_join; exact p_yes (m_isClass c1)))
    rcases p_ix y (n := 3) (by decide) with ⟨d, d1, rfl⟩ | hy
    · rw [p_yes (c_isClass d1)] at e7
      rw [p_yes (m_isClass d1)] at e8
      by_cases q0 : nI c = nI d
      · rw [if_pos q0] at e7 e8
        exact ⟨_, _, _, e7, e8, h⟩
      · have hlt := orTo_lt (inCl c) g.1.1 g.1.1.length
        have h8 : 2 ^ g.1.1.length ≤ 2 ^ 8 := Nat.pow_le_pow_right (by omega) (by omega)
        have hz := orTo_zero (inCl c) g.1.1 g.1.1.length (Nat.le_refl _)
        rw [List.take_length] at hz
        have hcl := cnt_le (inCl c) g.1.1
        rw [if_neg q0, c_fleetsIn hb c1, p_bind] at e7
        simp only [show (nI (orTo (inCl c) g.1.1 g.1.1.length) = 0) = (orTo (inCl c) g.1.1 g.1.1.length = 0) from p_eq (b := 0) (by omega) (by omega)] at e7
        rw [if_neg q0, m_join1 hw c1 d1] at e8
        simp only [show (nI (cnt (inCl c) g.1.1) = 0) = (cnt (inCl c) g.1.1 = 0) from p_eq (b := 0) (by omega) (by omega)] at e8
        by_cases q1 : cnt (inCl c) g.1.1 = 0
        · rw [if_pos (hz.mpr q1)] at e7
          rw [if_pos q1] at e8
          exact ⟨_, _, _, e7, e8, h⟩
        · rw [if_neg (fun e => q1 (hz.mp e))] at e7
          rw [if_neg q1] at e8
          obtain ⟨p', e1, h1⟩ := c_keep hc.2.2.1 hb
          obtain ⟨b', e2, h2⟩ := c_moveAll hb c1 d1
          obtain ⟨bf, a, e3, h3⟩ := m_keeps hw hm.2.1
          obtain ⟨w, e4, h4⟩ := m_joins (s := u8_acts (u8_before q bf) a) hw c1 d1
          rw [e1, p_bind, e2, p_bind] at e7
          rw [e3, p_bind, e4, p_bind] at e8
          exact ⟨_, _, _, e7, e8, R_act hc hm (ok_join hc.2.1 c d1) h1 h2 h3 h4⟩
    · exact ⟨_, _, _, e7.trans (p_no (c_isClass0 hy)), e8.trans (p_no (m_isClass0 hy)), h⟩
  · exact ⟨_, _, _, (by unfold f_X7_join; exact p_no (c_isClass0 hx)), (by unfold f_X8_join; exact p_no (m_isClass0 hx)), h⟩
