/-! PURE: rates, on both sides -/
def thN (B : Bk) (i : Nat) : Nat := 1000 * ru B i / rl B i
def rt (B : Bk) (i : Nat) : Int32 := if nf B i = 0 then -2 else nI (thN B i)
theorem qN_pos {B : Bk} {c : Nat} : ∀ {j i : Nat}, i < j → inK B c i = true → 0 < kS B c (nf B) j
  | 0, i, h, _ => by omega
  | j + 1, i, h, q => by
    by_cases e : i = j
    · rw [← e, kS_T q]; have := (inK_n q).1; omega
    · have := qN_pos (B := B) (c := c) (j := j) (i := i) (by omega) q
      exact Nat.lt_of_lt_of_le this (kS_mono (by omega))
theorem rl_pos {B : Bk} {i : Nat} (hi : i < len B) (hn : 0 < nf B i) : 0 < qN B (cf B i) ∧ 0 < bl B (cf B i) ∧ 0 < rl B i := by
  have n0 : 0 < qN B (cf B i) := qN_pos hi (inK_yes rfl hn)
  have cp := cl_pos n0
  have a0 : 0 < aN B (len B) := Nat.lt_of_lt_of_le n0 (qN_aN _ (len B))
  have bp : 0 < bl B (cf B i) := Nat.mul_pos (Nat.mul_pos (by omega) cp) a0
  exact ⟨n0, bp, Nat.mul_pos (Nat.mul_pos (by omega) hn) bp⟩
theorem th_le {B : Bk} (ok : okB B) {i : Nat} (hi : i < len B) (hn : 0 < nf B i) : thN B i ≤ 396000 := by
  have h1 := ru_le ok i
  unfold thN
  refine Nat.div_le_of_le_mul ?_
  rw [Nat.mul_comm (rl B i)]
  omega
theorem c_isRated {l : S1} {B : Bk} (ok : okB B) (h : rL l B) {i : Nat} (hi : i < len B) : f_X1_isRated l (nI i) = some (if nf B i = 0 then 0 else 1) := by
  have w := ok.1.1
  change len B ≤ 8 at w
  have n5 := nf_le ok i
  unfold f_X1_isRated
  rw [p_yes (c_hasRow w h.1 hi), show x_rd 8 (g1_spans l) (nI i) = some (nI (nf B i)) from (p_rd (by omega) (by decide)).trans (congrArg some (h.2.2.1 i hi).2.1), p_bind]
  by_cases q : nf B i = 0
  · rw [if_pos q, q, if_pos (by decide)]
  · rw [if_neg q, if_neg (by rw [show (0 : Int32) = nI 0 from rfl, p_le (by omega) (by omega)]; omega)]
theorem c_isRated0 {l : S1} {B : Bk} (h : rL l B) {x : Int32} (hx : x < 0 ∨ (¬ x < 0 ∧ nI (len B) ≤ x)) : f_X1_isRated l x = some 0 := by
  unfold f_X1_isRated
  exact p_no (c_hasRow0 h.1 hx)
theorem rate_val {B : Bk} (ok : okB B) {i : Nat} (hn : 0 < nf B i) : ((Int32.toInt64 (nI (sh B i)) * Int32.toInt64 (nI (sS B i))) * lU (bl B (cf B i)) + (((1000 : Int64) - Int32.toInt64 (nI (sh B i))) * lU (bu B (cf B i))) * Int32.toInt64 (nI (nf B i)) = lU (ru B i)) ∧ ((1000 : Int64) * Int32.toInt64 (nI (nf B i))) * lU (bl B (cf B i)) = lU (rl B i) := by
  have n5 := nf_le ok i
  have s1 := sS_le ok i
  have sh1 : sh B i ≤ 1000 := sh_le _ _ _
  rw [lI_i (by omega), lI_i (by omega), lI_i (by omega), k1000', lU_mul, lU_mul, lU_sub sh1, lU_mul, lU_mul, lU_add, lU_mul, lU_mul]
  exact ⟨rfl, rfl⟩
section RA
variable {l : S1} {B : Bk}
theorem c_rds (ok : okB B) (h : rL l B) {i : Nat} (hi : i < len B) (hn : 0 < nf B i) : x_rd 8 (g1_classes l) (nI i) = some (nI (cf B i)) ∧ x_rd 8 (g1_shares l) (nI i) = some (nI (sh B i)) ∧ x_rd 8 (g1_spans l) (nI i) = some (nI (nf B i)) ∧ x_rd 8 (g1_sums l) (nI i) = some (nI (sS B i)) := by
  have w := ok.1.1
  change len B ≤ 8 at w
  obtain ⟨t1, t2, t3, t4⟩ := h.2.2.1 i hi
  have t5 := h.2.2.2.1 i hi
  rw [if_neg (by omega)] at t5
  exact ⟨(p_rd (by omega) (by decide)).trans (congrArg some t1), (p_rd (by omega) (by decide)).trans (congrArg some t5), (p_rd (by omega) (by decide)).trans (congrArg some t2), (p_rd (by omega) (by decide)).trans (congrArg some t3)⟩
theorem c_base (h : rL l B) {c : Nat} (hc : c < 3) (n0 : 0 < qN B c) : (c = 0 → g4_base (g1_poolA l) = (lU (bu B c), lU (bl B c))) ∧ (c = 1 → g4_base (g1_poolB l) = (lU (bu B c), lU (bl B c))) ∧ (c = 2 → g4_base (g1_poolC l) = (lU (bu B c), lU (bl B c))) := by
  obtain ⟨-, -, -, -, h5, h6, h7, -⟩ := h
  have e : ∀ {p : S4}, rPf p B c → g4_base p = (lU (bu B c), lU (bl B c)) := fun hp => by
    rw [hp.2.2.2.2.2.2.2.2.2.2.2]; unfold baseOf; rw [if_neg (by omega)]
  exact ⟨fun q => e (by rw [q]; exact h5), fun q => e (by rw [q]; exact h6), fun q => e (by rw [q]; exact h7)⟩
theorem c_putRate (ok : okB B) (h : rL l B) {i : Nat} (hi : i < len B) (hn : 0 < nf B i) (q : S5) : f_X1_putRate l q (nI i) = some (lU (ru B i), lU (rl B i)) := by
  have c3 := cf_lt ok hi
  obtain ⟨r1, r2, r3, r4⟩ := c_rds ok h hi hn
  obtain ⟨b1, b2, b3⟩ := c_base h c3 (rl_pos hi hn).1
  obtain ⟨v1, v2⟩ := rate_val ok hn
  unfold f_X1_putRate f_X5_putNone f_X5_put
  rw [p_bind, c_isRated ok h hi, if_neg (by omega), p_bind, if_neg (by decide), r1, p_bind, c_poolOf _ c3, p_bind, r2, p_bind, r3, p_bind, r4, p_bind, p_bind, p_bind, p_bind]
  rcases (show cf B i = 0 ∨ cf B i = 1 ∨ cf B i = 2 by omega) with c0 | c0 | c0
  · rw [if_pos c0, if_pos rfl, b1 c0]
    show some (((Int32.toInt64 (nI (sh B i)) * Int32.toInt64 (nI (sS B i))) * lU (bl B (cf B i)) + (((1000 : Int64) - Int32.toInt64 (nI (sh B i))) * lU (bu B (cf B i))) * Int32.toInt64 (nI (nf B i))), ((1000 : Int64) * Int32.toInt64 (nI (nf B i))) * lU (bl B (cf B i))) = _
    rw [v1, v2]
  · rw [if_neg (show ¬ cf B i = 0 by omega), if_pos c0, if_neg (by decide), if_pos rfl, b2 c0]
    show some (((Int32.toInt64 (nI (sh B i)) * Int32.toInt64 (nI (sS B i))) * lU (bl B (cf B i)) + (((1000 : Int64) - Int32.toInt64 (nI (sh B i))) * lU (bu B (cf B i))) * Int32.toInt64 (nI (nf B i))), ((1000 : Int64) * Int32.toInt64 (nI (nf B i))) * lU (bl B (cf B i))) = _
    rw [v1, v2]
  · rw [if_neg (show ¬ cf B i = 0 by omega), if_neg (show ¬ cf B i = 1 by omega), if_neg (by decide), if_neg (by decide), if_pos rfl, b3 c0]
    show some (((Int32.toInt64 (nI (sh B i)) * Int32.toInt64 (nI (sS B i))) * lU (bl B (cf B i)) + (((1000 : Int64) - Int32.toInt64 (nI (sh B i))) * lU (bu B (cf B i))) * Int32.toInt64 (nI (nf B i))), ((1000 : Int64) * Int32.toInt64 (nI (nf B i))) * lU (bl B (cf B i))) = _
    rw [v1, v2]
theorem c_putRate13 (ok : okB B) (h : rL l B) {i : Nat} (hi : i < len B) (hn : 0 < nf B i) : f_X1_putRate_i13 l (nI i) = some (u1_first l (lU (ru B i), lU (rl B i))) := by
  have c3 := cf_lt ok hi
  obtain ⟨r1, r2, r3, r4⟩ := c_rds ok h hi hn
  obtain ⟨b1, b2, b3⟩ := c_base h c3 (rl_pos hi hn).1
  obtain ⟨v1, v2⟩ := rate_val ok hn
  unfold f_X1_putRate_i13 f_X5_putNone f_X5_put
  rw [p_bind, c_isRated (l := u1_first l (u5_lower (u5_upper (g1_first l) 0) 0)) ok h hi, if_neg (by omega), p_bind, if_neg (by decide), r1, p_bind, c_poolOf _ c3, p_bind, r2, p_bind, r3, p_bind, r4, p_bind, p_bind, p_bind, p_bind]
  rcases (show cf B i = 0 ∨ cf B i = 1 ∨ cf B i = 2 by omega) with c0 | c0 | c0
  · rw [if_pos c0, if_pos rfl, b1 c0]
    show some (u1_first l (((Int32.toInt64 (nI (sh B i)) * Int32.toInt64 (nI (sS B i))) * lU (bl B (cf B i)) + (((1000 : Int64) - Int32.toInt64 (nI (sh B i))) * lU (bu B (cf B i))) * Int32.toInt64 (nI (nf B i))), ((1000 : Int64) * Int32.toInt64 (nI (nf B i))) * lU (bl B (cf B i)))) = _
    rw [v1, v2]
  · rw [if_neg (show ¬ cf B i = 0 by omega), if_pos c0, if_neg (by decide), if_pos rfl, b2 c0]
    show some (u1_first l (((Int32.toInt64 (nI (sh B i)) * Int32.toInt64 (nI (sS B i))) * lU (bl B (cf B i)) + (((1000 : Int64) - Int32.toInt64 (nI (sh B i))) * lU (bu B (cf B i))) * Int32.toInt64 (nI (nf B i))), ((1000 : Int64) * Int32.toInt64 (nI (nf B i))) * lU (bl B (cf B i)))) = _
    rw [v1, v2]
  · rw [if_neg (show ¬ cf B i = 0 by omega), if_neg (show ¬ cf B i = 1 by omega), if_neg (by decide), if_neg (by decide), if_pos rfl, b3 c0]
    show some (u1_first l (((Int32.toInt64 (nI (sh B i)) * Int32.toInt64 (nI (sS B i))) * lU (bl B (cf B i)) + (((1000 : Int64) - Int32.toInt64 (nI (sh B i))) * lU (bu B (cf B i))) * Int32.toInt64 (nI (nf B i))), ((1000 : Int64) * Int32.toInt64 (nI (nf B i))) * lU (bl B (cf B i)))) = _
    rw [v1, v2]
theorem c_putRate14 (ok : okB B) (h : rL l B) {i : Nat} (hi : i < len B) (hn : 0 < nf B i) : f_X1_putRate_i14 l (nI i) = some (u1_second l (lU (ru B i), lU (rl B i))) := by
  have c3 := cf_lt ok hi
  obtain ⟨r1, r2, r3, r4⟩ := c_rds ok h hi hn
  obtain ⟨b1, b2, b3⟩ := c_base h c3 (rl_pos hi hn).1
  obtain ⟨v1, v2⟩ := rate_val ok hn
  unfold f_X1_putRate_i14 f_X5_putNone f_X5_put
  rw [p_bind, c_isRated (l := u1_second l (u5_lower (u5_upper (g1_second l) 0) 0)) ok h hi, if_neg (by omega), p_bind, if_neg (by decide), r1, p_bind, c_poolOf _ c3, p_bind, r2, p_bind, r3, p_bind, r4, p_bind, p_bind, p_bind, p_bind]
  rcases (show cf B i = 0 ∨ cf B i = 1 ∨ cf B i = 2 by omega) with c0 | c0 | c0
  · rw [if_pos c0, if_pos rfl, b1 c0]
    show some (u1_second l (((Int32.toInt64 (nI (sh B i)) * Int32.toInt64 (nI (sS B i))) * lU (bl B (cf B i)) + (((1000 : Int64) - Int32.toInt64 (nI (sh B i))) * lU (bu B (cf B i))) * Int32.toInt64 (nI (nf B i))), ((1000 : Int64) * Int32.toInt64 (nI (nf B i))) * lU (bl B (cf B i)))) = _
    rw [v1, v2]
  · rw [if_neg (show ¬ cf B i = 0 by omega), if_pos c0, if_neg (by decide), if_pos rfl, b2 c0]
    show some (u1_second l (((Int32.toInt64 (nI (sh B i)) * Int32.toInt64 (nI (sS B i))) * lU (bl B (cf B i)) + (((1000 : Int64) - Int32.toInt64 (nI (sh B i))) * lU (bu B (cf B i))) * Int32.toInt64 (nI (nf B i))), ((1000 : Int64) * Int32.toInt64 (nI (nf B i))) * lU (bl B (cf B i)))) = _
    rw [v1, v2]
  · rw [if_neg (show ¬ cf B i = 0 by omega), if_neg (show ¬ cf B i = 1 by omega), if_neg (by decide), if_neg (by decide), if_pos rfl, b3 c0]
    show some (u1_second l (((Int32.toInt64 (nI (sh B i)) * Int32.toInt64 (nI (sS B i))) * lU (bl B (cf B i)) + (((1000 : Int64) - Int32.toInt64 (nI (sh B i))) * lU (bu B (cf B i))) * Int32.toInt64 (nI (nf B i))), ((1000 : Int64) * Int32.toInt64 (nI (nf B i))) * lU (bl B (cf B i)))) = _
    rw [v1, v2]
theorem c_rateCut0 {x : Int32} (h : f_X1_isRated (u1_first l (u5_lower (u5_upper (g1_first l) 0) 0)) x = some 0) : f_X1_rateCut l x = some (-2, u1_first l (0, 0)) := by
  unfold f_X1_rateCut f_X1_putRate_i13 f_X5_putNone
  rw [p_bind, h, p_bind, if_pos rfl, p_bind]
  rw [show g1_first (u1_first l (u5_lower (u5_upper (g1_first l) 0) 0)) = (lI 0, lI 0) from rfl, c_thou0 inL_0 (by omega), p_bind]
  rfl
theorem c_rateCut (ok : okB B) (h : rL l B) {i : Nat} (hi : i < len B) : ∃ l', f_X1_rateCut l (nI i) = some (rt B i, l') ∧ rL l' B := by
  unfold rt
  by_cases q : nf B i = 0
  · rw [if_pos q]
    exact ⟨_, c_rateCut0 (by rw [c_isRated (l := u1_first l (u5_lower (u5_upper (g1_first l) 0) 0)) ok h hi, if_pos q]), h⟩
  · rw [if_neg q]
    have rl1 := rl_le ok i
    have ru1 := ru_le ok i
    have rp := (rl_pos hi (by omega)).2.2
    refine ⟨u1_first l (lU (ru B i), lU (rl B i)), ?_, h⟩
    · unfold f_X1_rateCut
      rw [c_putRate13 ok h hi (by omega), p_bind, show g1_first (u1_first l (lU (ru B i), lU (rl B i))) = (lU (ru B i), lU (rl B i)) from rfl, c_thou (by omega) rp (by omega), p_bind]
      rfl
theorem c_compareRates (ok : okB B) (h : rL l B) {i j : Nat} (hi : i < len B) (ni : 0 < nf B i) (hj : j < len B) (nj : 0 < nf B j) : ∃ l', f_X1_compareRates l (nI i) (nI j) = some (cmpN (ru B i * rl B j) (ru B j * rl B i), l') ∧ rL l' B := by
  have a1 := rl_le ok i
  have a2 := ru_le ok i
  have a3 := rl_le ok j
  have a4 := ru_le ok j
  have pi := (rl_pos hi ni).2.2
  have pj := (rl_pos hj nj).2.2
  refine ⟨u1_second (u1_first l (lU (ru B i), lU (rl B i))) (lU (ru B j), lU (rl B j)), ?_, h⟩
  unfold f_X1_compareRates
  rw [c_putRate13 ok h hi ni, p_bind, c_putRate14 (l := u1_first l (lU (ru B i), lU (rl B i))) ok h hj nj, p_bind]
  refine (p_bE (c_cmp (A := ru B i) (M := rl B i) (C := ru B j) (L := rl B j) (by omega) (by omega) (by omega) (by omega) pi pj)).trans rfl
end RA
/-! the reference -/
theorem m_isRated {s : S8} {B : Bk} (ok : okB B) (h : rM (g8_now s) B) {i : Nat} (hi : i < len B) : f_X8_isRated s (nI i) = some (if nf B i = 0 then 0 else 1) := by
  obtain ⟨f, hf, hfm⟩ := p_at (l := B.1) hi
  have f3 := ok.1.2.2.1 f hfm
  have b := (bits5 f.2 f3.2).2.1
  unfold f_X8_isRated
  rw [m_yearsOf h hf, p_bind, nf_at hf]
  simp only [show (nI f.2 = 0) = (f.2 = 0) from p_eq (b := 0) (by omega) (by omega)]
  by_cases q : f.2 = 0
  · rw [if_pos q, if_pos (b.mpr q)]
  · rw [if_neg q, if_neg (fun e => q (b.mp e))]
theorem m_thou {s : S8} {B : Bk} (ok : okB B) {i : Nat} (h8 : i < 8) (hr : rate8 (g8_rateUp s) (g8_rateLow s) B i) : f_X8_inThousandths s (nI i) = some (nI (thN B i)) := by
  obtain ⟨u, l, e1, e2, hL⟩ := hr
  have a1 := rl_le ok i
  have a2 := ru_le ok i
  obtain ⟨a, b, m, rfl, rfl, b0, m0, ea, eb⟩ := Lt_nat hL
  have h1 : a * 1 ≤ a * m := Nat.mul_le_mul_left _ m0
  have h2 : b * 1 ≤ b * m := Nat.mul_le_mul_left _ m0
  have r1 : x_rd 8 (g8_rateUp s) (nI i) = some (lU a) := (p_rd h8 (by decide)).trans (congrArg some e1)
  have r2 : x_rd 8 (g8_rateLow s) (nI i) = some (lU b) := (p_rd h8 (by decide)).trans (congrArg some e2)
  have hr := Nat.mod_lt a b0
  have h9 : a % b * 1000 < 2 ^ 63 := Nat.lt_of_le_of_lt (Nat.mul_le_mul_right 1000 (Nat.le_of_lt hr)) (by omega)
  unfold f_X8_inThousandths
  have nz : x_nzl (lU b) = some () := lI_nz (inL_n (by omega)) (by omega)
  refine (p_bE r1).trans ((p_bE r2).trans ((p_bE nz).trans ((p_bE r1).trans ((p_bE r2).trans ((p_bE nz).trans ((p_bE r2).trans ((p_bE nz).trans ?_)))))))
  rw [lI_remn (by omega) (by omega) b0, lI_divn (by omega) (by omega) b0, k1000']
  rw [lU_mul, lU_mul, lI_divn h9 (by omega) b0, lU_add, lI_to32n, thou_eq a b b0]
  unfold thN
  rw [ea, eb, ← Nat.mul_assoc, Nat.mul_div_mul_right _ _ m0]
theorem m_ratedNow {s : S8} {B : Bk} (ok : okB B) (h : rM (g8_now s) B) {i : Nat} (hi : i < len B) (hn : 0 < nf B i) : ∃ s', f_X8_ratedNow s (nI i) = some (nI (thN B i), s') ∧ keep8 s s' ∧ rW s' B := by
  have w := ok.1.1
  change len B ≤ 8 at w
  obtain ⟨s', e1, k1, w1⟩ := m_works h ok
  refine ⟨s', ?_, k1, w1⟩
  unfold f_X8_ratedNow
  rw [e1, p_bind, m_thou ok (by omega) (w1.2.2 i hi hn).2, p_bind]
def ahead (B : Bk) (i j : Nat) : Bool := decide (ru B j * rl B i < ru B i * rl B j) || (decide (i < j) && !decide (ru B i * rl B j < ru B j * rl B i))
theorem m_isAhead {s : S8} {B : Bk} (ok : okB B) {i j : Nat} (i8 : i < 8) (j8 : j < 8) (hi : rate8 (g8_rateUp s) (g8_rateLow s) B i) (hj : rate8 (g8_rateUp s) (g8_rateLow s) B j) : f_X8_isAhead s (nI i) (nI j) = some (if ahead B i j = true then 1 else 0) := by
  obtain ⟨u, l, e1, e2, hL⟩ := hi
  obtain ⟨u', l', e1', e2', hL'⟩ := hj
  have a1 := rl_le ok i
  have a2 := ru_le ok i
  have a3 := rl_le ok j
  have a4 := ru_le ok j
  obtain ⟨a, b, m, rfl, rfl, b0, m0, ea, eb⟩ := Lt_nat hL
  obtain ⟨c, d, n, rfl, rfl, d0, n0, ec, ed⟩ := Lt_nat hL'
  have h1 : a * 1 ≤ a * m := Nat.mul_le_mul_left _ m0
  have h2 : b * 1 ≤ b * m := Nat.mul_le_mul_left _ m0
  have h3 : c * 1 ≤ c * n := Nat.mul_le_mul_left _ n0
  have h4 : d * 1 ≤ d * n := Nat.mul_le_mul_left _ n0
  have mn : 0 < m * n := Nat.mul_pos m0 n0
  have x1 : ru B j * rl B i = c * b * (m * n) := by rw [ec, eb]; ac_rfl
  have x2 : ru B i * rl B j = a * d * (m * n) := by rw [ea, ed]; ac_rfl
  have q1 : (ru B j * rl B i < ru B i * rl B j) ↔ c * b < a * d := by rw [x1, x2]; exact Nat.mul_lt_mul_right mn
  have q2 : (ru B i * rl B j < ru B j * rl B i) ↔ a * d < c * b := by rw [x1, x2]; exact Nat.mul_lt_mul_right mn
  have r1 : x_rd 8 (g8_rateUp s) (nI i) = some (lU a) := (p_rd i8 (by decide)).trans (congrArg some e1)
  have r2 : x_rd 8 (g8_rateLow s) (nI i) = some (lU b) := (p_rd i8 (by decide)).trans (congrArg some e2)
  have r3 : x_rd 8 (g8_rateUp s) (nI j) = some (lU c) := (p_rd j8 (by decide)).trans (congrArg some e1')
  have r4 : x_rd 8 (g8_rateLow s) (nI j) = some (lU d) := (p_rd j8 (by decide)).trans (congrArg some e2')
  have y1 := m_less (A := c) (M := d) (C := a) (L := b) (by omega) (by omega) (by omega) (by omega) d0 b0
  have y2 := m_less (A := a) (M := b) (C := c) (L := d) (by omega) (by omega) (by omega) (by omega) b0 d0
  unfold f_X8_isAhead ahead
  rw [r3, p_bind, r4, p_bind, r1, p_bind, r2, p_bind, y1, p_bind, p_bind, p_bind, p_bind, p_bind, y2, p_bind]
  by_cases z1 : c * b < a * d
  · rw [if_pos z1, if_neg (by decide), if_pos (by simp [q1.mpr z1])]
  · have z1' : ¬ ru B j * rl B i < ru B i * rl B j := fun e => z1 (q1.mp e)
    rw [if_neg z1, if_pos rfl]
    simp only [p_le (a := j) (b := i) (by omega) (by omega)]
    by_cases z2 : j ≤ i
    · rw [if_pos z2, if_neg (by simp [z1']; intro; omega)]
    · rw [if_neg z2]
      by_cases z3 : a * d < c * b
      · rw [if_pos z3, if_neg (by decide), if_neg (by simp [z1', q2.mpr z3])]
      · have z3' : ¬ ru B i * rl B j < ru B j * rl B i := fun e => z3 (q2.mp e)
        rw [if_neg z3, if_pos rfl, if_pos (by simp [z1']; exact ⟨by omega, by omega⟩)]
