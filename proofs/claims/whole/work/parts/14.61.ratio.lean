/-! PURE: the class's fractions; comparisons -/
theorem eu_step {x y d : Nat} (hy : 0 < y) (hd : (y ≤ x ∧ x * y < 2 ^ d) ∨ (x < y ∧ 1 ≤ d ∧ x * y * 2 < 2 ^ d)) : 1 ≤ d ∧ x % y ≤ y ∧ y * (x % y) < 2 ^ (d - 1) := by
  have hr : x % y < y := Nat.mod_lt _ hy
  have hdm := Nat.div_add_mod x y
  rcases hd with ⟨h1, h2⟩ | ⟨h1, h2, h3⟩
  · have hq : 1 ≤ x / y := Nat.div_pos h1 hy
    have hq2 : y * 1 ≤ y * (x / y) := Nat.mul_le_mul_left _ hq
    have h4 : 2 * (x % y) ≤ x := by omega
    have h5 : y * (2 * (x % y)) ≤ y * x := Nat.mul_le_mul_left _ h4
    have h6 : 1 ≤ x * y := Nat.mul_pos (by omega) (by omega)
    have hd1 : 1 ≤ d := by
      rcases Nat.eq_zero_or_pos d with h | h
      · rw [h] at h2; simp at h2; omega
      · exact h
    have h7 : 2 ^ d = 2 * 2 ^ (d - 1) := by rw [show d = (d - 1) + 1 by omega, Nat.pow_succ]; simp; omega
    have h8 : y * (2 * (x % y)) = 2 * (y * (x % y)) := by rw [Nat.mul_left_comm]
    rw [Nat.mul_comm y x] at h5
    exact ⟨hd1, by omega, by omega⟩
  · have h4 : x % y = x := Nat.mod_eq_of_lt h1
    have h7 : 2 ^ d = 2 * 2 ^ (d - 1) := by rw [show d = (d - 1) + 1 by omega, Nat.pow_succ]; simp; omega
    refine ⟨h2, by omega, ?_⟩
    rw [h4, Nat.mul_comm y x]
    omega
theorem eu_start {x y : Nat} (hx : x < 2 ^ 63) (hy : y < 2 ^ 63) : (y ≤ x ∧ x * y < 2 ^ 128) ∨ (x < y ∧ 1 ≤ 128 ∧ x * y * 2 < 2 ^ 128) := by
  have h1 : x * y ≤ 2 ^ 63 * 2 ^ 63 := Nat.mul_le_mul (by omega) (by omega)
  by_cases q : y ≤ x
  · exact Or.inl ⟨q, by omega⟩
  · exact Or.inr ⟨by omega, by omega, by omega⟩
theorem inL_n {n : Nat} (h : n < 2 ^ 63) : inL (n : Int) := ⟨by omega, by omega⟩
theorem lI_remn {x y : Nat} (hx : x < 2 ^ 63) (hy : y < 2 ^ 63) (h0 : 0 < y) : lI x - lI x / lI y * lI y = lI ((x % y : Nat) : Int) := by
  rw [lI_rem (inL_n hx) (inL_n hy) (by omega), Int.tmod_eq_emod_of_nonneg (by omega)]; rfl
theorem lI_divn {x y : Nat} (hx : x < 2 ^ 63) (hy : y < 2 ^ 63) (h0 : 0 < y) : lI x / lI y = lI ((x / y : Nat) : Int) := by
  rw [lI_div (inL_n hx) (inL_n hy) (by omega), Int.tdiv_eq_ediv_of_nonneg (by omega)]; rfl
theorem c_comDiv0 (s : S5) (g x y : Nat) (hx : x < 2 ^ 63) (hy : y < 2 ^ 63) (hg : Nat.gcd x y = g) : lp_X5_commonDivisor_p16 s (lI x) (lI y) 0 = some (lI g) := by
  unfold lp_X5_commonDivisor_p16
  have key := p_loop (body := fun (k : S5 × Int64 × Int64 × Int32 → Option (Int64)) (z : S5 × Int64 × Int64 × Int32) => f_X5_commonDivisor_p16 (fun s x1 x3 x5 => k (s, x1, x3, x5)) z.1 z.2.1 z.2.2.1 z.2.2.2)
    (fun d t => ∃ x y j : Nat, t = (s, lI x, lI y, nI j) ∧ x < 2 ^ 63 ∧ y < 2 ^ 63 ∧ j + d ≤ 128 ∧ Nat.gcd x y = g ∧ ((y ≤ x ∧ x * y < 2 ^ d) ∨ (x < y ∧ 1 ≤ d ∧ x * y * 2 < 2 ^ d)))
    (fun r => r = lI g) (fun d k s hI ih => ?_) 128 (s, lI x, lI y, 0) (by omega) ⟨x, y, 0, rfl, hx, hy, by omega, hg, eu_start hx hy⟩
  · obtain ⟨r, e, rfl⟩ := key
    exact e
  · obtain ⟨x, y, j, rfl, hx, hy, hj, hg, hd⟩ := hI
    dsimp only
    unfold f_X5_commonDivisor_p16
    rw [if_neg (by rw [show (200 : Int32) = nI 200 from rfl, p_le (by omega) (by omega)]; omega)]
    simp only [c0_le (inL_n hy)]
    by_cases q : y = 0
    · rw [if_pos (by omega)]
      refine ⟨_, rfl, ?_⟩
      rw [← hg, q, Nat.gcd_zero_right]
    · obtain ⟨h1, h2, h3⟩ := eu_step (by omega) hd
      rw [if_neg (by omega), lI_nz (inL_n hy) (by omega), p_bind, lI_remn hx hy (by omega), nI_1]
      refine ih (d - 1) _ (by omega) ⟨y, x % y, j + 1, rfl, hy, by omega, by omega, ?_, Or.inl ⟨h2, h3⟩⟩
      rw [Nat.gcd_comm, ← Nat.gcd_rec, Nat.gcd_comm]; exact hg
theorem c_comDiv {A M : Int} (hA : inL A) (hM : inL M) (h0 : 0 ≤ M) : f_X5_commonDivisor (lI A, lI M) = some (lI (Int.gcd A M)) := by
  obtain ⟨y, rfl⟩ := Int.eq_ofNat_of_zero_le h0
  have h1 := hA.1
  have h2 := hA.2
  have h3 := hM.2
  unfold f_X5_commonDivisor
  rw [show g5_upper (lI A, lI (y : Int)) = lI A from rfl, show g5_lower (lI A, lI (y : Int)) = lI (y : Int) from rfl]
  by_cases q : 0 < A
  · rw [if_pos (by rw [show (0 : Int64) = lI 0 from rfl, lI_lt inL_0 hA]; exact q)]
    obtain ⟨x, rfl⟩ := Int.eq_ofNat_of_zero_le (Int.le_of_lt q)
    exact c_comDiv0 _ _ y x (by omega) (by omega) (Nat.gcd_comm _ _)
  · rw [if_neg (by rw [show (0 : Int64) = lI 0 from rfl, lI_lt inL_0 hA]; exact q), lI_neg]
    obtain ⟨x, hx⟩ := Int.eq_ofNat_of_zero_le (a := -A) (by omega)
    rw [hx, ← Int.neg_gcd, hx]
    exact c_comDiv0 _ _ y x (by omega) (by omega) (Nat.gcd_comm _ _)
theorem c_isNone {A M : Int} (hM : inL M) : f_X5_isNone (lI A, lI M) = some (if 0 < M then 0 else 1) := by
  unfold f_X5_isNone
  rw [show g5_lower (lI A, lI M) = lI M from rfl]
  simp only [c0_gt hM]
  split <;> rfl
theorem c_part {A M u l : Int} (hA : inL A) (hM : inL M) (h : Lt u l A M) (x : Int32) : f_X5_part (lI A, lI M) x = some (if x = 0 then lI u else lI l) := by
  have h0 : 0 < M := Fr_pos h.1
  have hg : 0 < Int.gcd A M := Int.gcd_pos_of_ne_zero_right _ (by omega)
  have hgb : (Int.gcd A M : Int) ≤ M := Int.le_of_dvd h0 (Int.gcd_dvd_right A M)
  have ig : inL (Int.gcd A M : Int) := ⟨by omega, by have := hM.2; omega⟩
  have e1 := Int.ediv_mul_cancel (Int.gcd_dvd_left A M)
  have e2 := Int.ediv_mul_cancel (Int.gcd_dvd_right A M)
  have h' : Lt (A / Int.gcd A M) (M / Int.gcd A M) A M := ⟨⟨Int.ediv_pos_of_pos_of_dvd h0 (by omega) (Int.gcd_dvd_right A M), Int.gcd A M, by omega, e1.symm, e2.symm⟩, Int.gcd_ediv_gcd_ediv_gcd hg⟩
  obtain ⟨rfl, rfl⟩ := Lt_uniq h h'
  unfold f_X5_part f_X5_part_p31
  rw [c_isNone hM, if_pos h0, p_bind, if_pos rfl, c_comDiv hA hM (by omega), p_bind]
  simp only [c0_le ig]
  rw [show g5_upper (lI A, lI M) = lI A from rfl, show g5_lower (lI A, lI M) = lI M from rfl]
  by_cases q : x = 0
  · rw [if_pos q, if_pos q, if_neg (by omega), lI_nz ig (by omega), p_bind, lI_div hA ig (by omega), Int.tdiv_eq_ediv_of_dvd (Int.gcd_dvd_left A M)]
  · rw [if_neg q, if_neg q, if_neg (by omega), lI_nz ig (by omega), p_bind, lI_div hM ig (by omega), Int.tdiv_eq_ediv_of_dvd (Int.gcd_dvd_right A M)]
theorem c_part0 {A M : Int} (hM : inL M) (h : M ≤ 0) (x : Int32) : f_X5_part (lI A, lI M) x = some (-1000000000) := by
  unfold f_X5_part
  rw [c_isNone hM, if_neg (by omega), p_bind, if_neg (by decide)]
theorem k1000 : (1000 : Int64) = lI ((1000 : Nat) : Int) := (Int64.ofInt_eq_ofNat (n := 1000)).symm
theorem thou_eq (A M : Nat) (h : 0 < M) : A / M * 1000 + A % M * 1000 / M = 1000 * A / M := by
  have e := Nat.div_add_mod A M
  have : 1000 * A = 1000 * (A % M) + M * (1000 * (A / M)) := by
    rw [Nat.mul_left_comm M 1000, ← Nat.mul_add, Nat.add_comm, e]
  rw [this, Nat.add_mul_div_left _ _ h, Nat.mul_comm (A % M), Nat.mul_comm (A / M)]
  omega
theorem c_thou {A M : Nat} (hA : A < 2 ^ 63) (h0 : 0 < M) (hM : M * 1000 < 2 ^ 63) : f_X5_inThousandths (lI A, lI M) = some (nI (1000 * A / M)) := by
  have iA := inL_n hA
  have iM : inL (M : Int) := inL_n (by omega)
  have hr := Nat.mod_lt A h0
  unfold f_X5_inThousandths
  rw [c_isNone iM, if_pos (by omega), p_bind, if_pos rfl, show g5_upper (lI (A : Int), lI (M : Int)) = lI (A : Int) from rfl, show g5_lower (lI (A : Int), lI (M : Int)) = lI (M : Int) from rfl, lI_nz iM (by omega), p_bind, p_bind, p_bind, lI_remn hA (by omega) h0, lI_divn hA (by omega) h0, k1000]
  rw [lI_mul, lI_mul, ← Int.natCast_mul, ← Int.natCast_mul]
  rw [lI_divn (x := A % M * 1000) (y := M) (Nat.lt_of_le_of_lt (Nat.mul_le_mul_right 1000 (Nat.le_of_lt hr)) hM) (by omega) h0]
  rw [lI_add, ← Int.natCast_add, lI_to32n, thou_eq A M h0]
theorem c_thou0 {A M : Int} (hM : inL M) (h : M ≤ 0) : f_X5_inThousandths (lI A, lI M) = some (-2) := by
  unfold f_X5_inThousandths
  rw [c_isNone hM, if_neg (by omega), p_bind, if_neg (by decide)]
/-! which is greater -/
def cmpN (x y : Nat) : Int32 := if y < x then 1 else if x = y then 0 else -1
theorem cmp_gt {x y : Nat} (h : y < x) : cmpN x y = 1 := by unfold cmpN; rw [if_pos h]
theorem cmp_lt {x y : Nat} (h : x < y) : cmpN x y = -1 := by unfold cmpN; rw [if_neg (by omega), if_neg (by omega)]
theorem cmp_eq {x y : Nat} (h : x = y) : cmpN x y = 0 := by unfold cmpN; rw [if_neg (by omega), if_pos h]
theorem cmp_neg (x y : Nat) : cmpN x y = -cmpN y x := by
  rcases Nat.lt_trichotomy x y with h | h | h
  · rw [cmp_lt h, cmp_gt h]
  · rw [cmp_eq h, cmp_eq h.symm]; decide
  · rw [cmp_gt h, cmp_lt h]; decide
theorem cmp_mul {x y k : Nat} (hk : 0 < k) : cmpN (x * k) (y * k) = cmpN x y := by
  rcases Nat.lt_trichotomy x y with h | h | h
  · rw [cmp_lt h, cmp_lt (Nat.mul_lt_mul_of_pos_right h hk)]
  · rw [h, cmp_eq rfl, cmp_eq rfl]
  · rw [cmp_gt h, cmp_gt (Nat.mul_lt_mul_of_pos_right h hk)]
theorem cross_lt {a b c d : Nat} (hb : 0 < b) (hd : 0 < d) (h : a / b < c / d) : a * d < c * b := by
  have e1 := Nat.lt_mul_div_succ a hb
  have e2 := Nat.mul_div_le c d
  have h1 : a < b * (c / d) := Nat.lt_of_lt_of_le e1 (Nat.mul_le_mul_left _ h)
  have h2 : a * d < b * (c / d) * d := Nat.mul_lt_mul_of_pos_right h1 hd
  have h3 : b * (d * (c / d)) ≤ b * c := Nat.mul_le_mul_left _ e2
  rw [Nat.mul_comm c b]
  rw [Nat.mul_assoc, Nat.mul_comm (c / d) d] at h2
  omega
theorem cross_eq {a b c d : Nat} (h : a / b = c / d) : a * d + (c % d) * b = c * b + (a % b) * d := by
  have e1 := Nat.div_add_mod a b
  have e2 := Nat.div_add_mod c d
  rw [← h] at e2
  generalize a / b = q at *
  have f1 : a * d = b * q * d + (a % b) * d := by rw [← Nat.add_mul, e1]
  have f2 : c * b = d * q * b + (c % d) * b := by rw [← Nat.add_mul, e2]
  have f3 : b * q * d = d * q * b := by ac_rfl
  omega
theorem cross_cmp {a b c d : Nat} (h : a / b = c / d) : cmpN (a * d) (c * b) = cmpN (d * (a % b)) (b * (c % d)) := by
  have e := cross_eq h
  rw [Nat.mul_comm d, Nat.mul_comm b (c % d)]
  generalize a * d = x at *
  generalize c * b = y at *
  generalize a % b * d = z at *
  generalize c % d * b = w at *
  unfold cmpN
  by_cases h1 : y < x
  · rw [if_pos h1, if_pos (by omega)]
  · by_cases h2 : x = y
    · rw [if_neg h1, if_pos h2, if_neg (by omega), if_pos (by omega)]
    · rw [if_neg h1, if_neg h2, if_neg (by omega), if_neg (by omega)]
theorem c_cmp {A M C L : Nat} (hA : A < 2 ^ 63) (hM : M < 2 ^ 63) (hC : C < 2 ^ 63) (hL : L < 2 ^ 63) (m0 : 0 < M) (l0 : 0 < L) : f_X5_compareWith (lI A, lI M) (lI C, lI L) = some (cmpN (A * L) (C * M)) := by
  unfold f_X5_compareWith
  rw [c_isNone (inL_n hM), if_pos (by omega), p_bind, if_pos rfl, c_isNone (inL_n hL), if_pos (by omega), p_bind, if_pos rfl]
  unfold lp_X5_compareWith_p45
  have key := p_loop (body := fun (k : S5 × S5 × Int64 × Int64 × Int64 × Int64 × Int32 × Int32 → Option (Int32)) (z : S5 × S5 × Int64 × Int64 × Int64 × Int64 × Int32 × Int32) => f_X5_compareWith_p45 (fun s q x2 x4 x6 x8 x10 x11 => k (s, q, x2, x4, x6, x8, x10, x11)) z.1 z.2.1 z.2.2.1 z.2.2.2.1 z.2.2.2.2.1 z.2.2.2.2.2.1 z.2.2.2.2.2.2.1 z.2.2.2.2.2.2.2)
    (fun e t => ∃ a b c d j : Nat, ∃ g : Int32, t = ((lI A, lI M), (lI C, lI L), lI a, lI b, lI c, lI d, g, nI j) ∧ (a < 2 ^ 63 ∧ b < 2 ^ 63 ∧ c < 2 ^ 63 ∧ d < 2 ^ 63) ∧ j + e ≤ 128 ∧ (b = 0 → 0 < a) ∧ (d = 0 → 0 < c) ∧ ((b ≤ a ∧ a * b < 2 ^ e) ∨ (a < b ∧ 1 ≤ e ∧ a * b * 2 < 2 ^ e)) ∧ ((g = 1 ∧ cmpN (A * L) (C * M) = cmpN (a * d) (c * b)) ∨ (g = -1 ∧ cmpN (A * L) (C * M) = cmpN (c * b) (a * d))))
    (fun r => r = cmpN (A * L) (C * M)) (fun e k t hI ih => ?_) 128 ((lI A, lI M), (lI C, lI L), lI A, lI M, lI C, lI L, 1, 0) (by omega) ⟨A, M, C, L, 0, 1, rfl, ⟨hA, hM, hC, hL⟩, by omega, by omega, by omega, eu_start hA hM, Or.inl ⟨rfl, rfl⟩⟩
  · obtain ⟨r, e, rfl⟩ := key
    exact e
  · obtain ⟨a, b, c, d, j, g, rfl, ⟨ha, hb, hc, hd⟩, hj, z1, z2, hm, hg⟩ := hI
    have hend : (b = 0 ∨ d = 0) → f_X5_compareWith_p144 (lI A, lI M) (lI C, lI L) (lI b) (lI d) g = some (cmpN (A * L) (C * M)) := by
      intro hz
      unfold f_X5_compareWith_p144 f_X5_compareWith_p160
      simp only [c0_eq (inL_n hb), c0_eq (inL_n hd)]
      by_cases q1 : b = 0
      · rw [if_pos (by omega)]
        have pa := z1 q1
        by_cases q2 : d = 0
        · rw [if_pos (by omega)]
          rcases hg with ⟨-, h⟩ | ⟨-, h⟩
          · rw [h, q1, q2, cmp_eq (by omega)]
          · rw [h, q1, q2, cmp_eq (by omega)]
        · rw [if_neg (by omega), if_pos (by omega)]
          have := Nat.mul_pos pa (show 0 < d by omega)
          rcases hg with ⟨h0, h⟩ | ⟨h0, h⟩
          · rw [h, h0, q1, cmp_gt (by omega)]
          · rw [h, h0, q1, cmp_lt (by omega)]
      · have q2 : d = 0 := hz.resolve_left q1
        have := Nat.mul_pos (z2 q2) (show 0 < b by omega)
        rw [if_neg (by omega), if_neg (by omega)]
        rcases hg with ⟨h0, h⟩ | ⟨h0, h⟩
        · rw [h, h0, q2, cmp_lt (by omega)]
        · rw [h, h0, q2, cmp_gt (by omega)]; decide
    dsimp only
    unfold f_X5_compareWith_p45
    rw [if_neg (by rw [show (200 : Int32) = nI 200 from rfl, p_le (by omega) (by omega)]; omega)]
    simp only [c0_le (inL_n hb), c0_le (inL_n hd)]
    by_cases q1 : b = 0
    · rw [if_pos (by omega)]
      exact ⟨_, hend (Or.inl q1), rfl⟩
    · rw [if_neg (by omega)]
      by_cases q2 : d = 0
      · rw [if_pos (by omega)]
        exact ⟨_, hend (Or.inr q2), rfl⟩
      · have b0 : 0 < b := by omega
        have d0 : 0 < d := by omega
        have hab : a / b ≤ a := Nat.div_le_self _ _
        have hcd : c / d ≤ c := Nat.div_le_self _ _
        rw [if_neg (by omega), lI_nz (inL_n hb) (by omega), p_bind, lI_nz (inL_n hd) (by omega), p_bind, lI_remn ha hb b0, lI_remn hc hd d0, lI_divn ha hb b0, lI_divn hc hd d0]
        simp only [cc_eq (inL_n (show a / b < 2 ^ 63 by omega)) (inL_n (show c / d < 2 ^ 63 by omega)), cc_le (inL_n (show a / b < 2 ^ 63 by omega)) (inL_n (show c / d < 2 ^ 63 by omega))]
        by_cases q3 : a / b = c / d
        · have hmod1 := Nat.mod_lt a b0
          have hmod2 := Nat.mod_lt c d0
          obtain ⟨g1, g2, g3⟩ := eu_step b0 hm
          have hcr := cross_cmp q3
          rw [if_pos (by omega), p_bind, p_bind, nI_1]
          refine ih (e - 1) _ (by omega) ⟨b, a % b, d, c % d, j + 1, -g, rfl, ⟨hb, by omega, hd, by omega⟩, by omega, fun _ => b0, fun _ => d0, Or.inl ⟨g2, g3⟩, ?_⟩
          rcases hg with ⟨h0, h⟩ | ⟨h0, h⟩
          · exact Or.inr ⟨by rw [h0], by rw [h, hcr]⟩
          · refine Or.inl ⟨by rw [h0]; decide, ?_⟩
            rw [h, cmp_neg, hcr, ← cmp_neg]
        · rw [if_neg (by omega)]
          rcases Nat.lt_or_ge (a / b) (c / d) with q4 | q4
          · have := cross_lt b0 d0 q4
            rw [if_pos (by omega)]
            refine ⟨_, rfl, ?_⟩
            rcases hg with ⟨h0, h⟩ | ⟨h0, h⟩
            · rw [h, h0, cmp_lt this]
            · rw [h, h0, cmp_gt this]; decide
          · have := cross_lt d0 b0 (show c / d < a / b by omega)
            rw [if_neg (by omega)]
            refine ⟨_, rfl, ?_⟩
            rcases hg with ⟨h0, h⟩ | ⟨h0, h⟩
            · rw [h, h0, cmp_gt this]
            · rw [h, h0, cmp_lt this]
theorem m_less {A M C L : Nat} (hA : A < 2 ^ 63) (hM : M < 2 ^ 63) (hC : C < 2 ^ 63) (hL : L < 2 ^ 63) (m0 : 0 < M) (l0 : 0 < L) : f_X8_isLess (lI A) (lI M) (lI C) (lI L) = some (if A * L < C * M then 1 else 0) := by
  unfold f_X8_isLess lp_X8_isLess_p17
  have key := p_loop (body := fun (k : Int64 × Int64 × Int64 × Int64 × Int32 → Option (Int32)) (z : Int64 × Int64 × Int64 × Int64 × Int32) => f_X8_isLess_p17 (fun x8 x10 x12 x14 x16 => k (x8, x10, x12, x14, x16)) z.1 z.2.1 z.2.2.1 z.2.2.2.1 z.2.2.2.2)
    (fun e t => ∃ a b c d : Nat, ∃ g : Int32, t = (lI a, lI b, lI c, lI d, g) ∧ (a < 2 ^ 63 ∧ b < 2 ^ 63 ∧ c < 2 ^ 63 ∧ d < 2 ^ 63) ∧ 0 < b ∧ 0 < d ∧ ((b ≤ a ∧ a * b < 2 ^ e) ∨ (a < b ∧ 1 ≤ e ∧ a * b * 2 < 2 ^ e)) ∧ ((g = 0 ∧ (A * L < C * M ↔ a * d < c * b)) ∨ (g = 1 ∧ (A * L < C * M ↔ c * b < a * d))))
    (fun r => r = if A * L < C * M then 1 else 0) (fun e k t hI ih => ?_) 128 (lI A, lI M, lI C, lI L, 0) (by omega) ⟨A, M, C, L, 0, rfl, ⟨hA, hM, hC, hL⟩, m0, l0, eu_start hA hM, Or.inl ⟨rfl, Iff.rfl⟩⟩
  · obtain ⟨r, e, rfl⟩ := key
    exact e
  · obtain ⟨a, b, c, d, g, rfl, ⟨ha, hb, hc, hd⟩, b0, d0, hm, hg⟩ := hI
    have hab : a / b ≤ a := Nat.div_le_self _ _
    have hcd : c / d ≤ c := Nat.div_le_self _ _
    have hmod1 := Nat.mod_lt a b0
    have hmod2 := Nat.mod_lt c d0
    dsimp only
    unfold f_X8_isLess_p17
    rw [lI_nz (inL_n hb) (by omega), p_bind, lI_nz (inL_n hd) (by omega), p_bind, lI_remn ha hb b0, lI_remn hc hd d0, lI_divn ha hb b0, lI_divn hc hd d0, p_bind, p_bind, p_bind, p_bind]
    simp only [cc_eq (inL_n (show a / b < 2 ^ 63 by omega)) (inL_n (show c / d < 2 ^ 63 by omega)), cc_ge (inL_n (show a / b < 2 ^ 63 by omega)) (inL_n (show c / d < 2 ^ 63 by omega)), c0_eq (inL_n (show a % b < 2 ^ 63 by omega)), c0_eq (inL_n (show c % d < 2 ^ 63 by omega))]
    by_cases q3 : a / b = c / d
    · have hcr := cross_eq q3
      rw [if_pos (by omega)]
      have hend : (a % b = 0 ∨ c % d = 0) → f_X8_isLess_p89 g (lI (a % b : Nat)) (lI (c % d : Nat)) = some (if A * L < C * M then 1 else 0) := by
        intro hz
        unfold f_X8_isLess_p89 f_X8_isLess_p109
        simp only [cc_eq (inL_n (show a % b < 2 ^ 63 by omega)) (inL_n (show c % d < 2 ^ 63 by omega)), c0_eq (inL_n (show a % b < 2 ^ 63 by omega))]
        by_cases q1 : a % b = 0
        · by_cases q2 : c % d = 0
          · rw [if_pos (by omega)]
            rw [q1, q2] at hcr
            rw [if_neg]
            rcases hg with ⟨-, h⟩ | ⟨-, h⟩
            · rw [h]; omega
            · rw [h]; omega
          · have hp : 0 < c % d * b := Nat.mul_pos (by omega) b0
            rw [q1] at hcr
            rw [if_neg (by omega), if_pos (by omega)]
            rcases hg with ⟨h0, h⟩ | ⟨h0, h⟩
            · rw [h0, if_neg (by decide), if_pos (h.mpr (by omega))]
            · rw [h0, if_pos rfl, if_neg (fun e => by have := h.mp e; omega)]
        · have q2 : c % d = 0 := hz.resolve_left q1
          have hp : 0 < a % b * d := Nat.mul_pos (by omega) d0
          rw [q2] at hcr
          rw [if_neg (by omega), if_neg (by omega)]
          rcases hg with ⟨h0, h⟩ | ⟨h0, h⟩
          · rw [h0, if_pos rfl, if_neg (fun e => by have := h.mp e; omega)]
          · rw [h0, if_neg (by decide), if_pos (h.mpr (by omega))]
      by_cases q1 : a % b = 0
      · rw [if_pos (by omega)]
        exact ⟨_, hend (Or.inl q1), rfl⟩
      · rw [if_neg (by omega)]
        by_cases q2 : c % d = 0
        · rw [if_pos (by omega)]
          exact ⟨_, hend (Or.inr q2), rfl⟩
        · rw [if_neg (by omega)]
          obtain ⟨g1, g2, g3⟩ := eu_step b0 hm
          rcases hg with ⟨h0, h⟩ | ⟨h0, h⟩
          · rw [h0, if_pos rfl]
            refine ih (e - 1) _ (by omega) ⟨b, a % b, d, c % d, 1, rfl, ⟨hb, by omega, hd, by omega⟩, by omega, by omega, Or.inl ⟨g2, g3⟩, Or.inr ⟨rfl, h.trans ?_⟩⟩
            rw [Nat.mul_comm d, Nat.mul_comm b (c % d)]
            omega
          · rw [h0, if_neg (by decide)]
            refine ih (e - 1) _ (by omega) ⟨b, a % b, d, c % d, 0, rfl, ⟨hb, by omega, hd, by omega⟩, by omega, by omega, Or.inl ⟨g2, g3⟩, Or.inl ⟨rfl, h.trans ?_⟩⟩
            rw [Nat.mul_comm d, Nat.mul_comm b (c % d)]
            omega
    · rw [if_neg (by omega)]
      unfold f_X8_isLess_p50
      rcases Nat.lt_or_ge (a / b) (c / d) with q4 | q4
      · have := cross_lt b0 d0 q4
        rw [if_neg (by omega)]
        rcases hg with ⟨h0, h⟩ | ⟨h0, h⟩
        · rw [h0, if_neg (by decide), if_pos (h.mpr this)]; exact ⟨_, rfl, rfl⟩
        · rw [h0, if_pos rfl, if_neg (fun e => by have := h.mp e; omega)]; exact ⟨_, rfl, rfl⟩
      · have := cross_lt d0 b0 (show c / d < a / b by omega)
        rw [if_pos (by omega)]
        rcases hg with ⟨h0, h⟩ | ⟨h0, h⟩
        · rw [h0, if_pos rfl, if_neg (fun e => by have := h.mp e; omega)]; exact ⟨_, rfl, rfl⟩
        · rw [h0, if_neg (by decide), if_pos (h.mpr this)]; exact ⟨_, rfl, rfl⟩
