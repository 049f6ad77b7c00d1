/-! PURE: long numbers, fractions in least terms -/
def lI (z : Int) : Int64 := Int64.ofInt z
def inL (z : Int) : Prop := -9223372036854775808 < z ∧ z < 9223372036854775808
theorem lI_t {z : Int} (h : inL z) : (lI z).toInt = z := Int64.toInt_ofInt_of_le (by have := h.1; omega) h.2
theorem lI_add (a b : Int) : lI a + lI b = lI (a + b) := (Int64.ofInt_add a b).symm
theorem lI_sub (a b : Int) : lI a - lI b = lI (a - b) := (Int64.ofInt_sub a b).symm
theorem lI_mul (a b : Int) : lI a * lI b = lI (a * b) := (Int64.ofInt_mul a b).symm
theorem lI_neg (a : Int) : -lI a = lI (-a) := (Int64.ofInt_neg a).symm
theorem lI_eq {a b : Int} (ha : inL a) (hb : inL b) : (lI a = lI b) = (a = b) := propext ⟨fun e => by rw [← lI_t ha, ← lI_t hb, e], fun e => by rw [e]⟩
theorem lI_le {a b : Int} (ha : inL a) (hb : inL b) : (lI a ≤ lI b) = (a ≤ b) := propext (by rw [Int64.le_iff_toInt_le, lI_t ha, lI_t hb])
theorem lI_lt {a b : Int} (ha : inL a) (hb : inL b) : (lI a < lI b) = (a < b) := propext (by rw [Int64.lt_iff_toInt_lt, lI_t ha, lI_t hb])
theorem lI_i {n : Nat} (h : n < 2 ^ 31) : Int32.toInt64 (nI n) = lI n := by
  apply Int64.toInt_inj.mp
  rw [Int32.toInt_toInt64, nI_toInt h, lI_t ⟨by omega, by omega⟩]
theorem inL_0 : inL 0 := ⟨by decide, by decide⟩
theorem inL_1 : inL 1 := ⟨by decide, by decide⟩
theorem c0_eq {a : Int} (h : inL a) : (lg_cmp (lI a) 0 = 0) = (a = 0) := propext ((lg_cmp_eq _ _).trans (by rw [show (0 : Int64) = lI 0 from rfl, lI_eq h inL_0]))
theorem c0_ge {a : Int} (h : inL a) : (0 ≤ lg_cmp (lI a) 0) = (0 ≤ a) := propext ((lg_cmp_ge _ _).trans (by rw [show (0 : Int64) = lI 0 from rfl, lI_le inL_0 h]))
theorem c0_gt {a : Int} (h : inL a) : (0 < lg_cmp (lI a) 0) = (0 < a) := propext ((lg_cmp_gt _ _).trans (by rw [show (0 : Int64) = lI 0 from rfl, lI_lt inL_0 h]))
theorem c0_le {a : Int} (h : inL a) : (lg_cmp (lI a) 0 ≤ 0) = (a ≤ 0) := propext ((lg_cmp_le _ _).trans (by rw [show (0 : Int64) = lI 0 from rfl, lI_le h inL_0]))
theorem cc_eq {a b : Int} (h : inL a) (k : inL b) : (lg_cmp (lI a) (lI b) = 0) = (a = b) := propext ((lg_cmp_eq _ _).trans (by rw [lI_eq h k]))
theorem cc_ge {a b : Int} (h : inL a) (k : inL b) : (0 ≤ lg_cmp (lI a) (lI b)) = (b ≤ a) := propext ((lg_cmp_ge _ _).trans (by rw [lI_le k h]))
theorem cc_le {a b : Int} (h : inL a) (k : inL b) : (lg_cmp (lI a) (lI b) ≤ 0) = (a ≤ b) := propext ((lg_cmp_le _ _).trans (by rw [lI_le h k]))
theorem lI_nz {a : Int} (h : inL a) (h0 : a ≠ 0) : x_nzl (lI a) = some () := p_nzl (by rw [show (0 : Int64) = lI 0 from rfl, lI_eq h inL_0]; exact h0)
theorem lI_div {a b : Int} (ha : inL a) (hb : inL b) (h0 : 0 < b) : lI a / lI b = lI (a.tdiv b) := by
  have hab : (a.tdiv b).natAbs ≤ a.natAbs := by rw [Int.natAbs_tdiv]; exact Nat.div_le_self _ _
  have h1 := ha.1
  have h2 := ha.2
  apply Int64.toInt_inj.mp
  rw [Int64.toInt_div_of_ne_right _ _ (fun e => by
    have := congrArg Int64.toInt e
    rw [lI_t hb] at this
    rw [this] at h0
    exact absurd h0 (by decide)), lI_t ha, lI_t hb, lI_t ⟨by omega, by omega⟩]
theorem lI_rem {a b : Int} (ha : inL a) (hb : inL b) (h0 : 0 < b) : lI a - lI a / lI b * lI b = lI (a.tmod b) := by
  rw [lI_div ha hb h0, lI_mul, lI_sub, Int.tmod_def, Int.mul_comm b]
theorem lI_to32 (z : Int) : Int64.toInt32 (lI z) = Int32.ofInt z := Int64.toInt32_ofInt
theorem lI_to32n (n : Nat) : Int64.toInt32 (lI n) = nI n := by
  rw [lI_to32]
  exact Int32.ofInt_eq_ofNat
/-! the common divisor -/
theorem m_common0 (g x y : Nat) (hx : x < 2 ^ 63) (hy : y < 2 ^ 63) (hg : Nat.gcd x y = g) : lp_X8_common_p17 (lI x) (lI y) = some (lI g) := by
  unfold lp_X8_common_p17
  have key := p_loop (body := fun (k : Int64 × Int64 → Option (Int64)) (z : Int64 × Int64) => f_X8_common_p17 (fun x4 x6 => k (x4, x6)) z.1 z.2)
    (fun d s => ∃ x y : Nat, s = (lI x, lI y) ∧ x < 2 ^ 63 ∧ y < 2 ^ 63 ∧ Nat.gcd x y = g ∧ ((y ≤ x ∧ x * y < 2 ^ d) ∨ (x < y ∧ 1 ≤ d ∧ x * y * 2 < 2 ^ d)))
    (fun r => r = lI g) (fun d k s hI ih => ?_) 128 (lI x, lI y) (by omega) ⟨x, y, rfl, hx, hy, hg, ?_⟩
  · obtain ⟨r, e, rfl⟩ := key
    exact e
  · obtain ⟨x, y, rfl, hx, hy, hg, hd⟩ := hI
    dsimp only
    unfold f_X8_common_p17
    simp only [c0_eq (a := (y : Int)) ⟨by omega, by omega⟩]
    by_cases q : y = 0
    · rw [if_pos (by omega)]
      refine ⟨_, rfl, ?_⟩
      rw [← hg, q, Nat.gcd_zero_right]
    · rw [if_neg (by omega), lI_nz (a := (y : Int)) ⟨by omega, by omega⟩ (by omega), p_bind, lI_rem (a := (x : Int)) (b := (y : Int)) ⟨by omega, by omega⟩ ⟨by omega, by omega⟩ (by omega)]
      have hr : x % y < y := Nat.mod_lt _ (by omega)
      have e : Int.tmod (x : Int) (y : Int) = ((x % y : Nat) : Int) := by
        rw [Int.tmod_eq_emod_of_nonneg (by omega)]; rfl
      rw [e]
      have hdm := Nat.div_add_mod x y
      rcases hd with ⟨h1, h2⟩ | ⟨h1, h2, h3⟩
      · have hq : 1 ≤ x / y := Nat.div_pos h1 (by omega)
        have hq2 : y * 1 ≤ y * (x / y) := Nat.mul_le_mul_left _ hq
        have h4 : 2 * (x % y) ≤ x := by omega
        have h5 : y * (2 * (x % y)) ≤ y * x := Nat.mul_le_mul_left _ h4
        have h6 : 1 ≤ x * y := Nat.mul_pos (by omega) (by omega)
        have hd1 : 1 ≤ d := by
          rcases Nat.eq_zero_or_pos d with h | h
          · rw [h] at h2; simp at h2; omega
          · exact h
        refine ih (d - 1) _ (by omega) ⟨y, x % y, rfl, hy, by omega, ?_, Or.inl ⟨by omega, ?_⟩⟩
        · rw [Nat.gcd_comm, ← Nat.gcd_rec, Nat.gcd_comm]; exact hg
        · have h7 : 2 ^ d = 2 * 2 ^ (d - 1) := by rw [show d = (d - 1) + 1 by omega, Nat.pow_succ]; simp; omega
          have h8 : y * (2 * (x % y)) = 2 * (y * (x % y)) := by rw [Nat.mul_left_comm]
          rw [Nat.mul_comm y x] at h5
          omega
      · have h4 : x % y = x := Nat.mod_eq_of_lt h1
        refine ih (d - 1) _ (by omega) ⟨y, x % y, rfl, hy, by omega, ?_, Or.inl ⟨by omega, ?_⟩⟩
        · rw [Nat.gcd_comm, ← Nat.gcd_rec, Nat.gcd_comm]; exact hg
        · have h7 : 2 ^ d = 2 * 2 ^ (d - 1) := by rw [show d = (d - 1) + 1 by omega, Nat.pow_succ]; simp; omega
          rw [h4, Nat.mul_comm y x]
          omega
  · have h1 : x * y ≤ 2 ^ 63 * 2 ^ 63 := Nat.mul_le_mul (by omega) (by omega)
    by_cases q : y ≤ x
    · exact Or.inl ⟨q, by omega⟩
    · exact Or.inr ⟨by omega, by omega, by omega⟩
theorem m_common {a b : Int} (ha : inL a) (hb : inL b) (h0 : 0 ≤ b) : f_X8_common (lI a) (lI b) = some (lI (Int.gcd a b)) := by
  obtain ⟨y, rfl⟩ := Int.eq_ofNat_of_zero_le h0
  have h1 := ha.1
  have h2 := ha.2
  have h3 := hb.2
  unfold f_X8_common
  simp only [c0_ge ha]
  by_cases q : 0 ≤ a
  · rw [if_pos q]
    obtain ⟨x, rfl⟩ := Int.eq_ofNat_of_zero_le q
    exact m_common0 _ x y (by omega) (by omega) rfl
  · rw [if_neg q, lI_neg]
    obtain ⟨x, hx⟩ := Int.eq_ofNat_of_zero_le (a := -a) (by omega)
    rw [hx, ← Int.neg_gcd, hx]
    exact m_common0 _ x y (by omega) (by omega) rfl
/-! fractions -/
def Fr (a b A M : Int) : Prop := 0 < b ∧ ∃ m : Int, 0 < m ∧ A = a * m ∧ M = b * m
def Lt (u l A M : Int) : Prop := Fr u l A M ∧ Int.gcd u l = 1
theorem Fr_self {a b : Int} (h : 0 < b) : Fr a b a b := ⟨h, 1, by omega, by omega, by omega⟩
theorem Fr_scale {a b A M k : Int} (h : Fr a b A M) (hk : 0 < k) : Fr a b (A * k) (M * k) := by
  obtain ⟨h1, m, h2, rfl, rfl⟩ := h
  exact ⟨h1, m * k, Int.mul_pos h2 hk, by rw [Int.mul_assoc], by rw [Int.mul_assoc]⟩
theorem Lt_scale {a b A M k : Int} (h : Lt a b A M) (hk : 0 < k) : Lt a b (A * k) (M * k) := ⟨Fr_scale h.1 hk, h.2⟩
theorem Fr_pos {a b A M : Int} (h : Fr a b A M) : 0 < M := by
  obtain ⟨h1, m, h2, rfl, rfl⟩ := h
  exact Int.mul_pos h1 h2
theorem Fr_neg {a b A M : Int} (h : Fr a b A M) : Fr (-a) b (-A) M := by
  obtain ⟨h1, m, h2, rfl, rfl⟩ := h
  exact ⟨h1, m, h2, by rw [Int.neg_mul], rfl⟩
theorem Fr_le {a b A M : Int} (h : Fr a b A M) : a.natAbs ≤ A.natAbs ∧ b ≤ M := by
  obtain ⟨h1, m, h2, rfl, rfl⟩ := h
  refine ⟨?_, ?_⟩
  · rw [Int.natAbs_mul]
    exact Nat.le_mul_of_pos_right _ (by omega)
  · have : b * 1 ≤ b * m := Int.mul_le_mul_of_nonneg_left (by omega) (by omega)
    omega
theorem Fr_in {a b A M : Int} (h : Fr a b A M) (hA : inL A) (hM : inL M) : inL a ∧ inL b := by
  have h1 := Fr_le h
  have h2 := h.1
  exact ⟨⟨by have := hA.1; have := hA.2; omega, by have := hA.1; have := hA.2; omega⟩, ⟨by omega, by have := hM.2; omega⟩⟩
theorem Lt_uniq {u l u' l' A M : Int} (h : Lt u l A M) (h' : Lt u' l' A M) : u = u' ∧ l = l' := by
  obtain ⟨⟨h1, m, h2, e1, e2⟩, h3⟩ := h
  obtain ⟨⟨k1, n, k2, f1, f2⟩, k3⟩ := h'
  have g1 : (Int.gcd A M : Int) = m := by rw [e1, e2, Int.gcd_mul_right, h3]; omega
  have g2 : (Int.gcd A M : Int) = n := by rw [f1, f2, Int.gcd_mul_right, k3]; omega
  have hmn : m = n := g1.symm.trans g2
  subst hmn
  exact ⟨Int.eq_of_mul_eq_mul_right (by omega) (e1.symm.trans f1), Int.eq_of_mul_eq_mul_right (by omega) (e2.symm.trans f2)⟩
theorem Lt_ex (A : Int) {M : Int} (h : 0 < M) : ∃ u l, Lt u l A M := by
  have hg : 0 < Int.gcd A M := Int.gcd_pos_of_ne_zero_right _ (by omega)
  have e1 := Int.ediv_mul_cancel (Int.gcd_dvd_left A M)
  have e2 := Int.ediv_mul_cancel (Int.gcd_dvd_right A M)
  refine ⟨A / Int.gcd A M, M / Int.gcd A M, ⟨?_, Int.gcd A M, by omega, e1.symm, e2.symm⟩, Int.gcd_ediv_gcd_ediv_gcd hg⟩
  exact Int.ediv_pos_of_pos_of_dvd h (by omega) (Int.gcd_dvd_right A M)
theorem Lt_unscale {u l A M k : Int} (h : Lt u l (A * k) (M * k)) (hk : 0 < k) (hM : 0 < M) : Lt u l A M := by
  obtain ⟨u', l', h'⟩ := Lt_ex A hM
  obtain ⟨rfl, rfl⟩ := Lt_uniq h (Lt_scale h' hk)
  exact h'
theorem Lt_cross {u l A M A' M' : Int} (h : Lt u l A M) (hM : 0 < M') (e : A * M' = A' * M) : Lt u l A' M' := by
  have h1 := Lt_scale h hM
  rw [e, Int.mul_comm M M'] at h1
  exact Lt_unscale h1 (Fr_pos h.1) hM
theorem Lt_zero {M : Int} (h : 0 < M) : Lt 0 1 0 M := ⟨⟨by omega, M, h, by omega, by omega⟩, by decide⟩
theorem m_is (s : S8) {a b : Int} (ha : inL a) (hb : inL b) (h0 : 0 < b) : ∃ u l, f_X8_is s (lI a) (lI b) = some (u8_lower (u8_upper s (lI u)) (lI l)) ∧ Lt u l a b := by
  have hg : 0 < Int.gcd a b := Int.gcd_pos_of_ne_zero_right _ (by omega)
  have hgb : (Int.gcd a b : Int) ≤ b := Int.le_of_dvd h0 (Int.gcd_dvd_right a b)
  have e1 := Int.ediv_mul_cancel (Int.gcd_dvd_left a b)
  have e2 := Int.ediv_mul_cancel (Int.gcd_dvd_right a b)
  have hgi : inL (Int.gcd a b : Int) := ⟨by omega, by have := hb.2; omega⟩
  refine ⟨a / Int.gcd a b, b / Int.gcd a b, ?_, ⟨?_, Int.gcd a b, by omega, e1.symm, e2.symm⟩, Int.gcd_ediv_gcd_ediv_gcd hg⟩
  · unfold f_X8_is
    rw [m_common ha hb (by omega), p_bind, lI_nz hgi (by omega), p_bind, p_bind, lI_div ha hgi (by omega), lI_div hb hgi (by omega), Int.tdiv_eq_ediv_of_dvd (Int.gcd_dvd_left a b), Int.tdiv_eq_ediv_of_dvd (Int.gcd_dvd_right a b)]
  · exact Int.ediv_pos_of_pos_of_dvd h0 (by omega) (Int.gcd_dvd_right a b)
theorem inL_of {a b : Int} (h : a.natAbs ≤ b.natAbs) (hb : inL b) : inL a := by
  have := hb.1
  have := hb.2
  exact ⟨by omega, by omega⟩
theorem dvd_co {d b m : Int} (h : d ∣ b * m) (co : Int.gcd d b = 1) : d ∣ m := by
  refine Int.natAbs_dvd_natAbs.mp (Nat.Coprime.dvd_of_dvd_mul_left (k := d.natAbs) (m := b.natAbs) co ?_)
  rw [← Int.natAbs_mul]
  exact Int.natAbs_dvd_natAbs.mpr h
theorem m_adds (s : S8) {a b c d A C M : Int} (h : Fr a b A M) (k : Fr c d C M) (hS : inL (A + C)) (hM : inL M) : ∃ u l, f_X8_adds s (lI a) (lI b) (lI c) (lI d) = some (u8_lower (u8_upper s (lI u)) (lI l)) ∧ Lt u l (A + C) M := by
  have hb : b ≤ M := (Fr_le h).2
  have hd : d ≤ M := (Fr_le k).2
  obtain ⟨h1, m, h2, eA, eM⟩ := h
  obtain ⟨k1, n, k2, eC, eN⟩ := k
  have ib : inL b := ⟨by omega, by have := hM.2; omega⟩
  have id' : inL d := ⟨by omega, by have := hM.2; omega⟩
  have hg : 0 < Int.gcd b d := Int.gcd_pos_of_ne_zero_right _ (by omega)
  have hgb : (Int.gcd b d : Int) ≤ b := Int.le_of_dvd h1 (Int.gcd_dvd_left b d)
  have ig : inL (Int.gcd b d : Int) := ⟨by omega, by have := hM.2; omega⟩
  have e1 := Int.ediv_mul_cancel (Int.gcd_dvd_left b d)
  have e2 := Int.ediv_mul_cancel (Int.gcd_dvd_right b d)
  have co := Int.gcd_ediv_gcd_ediv_gcd hg
  have pb := Int.ediv_pos_of_pos_of_dvd h1 (by omega) (Int.gcd_dvd_left b d)
  have pd := Int.ediv_pos_of_pos_of_dvd k1 (by omega) (Int.gcd_dvd_right b d)
  unfold f_X8_adds
  rw [m_common ib id' (by omega), p_bind, lI_nz ig (by omega), p_bind, p_bind, p_bind, lI_div ib ig (by omega), lI_div id' ig (by omega), Int.tdiv_eq_ediv_of_dvd (Int.gcd_dvd_left b d), Int.tdiv_eq_ediv_of_dvd (Int.gcd_dvd_right b d), lI_mul, lI_mul, lI_add, lI_mul]
  have pg : (0 : Int) < (Int.gcd b d : Int) := by omega
  generalize (Int.gcd b d : Int) = g at *
  generalize b / g = b' at *
  generalize d / g = d' at *
  have hx : b' * m = d' * n := by
    have : (b' * m) * g = (d' * n) * g := by
      rw [Int.mul_right_comm, e1, Int.mul_right_comm, e2, ← eM, ← eN]
    exact Int.eq_of_mul_eq_mul_right (by omega) this
  have hdv : d' ∣ m := by
    have : d' ∣ b' * m := ⟨n, hx⟩
    exact dvd_co this (by rw [Int.gcd_comm]; exact co)
  obtain ⟨t, rfl⟩ := hdv
  have ht : 0 < t := by
    rcases Int.lt_trichotomy t 0 with q | q | q
    · have := Int.mul_neg_of_pos_of_neg pd q; omega
    · rw [q, Int.mul_zero] at h2; omega
    · exact q
  have hn : n = b' * t := by
    have : n * d' = (b' * t) * d' := by rw [Int.mul_comm n d', ← hx]; rw [Int.mul_comm d' t, Int.mul_assoc]
    exact Int.eq_of_mul_eq_mul_right (by omega) this
  subst hn
  have eS : A + C = (a * d' + c * b') * t := by
    rw [eA, eC, Int.add_mul, Int.mul_assoc, Int.mul_assoc]
  have eD : M = (b' * d) * t := by
    rw [eN, Int.mul_comm b' d, Int.mul_assoc]
  have hF : Fr (a * d' + c * b') (b' * d) (A + C) M := ⟨Int.mul_pos pb k1, t, ht, eS, eD⟩
  have iF := Fr_in hF hS hM
  obtain ⟨u, l, e3, h3⟩ := m_is s iF.1 iF.2 hF.1
  rw [e3, p_bind]
  refine ⟨u, l, rfl, ?_⟩
  rw [eS, eD]
  exact Lt_scale h3 ht
theorem m_mults (s : S8) {a b c d A C M L : Int} (h : Fr a b A M) (k : Fr c d C L) (hA : inL A) (hM : inL M) (hC : inL C) (hL : inL L) (hS : inL (A * C)) (hT : inL (M * L)) : ∃ u l, f_X8_multiplies s (lI a) (lI b) (lI c) (lI d) = some (u8_lower (u8_upper s (lI u)) (lI l)) ∧ Lt u l (A * C) (M * L) := by
  have i1 := Fr_in h hA hM
  have i2 := Fr_in k hC hL
  obtain ⟨h1, m, h2, eA, eM⟩ := h
  obtain ⟨k1, n, k2, eC, eN⟩ := k
  have hg : 0 < Int.gcd a d := Int.gcd_pos_of_ne_zero_right _ (by omega)
  have hh : 0 < Int.gcd c b := Int.gcd_pos_of_ne_zero_right _ (by omega)
  have hgd : (Int.gcd a d : Int) ≤ d := Int.le_of_dvd k1 (Int.gcd_dvd_right a d)
  have hhb : (Int.gcd c b : Int) ≤ b := Int.le_of_dvd h1 (Int.gcd_dvd_right c b)
  have ig : inL (Int.gcd a d : Int) := ⟨by omega, by have := i2.2.2; omega⟩
  have ih : inL (Int.gcd c b : Int) := ⟨by omega, by have := i1.2.2; omega⟩
  have e1 := Int.ediv_mul_cancel (Int.gcd_dvd_left a d)
  have e2 := Int.ediv_mul_cancel (Int.gcd_dvd_right a d)
  have e3 := Int.ediv_mul_cancel (Int.gcd_dvd_left c b)
  have e4 := Int.ediv_mul_cancel (Int.gcd_dvd_right c b)
  have pd := Int.ediv_pos_of_pos_of_dvd k1 (by omega) (Int.gcd_dvd_right a d)
  have pb := Int.ediv_pos_of_pos_of_dvd h1 (by omega) (Int.gcd_dvd_right c b)
  unfold f_X8_multiplies
  rw [m_common i1.1 i2.2 (by omega), p_bind, m_common i2.1 i1.2 (by omega), p_bind, lI_nz ig (by omega), p_bind, lI_nz ih (by omega), p_bind, p_bind, p_bind, lI_div i1.1 ig (by omega), lI_div i2.1 ih (by omega), lI_div i1.2 ih (by omega), lI_div i2.2 ig (by omega), Int.tdiv_eq_ediv_of_dvd (Int.gcd_dvd_left a d), Int.tdiv_eq_ediv_of_dvd (Int.gcd_dvd_right a d), Int.tdiv_eq_ediv_of_dvd (Int.gcd_dvd_left c b), Int.tdiv_eq_ediv_of_dvd (Int.gcd_dvd_right c b), lI_mul, lI_mul]
  have pg : (0 : Int) < (Int.gcd a d : Int) := by omega
  have pe : (0 : Int) < (Int.gcd c b : Int) := by omega
  generalize (Int.gcd a d : Int) = g at *
  generalize (Int.gcd c b : Int) = e at *
  generalize a / g = a' at *
  generalize d / g = d' at *
  generalize c / e = c' at *
  generalize b / e = b' at *
  have ht : 0 < g * e * (m * n) := Int.mul_pos (Int.mul_pos pg pe) (Int.mul_pos h2 k2)
  have eS : A * C = (a' * c') * (g * e * (m * n)) := by
    rw [eA, eC, ← e1, ← e3]; ac_rfl
  have eD : M * L = (b' * d') * (g * e * (m * n)) := by
    rw [eM, eN, ← e2, ← e4]; ac_rfl
  have hF : Fr (a' * c') (b' * d') (A * C) (M * L) := ⟨Int.mul_pos pb pd, _, ht, eS, eD⟩
  have iF := Fr_in hF hS hT
  obtain ⟨u, l, e5, h5⟩ := m_is s iF.1 iF.2 hF.1
  rw [e5, p_bind]
  refine ⟨u, l, rfl, ?_⟩
  rw [eS, eD]
  exact Lt_scale h5 ht
