/-! PURE: the reference's spreads and shares -/
theorem m_spreads49 {s : S8} {B : Bk} (h : rM (g8_now s) B) (ok : okB B) (hr : rows8 s B (len B)) (hw : cls8 s B (len B)) {c : Nat} (hc : c < 3) (hz : ∀ k, k < 5 → g8_low s (5 * c + k) = 0) : ∃ U L f g, lp_X8_spreads_p49 s (nI c) (nI (5 * c)) 0 1 0 0 0 = some (ul (u8_low (u8_up s f) g) U L) ∧ (∀ k, k ≠ 5 * c → k ≠ 5 * c + 1 → f k = g8_up s k ∧ g k = g8_low s k) ∧ E0 f g B c ∧ E1 f g B c := by
  have w := ok.1.1
  change len B ≤ 8 at w
  have ms1 := qMS_le ok c
  have l1 := qLQ_le ok c
  have n40 := qN_le ok c
  unfold lp_X8_spreads_p49
  have key := p_forI (body := fun (k : S8 × Int32 × Int32 × Int64 × Int64 × Int32 × Int32 × Int32 → Option (S8)) (z : S8 × Int32 × Int32 × Int64 × Int64 × Int32 × Int32 × Int32) => f_X8_spreads_p49 (fun s x1 x2 x3 x5 x7 x8 x9 => k (s, x1, x2, x3, x5, x7, x8, x9)) z.1 z.2.1 z.2.2.1 z.2.2.2.1 z.2.2.2.2.1 z.2.2.2.2.2.1 z.2.2.2.2.2.2.1 z.2.2.2.2.2.2.2) (len B)
    (fun i t => ∃ (su sl : Int) (U L : Int64), t = (ul s U L, nI c, nI (5 * c), lI su, lI sl, nI (kS B c (sQ B) i), nI (kS B c (fun i => nf B i * nf B i) i), nI i) ∧ Lt su sl (kS B c (msI B) i) 60)
    (fun r => ∃ U L f g, r = ul (u8_low (u8_up s f) g) U L ∧ (∀ k, k ≠ 5 * c → k ≠ 5 * c + 1 → f k = g8_up s k ∧ g k = g8_low s k) ∧ E0 f g B c ∧ E1 f g B c) (by omega) (fun i k t hi hI ih => ?_) (fun k t hI => ?_) 0 (s, nI c, nI (5 * c), 0, 1, 0, 0, 0) (Nat.zero_le _) ⟨0, 1, g8_upper s, g8_lower s, rfl, Lt_zero (by decide)⟩
  · obtain ⟨r, e1, U, L, f, g, rfl, h1, h2, h3⟩ := key
    exact ⟨U, L, f, g, e1, h1, h2, h3⟩
  · obtain ⟨su, sl, U, L, rfl, hS⟩ := hI
    have c3 := cf_lt ok hi
    have n5 := nf_le ok i
    have s1 := sS_le ok i
    have q1 := sQ_le ok i
    dsimp only
    have ei := m_isIn (s := ul s U L) h ok hr hi hc
    have em : f_X8_many (ul s U L) = some (nI (len B)) := m_manyL h
    have el : ¬ nI (len B) ≤ nI i := by rw [p_le (by omega) (by omega)]; omega
    by_cases q : inK B c i = true
    · obtain ⟨n0, -⟩ := inK_n q
      obtain ⟨d1, d2⟩ := div60 (nf B i) (by omega) n0
      rw [if_pos q] at ei
      have hle : kS B c (msI B) (i + 1) ≤ qMS B c := kS_mono hi
      rw [kS_T q] at hle
      change kS B c (msI B) i + sS B i * sS B i * (60 / nf B i) ≤ qMS B c at hle
      obtain ⟨u, l, ea, La⟩ := m_adds (ul s U L) hS.1 (Fr_div (a := sS B i * sS B i) n0 d1) (by rw [← Int.natCast_add]; exact inL_n (by omega)) ⟨by omega, by omega⟩
      have r1 : x_rd 8 (g8_losses s) (nI i) = some (nI (sS B i)) := (p_rd (by omega) (by decide)).trans (congrArg some (hr i hi).2.1)
      have r2 : x_rd 8 (g8_n s) (nI i) = some (nI (nf B i)) := (p_rd (by omega) (by decide)).trans (congrArg some (hr i hi).1)
      have r3 : x_rd 8 (g8_squares s) (nI i) = some (nI (sQ B i)) := (p_rd (by omega) (by decide)).trans (congrArg some (hr i hi).2.2)
      have ea' : f_X8_adds (ul s U L) (lI su) (lI sl) (Int32.toInt64 (nI (sS B i)) * Int32.toInt64 (nI (sS B i))) (Int32.toInt64 (nI (nf B i))) = some (ul s (lI u) (lI l)) := by
        rw [lI_i (by omega), lI_i (by omega), lU_mul]; exact ea
      obtain ⟨r, e1, e2⟩ := ih (ul s (lI u) (lI l), nI c, nI (5 * c), lI u, lI l, nI (kS B c (sQ B) (i + 1)), nI (kS B c (fun i => nf B i * nf B i) (i + 1)), nI (i + 1)) ⟨u, l, lI u, lI l, rfl, by rw [kS_T q, Int.natCast_add]; exact La⟩
      refine ⟨r, ?_, e2⟩
      rw [kS_T q, kS_T q, ← nI_add, ← nI_add, ← pk_mul (nf B i) (nf B i), ← nI_1 i] at e1
      unfold f_X8_spreads_p49
      exact (p_bE em).trans ((if_neg el).trans ((p_bE ei).trans ((if_neg (by decide)).trans ((p_bE r1).trans ((p_bE r1).trans ((p_bE r2).trans ((p_bE ea').trans ((p_bE r3).trans ((p_bE r2).trans ((p_bE r2).trans e1))))))))))
    · rw [if_neg q] at ei
      obtain ⟨r, e1, e2⟩ := ih (ul s U L, nI c, nI (5 * c), lI su, lI sl, nI (kS B c (sQ B) (i + 1)), nI (kS B c (fun i => nf B i * nf B i) (i + 1)), nI (i + 1)) ⟨su, sl, U, L, rfl, by rw [kS_F q]; exact hS⟩
      refine ⟨r, ?_, e2⟩
      rw [kS_F q, kS_F q, ← nI_1 i] at e1
      unfold f_X8_spreads_p49
      exact (p_bE em).trans ((if_neg el).trans ((p_bE ei).trans ((if_pos rfl).trans e1)))
  · obtain ⟨su, sl, U, L, rfl, hS⟩ := hI
    obtain ⟨U2, L2, f, g, e1, e2, e3, e4⟩ := m_spreadsEnd (s := ul s U L) ok hw hc hS hz h (fun s x1 x2 x3 x5 x7 x8 x9 => k (s, x1, x2, x3, x5, x7, x8, x9))
    exact ⟨_, e1, U2, L2, f, g, rfl, e2, e3, e4⟩
theorem m_spreads {s : S8} {B : Bk} (h : rM (g8_now s) B) (ok : okB B) (hr : rows8 s B (len B)) (hw : cls8 s B (len B)) {c : Nat} (hc : c < 3) : ∃ U L f g, f_X8_spreads s (nI c) = some (ul (u8_low (u8_up s f) g) U L) ∧ (∀ k, (k < 5 * c ∨ 5 * c + 5 ≤ k) → f k = g8_up s k ∧ g k = g8_low s k) ∧ E0 f g B c ∧ E1 f g B c ∧ ∀ k, 2 ≤ k → k < 5 → g (5 * c + k) = 0 := by
  unfold f_X8_spreads lp_X8_spreads_p6
  rw [e5c]
  have key := p_forI (body := fun (k : S8 × Int32 × Int32 × Int32 → Option (S8)) (z : S8 × Int32 × Int32 × Int32) => f_X8_spreads_p6 (fun s x1 x2 x3 => k (s, x1, x2, x3)) z.1 z.2.1 z.2.2.1 z.2.2.2) 5
    (fun i t => ∃ f g, t = (u8_low (u8_up s f) g, nI c, nI (5 * c), nI i) ∧ (∀ k, (k < 5 * c ∨ 5 * c + 5 ≤ k) → f k = g8_up s k ∧ g k = g8_low s k) ∧ ∀ k, k < i → g (5 * c + k) = 0)
    (fun r => ∃ U L f g, r = ul (u8_low (u8_up s f) g) U L ∧ (∀ k, (k < 5 * c ∨ 5 * c + 5 ≤ k) → f k = g8_up s k ∧ g k = g8_low s k) ∧ E0 f g B c ∧ E1 f g B c ∧ ∀ k, 2 ≤ k → k < 5 → g (5 * c + k) = 0) (by omega) (fun i k t hi hI ih => ?_) (fun k t hI => ?_) 0 (s, nI c, nI (5 * c), 0) (Nat.zero_le _) ⟨g8_up s, g8_low s, rfl, fun k _ => ⟨rfl, rfl⟩, fun k hk => by omega⟩
  · obtain ⟨r, e1, U, L, f, g, rfl, h1⟩ := key
    exact ⟨U, L, f, g, e1, h1⟩
  · obtain ⟨f, g, rfl, h1, h2⟩ := hI
    dsimp only
    unfold f_X8_spreads_p6
    rw [if_neg (by rw [show (5 : Int32) = nI 5 from rfl, p_le (by omega) (by omega)]; omega), nI_add, p_wrl (by omega) (by decide), p_bind, p_wrl (by omega) (by decide), p_bind]
    refine ih _ ⟨vp_updL f (5 * c + i) 0, vp_updL g (5 * c + i) 0, by rw [nI_1]; rfl, fun k hk => ?_, fun k hk => ?_⟩
    · rw [vl_ne (by omega), vl_ne (by omega)]; exact h1 k hk
    · by_cases q : k = i
      · rw [q, vl_same]
      · rw [vl_ne (by omega)]; exact h2 k (by omega)
  · obtain ⟨f, g, rfl, h1, h2⟩ := hI
    dsimp only
    unfold f_X8_spreads_p6
    rw [if_pos (by decide)]
    obtain ⟨U, L, f', g', e1, e2, e3, e4⟩ := m_spreads49 (s := u8_low (u8_up s f) g) h ok hr hw hc h2
    refine ⟨_, e1, U, L, f', g', rfl, fun k hk => ?_, e3, e4, fun k k1 k2 => ?_⟩
    · obtain ⟨a1, a2⟩ := e2 k (by omega) (by omega)
      obtain ⟨b1, b2⟩ := h1 k hk
      exact ⟨a1.trans b1, a2.trans b2⟩
    · exact (e2 (5 * c + k) (by omega) (by omega)).2.trans (h2 k k2)
/-- a product whose parts are in least terms is so at once -/
theorem m_mults2 (s : S8) {a b c d A M : Int} (hb : 0 < b) (hd : 0 < d) (g1 : Int.gcd a b = 1) (g2 : Int.gcd c d = 1) (ia : inL a) (ib : inL b) (ic : inL c) (id' : inL d) (hM : 0 < M) (e : a * c * M = A * (b * d)) (iA : inL A) (iM : inL M) : ∃ u l, f_X8_multiplies s (lI a) (lI b) (lI c) (lI d) = some (ul s (lI u) (lI l)) ∧ Lt u l A M := by
  have hg : 0 < Int.gcd a d := Int.gcd_pos_of_ne_zero_right _ (by omega)
  have hh : 0 < Int.gcd c b := Int.gcd_pos_of_ne_zero_right _ (by omega)
  have hgd : (Int.gcd a d : Int) ≤ d := Int.le_of_dvd hd (Int.gcd_dvd_right a d)
  have hhb : (Int.gcd c b : Int) ≤ b := Int.le_of_dvd hb (Int.gcd_dvd_right c b)
  have ig : inL (Int.gcd a d : Int) := ⟨by omega, by have := id'.2; omega⟩
  have ih : inL (Int.gcd c b : Int) := ⟨by omega, by have := ib.2; omega⟩
  have e1 := Int.ediv_mul_cancel (Int.gcd_dvd_left a d)
  have e2 := Int.ediv_mul_cancel (Int.gcd_dvd_right a d)
  have e3 := Int.ediv_mul_cancel (Int.gcd_dvd_left c b)
  have e4 := Int.ediv_mul_cancel (Int.gcd_dvd_right c b)
  have co1 := Int.gcd_ediv_gcd_ediv_gcd hg
  have co2 := Int.gcd_ediv_gcd_ediv_gcd hh
  have pd := Int.ediv_pos_of_pos_of_dvd hd (by omega) (Int.gcd_dvd_right a d)
  have pb := Int.ediv_pos_of_pos_of_dvd hb (by omega) (Int.gcd_dvd_right c b)
  unfold f_X8_multiplies
  rw [m_common ia id' (by omega), p_bind, m_common ic ib (by omega), p_bind, lI_nz ig (by omega), p_bind, lI_nz ih (by omega), p_bind, p_bind, p_bind, lI_div ia ig (by omega), lI_div ic ih (by omega), lI_div ib ih (by omega), lI_div id' ig (by omega), Int.tdiv_eq_ediv_of_dvd (Int.gcd_dvd_left a d), Int.tdiv_eq_ediv_of_dvd (Int.gcd_dvd_right a d), Int.tdiv_eq_ediv_of_dvd (Int.gcd_dvd_left c b), Int.tdiv_eq_ediv_of_dvd (Int.gcd_dvd_right c b), lI_mul, lI_mul]
  have pg : (0 : Int) < (Int.gcd a d : Int) := by omega
  have pe : (0 : Int) < (Int.gcd c b : Int) := by omega
  have dv1 : ∀ x : Int, x ∣ a / (Int.gcd a d : Int) → x ∣ a := fun x hx => Int.dvd_trans hx ⟨(Int.gcd a d : Int), e1.symm⟩
  have dv2 : ∀ x : Int, x ∣ d / (Int.gcd a d : Int) → x ∣ d := fun x hx => Int.dvd_trans hx ⟨(Int.gcd a d : Int), e2.symm⟩
  have dv3 : ∀ x : Int, x ∣ c / (Int.gcd c b : Int) → x ∣ c := fun x hx => Int.dvd_trans hx ⟨(Int.gcd c b : Int), e3.symm⟩
  have dv4 : ∀ x : Int, x ∣ b / (Int.gcd c b : Int) → x ∣ b := fun x hx => Int.dvd_trans hx ⟨(Int.gcd c b : Int), e4.symm⟩
  generalize (Int.gcd a d : Int) = g at *
  generalize (Int.gcd c b : Int) = k at *
  generalize a / g = a' at *
  generalize d / g = d' at *
  generalize c / k = c' at *
  generalize b / k = b' at *
  have co3 : Int.gcd a' b' = 1 := Int.gcd_eq_one_iff.mpr (fun x h1 h2 => Int.gcd_eq_one_iff.mp g1 x (dv1 x h1) (dv4 x h2))
  have co4 : Int.gcd c' d' = 1 := Int.gcd_eq_one_iff.mpr (fun x h1 h2 => Int.gcd_eq_one_iff.mp g2 x (dv3 x h1) (dv2 x h2))
  have co : Int.gcd (a' * c') (b' * d') = 1 := by
    have h1 : Int.gcd a' (b' * d') = 1 := by rw [Int.gcd_mul_right_right_of_gcd_eq_one co3]; exact co1
    have h2 : Int.gcd c' (b' * d') = 1 := by rw [Int.gcd_mul_right_right_of_gcd_eq_one co2]; exact co4
    rw [Int.gcd_mul_right_left_of_gcd_eq_one h1]; exact h2
  have hL : Lt (a' * c') (b' * d') (a' * c') (b' * d') := ⟨Fr_self (Int.mul_pos pb pd), co⟩
  have hL2 : Lt (a' * c') (b' * d') A M := by
    refine Lt_cross hL hM ?_
    have hp : g * k ≠ 0 := by have := Int.mul_pos pg pe; omega
    apply Int.eq_of_mul_eq_mul_right hp
    have x1 : a' * c' * M * (g * k) = a * c * M := by rw [← e1, ← e3]; ac_rfl
    have x2 : A * (b' * d') * (g * k) = A * (b * d) := by rw [← e2, ← e4]; ac_rfl
    rw [x1, x2, e]
  have iF := Fr_in hL2.1 iA iM
  obtain ⟨u, l, e5, h5⟩ := m_is s iF.1 iF.2 hL2.1.1
  rw [e5, p_bind]
  obtain ⟨rfl, rfl⟩ := Lt_uniq h5 hL
  exact ⟨_, _, rfl, hL2⟩
