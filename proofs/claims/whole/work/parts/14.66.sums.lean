/-! PURE: the reference's sums -/
abbrev ul (s : S8) (a b : Int64) : S8 := u8_lower (u8_upper s a) b
def keep8 (s s' : S8) : Prop := g8_now s' = g8_now s ∧ g8_aside s' = g8_aside s ∧ g8_before s' = g8_before s ∧ g8_acts s' = g8_acts s ∧ g8_tape s' = g8_tape s ∧ g8_taped s' = g8_taped s ∧ g8_words s' = g8_words s
theorem keep8_r (s : S8) : keep8 s s := ⟨rfl, rfl, rfl, rfl, rfl, rfl, rfl⟩
theorem keep8_t {a b c : S8} (h : keep8 a b) (k : keep8 b c) : keep8 a c := by
  obtain ⟨h1, h2, h3, h4, h5, h6, h7⟩ := h
  obtain ⟨k1, k2, k3, k4, k5, k6, k7⟩ := k
  exact ⟨k1.trans h1, k2.trans h2, k3.trans h3, k4.trans h4, k5.trans h5, k6.trans h6, k7.trans h7⟩
theorem m_manyL {s : S8} {B : Bk} (h : rM (g8_now s) B) : f_X8_many s = some (nI (len B)) := m_many h
theorem m_lossIn {s : S8} {B : Bk} (h : rM (g8_now s) B) {i y : Nat} (hi : i < 8) (hy : y < 5) : f_X8_lossIn s (nI i) (nI y) = some (nI (lossN B i y)) := by
  have w0 := h.1.2.1
  unfold f_X8_lossIn lp_X8_lossIn_p5
  refine p_for B.2.1.length (fun j => (s, nI i, nI y, nI (sumL (lossV B i y) (B.2.1.take j)), nI j)) _ (by omega) (fun j k hj ih => ?_) (fun k => ?_) 0 (Nat.zero_le _)
  · obtain ⟨c, hc, hcm⟩ := p_at hj
    have wc := h.1.2.2.2.1 c hcm
    have wc1 := wc.1
    have wc2 := wc.2.1
    rw [sumL_take _ hc, ← nI_1] at ih
    unfold lossV at ih
    dsimp only
    unfold f_X8_lossIn_p5
    rw [m_claims h, p_bind, if_neg (by rw [p_le (by omega) (by omega)]; omega), m_fleetOf h hc, p_bind]
    by_cases q1 : c.1 = i
    · rw [if_pos (by rw [q1]), m_yearOf h hc, p_bind]
      by_cases q2 : c.2.1 = y
      · rw [if_pos (by rw [q2]), m_counted h hc, p_bind, nI_add]
        rw [if_pos (by simp [q1, q2])] at ih
        exact ih
      · rw [if_neg (by rw [p_eq (by omega) (by omega)]; exact q2)]
        rw [if_neg (by simp [q2])] at ih
        exact ih
    · rw [if_neg (by rw [p_eq (by omega) (by omega)]; exact q1)]
      rw [if_neg (by simp [q1])] at ih
      exact ih
  · dsimp only
    unfold f_X8_lossIn_p5
    rw [m_claims h, p_bind, if_pos (by rw [p_le (by omega) (by omega)]; omega), sumL_all]
    rfl
def rows8 (s : S8) (B : Bk) (j : Nat) : Prop := ∀ i, i < j → g8_n s i = nI (nf B i) ∧ g8_losses s i = nI (sS B i) ∧ g8_squares s i = nI (sQ B i)
def cls8 (s : S8) (B : Bk) (j : Nat) : Prop := ∀ c, c < 3 → g8_have s c = nI (kS B c (fun _ => 1) j) ∧ g8_spans s c = nI (kS B c (nf B) j) ∧ g8_totals s c = nI (kS B c (sS B) j)
def whole8 (s : S8) (B : Bk) : Prop := if aN B (len B) = 0 then g8_wholeLow s = 0 else ∃ u l : Int, g8_wholeUp s = lI u ∧ g8_wholeLow s = lI l ∧ Lt u l (aS B (len B)) (aN B (len B))
def rW0 (s : S8) (B : Bk) : Prop := rows8 s B (len B) ∧ cls8 s B (len B) ∧ whole8 s B
theorem m_sums79 {k40 : S8 → Int32 → Int32 → Int32 → Option S8} {s : S8} {B : Bk} (h : rM (g8_now s) B) {i : Nat} (hi : i < len B) (x1 x2 : Int32) (R : Option S8) (hR : ∀ k, f_X8_sums_p79 k40 k (u8_squares (u8_losses s (upd (g8_losses s) i (nI (sS B i)))) (upd (g8_squares s) i (nI (sQ B i)))) x1 x2 (nI i) (nI 5) = R) : lp_X8_sums_p79 k40 (u8_squares (u8_losses s (upd (g8_losses s) i 0)) (upd (g8_squares s) i 0)) x1 x2 (nI i) 0 = R := by
  have w := h.1.1
  change len B ≤ 8 at w
  unfold lp_X8_sums_p79
  refine p_forE 5 (fun y => (u8_squares (u8_losses s (upd (g8_losses s) i (nI (sumI (fun y => lossN B i y) y)))) (upd (g8_squares s) i (nI (sumI (fun y => lossN B i y * lossN B i y) y))), x1, x2, nI i, nI y)) R (by omega) (fun y k hy ih => ?_) (fun k => hR _) 0 (Nat.zero_le _)
  dsimp only
  unfold f_X8_sums_p79
  rw [if_neg (by rw [show (5 : Int32) = nI 5 from rfl, p_le (by omega) (by omega)]; omega), m_lossIn (s := u8_squares (u8_losses s (upd (g8_losses s) i (nI (sumI (fun y => lossN B i y) y)))) (upd (g8_squares s) i (nI (sumI (fun y => lossN B i y * lossN B i y) y)))) h (by omega) hy, p_bind]
  rw [show x_rd 8 (g8_losses (u8_squares (u8_losses s (upd (g8_losses s) i (nI (sumI (fun y => lossN B i y) y)))) (upd (g8_squares s) i (nI (sumI (fun y => lossN B i y * lossN B i y) y))))) (nI i) = some (nI (sumI (fun y => lossN B i y) y)) from (p_rd (by omega) (by decide)).trans (congrArg some (upd_same _ _ _)), p_bind, p_wr (by omega) (by decide), p_bind]
  rw [show x_rd 8 (g8_squares (u8_squares (u8_losses s (upd (g8_losses s) i (nI (sumI (fun y => lossN B i y) y)))) (upd (g8_squares s) i (nI (sumI (fun y => lossN B i y * lossN B i y) y))))) (nI i) = some (nI (sumI (fun y => lossN B i y * lossN B i y) y)) from (p_rd (by omega) (by decide)).trans (congrArg some (upd_same _ _ _)), p_bind, p_wr (by omega) (by decide), p_bind, pk_mul, nI_add, nI_add]
  rw [show g8_losses (u8_squares (u8_losses s (upd (g8_losses s) i (nI (sumI (fun y => lossN B i y) y)))) (upd (g8_squares s) i (nI (sumI (fun y => lossN B i y * lossN B i y) y)))) = upd (g8_losses s) i (nI (sumI (fun y => lossN B i y) y)) from rfl, show g8_squares (u8_squares (u8_losses s (upd (g8_losses s) i (nI (sumI (fun y => lossN B i y) y)))) (upd (g8_squares s) i (nI (sumI (fun y => lossN B i y * lossN B i y) y)))) = upd (g8_squares s) i (nI (sumI (fun y => lossN B i y * lossN B i y) y)) from rfl, upd_upd, upd_upd, nI_1]
  exact ih
theorem m_sums40 {s : S8} {B : Bk} (h : rM (g8_now s) B) (ok : okB B) (hc : cls8 s B 0) : ∃ s', lp_X8_sums_p40 s 0 0 0 = some s' ∧ keep8 s s' ∧ rW0 s' B := by
  have w := ok.1.1
  change len B ≤ 8 at w
  unfold lp_X8_sums_p40
  refine p_forI (body := fun (k : S8 × Int32 × Int32 × Int32 → Option (S8)) (z : S8 × Int32 × Int32 × Int32) => f_X8_sums_p40 (fun s x1 x2 x3 => k (s, x1, x2, x3)) z.1 z.2.1 z.2.2.1 z.2.2.2) (len B) (fun i t => ∃ s', t = (s', nI (aS B i), nI (aN B i), nI i) ∧ keep8 s s' ∧ rows8 s' B i ∧ cls8 s' B i) (fun s' => keep8 s s' ∧ rW0 s' B) (by omega) (fun i k t hi hI ih => ?_) (fun k t hI => ?_) 0 (s, 0, 0, 0) (Nat.zero_le _) ⟨s, rfl, keep8_r s, fun i hi => by omega, hc⟩
  · obtain ⟨s', rfl, hk, hr, hcl⟩ := hI
    have hm : rM (g8_now s') B := by rw [hk.1]; exact h
    obtain ⟨f, hf, hfm⟩ := p_at (l := B.1) hi
    have f3 := ok.1.2.2.1 f hfm
    have ef := nf_at hf
    have ec := cf_at hf
    have c3 := cf_lt ok hi
    have n5 := nf_le ok i
    dsimp only
    unfold f_X8_sums_p40
    rw [m_manyL hm, p_bind, if_neg (by rw [p_le (by omega) (by omega)]; omega), m_yearsOf hm hf, p_bind, m_ones f3.2, p_bind, ← ef, p_wr (by omega) (by decide), p_bind, p_wr (by omega) (by decide), p_bind, p_wr (by omega) (by decide), p_bind]
    have hrow : ∀ s2 : S8, g8_n s2 = upd (g8_n s') i (nI (nf B i)) → g8_losses s2 = upd (g8_losses s') i (nI (sS B i)) → g8_squares s2 = upd (g8_squares s') i (nI (sQ B i)) → rows8 s2 B (i + 1) := by
      intro s2 e1 e2 e3 j hj
      rw [e1, e2, e3]
      by_cases q1 : j = i
      · rw [q1, upd_same, upd_same, upd_same]; exact ⟨rfl, rfl, rfl⟩
      · rw [upd_ne q1, upd_ne q1, upd_ne q1]; exact hr j (by omega)
    have r1 : ∀ X : Nat → Int32, x_rd 8 (upd X i (nI (nf B i))) (nI i) = some (nI (nf B i)) := fun X => (p_rd (by omega) (by decide)).trans (congrArg some (upd_same _ _ _))
    have r3 : ∀ X : Nat → Int32, x_rd 8 (upd X i (nI (sS B i))) (nI i) = some (nI (sS B i)) := fun X => (p_rd (by omega) (by decide)).trans (congrArg some (upd_same _ _ _))
    by_cases n0 : nf B i = 0
    · obtain ⟨r, e1, e2⟩ := ih (u8_squares (u8_losses (u8_n s' (upd (g8_n s') i (nI (nf B i)))) (upd (g8_losses s') i (nI (sS B i)))) (upd (g8_squares s') i (nI (sQ B i))), nI (aS B (i + 1)), nI (aN B (i + 1)), nI (i + 1)) ⟨_, rfl, hk, hrow _ rfl rfl rfl, fun c hc3 => by rw [kS_F (inK_n0 n0), kS_F (inK_n0 n0), kS_F (inK_n0 n0)]; exact hcl c hc3⟩
      refine ⟨r, m_sums79 (s := u8_n s' (upd (g8_n s') i (nI (nf B i)))) hm hi _ _ (some r) (fun k2 => ?_), e2⟩
      unfold f_X8_sums_p79
      rw [if_pos (by decide)]
      simp only [gu8_n, gu8_losses, gu8_squares]
      rw [r1, p_bind, n0, if_pos (by decide), nI_1, ← n0]
      rw [aS_s, if_neg (by omega), aN_s, n0] at e1
      rw [n0]
      exact e1
    · have np : 0 < nf B i := by omega
      obtain ⟨v1, v2, v3⟩ := hcl (cf B i) c3
      have rc : x_rd 140 (g8_now s') ((4 : Int32) + (2 : Int32) * nI i) = some (nI (cf B i)) := by rw [e4, ec]; exact (p_rd (by omega) (by decide)).trans (congrArg some (hm.2.2.2.2.2.1 i f hf).1)
      obtain ⟨r, e1, e2⟩ := ih (u8_totals (u8_spans (u8_have (u8_squares (u8_losses (u8_n s' (upd (g8_n s') i (nI (nf B i)))) (upd (g8_losses s') i (nI (sS B i)))) (upd (g8_squares s') i (nI (sQ B i)))) (upd (g8_have s') (cf B i) (nI (kS B (cf B i) (fun _ => 1) i + 1)))) (upd (g8_spans s') (cf B i) (nI (kS B (cf B i) (nf B) i + nf B i)))) (upd (g8_totals s') (cf B i) (nI (kS B (cf B i) (sS B) i + sS B i))), nI (aS B (i + 1)), nI (aN B (i + 1)), nI (i + 1)) ⟨_, rfl, hk, hrow _ rfl rfl rfl, fun c hc3 => by
        simp only [gu8_totals, gu8_spans, gu8_have, gu8_squares, gu8_losses, gu8_n]
        by_cases q1 : c = cf B i
        · rw [q1, upd_same, upd_same, upd_same, kS_T (inK_yes rfl np), kS_T (inK_yes rfl np), kS_T (inK_yes rfl np)]; exact ⟨rfl, rfl, rfl⟩
        · rw [upd_ne q1, upd_ne q1, upd_ne q1, kS_F (inK_no (Ne.symm q1)), kS_F (inK_no (Ne.symm q1)), kS_F (inK_no (Ne.symm q1))]; exact hcl c hc3⟩
      refine ⟨r, m_sums79 (s := u8_n s' (upd (g8_n s') i (nI (nf B i)))) hm hi _ _ (some r) (fun k2 => ?_), e2⟩
      unfold f_X8_sums_p79
      rw [if_pos (by decide)]
      simp only [f_X8_classOf, gu8_n, gu8_losses, gu8_squares, gu8_have, gu8_spans]
      rw [r1, p_bind, if_neg (by rw [show (0 : Int32) = nI 0 from rfl, p_eq (by omega) (by omega)]; omega), rc, p_bind, p_bind, show x_rd 3 (g8_have s') (nI (cf B i)) = some _ from (p_rd (by omega) (by decide)).trans (congrArg some v1), p_bind, nI_1, p_wr (by omega) (by decide), p_bind, p_bind, show x_rd 3 (g8_spans s') (nI (cf B i)) = some _ from (p_rd (by omega) (by decide)).trans (congrArg some v2), p_bind, p_bind, nI_add, p_wr (by omega) (by decide), p_bind, p_bind, show x_rd 3 (g8_totals s') (nI (cf B i)) = some _ from (p_rd (by omega) (by decide)).trans (congrArg some v3), p_bind, r3, p_bind, nI_add, p_wr (by omega) (by decide), p_bind, p_bind, p_bind, nI_add, nI_add, nI_1]
      rw [aS_s, if_pos np, aN_s] at e1
      exact e1
  · obtain ⟨s', rfl, hk, hr, hcl⟩ := hI
    have hm : rM (g8_now s') B := by rw [hk.1]; exact h
    have s40 := aN_le ok
    have s41 := aS_le ok (len B)
    dsimp only
    unfold f_X8_sums_p40
    rw [m_manyL hm, p_bind, if_pos (by rw [p_le (by omega) (by omega)]; omega)]
    simp only [show (nI (aN B (len B)) ≤ 0) = (aN B (len B) ≤ 0) from p_le (b := 0) (by omega) (by omega)]
    by_cases q : aN B (len B) = 0
    · rw [if_pos (by omega)]
      refine ⟨_, rfl, hk, hr, hcl, ?_⟩
      unfold whole8
      rw [if_pos q]
      rfl
    · rw [if_neg (by omega), lI_i (by omega), lI_i (by omega)]
      obtain ⟨u, l, e1, e2⟩ := m_is (u8_wholeUp (u8_wholeLow s' 0) 0) (inL_n (show aS B (len B) < 2 ^ 63 by omega)) (inL_n (show aN B (len B) < 2 ^ 63 by omega)) (by omega)
      rw [e1, p_bind]
      refine ⟨_, rfl, hk, hr, hcl, ?_⟩
      unfold whole8
      rw [if_neg q]
      exact ⟨u, l, rfl, rfl, e2⟩
theorem m_sums {s : S8} {B : Bk} (h : rM (g8_now s) B) (ok : okB B) : ∃ s', f_X8_sums s = some s' ∧ keep8 s s' ∧ rW0 s' B := by
  unfold f_X8_sums lp_X8_sums_p6
  refine p_forI (body := fun (k : S8 × Int32 × Int32 × Int32 → Option (S8)) (z : S8 × Int32 × Int32 × Int32) => f_X8_sums_p6 (fun s x1 x2 x3 => k (s, x1, x2, x3)) z.1 z.2.1 z.2.2.1 z.2.2.2) 3 (fun i t => ∃ s', t = (s', 0, 0, nI i) ∧ keep8 s s' ∧ ∀ c, c < i → g8_have s' c = 0 ∧ g8_spans s' c = 0 ∧ g8_totals s' c = 0) (fun s' => keep8 s s' ∧ rW0 s' B) (by omega) (fun i k t hi hI ih => ?_) (fun k t hI => ?_) 0 (s, 0, 0, 0) (Nat.zero_le _) ⟨s, rfl, keep8_r s, fun c hc => by omega⟩
  · obtain ⟨s', rfl, hk, hz⟩ := hI
    dsimp only
    unfold f_X8_sums_p6
    rw [if_neg (by rw [show (3 : Int32) = nI 3 from rfl, p_le (by omega) (by omega)]; omega), p_wr (by omega) (by decide), p_bind, p_wr (by omega) (by decide), p_bind, p_wr (by omega) (by decide), p_bind]
    refine ih _ ⟨u8_totals (u8_spans (u8_have s' (upd (g8_have s') i 0)) (upd (g8_spans s') i 0)) (upd (g8_totals s') i 0), by rw [nI_1], hk, fun c hc => ?_⟩
    simp only [gu8_totals, gu8_spans, gu8_have]
    by_cases q : c = i
    · rw [q, upd_same, upd_same, upd_same]; exact ⟨rfl, rfl, rfl⟩
    · rw [upd_ne q, upd_ne q, upd_ne q]; exact hz c (by omega)
  · obtain ⟨s', rfl, hk, hz⟩ := hI
    dsimp only
    unfold f_X8_sums_p6
    rw [if_pos (by decide)]
    obtain ⟨s2, e1, e2, e3⟩ := m_sums40 (s := s') (by rw [hk.1]; exact h) ok (fun c hc => hz c hc)
    exact ⟨s2, e1, keep8_t hk e2, e3⟩
