/-! PURE: counts -/
def abvI (B : Bk) (j : Nat) : Nat := sumI (fun f => cnt (abv B f) B.2.1) j
theorem abv_all {B : Bk} (ok : okB B) : abvI B (len B) = cnt (fun c : Cm => decide (B.2.2.1 < c.2.2)) B.2.1 := by
  have hl : ∀ c ∈ B.2.1, c.1 < len B := fun c hc => ok_len ok hc
  have key : ∀ (l : List Cm) (n : Nat), sumI (fun f => cnt (abv B f) l) n = cnt (fun c : Cm => decide (c.1 < n) && decide (B.2.2.1 < c.2.2)) l := by
    intro l n
    induction n with
    | zero =>
      show 0 = _
      unfold cnt
      rw [List.filter_eq_nil_iff.mpr (fun c _ => by simp)]
      rfl
    | succ n ih =>
      rw [sumI_s, ih]
      clear ih hl
      unfold cnt
      induction l with
      | nil => rfl
      | cons c l ih2 =>
        rw [List.filter_cons, List.filter_cons, List.filter_cons]
        by_cases q1 : B.2.2.1 < c.2.2
        · rcases Nat.lt_trichotomy c.1 n with z | z | z
          · simp [q1, z, show c.1 < n + 1 by omega, show ¬ c.1 = n by omega] at ih2 ⊢
            omega
          · simp [q1, z] at ih2 ⊢
            omega
          · simp [q1, show ¬ c.1 < n by omega, show ¬ c.1 < n + 1 by omega, show ¬ c.1 = n by omega] at ih2 ⊢
            exact ih2
        · simp [q1] at ih2 ⊢
          exact ih2
  unfold abvI
  rw [key]
  exact cnt_congr (fun c hc => by simp [hl c hc])
def orY (B : Bk) : Nat → Nat
  | 0 => 0
  | i + 1 => orY B i ||| (match B.1[i]? with | some f => f.2 | none => 0)
theorem orY_lt {B : Bk} (ok : okB B) : ∀ i, orY B i < 32
  | 0 => by show 0 < 32; decide
  | i + 1 => by
    unfold orY
    refine Nat.or_lt_two_pow (n := 5) (orY_lt ok i) ?_
    cases e : B.1[i]? with
    | none => decide
    | some f => exact (ok.1.2.2.1 f (List.mem_of_getElem? e)).2
theorem op_count {s : S7} {q : S8} (h : RR s q) (x : Int32) : ∃ r, f_X7_count s x = some r ∧ f_X8_count q x = some r := by
  obtain ⟨g, hc, hm⟩ := id h
  have hb := hc.1
  have hw := hm.1
  have ok := hc.2.1
  have w := ok.1.1
  have w1 := hb.1.2.1
  have w9 : g.1.1.length ≤ 8 := w
  change len g.1 ≤ 8 at w
  have e7 := (show f_X7_count s x = _ from (by unfold f_X7_count; rfl))
  have e8 := (show f_X8_count q x = _ from (by unfold f_X8_count; rfl))
  rcases p_ix x (n := 9) (by decide) with ⟨k, k1, rfl⟩ | hx
  · rcases (show k = 0 ∨ k = 1 ∨ k = 2 ∨ k = 3 ∨ k = 4 ∨ k = 5 ∨ k = 6 ∨ k = 7 ∨ k = 8 by omega) with rfl | rfl | rfl | rfl | rfl | rfl | rfl | rfl | rfl
    · exact ⟨_, e7.trans ((if_pos rfl).trans (congrArg some hb.2.1)), e8.trans ((if_pos rfl).trans (p_bE (m_many hw)))⟩
    · exact ⟨_, e7.trans ((if_neg (by decide)).trans ((if_pos rfl).trans (congrArg some hb.2.2.1))), e8.trans ((if_neg (by decide)).trans ((if_pos rfl).trans (p_bE (m_claims hw))))⟩
    · exact ⟨_, e7.trans ((if_neg (by decide)).trans ((if_neg (by decide)).trans ((if_pos rfl).trans (congrArg some hb.2.2.2.1)))), e8.trans ((if_neg (by decide)).trans ((if_neg (by decide)).trans ((if_pos rfl).trans (p_bE ((p_rd (i := 0) (by decide) (by decide)).trans (congrArg some hw.2.1))))))⟩
    · exact ⟨_, e7.trans ((if_neg (by decide)).trans ((if_neg (by decide)).trans ((if_neg (by decide)).trans ((if_pos rfl).trans (congrArg some hb.2.2.2.2.1))))), e8.trans ((if_neg (by decide)).trans ((if_neg (by decide)).trans ((if_neg (by decide)).trans ((if_pos rfl).trans (p_bE ((p_rd (i := 1) (by decide) (by decide)).trans (congrArg some hw.2.2.1)))))))⟩
    · exact ⟨_, e7.trans ((if_neg (by decide)).trans ((if_neg (by decide)).trans ((if_neg (by decide)).trans ((if_neg (by decide)).trans ((if_pos rfl).trans (p_bE (show f_X2_size (g7_past s) = some (nI g.2.1.length) from congrArg some hc.2.2.1.2.1))))))), e8.trans ((if_neg (by decide)).trans ((if_neg (by decide)).trans ((if_neg (by decide)).trans ((if_neg (by decide)).trans ((if_pos rfl).trans (congrArg some hm.2.1.2.1))))))⟩
    · exact ⟨_, e7.trans ((if_neg (by decide)).trans ((if_neg (by decide)).trans ((if_neg (by decide)).trans ((if_neg (by decide)).trans ((if_neg (by decide)).trans ((if_pos rfl).trans (p_bE (show f_X6_size (g7_tape s) = some (nI g.2.2.length) from congrArg some hc.2.2.2.2.2.2.1)))))))), e8.trans ((if_neg (by decide)).trans ((if_neg (by decide)).trans ((if_neg (by decide)).trans ((if_neg (by decide)).trans ((if_neg (by decide)).trans ((if_pos rfl).trans (congrArg some hm.2.2.1.2.2.1)))))))⟩
    · have hA : f_X0_allClaimsAboveCap (g7_book s) = some (nI (abvI g.1 (len g.1))) := by
        unfold f_X0_allClaimsAboveCap lp_X0_allClaimsAboveCap_p4
        refine p_for (len g.1) (fun i => (g7_book s, nI (abvI g.1 i), nI i)) _ (by omega) (fun i k hi ih => ?_) (fun k => ?_) 0 (Nat.zero_le _)
        · dsimp only
          unfold f_X0_allClaimsAboveCap_p4
          rw [show g0_fleets (g7_book s) = nI (len g.1) from hb.2.1, if_neg (by rw [p_le (by omega) (by omega)]; omega), c_above hb (by omega), p_bind, nI_add, nI_1]
          exact ih
        · dsimp only
          unfold f_X0_allClaimsAboveCap_p4
          rw [show g0_fleets (g7_book s) = nI (len g.1) from hb.2.1, if_pos (by rw [p_le (by omega) (by omega)]; omega)]
      have hB : f_X8_aboveCap q (-1) = some (nI (abvI g.1 (len g.1))) := by
        rw [m_above hw, abv_all ok]
        congr 2
      exact ⟨_, e7.trans ((if_neg (by decide)).trans ((if_neg (by decide)).trans ((if_neg (by decide)).trans ((if_neg (by decide)).trans ((if_neg (by decide)).trans ((if_neg (by decide)).trans ((if_pos rfl).trans (p_bE hA)))))))), e8.trans ((if_neg (by decide)).trans ((if_neg (by decide)).trans ((if_neg (by decide)).trans ((if_neg (by decide)).trans ((if_neg (by decide)).trans ((if_neg (by decide)).trans ((if_pos rfl).trans (p_bE hB))))))))⟩
    · have hA : f_X0_fleetsWithoutYears (g7_book s) = some (nI (cnt (fun f : Nat × Nat => decide (f.2 = 0)) g.1.1)) := by
        unfold f_X0_fleetsWithoutYears lp_X0_fleetsWithoutYears_p4
        refine p_for g.1.1.length (fun i => (g7_book s, nI (cnt (fun f : Nat × Nat => decide (f.2 = 0)) (g.1.1.take i)), nI i)) _ (by omega) (fun i k hi ih => ?_) (fun k => ?_) 0 (Nat.zero_le _)
        · obtain ⟨f, hf, hfm⟩ := p_at hi
          have f3 := ok.1.2.2.1 f hfm
          dsimp only
          unfold f_X0_fleetsWithoutYears_p4
          rw [hb.2.1, if_neg (by rw [p_le (by omega) (by omega)]; omega), c_yearsOf hb hf, p_bind]
          by_cases z : f.2 = 0
          · rw [z, if_pos (by decide)]
            rw [cnt_T _ hf (by simp [z]), ← nI_1 i] at ih
            exact ih
          · rw [if_neg (by rw [show (0 : Int32) = nI 0 from rfl, p_eq (by omega) (by omega)]; exact z)]
            rw [cnt_F _ hf (by simp [z]), ← nI_1 i] at ih
            exact ih
        · dsimp only
          unfold f_X0_fleetsWithoutYears_p4
          rw [hb.2.1, if_pos (by rw [p_le (by omega) (by omega)]; omega), cnt_all]
      have hB : lp_X8_count_p94 q 0 0 = some (nI (cnt (fun f : Nat × Nat => decide (f.2 = 0)) g.1.1)) := by
        unfold lp_X8_count_p94
        refine p_for g.1.1.length (fun i => (q, nI (cnt (fun f : Nat × Nat => decide (f.2 = 0)) (g.1.1.take i)), nI i)) _ (by omega) (fun i k hi ih => ?_) (fun k => ?_) 0 (Nat.zero_le _)
        · obtain ⟨f, hf, hfm⟩ := p_at hi
          have f3 := ok.1.2.2.1 f hfm
          have b := (bits5 f.2 f3.2).2.1
          dsimp only
          unfold f_X8_count_p94
          rw [m_many hw, p_bind, if_neg (by rw [p_le (by omega) (by omega)]; omega), m_isRated ok hw hi, p_bind, nf_at hf]
          by_cases z : f.2 = 0
          · rw [if_pos (b.mpr z), if_pos rfl]
            rw [cnt_T _ hf (by simp [z]), ← nI_1 i] at ih
            exact ih
          · rw [if_neg (fun e => z (b.mp e)), if_neg (by decide)]
            rw [cnt_F _ hf (by simp [z]), ← nI_1 i] at ih
            exact ih
        · dsimp only
          unfold f_X8_count_p94
          rw [m_many hw, p_bind, if_pos (by rw [p_le (by omega) (by omega)]; omega), cnt_all]
      exact ⟨_, e7.trans ((if_neg (by decide)).trans ((if_neg (by decide)).trans ((if_neg (by decide)).trans ((if_neg (by decide)).trans ((if_neg (by decide)).trans ((if_neg (by decide)).trans ((if_neg (by decide)).trans ((if_pos rfl).trans (p_bE hA))))))))), e8.trans ((if_neg (by decide)).trans ((if_neg (by decide)).trans ((if_neg (by decide)).trans ((if_neg (by decide)).trans ((if_neg (by decide)).trans ((if_neg (by decide)).trans ((if_neg (by decide)).trans ((if_pos rfl).trans hB))))))))⟩
    · have hA : f_X0_yearsOfAll (g7_book s) = some (nI (orY g.1 g.1.1.length)) := by
        unfold f_X0_yearsOfAll lp_X0_yearsOfAll_p4
        refine p_for g.1.1.length (fun i => (g7_book s, nI (orY g.1 i), nI i)) _ (by omega) (fun i k hi ih => ?_) (fun k => ?_) 0 (Nat.zero_le _)
        · obtain ⟨f, hf, hfm⟩ := p_at hi
          have f3 := ok.1.2.2.1 f hfm
          have o3 := orY_lt ok i
          dsimp only
          unfold f_X0_yearsOfAll_p4
          rw [hb.2.1, if_neg (by rw [p_le (by omega) (by omega)]; omega), c_yearsOf hb hf, p_bind, p_or (by omega) (by omega), nI_1]
          rw [orY, hf] at ih
          exact ih
        · dsimp only
          unfold f_X0_yearsOfAll_p4
          rw [hb.2.1, if_pos (by rw [p_le (by omega) (by omega)]; omega)]
      have hB : lp_X8_count_p123 q 0 0 = some (nI (orY g.1 g.1.1.length)) := by
        unfold lp_X8_count_p123
        refine p_for g.1.1.length (fun i => (q, nI (orY g.1 i), nI i)) _ (by omega) (fun i k hi ih => ?_) (fun k => ?_) 0 (Nat.zero_le _)
        · obtain ⟨f, hf, hfm⟩ := p_at hi
          have f3 := ok.1.2.2.1 f hfm
          have o3 := orY_lt ok i
          dsimp only
          unfold f_X8_count_p123
          rw [m_many hw, p_bind, if_neg (by rw [p_le (by omega) (by omega)]; omega), m_yearsOf hw hf, p_bind, p_or (by omega) (by omega), nI_1]
          rw [orY, hf] at ih
          exact ih
        · dsimp only
          unfold f_X8_count_p123
          rw [m_many hw, p_bind, if_pos (by rw [p_le (by omega) (by omega)]; omega)]
      exact ⟨_, e7.trans ((if_neg (by decide)).trans ((if_neg (by decide)).trans ((if_neg (by decide)).trans ((if_neg (by decide)).trans ((if_neg (by decide)).trans ((if_neg (by decide)).trans ((if_neg (by decide)).trans ((if_neg (by decide)).trans ((if_pos rfl).trans (p_bE hA)))))))))), e8.trans ((if_neg (by decide)).trans ((if_neg (by decide)).trans ((if_neg (by decide)).trans ((if_neg (by decide)).trans ((if_neg (by decide)).trans ((if_neg (by decide)).trans ((if_neg (by decide)).trans ((if_neg (by decide)).trans ((if_pos rfl).trans hB)))))))))⟩
  · have hn : ∀ k, k < 9 → ¬ x = nI k := fun k hk => ne_out (n := 9) (by decide) hx hk
    exact ⟨_, e7.trans ((if_neg (hn 0 (by omega))).trans ((if_neg (hn 1 (by omega))).trans ((if_neg (hn 2 (by omega))).trans ((if_neg (hn 3 (by omega))).trans ((if_neg (hn 4 (by omega))).trans ((if_neg (hn 5 (by omega))).trans ((if_neg (hn 6 (by omega))).trans ((if_neg (hn 7 (by omega))).trans (if_neg (hn 8 (by omega))))))))))), e8.trans ((if_neg (hn 0 (by omega))).trans ((if_neg (hn 1 (by omega))).trans ((if_neg (hn 2 (by omega))).trans ((if_neg (hn 3 (by omega))).trans ((if_neg (hn 4 (by omega))).trans ((if_neg (hn 5 (by omega))).trans ((if_neg (hn 6 (by omega))).trans ((if_neg (hn 7 (by omega))).trans (if_neg (hn 8 (by omega)))))))))))⟩
