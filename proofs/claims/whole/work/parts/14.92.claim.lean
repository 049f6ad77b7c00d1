/-! PURE: a claim's sentence, in both -/
theorem c_addCT {b : S0} {B : Bk} (h : rC b B) (hn : B.2.1.length < 40) (x y z : Int32) : ∃ w b', f_X0_addClaim b x y z = some (w, b') := by
  have h2 := h.2.2.1
  unfold f_X0_addClaim
  rw [h2, if_pos (by rw [show (40 : Int32) = nI 40 from rfl, p_lt (by omega) (by omega)]; exact hn), nI_1, nI_pred]
  have hh : ∀ t : S0, g0_claims t = nI (B.2.1.length + 1) → f_X0_hasClaim t (nI B.2.1.length) = some 1 := fun t ht => by
    unfold f_X0_hasClaim
    rw [if_neg (nI_pos (by omega)), ht, if_neg (by rw [p_le (by omega) (by omega)]; omega), if_neg (by rw [show (40 : Int32) = nI 40 from rfl, p_le (by omega) (by omega)]; omega)]
  unfold f_X0_putClaim
  rw [hh (u0_claims b (nI (B.2.1.length + 1))) rfl, p_bind, if_neg (by decide), p_wr (by omega) (by decide), p_bind, p_bind]
  exact ⟨_, _, rfl⟩
theorem p_ir {x : Int32} {n : Nat} (h1 : ¬ x < 0) (h2 : ¬ nI n ≤ x) (hn : n < 2 ^ 31) : ∃ i, i < n ∧ x = nI i := by
  rcases p_ix x (n := n) hn with ⟨j, j1, rfl⟩ | hx
  · exact ⟨j, j1, rfl⟩
  · rcases hx with h | h
    · exact absurd h h1
    · exact absurd h.2 h2
theorem c_canT {b : S0} {B : Bk} (h : rC b B) (x y : Int32) : ∃ v, f_X0_canClaim b x y = some v := by
  have w0 := h.1.2.1
  have w8 := h.1.1
  have hI : ∃ v, f_X0_isInsured b x y = some v := by
    unfold f_X0_isInsured
    by_cases c1 : x < 0 ∨ (¬ x < 0 ∧ nI B.1.length ≤ x)
    · rw [c_hasF0 h c1, p_bind, if_pos rfl]
      exact ⟨_, rfl⟩
    · obtain ⟨i, hi, rfl⟩ := p_ir (x := x) (n := B.1.length) (fun e => c1 (Or.inl e)) (fun e => c1 (Or.inr ⟨fun e2 => c1 (Or.inl e2), e⟩)) (by omega)
      obtain ⟨u, hu⟩ : ∃ u, f_X7_isYear y = some u := by
        unfold f_X7_isYear
        split
        · exact ⟨_, rfl⟩
        · split <;> exact ⟨_, rfl⟩
      rw [c_hasF h hi, p_bind, if_neg (by decide), hu, p_bind, p_rd (by omega) (by decide), p_bind]
      split
      · exact ⟨_, rfl⟩
      · split <;> exact ⟨_, rfl⟩
  obtain ⟨v, hv⟩ := hI
  unfold f_X0_canClaim
  by_cases c0 : 40 ≤ g0_claims b
  · rw [if_pos c0]
    exact ⟨_, rfl⟩
  · rw [if_neg c0, hv, p_bind]
    by_cases c1 : v = 0
    · rw [if_pos c1]
      exact ⟨_, rfl⟩
    · rw [if_neg c1]
      have key := p_forI (body := fun (k : S0 × Int32 × Int32 × Int32 × Int32 → Option (Int32)) (z : S0 × Int32 × Int32 × Int32 × Int32) => f_X0_canClaim_p25 (fun s x1 x2 x3 x4 => k (s, x1, x2, x3, x4)) z.1 z.2.1 z.2.2.1 z.2.2.2.1 z.2.2.2.2) B.2.1.length (fun i s => ∃ n, s = (b, x, y, n, nI i)) (fun _ => True) (by omega) (fun i k s hi hI ih => ?_) (fun k s hI => ?_) 0 (b, x, y, 0, nI 0) (Nat.zero_le _) ⟨0, rfl⟩
      · obtain ⟨z, ez, -⟩ := key
        exact ⟨z, ez⟩
      · obtain ⟨n, rfl⟩ := hI
        have hO : ∃ u, f_X0_isOf b (nI i) x ((1 : Int32) <<< (y &&& 31)) = some u := by
          unfold f_X0_isOf
          rw [show f_X0_hasClaim b (nI i) = some 1 by
            unfold f_X0_hasClaim
            rw [if_neg (nI_pos (by omega)), h.2.2.1, if_neg (by rw [p_le (by omega) (by omega)]; omega), if_neg (by rw [show (40 : Int32) = nI 40 from rfl, p_le (by omega) (by omega)]; omega)], p_bind, if_neg (by decide), p_rd (by omega) (by decide), p_bind, p_bind]
          split
          · split <;> exact ⟨_, rfl⟩
          · exact ⟨_, rfl⟩
        obtain ⟨u, hu⟩ := hO
        dsimp only
        unfold f_X0_canClaim_p25
        rw [h.2.2.1, if_neg (by rw [p_le (by omega) (by omega)]; omega), hu, p_bind, nI_1]
        split
        · exact ih _ ⟨_, rfl⟩
        · exact ih _ ⟨_, rfl⟩
      · obtain ⟨n, rfl⟩ := hI
        dsimp only
        unfold f_X0_canClaim_p25
        rw [h.2.2.1, if_pos (by rw [p_le (by omega) (by omega)]; omega)]
        split
        · exact ⟨_, rfl, trivial⟩
        · exact ⟨_, rfl, trivial⟩
/-- behind a fault a claim's sentence goes on to its end -/
theorem k_claimF {t : S6} {T : List Nat} {f : Nat} (h : FT t T f) {b : S0} {B : Bk} (hb : rC b B) (hn : B.2.1.length < 40) (x y : Int32) : ∃ t1 b1, f_X6_readClaim_p36 t b x y = some (t1, b1) ∧ FT t1 T f := by
  obtain ⟨n, t1, e1, e2, -⟩ := k_numF h (lo := 1) (by decide) 99
  obtain ⟨w, b1, e3⟩ := c_addCT hb hn x y (nI n)
  unfold f_X6_readClaim_p36
  rw [show f_X6_readNumber t 1 99 = _ from e1, p_bind, e3, p_bind]
  exact ⟨t1, b1, rfl, e2⟩
def hiC (B : Bk) : Nat := B.2.1.length
theorem r_past {w : Nat → Int32} {B : Bk} (h : rM w B) {k : Nat} (hk : 20 + 3 * B.2.1.length ≤ k) (x : Int32) : rM (upd w k x) B := by
  obtain ⟨⟨a1, a2, a3, a4, a5⟩, h0, h1, h2, h3, h4, h5⟩ := h
  refine ⟨⟨a1, a2, a3, a4, a5⟩, ?_, ?_, ?_, ?_, fun i f hf => ?_, fun j c hc => ?_⟩
  · rw [u_at, if_neg (by omega)]; exact h0
  · rw [u_at, if_neg (by omega)]; exact h1
  · rw [u_at, if_neg (by omega)]; exact h2
  · rw [u_at, if_neg (by omega)]; exact h3
  · have := (List.getElem?_eq_some_iff.mp hf).1
    rw [u_at, if_neg (by omega), u_at, if_neg (by omega)]; exact h4 i f hf
  · have := (List.getElem?_eq_some_iff.mp hc).1
    rw [u_at, if_neg (by omega), u_at, if_neg (by omega), u_at, if_neg (by omega)]; exact h5 j c hc
theorem m_mayBe {s : S8} {B : Bk} (h : rM (g8_read s) B) {i y : Nat} {f : Nat × Nat} (hf : B.1[i]? = some f) (hy : y < 5) : f_X8_mayBeIn s (nI i) (nI y) = some (if f.2 / 2 ^ y % 2 = 1 ∧ cnt (ofFY i y) B.2.1 < 4 then 1 else 0) := by
  have w0 := h.1.2.1
  have w8 := h.1.1
  have hi := (List.getElem?_eq_some_iff.mp hf).1
  have hf2 := (h.1.2.2.1 f (List.mem_of_getElem? hf)).2
  have hle := cnt_le (ofFY i y) B.2.1
  have hloop : lp_X8_mayBeIn_p33 s (nI i) (nI y) 0 0 = some (if cnt (ofFY i y) B.2.1 < 4 then 1 else 0) := by
    unfold lp_X8_mayBeIn_p33
    refine p_for (body := fun (k : S8 × Int32 × Int32 × Int32 × Int32 → Option (Int32)) (z : S8 × Int32 × Int32 × Int32 × Int32) => f_X8_mayBeIn_p33 (fun s x1 x2 x3 x4 => k (s, x1, x2, x3, x4)) z.1 z.2.1 z.2.2.1 z.2.2.2.1 z.2.2.2.2) B.2.1.length (fun j => (s, nI i, nI y, nI (cnt (ofFY i y) (B.2.1.take j)), nI j)) _ (by omega) (fun j k hj ih => ?_) (fun k => ?_) 0 (Nat.zero_le _)
    · obtain ⟨c, hc, hcm⟩ := p_at hj
      have wc := h.1.2.2.2.1 c hcm
      have wc1 := wc.1
      have wc2 := wc.2.1
      have hr := h.2.2.2.2.2.2 j c hc
      dsimp only
      unfold f_X8_mayBeIn_p33
      rw [show x_rd 140 (g8_read s) 3 = some (nI B.2.1.length) from (p_rd (i := 3) (by decide) (by decide)).trans (congrArg some h.2.2.2.2.1), p_bind, if_neg (by rw [p_le (by omega) (by omega)]; omega), e21, e20, p_rd (by omega) (by decide), p_bind, hr.1, p_rd (by omega) (by decide), p_bind, hr.2.1, nI_1 j]
      by_cases q1 : c.1 = i
      · rw [if_pos (by rw [q1])]
        by_cases q2 : c.2.1 = y
        · rw [if_pos (by rw [q2])]
          rw [cnt_T _ hc (by simp [ofFY, q1, q2])] at ih
          exact ih
        · rw [if_neg (by rw [p_eq (by omega) (by omega)]; exact q2)]
          rw [cnt_F _ hc (by simp [ofFY, q2])] at ih
          exact ih
      · rw [if_neg (by rw [p_eq (by omega) (by omega)]; exact q1)]
        rw [cnt_F _ hc (by simp [ofFY, q1])] at ih
        exact ih
    · dsimp only
      unfold f_X8_mayBeIn_p33
      rw [show x_rd 140 (g8_read s) 3 = some (nI B.2.1.length) from (p_rd (i := 3) (by decide) (by decide)).trans (congrArg some h.2.2.2.2.1), p_bind, if_pos (by rw [p_le (by omega) (by omega)]; omega), cnt_all]
      by_cases q3 : cnt (ofFY i y) B.2.1 < 4
      · rw [if_neg (by rw [show (4 : Int32) = nI 4 from rfl, p_le (by omega) (by omega)]; omega), if_pos q3]
      · rw [if_pos (by rw [show (4 : Int32) = nI 4 from rfl, p_le (by omega) (by omega)]; omega), if_neg q3]
  unfold f_X8_mayBeIn
  rw [m_isYear hy, p_bind, if_neg (by decide), e5, p_rd (by omega) (by decide), p_bind, (h.2.2.2.2.2.1 i f hf).2, p_bitv (by omega) (by omega)]
  by_cases q1 : f.2 / 2 ^ y % 2 = 1
  · rw [q1, if_neg (by decide), hloop]
    congr 1
    by_cases q3 : cnt (ofFY i y) B.2.1 < 4
    · rw [if_pos q3, if_pos ⟨rfl, q3⟩]
    · rw [if_neg q3, if_neg (fun e => q3 e.2)]
  · rw [show f.2 / 2 ^ y % 2 = 0 by omega, if_pos (show nI 0 = 0 from rfl), if_neg (fun e => by cases e.1)]
