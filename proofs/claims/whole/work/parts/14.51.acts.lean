/-! PURE: the acts, one by one -/
theorem q10 : ((1 : Int32) = 0) = False := by decide
theorem q00 : ((0 : Int32) = 0) = True := by decide
abbrev bits (n : Nat) : Nat := n % 2 + n / 2 % 2 + n / 4 % 2 + n / 8 % 2 + n / 16 % 2
theorem c_bits : ∀ n, n < 32 → f_J6_bitCount_0f7a4 (nI n) = some (nI (bits n)) := by
  unfold f_J6_bitCount_0f7a4
  decide +kernel
theorem p_bitv {s y : Nat} (hs : s < 2 ^ 31) (hy : y < 32) : (nI s >>> (nI y &&& 31)) &&& (1 : Int32) = nI (s / 2 ^ y % 2) := by
  rw [p_shr hs hy, show (1 : Int32) = nI 1 from rfl, p_and (Nat.lt_of_le_of_lt (Nat.div_le_self _ _) hs) (by decide), Nat.and_one_is_mod]
def bitsTo (n : Nat) : Nat → Nat
  | 0 => 0
  | i + 1 => bitsTo n i + n / 2 ^ i % 2
theorem m_ones {n : Nat} (h : n < 32) : f_X8_ones (nI n) = some (nI (bits n)) := by
  unfold f_X8_ones lp_X8_ones_p4
  refine p_for 5 (fun i => (nI n, nI (bitsTo n i), nI i)) _ (by omega) (fun i k hi ih => ?_) (fun k => ?_) 0 (Nat.zero_le _)
  · dsimp only
    unfold f_X8_ones_p4
    rw [if_neg (by rw [show (5 : Int32) = nI 5 from rfl, p_le (by omega) (by omega)]; omega), p_bitv (by omega) (by omega), nI_add, nI_1]
    exact ih
  · dsimp only
    unfold f_X8_ones_p4
    rw [if_pos (by rw [show (5 : Int32) = nI 5 from rfl, p_le (by omega) (by omega)]; omega)]
    simp only [bitsTo]
    congr 2
    unfold bits
    simp
theorem op_steady {s : S7} {q : S8} (h : RR s q) (x : Int32) : ∃ r s' q', f_X7_steady s x = some (r, s') ∧ f_X8_steady q x = some (r, q') ∧ RR s' q' := by
  obtain ⟨g, hc, hm⟩ := id h
  have hb := hc.1
  have hw := hm.1
  have w1 := hb.1.2.2.2.2.2
  rcases p_ix x (n := 51) (by decide) with ⟨j, j1, rfl⟩ | hx
  · have n1 : ¬ nI j < 0 := nI_pos (by omega)
    have n2 : ¬ (50 : Int32) < nI j := by
      rw [show (50 : Int32) = nI 50 from rfl, p_lt (by omega) (by omega)]; omega
    have e7 := (show f_X7_steady s (nI j) = _ from (by unfold f_X7_steady; rw [if_neg n1, if_neg n2]))
    have e8 := (show f_X8_steady q (nI j) = _ from (by unfold f_X8_steady; exact p_yes (p_in1 n1 n2)))
    rw [hb.2.2.2.2.1] at e7
    rw [show x_rd 140 (g8_now q) 1 = some (nI g.1.2.2.2) from (p_rd (i := 1) (by decide) (by decide)).trans (congrArg some hw.2.2.1), p_bind] at e8
    by_cases e : j = g.1.2.2.2
    · rw [if_pos (by rw [e])] at e7 e8
      exact ⟨_, _, _, e7, e8, h⟩
    · rw [if_neg (by rw [p_eq (by omega) (by omega)]; exact e)] at e7 e8
      obtain ⟨p', e1, h1⟩ := c_keep hc.2.2.1 hb
      obtain ⟨bf, a, e2, h2⟩ := m_becomes hw hm.2.1 (k := 1) (by decide) (nI j)
      rw [e1, p_bind] at e7
      rw [show f_X8_becomes q 1 (nI j) = _ from e2, p_bind, hw.2.2.1] at e8
      refine ⟨_, _, _, e7, e8, R_act hc hm (B' := (g.1.1, g.1.2.1, g.1.2.2.1, j)) ?_ h1 ?_ h2 ?_⟩
      · obtain ⟨⟨a1, a2, a3, a4, a5, a6⟩, o1, o2, o3⟩ := hc.2.1
        exact ⟨⟨a1, a2, a3, a4, a5, by dsimp only; omega⟩, o1, o2, o3⟩
      · obtain ⟨⟨a1, a2, a3, a4, a5, a6⟩, o1, o2, o3, o4, o5, o6⟩ := hb
        exact ⟨⟨a1, a2, a3, a4, a5, by dsimp only; omega⟩, o1, o2, o3, rfl, o5, o6⟩
      · obtain ⟨⟨a1, a2, a3, a4, a5, a6⟩, o1, o2, o3, o4, o5, o6⟩ := hw
        refine ⟨⟨a1, a2, a3, a4, a5, by dsimp only; omega⟩, o1, rfl, o3, o4, fun i f hf => ?_, fun k c hk => ?_⟩
        · rw [u_at, u_at, if_neg (by omega), if_neg (by omega)]; exact o5 i f hf
        · rw [u_at, u_at, u_at, if_neg (by omega), if_neg (by omega), if_neg (by omega)]; exact o6 k c hk
  · have hx' : x < 0 ∨ (50 : Int32) < x := p_test (n := 51) (by decide) hx
    refine ⟨-1, s, q, ?_, (by unfold f_X8_steady; exact p_no (p_in0 hx')), h⟩
    unfold f_X7_steady
    rcases hx' with h' | h'
    · rw [if_pos h']
    · by_cases h0 : x < 0
      · rw [if_pos h0]
      · rw [if_neg h0, if_pos h']
/-- a new last fleet -/
theorem ok_addF {B : Bk} (h : okB B) (hn : B.1.length < 8) {c y : Nat} (hc : c < 3) (hy : y < 32) : okB (B.1 ++ [(c, y)], B.2) := by
  obtain ⟨⟨a1, a2, a3, a4, a5, a6⟩, o1, o2, o3⟩ := h
  refine ⟨⟨by simp; omega, a2, fun f hf => ?_, a4, a5, a6⟩, o1, fun k hk => ⟨(o2 k hk).1, ?_⟩, o3⟩
  · rcases List.mem_append.mp hf with h | h
    · exact a3 f h
    · rw [List.mem_singleton.mp h]; exact ⟨hc, hy⟩
  · obtain ⟨f, e, e'⟩ := (o2 k hk).2
    exact ⟨f, by rw [← e]; exact List.getElem?_append_left (List.getElem?_eq_some_iff.mp e).1, e'⟩
theorem op_fleet {s : S7} {q : S8} (h : RR s q) (x y : Int32) : ∃ r s' q', f_X7_fleet s x y = some (r, s') ∧ f_X8_fleet q x y = some (r, q') ∧ RR s' q' := by
  obtain ⟨g, hc, hm⟩ := id h
  have hb := hc.1
  have hw := hm.1
  have w1 := hb.1.1
  rcases p_ix x (n := 3) (by decide) with ⟨c, c1, rfl⟩ | hx
  · have e7 := (show f_X7_fleet s (nI c) y = _ from (by unfold f_X7_fleet; exact p_yes (c_isClass c1)))
    have e8 := (show f_X8_fleet q (nI c) y = _ from (by unfold f_X8_fleet; exact p_yes (m_isClass c1)))
    rcases p_ix y (n := 32) (by decide) with ⟨j, j1, rfl⟩ | hy
    · have n1 : ¬ nI j < 0 := nI_pos (by omega)
      have n2 : ¬ (31 : Int32) < nI j := by
        rw [show (31 : Int32) = nI 31 from rfl, p_lt (by omega) (by omega)]; omega
      rw [if_neg n1, if_neg n2, hb.2.1] at e7
      rw [p_yes (p_in1 n1 n2), m_many hw, p_bind] at e8
      have l8 : (nI g.1.1.length < 8) = (g.1.1.length < 8) := p_lt (b := 8) (by omega) (by omega)
      have q8 : (nI g.1.1.length = 8) = (g.1.1.length = 8) := p_eq (b := 8) (by omega) (by omega)
      by_cases e : g.1.1.length = 8
      · rw [if_neg (by rw [l8]; omega)] at e7
        rw [if_pos (by rw [q8]; exact e)] at e8
        exact ⟨_, _, _, e7, e8, h⟩
      · obtain ⟨p', e1, h1⟩ := c_keep hc.2.2.1 hb
        obtain ⟨b', e2, h2⟩ := c_addFleet hb (by omega) c1 j1
        obtain ⟨bf, a, e3, h3⟩ := m_keeps hw hm.2.1
        have h4 := r_addF hw (by omega) c1 j1
        rw [if_pos (by rw [l8]; omega), e1, p_bind, e2, p_bind] at e7
        have mm : ∀ (s : S8) {n : Nat}, g8_now s 2 = nI n → f_X8_many s = some (nI n) := fun s n hn => by
          unfold f_X8_many
          rw [show x_rd 140 (g8_now s) 2 = _ from p_rd (i := 2) (n := 140) (by decide) (by decide), hn]; rfl
        rw [if_neg (by rw [q8]; exact e), e3, p_bind, mm (u8_acts (u8_before q bf) a) hw.2.2.2.1, p_bind, e4, p_wr (by omega) (by decide), p_bind, mm _ (n := g.1.1.length) (by show upd _ _ _ 2 = _; rw [u_at, if_neg (by omega)]; exact hw.2.2.2.1), p_bind, e5, p_wr (by omega) (by decide), p_bind, show x_rd 140 _ 2 = some (nI g.1.1.length) from (p_rd (i := 2) (by decide) (by decide)).trans (congrArg some (by rw [u_at, u_at, if_neg (by omega), if_neg (by omega)]; exact hw.2.2.2.1)), p_bind, nI_1, show x_wr 140 _ 2 _ = _ from p_wr (i := 2) (by decide) (by decide), p_bind, mm _ (n := g.1.1.length + 1) (by rfl), p_bind, m1 (by omega)] at e8
        exact ⟨_, _, _, e7, e8, R_act hc hm (ok_addF hc.2.1 (by omega) c1 j1) h1 h2 h3 h4⟩
    · have hy' : y < 0 ∨ (31 : Int32) < y := p_test (n := 32) (by decide) hy
      rw [p_no (p_in0 hy')] at e8
      refine ⟨_, _, _, ?_, e8, h⟩
      rw [e7]
      rcases hy' with h' | h'
      · rw [if_pos h']
      · by_cases h0 : y < 0
        · rw [if_pos h0]
        · rw [if_neg h0, if_pos h']
  · exact ⟨_, _, _, (by unfold f_X7_fleet; exact p_no (c_isClass0 hx)), (by unfold f_X8_fleet; exact p_no (m_isClass0 hx)), h⟩
