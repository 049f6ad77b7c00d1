/-! PURE: the state of both, and the first acts -/
abbrev Sg : Type := Bk × List Bk × List Nat
/-- what holds of a book between calls -/
def okB (B : Bk) : Prop := wf B ∧ 1 ≤ B.2.2.1 ∧ (∀ c ∈ B.2.1, (1 ≤ c.2.2 ∧ c.2.2 ≤ 99) ∧ ∃ f : Nat × Nat, B.1[c.1]? = some f ∧ f.2 / 2 ^ c.2.1 % 2 = 1) ∧ ∀ f y : Nat, cnt (fun c : Cm => decide (c.1 = f) && decide (c.2.1 = y)) B.2.1 ≤ 4
def RC (s : S7) (g : Sg) : Prop := rC (g7_book s) g.1 ∧ okB g.1 ∧ rP (g7_past s) g.2.1 ∧ (∀ B ∈ g.2.1, okB B) ∧ rT (g7_tape s) g.2.2
def RM (q : S8) (g : Sg) : Prop := rM (g8_now q) g.1 ∧ rH (g8_before q) (g8_acts q) g.2.1 ∧ rU (g8_tape q) (g8_taped q) g.2.2 ∧ g8_words q = x_words
def RR (s : S7) (q : S8) : Prop := ∃ g : Sg, RC s g ∧ RM q g
/-- an act: both keep the book, both have the new one -/
theorem R_act {s : S7} {q : S8} {g : Sg} (hc : RC s g) (hm : RM q g) {B' : Bk} (hB : okB B') {p' : S2} {b' : S0} (hp : rP p' ((g.1 :: g.2.1).take 12)) (hb : rC b' B') {bf : Nat → Int32} {a : Int32} {w : Nat → Int32} (hh : rH bf a ((g.1 :: g.2.1).take 12)) (hw : rM w B') : RR (u7_book (u7_past s p') b') (u8_now (u8_acts (u8_before q bf) a) w) := by
  refine ⟨(B', (g.1 :: g.2.1).take 12, g.2.2), ⟨hb, hB, hp, fun B hBm => ?_, hc.2.2.2.2⟩, ⟨hw, hh, hm.2.2.1, hm.2.2.2⟩⟩
  rcases List.mem_cons.mp (List.mem_of_mem_take hBm) with rfl | h
  · exact hc.2.1
  · exact hc.2.2.2.1 B h
theorem nI_m1 {n : Nat} (h : n < 2 ^ 31) : ¬ nI n = -1 := fun e => by
  have := nI_pos h
  rw [e] at this
  exact this (by decide)
theorem op_cap {s : S7} {q : S8} (h : RR s q) (x : Int32) : ∃ r s' q', f_X7_cap s x = some (r, s') ∧ f_X8_cap q x = some (r, q') ∧ RR s' q' := by
  obtain ⟨g, hc, hm⟩ := id h
  unfold f_X7_cap f_X8_cap
  rcases p_amount x with ⟨j, j1, j2, rfl⟩ | hx
  · have hb := hc.1
    have hw := hm.1
    have w1 := hb.1.2.2.2.2.1
    rw [c_isAmount j1 j2, p_bind, if_neg (by decide), m_isAmount j1 j2, p_bind, if_neg (by decide), hb.2.2.2.1, show (0 : Int32) = nI 0 from rfl, p_rd (by omega) (by omega), p_bind, hw.2.1]
    by_cases e : j = g.1.2.2.1
    · rw [if_pos (by rw [e]), if_pos (by rw [e])]
      exact ⟨_, _, _, rfl, rfl, h⟩
    · rw [if_neg (by rw [p_eq (by omega) (by omega)]; exact e), if_neg (by rw [p_eq (by omega) (by omega)]; exact e)]
      obtain ⟨p', e1, h1⟩ := c_keep hc.2.2.1 hb
      obtain ⟨bf, a, e2, h2⟩ := m_keeps hw hm.2.1
      unfold f_X8_becomes
      rw [e1, p_bind, e2, p_bind, p_rd (by omega) (by omega), p_bind, p_wr (by omega) (by omega), p_bind, p_bind]
      rw [show g8_now (u8_acts (u8_before q bf) a) = g8_now q from rfl, hw.2.1]
      refine ⟨_, _, _, rfl, rfl, R_act hc hm (B' := (g.1.1, g.1.2.1, j, g.1.2.2.2)) ?_ h1 ?_ h2 ?_⟩
      · obtain ⟨⟨a1, a2, a3, a4, a5, a6⟩, o1, o2, o3⟩ := hc.2.1
        exact ⟨⟨a1, a2, a3, a4, by dsimp only; omega, a6⟩, j1, o2, o3⟩
      · obtain ⟨⟨a1, a2, a3, a4, a5, a6⟩, o1, o2, o3, o4, o5, o6⟩ := hb
        exact ⟨⟨a1, a2, a3, a4, by dsimp only; omega, a6⟩, o1, o2, rfl, o4, o5, o6⟩
      · obtain ⟨⟨a1, a2, a3, a4, a5, a6⟩, o1, o2, o3, o4, o5, o6⟩ := hw
        refine ⟨⟨a1, a2, a3, a4, by dsimp only; omega, a6⟩, rfl, o2, o3, o4, fun i f hf => ?_, fun k c hk => ?_⟩
        · rw [u_at, u_at, if_neg (by omega), if_neg (by omega)]; exact o5 i f hf
        · rw [u_at, u_at, u_at, if_neg (by omega), if_neg (by omega), if_neg (by omega)]; exact o6 k c hk
  · rw [c_isAmount0 hx, p_bind, if_pos rfl, m_isAmount0 hx, p_bind, if_pos rfl]
    exact ⟨_, _, _, rfl, rfl, h⟩
