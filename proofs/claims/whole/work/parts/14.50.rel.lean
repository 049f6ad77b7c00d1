/-! PURE: the state of both, and the first acts -/
abbrev Sg : Type := Bk × List Bk × List Nat
/-- what holds of a book between calls -/
def okB (B : Bk) : Prop := wf B ∧ 1 ≤ B.2.2.1 ∧ (∀ c ∈ B.2.1, (1 ≤ c.2.2 ∧ c.2.2 ≤ 99) ∧ ∃ f : Nat × Nat, B.1[c.1]? = some f ∧ f.2 / 2 ^ c.2.1 % 2 = 1) ∧ ∀ f y : Nat, cnt (fun c : Cm => decide (c.1 = f) && decide (c.2.1 = y)) B.2.1 ≤ 4
def RC (s : S7) (g : Sg) : Prop := rC (g7_book s) g.1 ∧ okB g.1 ∧ rP (g7_past s) g.2.1 ∧ (∀ B ∈ g.2.1, okB B) ∧ rT (g7_tape s) g.2.2
def RM (q : S8) (g : Sg) : Prop := rM (g8_now q) g.1 ∧ rH (g8_before q) (g8_acts q) g.2.1 ∧ rU (g8_tape q) (g8_taped q) g.2.2 ∧ g8_words q = x_words
def RR (s : S7) (q : S8) : Prop := ∃ g : Sg, RC s g ∧ RM q g
/-- an act: both keep the book, both have the new one -/
theorem R_act {s : S7} {q : S8} {g : Sg} (hc : RC s g) (hm : RM q g) {B' : Bk} (hB : okB B') {p' : S2} {b' : S0} (hp : rP p' ((g.1 :: g.2.1).take 12)) (hb : rC b' B') {bf : Nat → Int32} {a : Int32} {w : Nat → Int32} (hh : rH bf a ((g.1 :: g.2.1).take 12)) (hw : rM w B') : RR (u7_book (u7_past s p') b') (u8_now (u8_acts (u8_before q bf) a) w) := by
  refine ⟨(B', (g.1 :: g.2.1).take 12, g.2.2), ⟨hb, hB, hp, fun B hBm => ?_, hc.2.2.2.2⟩, ⟨hw, hh, hm.2.2.1, hm.2.2.2⟩⟩
  rcases List.mem_cons.mp (List.mem_of_mem_take hBm) with rfl | h
  · exact hc.2.1
  · exact hc.2.2.2.1 B h
theorem nI_m1 {n : Nat} (h : n < 2 ^ 31) : ¬ nI n = -1 := fun e => by
  have := nI_pos h
  rw [e] at this
  exact this (by decide)
theorem p_yes {α : Type} {m : Option Int32} {a : Option α} {k : Int32 → Option α} (h : m = some 1) : Option.bind m (fun v => if v = 0 then a else k v) = k 1 := by
  rw [h, p_bind, if_neg (by decide)]
theorem p_no {α : Type} {m : Option Int32} {a : Option α} {k : Int32 → Option α} (h : m = some 0) : Option.bind m (fun v => if v = 0 then a else k v) = a := by
  rw [h, p_bind, if_pos rfl]
theorem m_becomes {q : S8} {B : Bk} {hs : List Bk} (h : rM (g8_now q) B) (hh : rH (g8_before q) (g8_acts q) hs) {k : Nat} (hk : k < 140) (x : Int32) : ∃ bf a, f_X8_becomes q (nI k) x = some (g8_now q k, u8_now (u8_acts (u8_before q bf) a) (upd (g8_now q) k x)) ∧ rH bf a ((B :: hs).take 12) := by
  obtain ⟨bf, a, e2, h2⟩ := m_keeps h hh
  refine ⟨bf, a, ?_, h2⟩
  unfold f_X8_becomes
  rw [e2]
  simp only [p_bind, p_rd hk (by decide : 140 < 2 ^ 31), p_wr hk (by decide : 140 < 2 ^ 31)]
  rfl
theorem op_cap {s : S7} {q : S8} (h : RR s q) (x : Int32) : ∃ r s' q', f_X7_cap s x = some (r, s') ∧ f_X8_cap q x = some (r, q') ∧ RR s' q' := by
  obtain ⟨g, hc, hm⟩ := id h
  rcases p_amount x with ⟨j, j1, j2, rfl⟩ | hx
  · have hb := hc.1
    have hw := hm.1
    have w1 := hb.1.2.2.2.2.1
    have e7 := (show f_X7_cap s (nI j) = _ from (by unfold f_X7_cap; exact p_yes (c_isAmount j1 j2)))
    have e8 := (show f_X8_cap q (nI j) = _ from (by unfold f_X8_cap; exact p_yes (m_isAmount j1 j2)))
    rw [hb.2.2.2.1] at e7
    rw [show x_rd 140 (g8_now q) 0 = some (nI g.1.2.2.1) from (p_rd (i := 0) (by decide) (by decide)).trans (congrArg some hw.2.1), p_bind] at e8
    by_cases e : j = g.1.2.2.1
    · rw [if_pos (by rw [e])] at e7 e8
      exact ⟨_, _, _, e7, e8, h⟩
    · rw [if_neg (by rw [p_eq (by omega) (by omega)]; exact e)] at e7 e8
      obtain ⟨p', e1, h1⟩ := c_keep hc.2.2.1 hb
      obtain ⟨bf, a, e2, h2⟩ := m_becomes hw hm.2.1 (k := 0) (by decide) (nI j)
      rw [e1, p_bind] at e7
      rw [show f_X8_becomes q 0 (nI j) = _ from e2, p_bind, hw.2.1] at e8
      refine ⟨_, _, _, e7, e8, R_act hc hm (B' := (g.1.1, g.1.2.1, j, g.1.2.2.2)) ?_ h1 ?_ h2 ?_⟩
      · obtain ⟨⟨a1, a2, a3, a4, a5, a6⟩, o1, o2, o3⟩ := hc.2.1
        exact ⟨⟨a1, a2, a3, a4, by dsimp only; omega, a6⟩, j1, o2, o3⟩
      · obtain ⟨⟨a1, a2, a3, a4, a5, a6⟩, o1, o2, o3, o4, o5, o6⟩ := hb
        exact ⟨⟨a1, a2, a3, a4, by dsimp only; omega, a6⟩, o1, o2, rfl, o4, o5, o6⟩
      · obtain ⟨⟨a1, a2, a3, a4, a5, a6⟩, o1, o2, o3, o4, o5, o6⟩ := hw
        refine ⟨⟨a1, a2, a3, a4, by dsimp only; omega, a6⟩, rfl, o2, o3, o4, fun i f hf => ?_, fun k c hk => ?_⟩
        · rw [u_at, u_at, if_neg (by omega), if_neg (by omega)]; exact o5 i f hf
        · rw [u_at, u_at, u_at, if_neg (by omega), if_neg (by omega), if_neg (by omega)]; exact o6 k c hk
  · exact ⟨_, _, _, (by unfold f_X7_cap; exact p_no (c_isAmount0 hx)), (by unfold f_X8_cap; exact p_no (m_isAmount0 hx)), h⟩
