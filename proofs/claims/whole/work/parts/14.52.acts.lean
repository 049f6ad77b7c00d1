/-! PURE: acts on a fleet or a claim -/
theorem ok_sub {B : Bk} (h : okB B) {l : List Cm} (hl : l.Sublist B.2.1) : okB (B.1, l, B.2.2) := by
  obtain ⟨⟨a1, a2, a3, a4, a5, a6⟩, o1, o2, o3⟩ := h
  refine ⟨⟨a1, Nat.le_trans hl.length_le a2, a3, fun c hc => a4 c (hl.subset hc), a5, a6⟩, o1, fun c hc => o2 c (hl.subset hc), fun f y => Nat.le_trans ?_ (o3 f y)⟩
  exact (hl.filter _).length_le
theorem ok_set {B : Bk} (h : okB B) {i v y : Nat} (hv : v < 3) (hy : y < 32) (hc : ∀ c ∈ B.2.1, c.1 = i → y / 2 ^ c.2.1 % 2 = 1) : okB (B.1.set i (v, y), B.2) := by
  obtain ⟨⟨a1, a2, a3, a4, a5, a6⟩, o1, o2, o3⟩ := h
  refine ⟨⟨by simpa using a1, a2, fun f hf => ?_, a4, a5, a6⟩, o1, fun k hk => ⟨(o2 k hk).1, ?_⟩, o3⟩
  · rcases p_setmem hf with h | h
    · exact a3 f h
    · rw [h]; exact ⟨hv, hy⟩
  · obtain ⟨f, e, e'⟩ := (o2 k hk).2
    by_cases q : k.1 = i
    · refine ⟨(v, y), ?_, hc k hk q⟩
      have := (List.getElem?_eq_some_iff.mp e).1
      rw [q] at this
      rw [q, List.getElem?_set_self this]
    · exact ⟨f, by rw [← e]; exact List.getElem?_set_ne (Ne.symm q), e'⟩
theorem cnt_map {α β : Type} (p : β → Bool) (m : α → β) (l : List α) : cnt p (l.map m) = cnt (fun a => p (m a)) l := by
  unfold cnt
  rw [List.filter_map, List.length_map]
  rfl
theorem cnt_set {α : Type} (p : α → Bool) {l : List α} {j : Nat} {c x : α} (hc : l[j]? = some c) (hp : p x = p c) : cnt p (l.set j x) = cnt p l := by
  unfold cnt
  induction l generalizing j with
  | nil => rfl
  | cons a l ih =>
    cases j with
    | zero =>
      have : a = c := by simpa using hc
      subst this
      rw [List.set_cons_zero, List.filter_cons, List.filter_cons, hp]
      cases p a <;> rfl
    | succ j =>
      have e := ih (j := j) (by simpa using hc)
      rw [List.set_cons_succ, List.filter_cons, List.filter_cons]
      cases p a
      · exact e
      · exact congrArg (· + 1) e
theorem ok_amount {B : Bk} (h : okB B) {j a : Nat} {c : Cm} (hc : B.2.1[j]? = some c) (h1 : 1 ≤ a) (h2 : a ≤ 99) : okB (B.1, B.2.1.set j (c.1, c.2.1, a), B.2.2) := by
  obtain ⟨⟨a1, a2, a3, a4, a5, a6⟩, o1, o2, o3⟩ := h
  have hcm := List.mem_of_getElem? hc
  refine ⟨⟨a1, by simpa using a2, a3, fun k hk => ?_, a5, a6⟩, o1, fun k hk => ?_, fun f y => ?_⟩
  · rcases p_setmem hk with h | h
    · exact a4 k h
    · rw [h]; exact ⟨(a4 c hcm).1, (a4 c hcm).2.1, by dsimp only; omega⟩
  · rcases p_setmem hk with h | h
    · exact o2 k h
    · rw [h]; exact ⟨⟨h1, h2⟩, (o2 c hcm).2⟩
  · exact Nat.le_trans (Nat.le_of_eq (cnt_set _ (x := (c.1, c.2.1, a)) hc rfl)) (o3 f y)
theorem c_isInsured {b : S0} {B : Bk} (h : rC b B) {i y : Nat} {f : Nat × Nat} (hf : B.1[i]? = some f) (hy : y < 5) : f_X0_isInsured b (nI i) (nI y) = some (if f.2 / 2 ^ y % 2 = 1 then 1 else 0) := by
  have hi := (List.getElem?_eq_some_iff.mp hf).1
  have h8 := h.1.1
  have hf2 := (h.1.2.2.1 f (List.mem_of_getElem? hf)).2
  unfold f_X0_isInsured
  rw [p_yes (c_hasF h hi), p_yes (c_isYear hy), p_rd (by omega) (by decide), p_bind, (h.2.2.2.2.2.1 i f hf).2]
  by_cases q : f.2 / 2 ^ y % 2 = 1
  · rw [if_pos ((p_bit (by omega) (by omega)).mpr q), if_pos q]
  · rw [if_neg (fun e => q ((p_bit (by omega) (by omega)).mp e)), if_neg q]
theorem op_move {s : S7} {q : S8} (h : RR s q) (x y : Int32) : ∃ r s' q', f_X7_move s x y = some (r, s') ∧ f_X8_move q x y = some (r, q') ∧ RR s' q' := by
  obtain ⟨g, hc, hm⟩ := id h
  have hb := hc.1
  have hw := hm.1
  have w1 := hb.1.1
  rcases p_ix x (n := g.1.1.length) (by omega) with ⟨i, i1, rfl⟩ | hx
  · have e7 := (show f_X7_move s (nI i) y = _ from (by unfold f_X7_move; exact p_yes (c_hasF hb i1)))
    have e8 := (show f_X8_move q (nI i) y = _ from (by unfold f_X8_move; exact p_yes (m_isFleet hw i1)))
    obtain ⟨f, hf, hfm⟩ := p_at i1
    have hf3 := hb.1.2.2.1 f hfm
    rcases p_ix y (n := 3) (by decide) with ⟨c, c1, rfl⟩ | hy
    · rw [p_yes (c_isClass c1), c_classOf hb hf, p_bind] at e7
      rw [p_yes (m_isClass c1), m_classOf hw hf, p_bind] at e8
      by_cases e : f.1 = c
      · rw [if_pos (by rw [e])] at e7 e8
        exact ⟨_, _, _, e7, e8, h⟩
      · rw [if_neg (by rw [p_eq (by omega) (by omega)]; exact e)] at e7 e8
        obtain ⟨p', e1, h1⟩ := c_keep hc.2.2.1 hb
        obtain ⟨b', e2, h2⟩ := c_putClass hb hf c1
        obtain ⟨bf, a, e3, h3⟩ := m_becomes hw hm.2.1 (k := 4 + 2 * i) (by omega) (nI c)
        rw [e1, p_bind, p_bind, e2, p_bind] at e7
        rw [e4, e3, p_bind, (hw.2.2.2.2.2.1 i f hf).1] at e8
        refine ⟨_, _, _, e7, e8, R_act hc hm (ok_set hc.2.1 c1 hf3.2 (fun k hk ek => ?_)) h1 h2 h3 (r_class hw hf c1)⟩
        obtain ⟨f', e5, e6⟩ := (hc.2.1.2.2.1 k hk).2
        rw [ek, hf] at e5
        rw [Option.some.inj e5]
        exact e6
    · exact ⟨_, _, _, e7.trans (p_no (c_isClass0 hy)), e8.trans (p_no (m_isClass0 hy)), h⟩
  · exact ⟨_, _, _, (by unfold f_X7_move; exact p_no (c_hasF0 hb hx)), (by unfold f_X8_move; exact p_no (m_isFleet0 hw hx)), h⟩
theorem op_amend {s : S7} {q : S8} (h : RR s q) (x y : Int32) : ∃ r s' q', f_X7_amend s x y = some (r, s') ∧ f_X8_amend q x y = some (r, q') ∧ RR s' q' := by
  obtain ⟨g, hc, hm⟩ := id h
  have hb := hc.1
  have hw := hm.1
  have w1 := hb.1.2.1
  rcases p_ix x (n := g.1.2.1.length) (by omega) with ⟨i, i1, rfl⟩ | hx
  · have e7 := (show f_X7_amend s (nI i) y = _ from (by unfold f_X7_amend; exact p_yes (c_hasC hb i1)))
    have e8 := (show f_X8_amend q (nI i) y = _ from (by unfold f_X8_amend; exact p_yes (m_isClaim hw i1)))
    obtain ⟨f, hf, hfm⟩ := p_at i1
    have hf3 := (hb.1.2.2.2.1 f hfm).2.2
    rcases p_amount y with ⟨c, c1, c2, rfl⟩ | hy
    · rw [p_yes (c_isAmount c1 c2), c_amountOf hb hf, p_bind] at e7
      rw [p_yes (m_isAmount c1 c2), m_amountOf hw hf, p_bind] at e8
      by_cases e : f.2.2 = c
      · rw [if_pos (by rw [e])] at e7 e8
        exact ⟨_, _, _, e7, e8, h⟩
      · rw [if_neg (by rw [p_eq (by omega) (by omega)]; exact e)] at e7 e8
        obtain ⟨p', e1, h1⟩ := c_keep hc.2.2.1 hb
        obtain ⟨b', e2, h2⟩ := c_putAmount hb hf (a := c) (by omega)
        obtain ⟨bf, a, e3, h3⟩ := m_becomes hw hm.2.1 (k := 22 + 3 * i) (by omega) (nI c)
        rw [e1, p_bind, p_bind, e2, p_bind] at e7
        rw [e22, e3, p_bind, (hw.2.2.2.2.2.2 i f hf).2.2] at e8
        exact ⟨_, _, _, e7, e8, R_act hc hm (ok_amount hc.2.1 hf c1 c2) h1 h2 h3 (r_ca hw hf (by omega))⟩
    · exact ⟨_, _, _, e7.trans (p_no (c_isAmount0 hy)), e8.trans (p_no (m_isAmount0 hy)), h⟩
  · exact ⟨_, _, _, (by unfold f_X7_amend; exact p_no (c_hasC0 hb hx)), (by unfold f_X8_amend; exact p_no (m_isClaim0 hw hx)), h⟩
theorem op_waive {s : S7} {q : S8} (h : RR s q) (x : Int32) : ∃ r s' q', f_X7_waive s x = some (r, s') ∧ f_X8_waive q x = some (r, q') ∧ RR s' q' := by
  obtain ⟨g, hc, hm⟩ := id h
  have hb := hc.1
  have hw := hm.1
  have w1 := hb.1.2.1
  rcases p_ix x (n := g.1.2.1.length) (by omega) with ⟨i, i1, rfl⟩ | hx
  · have e7 := (show f_X7_waive s (nI i) = _ from (by unfold f_X7_waive; exact p_yes (c_hasC hb i1)))
    have e8 := (show f_X8_waive q (nI i) = _ from (by unfold f_X8_waive; exact p_yes (m_isClaim hw i1)))
    obtain ⟨p', e1, h1⟩ := c_keep hc.2.2.1 hb
    obtain ⟨b', e2, h2⟩ := c_dropClaim hb i1
    obtain ⟨bf, a, e3, h3⟩ := m_keeps hw hm.2.1
    obtain ⟨w, e4, h4⟩ := m_drops (s := u8_acts (u8_before q bf) a) hw i1
    rw [e1, p_bind, e2, p_bind] at e7
    rw [e3, p_bind, e4, p_bind] at e8
    exact ⟨_, _, _, e7, e8, R_act hc hm (ok_sub hc.2.1 (List.eraseIdx_sublist _ _)) h1 h2 h3 h4⟩
  · exact ⟨_, _, _, (by unfold f_X7_waive; exact p_no (c_hasC0 hb hx)), (by unfold f_X8_waive; exact p_no (m_isClaim0 hw hx)), h⟩
