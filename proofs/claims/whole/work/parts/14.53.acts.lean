/-! PURE: acts on years -/
theorem p_orY : ∀ a, a < 32 → ∀ y, y < 5 → ((a ||| 2 ^ y) < 32 ∧ ∀ k, k < 5 → a / 2 ^ k % 2 = 1 → (a ||| 2 ^ y) / 2 ^ k % 2 = 1) := by decide +kernel
theorem p_pow5 : ∀ y, y < 5 → (2 ^ y < 32 ∧ ∀ k, k < 5 → (2 ^ y / 2 ^ k % 2 = 1 ↔ k = y)) := by decide
theorem p_notY0 : ∀ a, a < 32 → ∀ y, y < 5 → ∀ k, k < 5 → (k = y ∨ notIn a (2 ^ y) / 2 ^ k % 2 = a / 2 ^ k % 2) := by
  unfold notIn
  decide +kernel
theorem p_notY (a : Nat) (ha : a < 32) (y : Nat) (hy : y < 5) (k : Nat) (hk : k < 5) (h : a / 2 ^ k % 2 = 1) (hn : ¬ k = y) : notIn a (2 ^ y) / 2 ^ k % 2 = 1 := by
  rcases p_notY0 a ha y hy k hk with h' | h'
  · exact absurd h' hn
  · rw [h', h]
theorem p_1sh {y : Nat} (hy : y < 5) : (1 : Int32) <<< (nI y &&& 31) = nI (2 ^ y) := by
  rw [show (1 : Int32) = nI 1 from rfl, p_shl (by have := (p_pow5 y hy).1; omega) (by omega), Nat.one_mul]
theorem set_at {α : Type} {l : List α} {i : Nat} {a x : α} (h : l[i]? = some a) : (l.set i x)[i]? = some x := List.getElem?_set_self (List.getElem?_eq_some_iff.mp h).1
theorem ok_bit {B : Bk} (h : okB B) {c : Cm} (hc : c ∈ B.2.1) {i : Nat} {f : Nat × Nat} (hf : B.1[i]? = some f) (e : c.1 = i) : f.2 / 2 ^ c.2.1 % 2 = 1 := by
  obtain ⟨f', e5, e6⟩ := (h.2.2.1 c hc).2
  rw [e, hf] at e5
  rw [Option.some.inj e5]
  exact e6
theorem op_insure {s : S7} {q : S8} (h : RR s q) (x y : Int32) : ∃ r s' q', f_X7_insure s x y = some (r, s') ∧ f_X8_insure q x y = some (r, q') ∧ RR s' q' := by
  obtain ⟨g, hc, hm⟩ := id h
  have hb := hc.1
  have hw := hm.1
  have w1 := hb.1.1
  rcases p_ix x (n := g.1.1.length) (by omega) with ⟨i, i1, rfl⟩ | hx
  · have e7 := (show f_X7_insure s (nI i) y = _ from (by unfold f_X7_insure; exact p_yes (c_hasF hb i1)))
    have e8 := (show f_X8_insure q (nI i) y = _ from (by unfold f_X8_insure; exact p_yes (m_isFleet hw i1)))
    obtain ⟨f, hf, hfm⟩ := p_at i1
    have hf3 := hb.1.2.2.1 f hfm
    rcases p_ix y (n := 5) (by decide) with ⟨j, j1, rfl⟩ | hy
    · rw [p_yes (c_isYear j1), c_isInsured hb hf j1, p_bind] at e7
      rw [p_yes (m_isYear j1), m_isInsured hw hf j1, p_bind] at e8
      by_cases e : f.2 / 2 ^ j % 2 = 1
      · rw [if_pos e, if_neg (by decide)] at e7 e8
        exact ⟨_, _, _, e7, e8, h⟩
      · rw [if_neg e, if_pos rfl] at e7 e8
        have o := p_orY f.2 hf3.2 j j1
        obtain ⟨p', e1, h1⟩ := c_keep hc.2.2.1 hb
        obtain ⟨b', e2, h2⟩ := c_putYears hb hf (v := f.2 ||| 2 ^ j) o.1
        obtain ⟨bf, a, e3, h3⟩ := m_keeps hw hm.2.1
        have h4 := r_years hw hf (v := f.2 ||| 2 ^ j) o.1
        have p5 := (p_pow5 j j1).1
        rw [e1, p_bind, c_yearsOf hb hf, p_bind, p_1sh j1, p_or (by omega) (by omega), e2, p_bind, c_yearsOf h2 (set_at hf), p_bind, c_bits _ o.1, p_bind] at e7
        rw [e3, p_bind, e5, show x_rd 140 (g8_now (u8_acts (u8_before q bf) a)) (nI (5 + 2 * i)) = some (nI f.2) from (p_rd (by omega) (by decide)).trans (congrArg some (hw.2.2.2.2.2.1 i f hf).2), p_bind, p_1sh j1, p_or (by omega) (by omega), p_wr (by omega) (by decide), p_bind, show g8_now (u8_acts (u8_before q bf) a) = g8_now q from rfl, m_yearsOf (s := u8_now (u8_acts (u8_before q bf) a) (upd (g8_now q) (5 + 2 * i) (nI (f.2 ||| 2 ^ j)))) h4 (set_at hf), p_bind, m_ones o.1, p_bind] at e8
        exact ⟨_, _, _, e7, e8, R_act hc hm (ok_set hc.2.1 hf3.1 o.1 (fun k hk ek => o.2 _ (hb.1.2.2.2.1 k hk).2.1 (ok_bit hc.2.1 hk hf ek))) h1 h2 h3 h4⟩
    · exact ⟨_, _, _, e7.trans (p_no (c_isYear0 hy)), e8.trans (p_no (m_isYear0 hy)), h⟩
  · exact ⟨_, _, _, (by unfold f_X7_insure; exact p_no (c_hasF0 hb hx)), (by unfold f_X8_insure; exact p_no (m_isFleet0 hw hx)), h⟩
theorem cnt_mono {α : Type} {p q : α → Bool} {l : List α} (h : ∀ a ∈ l, p a = true → q a = true) : cnt p l ≤ cnt q l := by
  unfold cnt
  induction l with
  | nil => exact Nat.le_refl _
  | cons a l ih =>
    have i := ih (fun b hb => h b (List.mem_cons_of_mem _ hb))
    have ha := h a (List.mem_cons_self)
    rw [List.filter_cons, List.filter_cons]
    cases e1 : p a <;> cases e2 : q a <;> simp [e1, e2] at ha ⊢ <;> omega
theorem ok_erase {B : Bk} (h : okB B) {f : Nat} {l : List Cm} (hl : ∀ c ∈ l, c.1 ≠ f) (ho : okB (B.1, l, B.2.2)) : okB (B.1.eraseIdx f, l.map (gapC f), B.2.2) := by
  obtain ⟨⟨a1, a2, a3, a4, a5, a6⟩, o1, o2, o3⟩ := ho
  refine ⟨⟨Nat.le_trans (List.length_eraseIdx_le _ _) a1, by simpa using a2, fun k hk => a3 k (List.mem_of_mem_eraseIdx hk), fun k hk => ?_, a5, a6⟩, o1, fun k hk => ?_, fun k y => ?_⟩
  · obtain ⟨c, hc, rfl⟩ := List.mem_map.mp hk
    have := a4 c hc
    unfold gapC
    split
    · exact ⟨by have := this.1; dsimp only; omega, this.2⟩
    · exact this
  · obtain ⟨c, hc, rfl⟩ := List.mem_map.mp hk
    obtain ⟨d1, k, d2, d3⟩ := o2 c hc
    have hn := hl c hc
    unfold gapC
    split
    · refine ⟨d1, k, ?_, d3⟩
      rw [← d2, List.getElem?_eraseIdx]
      dsimp only
      rw [if_neg (by omega), show c.1 - 1 + 1 = c.1 by omega]
    · refine ⟨d1, k, ?_, d3⟩
      rw [← d2, List.getElem?_eraseIdx]
      dsimp only
      rw [if_pos (by omega)]
  · refine Nat.le_trans (Nat.le_of_eq (cnt_map _ _ _)) (Nat.le_trans (cnt_mono (q := fun c : Cm => decide (c.1 = if k < f then k else k + 1) && decide (c.2.1 = y)) (fun c hc e => ?_)) (o3 _ y))
    have hn := hl c hc
    unfold gapC at e
    split at e
    · simp at e ⊢
      refine ⟨?_, e.2⟩
      rw [if_neg (by omega)]; omega
    · simp at e ⊢
      refine ⟨?_, e.2⟩
      rw [if_pos (by omega)]; omega
theorem filter_eq {α : Type} {p q : α → Bool} {l : List α} (h : ∀ a ∈ l, p a = q a) : l.filter p = l.filter q := List.filter_congr h
theorem mat_f {i : Nat} (hi : i < 8) {c : Cm} (h : wfc c) : mat (nI i) (-1) c = decide (c.1 = i) := by
  unfold mat
  have h1 := h.1
  simp [nI_m1 (n := i) (by omega), p_eq (a := c.1) (b := i) (by omega) (by omega)]
theorem mat_fy {i y : Nat} (hi : i < 8) (hy : y < 5) {c : Cm} (h : wfc c) : mat (nI i) (nI y) c = isOfN i (2 ^ y) c := by
  unfold mat isOfN
  have h1 := h.1
  have h2 := h.2.1
  simp [nI_m1 (n := i) (by omega), nI_m1 (n := y) (by omega), p_eq (a := c.1) (b := i) (by omega) (by omega), p_eq (a := c.2.1) (b := y) (by omega) (by omega), (p_pow5 y hy).2 c.2.1 h2]
theorem op_leave {s : S7} {q : S8} (h : RR s q) (x : Int32) : ∃ r s' q', f_X7_leave s x = some (r, s') ∧ f_X8_leave q x = some (r, q') ∧ RR s' q' := by
  obtain ⟨g, hc, hm⟩ := id h
  have hb := hc.1
  have hw := hm.1
  have w1 := hb.1.1
  rcases p_ix x (n := g.1.1.length) (by omega) with ⟨i, i1, rfl⟩ | hx
  · have e7 := (show f_X7_leave s (nI i) = _ from (by unfold f_X7_leave; exact p_yes (c_hasF hb i1)))
    have e8 := (show f_X8_leave q (nI i) = _ from (by unfold f_X8_leave; exact p_yes (m_isFleet hw i1)))
    obtain ⟨p', e1, h1⟩ := c_keep hc.2.2.1 hb
    obtain ⟨b', e2, h2⟩ := c_dropFleet hb i1
    obtain ⟨bf, a, e3, h3⟩ := m_keeps hw hm.2.1
    obtain ⟨w, e4, h4⟩ := m_dropsAll (s := u8_acts (u8_before q bf) a) hw (nI i) (-1)
    rw [filter_eq (q := fun c => !decide (c.1 = i)) (fun c hcm => by rw [mat_f (by omega) (hb.1.2.2.2.1 c hcm)])] at h4 e4
    obtain ⟨w', e5, h5⟩ := m_goes (s := u8_now (u8_acts (u8_before q bf) a) w) h4 i1
    rw [e1, p_bind, e2, p_bind] at e7
    rw [e3, p_bind, e4, p_bind, e5, p_bind] at e8
    exact ⟨_, _, _, e7, e8, R_act hc hm (ok_erase hc.2.1 (fun c hcm => by simpa using (List.mem_filter.mp hcm).2) (ok_sub hc.2.1 List.filter_sublist)) h1 h2 h3 h5⟩
  · exact ⟨_, _, _, (by unfold f_X7_leave; exact p_no (c_hasF0 hb hx)), (by unfold f_X8_leave; exact p_no (m_isFleet0 hw hx)), h⟩
theorem op_lapse {s : S7} {q : S8} (h : RR s q) (x y : Int32) : ∃ r s' q', f_X7_lapse s x y = some (r, s') ∧ f_X8_lapse q x y = some (r, q') ∧ RR s' q' := by
  obtain ⟨g, hc, hm⟩ := id h
  have hb := hc.1
  have hw := hm.1
  have w1 := hb.1.1
  rcases p_ix x (n := g.1.1.length) (by omega) with ⟨i, i1, rfl⟩ | hx
  · have e7 := (show f_X7_lapse s (nI i) y = _ from (by unfold f_X7_lapse; exact p_yes (c_hasF hb i1)))
    have e8 := (show f_X8_lapse q (nI i) y = _ from (by unfold f_X8_lapse; exact p_yes (m_isFleet hw i1)))
    obtain ⟨f, hf, hfm⟩ := p_at i1
    have hf3 := hb.1.2.2.1 f hfm
    rcases p_ix y (n := 5) (by decide) with ⟨j, j1, rfl⟩ | hy
    · rw [p_yes (c_isYear j1), c_isInsured hb hf j1, p_bind] at e7
      rw [p_yes (m_isYear j1), m_isInsured hw hf j1, p_bind] at e8
      by_cases e : f.2 / 2 ^ j % 2 = 1
      · rw [if_pos e, if_neg (by decide)] at e7 e8
        have p5 := (p_pow5 j j1).1
        have o := p_notIn f.2 hf3.2 (2 ^ j) p5
        obtain ⟨p', e1, h1⟩ := c_keep hc.2.2.1 hb
        obtain ⟨b', r, e2, rr, h2⟩ := c_endYears hb hf p5
        obtain ⟨bf, a, e3, h3⟩ := m_keeps hw hm.2.1
        have h4 := r_years hw hf (v := notIn f.2 (2 ^ j)) o.2
        obtain ⟨w', e4, h5⟩ := m_dropsAll (s := u8_now (u8_acts (u8_before q bf) a) (upd (g8_now q) (5 + 2 * i) (nI (notIn f.2 (2 ^ j))))) h4 (nI i) (nI j)
        dsimp only at e4 h5
        rw [filter_eq (q := fun c => !isOfN i (2 ^ j) c) (fun c hcm => by rw [mat_fy (by omega) j1 (hb.1.2.2.2.1 c hcm)])] at h5 e4
        rw [e1, p_bind, p_1sh j1, e2, p_bind] at e7
        rw [e3, p_bind, e5, show x_rd 140 (g8_now (u8_acts (u8_before q bf) a)) (nI (5 + 2 * i)) = some (nI f.2) from (p_rd (by omega) (by decide)).trans (congrArg some (hw.2.2.2.2.2.1 i f hf).2), p_bind, p_1sh j1, o.1, p_wr (by omega) (by decide), p_bind, show g8_now (u8_acts (u8_before q bf) a) = g8_now q from rfl, e4, p_bind] at e8
        rw [rr] at e7
        refine ⟨_, _, _, e7, e8, R_act hc hm (ok_set (B := (g.1.1, g.1.2.1.filter (fun c => !isOfN i (2 ^ j) c), g.1.2.2)) (ok_sub hc.2.1 List.filter_sublist) hf3.1 o.2 (fun k hk ek => ?_)) h1 h2 h3 h5⟩
        obtain ⟨k1, k2⟩ := List.mem_filter.mp hk
        have k3 := (hb.1.2.2.2.1 k k1).2.1
        refine p_notY f.2 hf3.2 j j1 _ k3 (ok_bit hc.2.1 k1 hf ek) (fun e' => ?_)
        have := ((p_pow5 j j1).2 k.2.1 k3).mpr e'
        simp [isOfN, ek, this] at k2
      · rw [if_neg e, if_pos rfl] at e7 e8
        exact ⟨_, _, _, e7, e8, h⟩
    · exact ⟨_, _, _, e7.trans (p_no (c_isYear0 hy)), e8.trans (p_no (m_isYear0 hy)), h⟩
  · exact ⟨_, _, _, (by unfold f_X7_lapse; exact p_no (c_hasF0 hb hx)), (by unfold f_X8_lapse; exact p_no (m_isFleet0 hw hx)), h⟩
