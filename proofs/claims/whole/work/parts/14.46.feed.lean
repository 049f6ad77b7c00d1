/-! PURE: the reference's tape and undo -/
def selN (a b c d e : Int32) (i : Nat) : Int32 := if i < 4 then a else if i < 8 then b else if i < 12 then c else if i < 16 then d else e
theorem sel_get (a b c d e : Int32) {i : Nat} (h : i < 20) : (four a ++ four b ++ four c ++ four d ++ four e)[i]? = some (byN (selN a b c d e i) (24 - 8 * (i % 4))) := by
  rcases (by omega : i = 0 ∨ i = 1 ∨ i = 2 ∨ i = 3 ∨ i = 4 ∨ i = 5 ∨ i = 6 ∨ i = 7 ∨ i = 8 ∨ i = 9 ∨ i = 10 ∨ i = 11 ∨ i = 12 ∨ i = 13 ∨ i = 14 ∨ i = 15 ∨ i = 16 ∨ i = 17 ∨ i = 18 ∨ i = 19) with rfl | rfl | rfl | rfl | rfl | rfl | rfl | rfl | rfl | rfl | rfl | rfl | rfl | rfl | rfl | rfl | rfl | rfl | rfl | rfl <;> rfl
theorem m_feedStep (k : S8 → Int32 → Int32 → Int32 → Int32 → Int32 → Int32 → Option (Int32 × S8)) (s : S8) (a b c d e : Int32) {i : Nat} (h : i < 20) : f_X8_feed_p18 k s a b c d e (nI i) = f_X8_feed_p71 k s a b c d e (nI i) (selN a b c d e i) := by
  unfold f_X8_feed_p18 selN
  rw [if_neg (by rw [show (20 : Int32) = nI 20 from rfl, p_le (by omega) (by omega)]; omega)]
  by_cases h4 : i < 4
  · rw [if_neg (by rw [show (4 : Int32) = nI 4 from rfl, p_le (by omega) (by omega)]; omega), if_pos h4]
  · rw [if_pos (by rw [show (4 : Int32) = nI 4 from rfl, p_le (by omega) (by omega)]; omega), if_neg h4]
    by_cases h8 : i < 8
    · rw [if_neg (by rw [show (8 : Int32) = nI 8 from rfl, p_le (by omega) (by omega)]; omega), if_pos h8]
    · rw [if_pos (by rw [show (8 : Int32) = nI 8 from rfl, p_le (by omega) (by omega)]; omega), if_neg h8]
      by_cases h12 : i < 12
      · rw [if_neg (by rw [show (12 : Int32) = nI 12 from rfl, p_le (by omega) (by omega)]; omega), if_pos h12]
      · rw [if_pos (by rw [show (12 : Int32) = nI 12 from rfl, p_le (by omega) (by omega)]; omega), if_neg h12]
        by_cases h16 : i < 16
        · rw [if_neg (by rw [show (16 : Int32) = nI 16 from rfl, p_le (by omega) (by omega)]; omega), if_pos h16]
        · rw [if_pos (by rw [show (16 : Int32) = nI 16 from rfl, p_le (by omega) (by omega)]; omega), if_neg h16]
theorem m_feed {s : S8} {T : List Nat} (h : rU (g8_tape s) (g8_taped s) T) (hn : T.length + 20 ≤ 700) (a b c d e : Int32) : ∃ tp, lp_X8_feed_p18 s a b c d e 0 = some (nI (T.length + 20), u8_taped (u8_tape s tp) (nI (T.length + 20))) ∧ rU tp (nI (T.length + 20)) (T ++ (four a ++ four b ++ four c ++ four d ++ four e)) := by
  have hl : (four a ++ four b ++ four c ++ four d ++ four e).length = 20 := rfl
  unfold lp_X8_feed_p18
  have key := p_forI (body := fun (k : S8 × Int32 × Int32 × Int32 × Int32 × Int32 × Int32 → Option (Int32 × S8)) (z : S8 × Int32 × Int32 × Int32 × Int32 × Int32 × Int32) => f_X8_feed_p18 (fun s x1 x2 x3 x4 x5 x6 => k (s, x1, x2, x3, x4, x5, x6)) z.1 z.2.1 z.2.2.1 z.2.2.2.1 z.2.2.2.2.1 z.2.2.2.2.2.1 z.2.2.2.2.2.2) 20
    (fun i t => ∃ tp, t = (u8_taped (u8_tape s tp) (nI (T.length + i)), a, b, c, d, e, nI i) ∧ rU tp (nI (T.length + i)) (T ++ (four a ++ four b ++ four c ++ four d ++ four e).take i))
    (fun r => ∃ tp, r = (nI (T.length + 20), u8_taped (u8_tape s tp) (nI (T.length + 20))) ∧ rU tp (nI (T.length + 20)) (T ++ (four a ++ four b ++ four c ++ four d ++ four e))) (by omega) (fun i k t hi hI ih => ?_) (fun k t hI => ?_) 0 (s, a, b, c, d, e, 0) (Nat.zero_le _) ⟨g8_tape s, ?_, ?_⟩
  · obtain ⟨r, e1, tp, rfl, h2⟩ := key
    exact ⟨tp, e1, h2⟩
  · obtain ⟨tp, rfl, h1, h2, h3, h4⟩ := hI
    have hg := sel_get a b c d e hi
    generalize (four a ++ four b ++ four c ++ four d ++ four e) = bs at *
    have hlt : (T ++ bs.take i).length = T.length + i := by simp; omega
    dsimp only
    rw [m_feedStep _ _ _ _ _ _ _ hi]
    unfold f_X8_feed_p71
    rw [show (4 : Int32) = nI 4 from rfl, pk_rem (by omega) (by omega) (by omega), show (8 : Int32) = nI 8 from rfl, pk_mul, show (24 : Int32) = nI 24 from rfl, pk_sub (by omega), t_shr _ (by omega)]
    rw [show g8_taped (u8_taped (u8_tape s tp) (nI (T.length + i))) = nI (T.length + i) from rfl, p_wr (by omega) (by omega), p_bind, nI_1, nI_1]
    refine ih _ ⟨upd tp (T.length + i) (nI (byN (selN a b c d e i) (24 - 8 * (i % 4)))), rfl, ?_⟩
    have ht : bs.take (i + 1) = bs.take i ++ [byN (selN a b c d e i) (24 - 8 * (i % 4))] := take_pred hg
    rw [ht, ← List.append_assoc]
    refine ⟨by simp; omega, fun y hy => ?_, by simp; congr 1; omega, fun j y hj => ?_⟩
    · rcases List.mem_append.mp hy with hy | hy
      · exact h2 y hy
      · rw [List.mem_singleton.mp hy]; exact byN_lt _ _
    · rw [u_at]
      rcases p_push hj with ⟨q1, q2⟩ | ⟨q1, q2⟩
      · rw [if_neg (by omega)]
        exact h4 j y q2
      · rw [if_pos (by omega), q2]
  · obtain ⟨tp, rfl, hr⟩ := hI
    rw [List.take_of_length_le (by omega)] at hr
    dsimp only
    unfold f_X8_feed_p18
    rw [if_pos (by decide)]
    exact ⟨_, rfl, tp, rfl, hr⟩
  · rw [Nat.add_zero, ← h.2.2.1]; rfl
  · rw [Nat.add_zero, List.take_zero, List.append_nil, ← h.2.2.1]; exact h
theorem m_undo {s : S8} {hs : List Bk} {B B0 : Bk} (hh : rH (g8_before s) (g8_acts s) (B :: hs)) : ∃ w, f_X8_undo s = some (nI hs.length, u8_now (u8_acts s (nI hs.length)) w) ∧ rM w B ∧ rH (g8_before s) (nI hs.length) hs := by
  obtain ⟨h1, h2, h3⟩ := hh
  have hl : (B :: hs).length = hs.length + 1 := rfl
  rw [hl] at h1 h2 h3
  unfold f_X8_undo
  rw [h2, if_neg (by rw [show (0 : Int32) = nI 0 from rfl, p_eq (by omega) (by omega)]; omega), nI_pred]
  have hloop : lp_X8_undo_p21 (u8_acts s (nI hs.length)) 0 = some (nI hs.length, u8_now (u8_acts s (nI hs.length)) (va_cpy (g8_before s) (g8_now s) (140 * hs.length) 0 140)) := by
    unfold lp_X8_undo_p21
    have key := p_for (body := fun (k : S8 × Int32 → Option (Int32 × S8)) (z : S8 × Int32) => f_X8_undo_p21 (fun s x1 => k (s, x1)) z.1 z.2) 140 (fun i => (u8_now (u8_acts s (nI hs.length)) (va_cpy (g8_before s) (g8_now s) (140 * hs.length) 0 i), nI i)) (nI hs.length, u8_now (u8_acts s (nI hs.length)) (va_cpy (g8_before s) (g8_now s) (140 * hs.length) 0 140)) (by omega) (fun i k hi ih => ?_) (fun k => ?_) 0 (Nat.zero_le _)
    · rw [cpy_0] at key
      exact key
    · dsimp only
      unfold f_X8_undo_p21
      rw [show (140 : Int32) = nI 140 from rfl, if_neg (by rw [p_le (by omega) (by omega)]; omega)]
      rw [show g8_acts (u8_now (u8_acts s (nI hs.length)) (va_cpy (g8_before s) (g8_now s) (140 * hs.length) 0 i)) = nI hs.length from rfl, pk_mul, nI_add, p_rd (by omega) (by omega), p_bind, p_wr (by omega) (by omega), p_bind]
      have e := cpy_s (g8_before s) (g8_now s) (140 * hs.length) 0 i
      rw [Nat.zero_add] at e
      rw [show g8_now (u8_now (u8_acts s (nI hs.length)) (va_cpy (g8_before s) (g8_now s) (140 * hs.length) 0 i)) = va_cpy (g8_before s) (g8_now s) (140 * hs.length) 0 i from rfl, show g8_before (u8_now (u8_acts s (nI hs.length)) (va_cpy (g8_before s) (g8_now s) (140 * hs.length) 0 i)) = g8_before s from rfl, e, nI_1]
      exact ih
    · dsimp only
      unfold f_X8_undo_p21
      rw [if_pos (by decide)]
      rfl
  refine ⟨_, hloop, ?_, by omega, rfl, fun k B' hB => ?_⟩
  · refine rM_of (h3 0 B rfl) (fun j hj => ?_)
    rw [pk_cpy_in (by omega) (by omega)]
    congr 1
  · have hk := (List.getElem?_eq_some_iff.mp hB).1
    have := h3 (k + 1) B' hB
    rw [show hs.length + 1 - 1 - (k + 1) = hs.length - 1 - k by omega] at this
    exact this
