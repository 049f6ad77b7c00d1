/-! PURE: the reference's row: claims that go, acts kept and taken back -/
/-- the reference's choice of claims: a fleet (-1: all), a year (-1: all) -/
def mat (x1 x2 : Int32) (c : Cm) : Bool := (decide (x1 = -1) || decide (nI c.1 = x1)) && (decide (x2 = -1) || decide (nI c.2.1 = x2))
theorem take_pred {α : Type} {l : List α} {i : Nat} {a : α} (h : l[i]? = some a) : l.take (i + 1) = l.take i ++ [a] := by rw [List.take_succ, h]; rfl
theorem drop_pred {α : Type} {l : List α} {i : Nat} {a : α} (h : l[i]? = some a) : l.drop i = a :: l.drop (i + 1) := by
  have hi := (List.getElem?_eq_some_iff.mp h)
  rw [List.drop_eq_getElem_cons hi.1, hi.2]
section MD
variable {s : S8} {B : Bk}
theorem m_dropsAll (h : rM (g8_now s) B) (x1 x2 : Int32) : ∃ w, f_X8_dropsAll s x1 x2 = some (nI (B.2.1.length - (B.2.1.filter (fun c => !mat x1 x2 c)).length), u8_now s w) ∧ rM w (B.1, B.2.1.filter (fun c => !mat x1 x2 c), B.2.2) := by
  have w1 := h.1.2.1
  have hle := List.length_filter_le (fun c => !mat x1 x2 c) B.2.1
  unfold f_X8_dropsAll
  rw [m_claims h, p_bind]
  unfold lp_X8_dropsAll_p10
  have key := p_forI (body := fun (k : S8 × Int32 × Int32 × Int32 × Int32 → Option (Int32 × S8)) (z : S8 × Int32 × Int32 × Int32 × Int32) => f_X8_dropsAll_p10 (fun s x1 x2 x3 x4 => k (s, x1, x2, x3, x4)) z.1 z.2.1 z.2.2.1 z.2.2.2.1 z.2.2.2.2) B.2.1.length
    (fun t z => ∃ w, z = (u8_now s w, x1, x2, nI ((B.2.1.drop (B.2.1.length - t)).length - ((B.2.1.drop (B.2.1.length - t)).filter (fun c => !mat x1 x2 c)).length), nI (B.2.1.length - t) - 1) ∧ rM w (B.1, B.2.1.take (B.2.1.length - t) ++ (B.2.1.drop (B.2.1.length - t)).filter (fun c => !mat x1 x2 c), B.2.2))
    (fun r => ∃ w, r = (nI (B.2.1.length - (B.2.1.filter (fun c => !mat x1 x2 c)).length), u8_now s w) ∧ rM w (B.1, B.2.1.filter (fun c => !mat x1 x2 c), B.2.2)) (by omega) (fun t k z ht hI ih => ?_) (fun k z hI => ?_) 0 (s, x1, x2, 0, nI B.2.1.length - 1) (Nat.zero_le _) ⟨g8_now s, (by simp; exact ⟨rfl, rfl⟩), by simp; exact h⟩
  · obtain ⟨r, e1, w, rfl, hw⟩ := key
    exact ⟨w, e1, hw⟩
  · obtain ⟨w, rfl, hb⟩ := hI
    obtain ⟨i, hi⟩ : ∃ i, B.2.1.length - t = i + 1 := ⟨B.2.1.length - t - 1, by omega⟩
    have hi2 : B.2.1.length - (t + 1) = i := by omega
    rw [hi2] at ih
    rw [hi] at hb ⊢
    obtain ⟨c, hc, hcm⟩ := p_at (l := B.2.1) (i := i) (by omega)
    have hd := drop_pred hc
    have hR : ((B.2.1.drop (i + 1)).filter (fun c => !mat x1 x2 c)).length ≤ (B.2.1.drop (i + 1)).length := List.length_filter_le _ _
    have hlen : (B.2.1.take (i + 1)).length = i + 1 := by simp; omega
    have hdl : (B.2.1.drop (i + 1)).length = B.2.1.length - (i + 1) := by simp
    generalize hRR : (B.2.1.drop (i + 1)).filter (fun c => !mat x1 x2 c) = R at hb hR ⊢
    have hc' : (B.2.1.take (i + 1) ++ R)[i]? = some c := by rw [List.getElem?_append_left (by omega), List.getElem?_take, if_pos (by omega)]; exact hc
    have hb' : rM (g8_now (u8_now s w)) (B.1, B.2.1.take (i + 1) ++ R, B.2.2) := hb
    have wc := h.1.2.2.2.1 c hcm
    rw [nI_pred]
    dsimp only
    have hdrop : mat x1 x2 c = true → ∃ r, f_X8_dropsAll_p48 (fun s x1 x2 x3 x4 => k (s, x1, x2, x3, x4)) (u8_now s w) x1 x2 (nI ((B.2.1.drop (i + 1)).length - R.length)) (nI i) = some r ∧ ∃ w, r = (nI (B.2.1.length - (B.2.1.filter (fun c => !mat x1 x2 c)).length), u8_now s w) ∧ rM w (B.1, B.2.1.filter (fun c => !mat x1 x2 c), B.2.2) := by
      intro hm
      unfold f_X8_dropsAll_p48
      obtain ⟨w2, e2, h2⟩ := m_drops (c := i) hb' (by dsimp only; rw [List.length_append]; omega)
      rw [e2, p_bind]
      have e : (B.2.1.drop i).filter (fun c => !mat x1 x2 c) = R := by rw [hd, List.filter_cons, if_neg (by simp [hm]), hRR]
      refine ih _ ⟨w2, ?_, ?_⟩
      · rw [e, hd, List.length_cons, nI_1]
        rw [show (B.2.1.drop (i + 1)).length - R.length + 1 = (B.2.1.drop (i + 1)).length + 1 - R.length by omega, Int32.sub_eq_add_neg]
        rfl
      · rw [e]
        have e3 : (B.2.1.take (i + 1) ++ R).eraseIdx i = B.2.1.take i ++ R := by
          rw [List.eraseIdx_append_of_lt_length (by omega), take_pred hc, List.eraseIdx_append_of_length_le (by simp; omega)]
          simp [show i - min i B.2.1.length = 0 by omega]
        dsimp only at h2
        rw [e3] at h2
        exact h2
    have hstay : ¬ mat x1 x2 c = true → ∃ r, k (u8_now s w, x1, x2, nI ((B.2.1.drop (i + 1)).length - R.length), nI i + (-1)) = some r ∧ ∃ w, r = (nI (B.2.1.length - (B.2.1.filter (fun c => !mat x1 x2 c)).length), u8_now s w) ∧ rM w (B.1, B.2.1.filter (fun c => !mat x1 x2 c), B.2.2) := by
      intro hm
      have e : (B.2.1.drop i).filter (fun c => !mat x1 x2 c) = c :: R := by rw [hd, List.filter_cons, if_pos (by simp [hm]), hRR]
      refine ih _ ⟨w, ?_, ?_⟩
      · rw [e, hd, List.length_cons, List.length_cons]
        rw [show (B.2.1.drop (i + 1)).length + 1 - (R.length + 1) = (B.2.1.drop (i + 1)).length - R.length by omega, Int32.sub_eq_add_neg]
      · rw [e, show B.2.1.take i ++ c :: R = (B.2.1.take i ++ [c]) ++ R by simp, ← take_pred hc]
        exact hb
    have h30 : (decide (x1 = -1) || decide (nI c.1 = x1)) = true → ∃ r, f_X8_dropsAll_p30 (fun s x1 x2 x3 x4 => k (s, x1, x2, x3, x4)) (u8_now s w) x1 x2 (nI ((B.2.1.drop (i + 1)).length - R.length)) (nI i) = some r ∧ ∃ w, r = (nI (B.2.1.length - (B.2.1.filter (fun c => !mat x1 x2 c)).length), u8_now s w) ∧ rM w (B.1, B.2.1.filter (fun c => !mat x1 x2 c), B.2.2) := by
      intro hm
      unfold f_X8_dropsAll_p30
      by_cases q : x2 = -1
      · rw [if_pos q]
        exact hdrop (by unfold mat; rw [hm]; simp [q])
      · rw [if_neg q, m_yearOf hb' hc', p_bind]
        by_cases q2 : nI c.2.1 = x2
        · rw [if_pos q2]
          exact hdrop (by unfold mat; rw [hm]; simp [q2])
        · rw [if_neg q2]
          exact hstay (by unfold mat; simp [q, q2])
    unfold f_X8_dropsAll_p10
    rw [if_neg (nI_pos (by omega))]
    by_cases q : x1 = -1
    · rw [if_pos q]
      exact h30 (by simp [q])
    · rw [if_neg q, m_fleetOf hb' hc', p_bind]
      by_cases q2 : nI c.1 = x1
      · rw [if_pos q2]
        exact h30 (by simp [q2])
      · rw [if_neg q2]
        exact hstay (by unfold mat; simp [q, q2])
  · obtain ⟨w, rfl, hb⟩ := hI
    rw [Nat.sub_self] at hb ⊢
    dsimp only
    unfold f_X8_dropsAll_p10
    rw [if_pos (by decide)]
    simp only [List.drop_zero, List.take_zero, List.nil_append] at hb ⊢
    exact ⟨_, rfl, w, rfl, hb⟩
end MD
