/-! PURE: the class's book, writes -/
theorem u_at {f : Nat → Int32} {k : Nat} {x : Int32} (j : Nat) : upd f k x j = if j = k then x else f j := rfl
theorem p_setmem {α : Type} {l : List α} {i : Nat} {a x : α} (h : x ∈ l.set i a) : x ∈ l ∨ x = a := List.mem_or_eq_of_mem_set h
section PW
variable {b : S0} {B : Bk}
theorem c_putClass (h : rC b B) {i v : Nat} {f : Nat × Nat} (hf : B.1[i]? = some f) (hv : v < 3) : ∃ b', f_X0_putClass b (nI i) (nI v) = some b' ∧ rC b' (B.1.set i (v, f.2), B.2) := by
  have hi := (List.getElem?_eq_some_iff.mp hf).1
  have w1 := h.1.1
  refine ⟨u0_classes b (upd (g0_classes b) i (nI v)), ?_, ?_⟩
  · unfold f_X0_putClass
    rw [c_hasF h hi, p_bind, if_neg (by decide), p_wr (by omega) (by omega), p_bind]
  · obtain ⟨⟨a1, a2, a3, a4, a5⟩, h1, h2, h3, h4, h5, h6⟩ := h
    refine ⟨⟨by simpa using a1, a2, fun x hx => ?_, a4, a5⟩, (by show g0_fleets b = nI (List.set _ _ _).length; rw [List.length_set]; exact h1), h2, h3, h4, fun j g hg => ?_, h6⟩
    · rcases p_setmem hx with hx | rfl
      · exact a3 x hx
      · exact ⟨hv, (a3 f (List.mem_of_getElem? hf)).2⟩
    · rw [List.getElem?_set] at hg
      show upd (g0_classes b) i (nI v) j = _ ∧ g0_years b j = _
      rw [u_at]
      by_cases hj : i = j
      · subst hj
        rw [if_pos rfl, if_pos hi] at hg
        cases hg
        rw [if_pos rfl]
        exact ⟨rfl, (h5 i f hf).2⟩
      · rw [if_neg hj] at hg
        rw [if_neg (fun e => hj e.symm)]
        exact h5 j g hg
theorem c_putYears (h : rC b B) {i v : Nat} {f : Nat × Nat} (hf : B.1[i]? = some f) (hv : v < 32) : ∃ b', f_X0_putYears b (nI i) (nI v) = some b' ∧ rC b' (B.1.set i (f.1, v), B.2) := by
  have hi := (List.getElem?_eq_some_iff.mp hf).1
  have w1 := h.1.1
  refine ⟨u0_years b (upd (g0_years b) i (nI v)), ?_, ?_⟩
  · unfold f_X0_putYears
    rw [c_hasF h hi, p_bind, if_neg (by decide), p_wr (by omega) (by omega), p_bind]
  · obtain ⟨⟨a1, a2, a3, a4, a5⟩, h1, h2, h3, h4, h5, h6⟩ := h
    refine ⟨⟨by simpa using a1, a2, fun x hx => ?_, a4, a5⟩, (by show g0_fleets b = nI (List.set _ _ _).length; rw [List.length_set]; exact h1), h2, h3, h4, fun j g hg => ?_, h6⟩
    · rcases p_setmem hx with hx | rfl
      · exact a3 x hx
      · exact ⟨(a3 f (List.mem_of_getElem? hf)).1, hv⟩
    · rw [List.getElem?_set] at hg
      show g0_classes b j = _ ∧ upd (g0_years b) i (nI v) j = _
      rw [u_at]
      by_cases hj : i = j
      · subst hj
        rw [if_pos rfl, if_pos hi] at hg
        cases hg
        rw [if_pos rfl]
        exact ⟨(h5 i f hf).1, rfl⟩
      · rw [if_neg hj] at hg
        rw [if_neg (fun e => hj e.symm)]
        exact h5 j g hg
theorem c_putClaim (h : rC b B) {j f y a : Nat} (hj : j < B.2.1.length) (hc : wfc (f, y, a)) : ∃ b', f_X0_putClaim b (nI j) (nI f) (nI y) (nI a) = some b' ∧ rC b' (B.1, B.2.1.set j (f, y, a), B.2.2) := by
  have w1 := h.1.2.1
  refine ⟨u0_slips b (upd (g0_slips b) j (enc (f, y, a))), ?_, ?_⟩
  · unfold f_X0_putClaim
    rw [c_hasC h hj, p_bind, if_neg (by decide), p_encm hc, p_wr (by omega) (by omega), p_bind]
  · obtain ⟨⟨a1, a2, a3, a4, a5⟩, h1, h2, h3, h4, h5, h6⟩ := h
    refine ⟨⟨a1, by simpa using a2, a3, fun x hx => ?_, a5⟩, h1, (by show g0_claims b = nI (List.set _ _ _).length; rw [List.length_set]; exact h2), h3, h4, h5, fun k c hk => ?_⟩
    · rcases p_setmem hx with hx | rfl
      · exact a4 x hx
      · exact hc
    · rw [List.getElem?_set] at hk
      show upd (g0_slips b) j (enc (f, y, a)) k = _
      rw [u_at]
      by_cases e : j = k
      · subst e
        rw [if_pos rfl, if_pos hj] at hk
        cases hk
        rw [if_pos rfl]
      · rw [if_neg e] at hk
        rw [if_neg (fun e2 => e e2.symm)]
        exact h6 k c hk
theorem c_putFleet (h : rC b B) {j f : Nat} {c : Cm} (hc : B.2.1[j]? = some c) (hf : f < 8) : ∃ b', f_X0_putFleet b (nI j) (nI f) = some b' ∧ rC b' (B.1, B.2.1.set j (f, c.2), B.2.2) := by
  have w := h.1.2.2.2.1 c (List.mem_of_getElem? hc)
  obtain ⟨b', h1, h2⟩ := c_putClaim h (List.getElem?_eq_some_iff.mp hc).1 (show wfc (f, c.2.1, c.2.2) from ⟨hf, w.2.1, w.2.2⟩)
  refine ⟨b', ?_, h2⟩
  unfold f_X0_putFleet
  rw [c_yearOf h hc, p_bind, c_amountOf h hc, p_bind, h1, p_bind]
theorem c_putAmount (h : rC b B) {j a : Nat} {c : Cm} (hc : B.2.1[j]? = some c) (ha : a < 128) : ∃ b', f_X0_putAmount b (nI j) (nI a) = some b' ∧ rC b' (B.1, B.2.1.set j (c.1, c.2.1, a), B.2.2) := by
  have w := h.1.2.2.2.1 c (List.mem_of_getElem? hc)
  obtain ⟨b', h1, h2⟩ := c_putClaim h (List.getElem?_eq_some_iff.mp hc).1 (show wfc (c.1, c.2.1, a) from ⟨w.1, w.2.1, ha⟩)
  refine ⟨b', ?_, h2⟩
  unfold f_X0_putAmount
  rw [c_fleetOf h hc, p_bind, c_yearOf h hc, p_bind, h1, p_bind]
/-- one fleet more, whatever stands there -/
theorem c_moreF (h : rC b B) (hn : B.1.length < 8) : ∃ c y, g0_classes b B.1.length = c ∧ g0_years b B.1.length = y := ⟨_, _, rfl, rfl⟩
theorem c_addFleet (h : rC b B) (hn : B.1.length < 8) {c y : Nat} (hc : c < 3) (hy : y < 32) : ∃ b', f_X0_addFleet b (nI c) (nI y) = some (nI B.1.length, b') ∧ rC b' (B.1 ++ [(c, y)], B.2) := by
  obtain ⟨⟨a1, a2, a3, a4, a5⟩, h1, h2, h3, h4, h5, h6⟩ := h
  refine ⟨u0_years (u0_classes (u0_fleets b (nI (B.1.length + 1))) (upd (g0_classes b) B.1.length (nI c))) (upd (g0_years b) B.1.length (nI y)), ?_, ?_⟩
  · unfold f_X0_addFleet
    rw [h1, if_pos (by rw [show (8 : Int32) = nI 8 from rfl, p_lt (by omega) (by omega)]; exact hn), nI_1, nI_pred]
    have hh : ∀ t : S0, g0_fleets t = nI (B.1.length + 1) → f_X0_hasFleet t (nI B.1.length) = some 1 := fun t ht => by
      unfold f_X0_hasFleet
      rw [if_neg (nI_pos (by omega)), ht, if_neg (by rw [p_le (by omega) (by omega)]; omega), if_neg (by rw [show (8 : Int32) = nI 8 from rfl, p_le (by omega) (by omega)]; omega)]
    unfold f_X0_putClass
    rw [hh _ rfl, p_bind, if_neg (by decide), p_wr (by omega) (by omega), p_bind, p_bind]
    have e1 : g0_fleets (u0_classes (u0_fleets b (nI (B.1.length + 1))) (upd (g0_classes (u0_fleets b (nI (B.1.length + 1)))) B.1.length (nI c))) = nI (B.1.length + 1) := rfl
    rw [e1, nI_pred]
    unfold f_X0_putYears
    rw [hh _ rfl, p_bind, if_neg (by decide), p_wr (by omega) (by omega), p_bind, p_bind]
    rw [show g0_fleets (u0_years (u0_classes (u0_fleets b (nI (B.1.length + 1))) (upd (g0_classes (u0_fleets b (nI (B.1.length + 1)))) B.1.length (nI c))) (upd (g0_years (u0_classes (u0_fleets b (nI (B.1.length + 1))) (upd (g0_classes (u0_fleets b (nI (B.1.length + 1)))) B.1.length (nI c)))) B.1.length (nI y))) = nI (B.1.length + 1) from rfl, nI_pred]
    rfl
  · refine ⟨⟨by simp; omega, a2, fun x hx => ?_, a4, a5⟩, by simp; rfl, h2, h3, h4, fun j g hg => ?_, h6⟩
    · rcases List.mem_append.mp hx with hx | hx
      · exact a3 x hx
      · rw [List.mem_singleton.mp hx]; exact ⟨hc, hy⟩
    · show upd (g0_classes b) B.1.length (nI c) j = _ ∧ upd (g0_years b) B.1.length (nI y) j = _
      rw [u_at, u_at]
      by_cases hj : j < B.1.length
      · rw [List.getElem?_append_left hj] at hg
        rw [if_neg (by omega), if_neg (by omega)]
        exact h5 j g hg
      · rw [List.getElem?_append_right (by omega)] at hg
        have h0 : j - B.1.length < 1 := by simpa using (List.getElem?_eq_some_iff.mp hg).1
        rw [show j - B.1.length = 0 by omega] at hg
        cases hg
        rw [if_pos (by omega), if_pos (by omega)]
        exact ⟨rfl, rfl⟩
theorem c_addClaim (h : rC b B) (hn : B.2.1.length < 40) {f y a : Nat} (hc : wfc (f, y, a)) : ∃ b', f_X0_addClaim b (nI f) (nI y) (nI a) = some (nI B.2.1.length, b') ∧ rC b' (B.1, B.2.1 ++ [(f, y, a)], B.2.2) := by
  obtain ⟨⟨a1, a2, a3, a4, a5⟩, h1, h2, h3, h4, h5, h6⟩ := h
  refine ⟨u0_slips (u0_claims b (nI (B.2.1.length + 1))) (upd (g0_slips b) B.2.1.length (enc (f, y, a))), ?_, ?_⟩
  · unfold f_X0_addClaim
    rw [h2, if_pos (by rw [show (40 : Int32) = nI 40 from rfl, p_lt (by omega) (by omega)]; exact hn), nI_1, nI_pred]
    have hh : ∀ t : S0, g0_claims t = nI (B.2.1.length + 1) → f_X0_hasClaim t (nI B.2.1.length) = some 1 := fun t ht => by
      unfold f_X0_hasClaim
      rw [if_neg (nI_pos (by omega)), ht, if_neg (by rw [p_le (by omega) (by omega)]; omega), if_neg (by rw [show (40 : Int32) = nI 40 from rfl, p_le (by omega) (by omega)]; omega)]
    unfold f_X0_putClaim
    rw [hh _ rfl, p_bind, if_neg (by decide), p_encm hc, p_wr (by omega) (by omega), p_bind, p_bind]
    rw [show g0_claims (u0_slips (u0_claims b (nI (B.2.1.length + 1))) (upd (g0_slips (u0_claims b (nI (B.2.1.length + 1)))) B.2.1.length (enc (f, y, a)))) = nI (B.2.1.length + 1) from rfl, nI_pred]
    rfl
  · refine ⟨⟨a1, by simp; omega, a3, fun x hx => ?_, a5⟩, h1, by simp; rfl, h3, h4, h5, fun j c hj => ?_⟩
    · rcases List.mem_append.mp hx with hx | hx
      · exact a4 x hx
      · rw [List.mem_singleton.mp hx]; exact hc
    · show upd (g0_slips b) B.2.1.length (enc (f, y, a)) j = _
      rw [u_at]
      by_cases hl : j < B.2.1.length
      · rw [List.getElem?_append_left hl] at hj
        rw [if_neg (by omega)]
        exact h6 j c hj
      · rw [List.getElem?_append_right (by omega)] at hj
        have h0 : j - B.2.1.length < 1 := by simpa using (List.getElem?_eq_some_iff.mp hj).1
        rw [show j - B.2.1.length = 0 by omega] at hj
        cases hj
        rw [if_pos (by omega)]
end PW
