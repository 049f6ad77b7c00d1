/-! PURE: the reference's row, writes -/
section MW
variable {w : Nat → Int32} {B : Bk}
theorem r_class (h : rM w B) {i v : Nat} {f : Nat × Nat} (hf : B.1[i]? = some f) (hv : v < 3) : rM (upd w (4 + 2 * i) (nI v)) (B.1.set i (v, f.2), B.2) := by
  have hi := (List.getElem?_eq_some_iff.mp hf).1
  obtain ⟨⟨a1, a2, a3, a4, a5⟩, h0, h1, h2, h3, h4, h5⟩ := h
  refine ⟨⟨by simpa using a1, a2, fun x hx => ?_, a4, a5⟩, ?_, ?_, ?_, ?_, fun j g hg => ?_, fun j c hc => ?_⟩
  · rcases p_setmem hx with hx | rfl
    · exact a3 x hx
    · exact ⟨hv, (a3 f (List.mem_of_getElem? hf)).2⟩
  · rw [u_at, if_neg (by omega)]; exact h0
  · rw [u_at, if_neg (by omega)]; exact h1
  · rw [u_at, if_neg (by omega)]; simpa using h2
  · rw [u_at, if_neg (by omega)]; exact h3
  · rw [u_at, u_at, if_neg (show ¬ 5 + 2 * j = 4 + 2 * i by omega)]
    rw [List.getElem?_set] at hg
    by_cases hj : i = j
    · subst hj
      rw [if_pos rfl, if_pos hi] at hg
      cases hg
      rw [if_pos rfl]
      exact ⟨rfl, (h4 i f hf).2⟩
    · rw [if_neg hj] at hg
      rw [if_neg (by omega)]
      exact h4 j g hg
  · rw [u_at, u_at, u_at, if_neg (by omega), if_neg (by omega), if_neg (by omega)]
    exact h5 j c hc
theorem r_years (h : rM w B) {i v : Nat} {f : Nat × Nat} (hf : B.1[i]? = some f) (hv : v < 32) : rM (upd w (5 + 2 * i) (nI v)) (B.1.set i (f.1, v), B.2) := by
  have hi := (List.getElem?_eq_some_iff.mp hf).1
  obtain ⟨⟨a1, a2, a3, a4, a5⟩, h0, h1, h2, h3, h4, h5⟩ := h
  refine ⟨⟨by simpa using a1, a2, fun x hx => ?_, a4, a5⟩, ?_, ?_, ?_, ?_, fun j g hg => ?_, fun j c hc => ?_⟩
  · rcases p_setmem hx with hx | rfl
    · exact a3 x hx
    · exact ⟨(a3 f (List.mem_of_getElem? hf)).1, hv⟩
  · rw [u_at, if_neg (by omega)]; exact h0
  · rw [u_at, if_neg (by omega)]; exact h1
  · rw [u_at, if_neg (by omega)]; simpa using h2
  · rw [u_at, if_neg (by omega)]; exact h3
  · rw [u_at, u_at, if_neg (show ¬ 4 + 2 * j = 5 + 2 * i by omega)]
    rw [List.getElem?_set] at hg
    by_cases hj : i = j
    · subst hj
      rw [if_pos rfl, if_pos hi] at hg
      cases hg
      rw [if_pos rfl]
      exact ⟨(h4 i f hf).1, rfl⟩
    · rw [if_neg hj] at hg
      rw [if_neg (by omega)]
      exact h4 j g hg
  · rw [u_at, u_at, u_at, if_neg (by omega), if_neg (by omega), if_neg (by omega)]
    exact h5 j c hc
theorem r_cf (h : rM w B) {j v : Nat} {c : Cm} (hc : B.2.1[j]? = some c) (hv : v < 8) : rM (upd w (20 + 3 * j) (nI v)) (B.1, B.2.1.set j (v, c.2), B.2.2) := by
  have hj := (List.getElem?_eq_some_iff.mp hc).1
  obtain ⟨⟨a1, a2, a3, a4, a5⟩, h0, h1, h2, h3, h4, h5⟩ := h
  refine ⟨⟨a1, by simpa using a2, a3, fun x hx => ?_, a5⟩, ?_, ?_, ?_, ?_, fun i g hg => ?_, fun k d hd => ?_⟩
  · rcases p_setmem hx with hx | rfl
    · exact a4 x hx
    · exact ⟨hv, (a4 c (List.mem_of_getElem? hc)).2⟩
  · rw [u_at, if_neg (by omega)]; exact h0
  · rw [u_at, if_neg (by omega)]; exact h1
  · rw [u_at, if_neg (by omega)]; exact h2
  · rw [u_at, if_neg (by omega)]; simpa using h3
  · have hi := (List.getElem?_eq_some_iff.mp hg).1
    dsimp only at hi
    rw [u_at, u_at, if_neg (by omega), if_neg (by omega)]
    exact h4 i g hg
  · rw [u_at, u_at, u_at, if_neg (show ¬ 21 + 3 * k = 20 + 3 * j by omega), if_neg (show ¬ 22 + 3 * k = 20 + 3 * j by omega)]
    rw [List.getElem?_set] at hd
    by_cases e : j = k
    · subst e
      rw [if_pos rfl, if_pos hj] at hd
      cases hd
      rw [if_pos rfl]
      exact ⟨rfl, (h5 j c hc).2⟩
    · rw [if_neg e] at hd
      rw [if_neg (by omega)]
      exact h5 k d hd
theorem r_ca (h : rM w B) {j v : Nat} {c : Cm} (hc : B.2.1[j]? = some c) (hv : v < 128) : rM (upd w (22 + 3 * j) (nI v)) (B.1, B.2.1.set j (c.1, c.2.1, v), B.2.2) := by
  have hj := (List.getElem?_eq_some_iff.mp hc).1
  obtain ⟨⟨a1, a2, a3, a4, a5⟩, h0, h1, h2, h3, h4, h5⟩ := h
  refine ⟨⟨a1, by simpa using a2, a3, fun x hx => ?_, a5⟩, ?_, ?_, ?_, ?_, fun i g hg => ?_, fun k d hd => ?_⟩
  · rcases p_setmem hx with hx | rfl
    · exact a4 x hx
    · have := a4 c (List.mem_of_getElem? hc)
      exact ⟨this.1, this.2.1, hv⟩
  · rw [u_at, if_neg (by omega)]; exact h0
  · rw [u_at, if_neg (by omega)]; exact h1
  · rw [u_at, if_neg (by omega)]; exact h2
  · rw [u_at, if_neg (by omega)]; simpa using h3
  · have hi := (List.getElem?_eq_some_iff.mp hg).1
    dsimp only at hi
    rw [u_at, u_at, if_neg (by omega), if_neg (by omega)]
    exact h4 i g hg
  · rw [u_at, u_at, u_at, if_neg (show ¬ 20 + 3 * k = 22 + 3 * j by omega), if_neg (show ¬ 21 + 3 * k = 22 + 3 * j by omega)]
    rw [List.getElem?_set] at hd
    by_cases e : j = k
    · subst e
      rw [if_pos rfl, if_pos hj] at hd
      cases hd
      rw [if_pos rfl]
      exact ⟨(h5 j c hc).1, (h5 j c hc).2.1, rfl⟩
    · rw [if_neg e] at hd
      rw [if_neg (by omega)]
      exact h5 k d hd
/-- fewer fleets, fewer claims -/
theorem r_cut (h : rM w B) {n : Nat} (hn : n ≤ B.1.length) : rM (upd w 2 (nI n)) (B.1.take n, B.2) := by
  obtain ⟨⟨a1, a2, a3, a4, a5⟩, h0, h1, h2, h3, h4, h5⟩ := h
  refine ⟨⟨by simp; omega, a2, fun x hx => a3 x (List.mem_of_mem_take hx), a4, a5⟩, h0, h1, by simp [Nat.min_eq_left hn]; rfl, h3, fun j g hg => ?_, fun j c hc => ?_⟩
  · rw [u_at, u_at, if_neg (by omega), if_neg (by omega)]
    rw [List.getElem?_take] at hg
    split at hg
    · exact h4 j g hg
    · cases hg
  · rw [u_at, u_at, u_at, if_neg (by omega), if_neg (by omega), if_neg (by omega)]
    exact h5 j c hc
theorem r_cutC (h : rM w B) {n : Nat} (hn : n ≤ B.2.1.length) : rM (upd w 3 (nI n)) (B.1, B.2.1.take n, B.2.2) := by
  obtain ⟨⟨a1, a2, a3, a4, a5⟩, h0, h1, h2, h3, h4, h5⟩ := h
  refine ⟨⟨a1, by simp; omega, a3, fun x hx => a4 x (List.mem_of_mem_take hx), a5⟩, h0, h1, h2, by simp [Nat.min_eq_left hn]; rfl, fun j g hg => ?_, fun j c hc => ?_⟩
  · rw [u_at, u_at, if_neg (by omega), if_neg (by omega)]
    exact h4 j g hg
  · rw [u_at, u_at, u_at, if_neg (by omega), if_neg (by omega), if_neg (by omega)]
    rw [List.getElem?_take] at hc
    split at hc
    · exact h5 j c hc
    · cases hc
theorem r_addF (h : rM w B) (hn : B.1.length < 8) {c y : Nat} (hc : c < 3) (hy : y < 32) : rM (upd (upd (upd w (4 + 2 * B.1.length) (nI c)) (5 + 2 * B.1.length) (nI y)) 2 (nI (B.1.length + 1))) (B.1 ++ [(c, y)], B.2) := by
  obtain ⟨⟨a1, a2, a3, a4, a5⟩, h0, h1, h2, h3, h4, h5⟩ := h
  refine ⟨⟨by simp; omega, a2, fun x hx => ?_, a4, a5⟩, ?_, ?_, by simp; rfl, ?_, fun j g hg => ?_, fun j c hc => ?_⟩
  · rcases List.mem_append.mp hx with hx | hx
    · exact a3 x hx
    · rw [List.mem_singleton.mp hx]; exact ⟨hc, hy⟩
  · rw [u_at, if_neg (by omega), u_at, if_neg (by omega), u_at, if_neg (by omega)]; exact h0
  · rw [u_at, if_neg (by omega), u_at, if_neg (by omega), u_at, if_neg (by omega)]; exact h1
  · rw [u_at, if_neg (by omega), u_at, if_neg (by omega), u_at, if_neg (by omega)]; exact h3
  · by_cases hj : j < B.1.length
    · rw [List.getElem?_append_left hj] at hg
      have q := h4 j g hg
      refine ⟨?_, ?_⟩
      · rw [u_at, if_neg (by omega), u_at, if_neg (by omega), u_at, if_neg (by omega)]; exact q.1
      · rw [u_at, if_neg (by omega), u_at, if_neg (by omega), u_at, if_neg (by omega)]; exact q.2
    · rw [List.getElem?_append_right (by omega)] at hg
      have h9 : j - B.1.length < 1 := by simpa using (List.getElem?_eq_some_iff.mp hg).1
      rw [show j - B.1.length = 0 by omega] at hg
      cases hg
      have : j = B.1.length := by omega
      subst this
      refine ⟨?_, ?_⟩
      · rw [u_at, if_neg (by omega), u_at, if_neg (by omega), u_at, if_pos rfl]
      · rw [u_at, if_neg (by omega), u_at, if_pos rfl]
  · have hj := (List.getElem?_eq_some_iff.mp hc).1
    rw [u_at, if_neg (by omega), u_at, if_neg (by omega), u_at, if_neg (by omega), u_at, if_neg (by omega), u_at, if_neg (by omega), u_at, if_neg (by omega), u_at, if_neg (by omega), u_at, if_neg (by omega), u_at, if_neg (by omega)]
    exact h5 j c hc
theorem r_addC (h : rM w B) (hn : B.2.1.length < 40) {f y a : Nat} (hc : wfc (f, y, a)) : rM (upd (upd (upd (upd w (20 + 3 * B.2.1.length) (nI f)) (21 + 3 * B.2.1.length) (nI y)) (22 + 3 * B.2.1.length) (nI a)) 3 (nI (B.2.1.length + 1))) (B.1, B.2.1 ++ [(f, y, a)], B.2.2) := by
  obtain ⟨⟨a1, a2, a3, a4, a5⟩, h0, h1, h2, h3, h4, h5⟩ := h
  refine ⟨⟨a1, by simp; omega, a3, fun x hx => ?_, a5⟩, ?_, ?_, ?_, by simp; rfl, fun j g hg => ?_, fun j c hj => ?_⟩
  · rcases List.mem_append.mp hx with hx | hx
    · exact a4 x hx
    · rw [List.mem_singleton.mp hx]; exact hc
  · rw [u_at, if_neg (by omega), u_at, if_neg (by omega), u_at, if_neg (by omega), u_at, if_neg (by omega)]; exact h0
  · rw [u_at, if_neg (by omega), u_at, if_neg (by omega), u_at, if_neg (by omega), u_at, if_neg (by omega)]; exact h1
  · rw [u_at, if_neg (by omega), u_at, if_neg (by omega), u_at, if_neg (by omega), u_at, if_neg (by omega)]; exact h2
  · have hi := (List.getElem?_eq_some_iff.mp hg).1
    dsimp only at hi
    rw [u_at, if_neg (by omega), u_at, if_neg (by omega), u_at, if_neg (by omega), u_at, if_neg (by omega), u_at, if_neg (by omega), u_at, if_neg (by omega), u_at, if_neg (by omega), u_at, if_neg (by omega)]
    exact h4 j g hg
  · by_cases hl : j < B.2.1.length
    · rw [List.getElem?_append_left hl] at hj
      rw [u_at, if_neg (by omega), u_at, if_neg (by omega), u_at, if_neg (by omega), u_at, if_neg (by omega), u_at, if_neg (by omega), u_at, if_neg (by omega), u_at, if_neg (by omega), u_at, if_neg (by omega), u_at, if_neg (by omega), u_at, if_neg (by omega), u_at, if_neg (by omega), u_at, if_neg (by omega)]
      exact h5 j c hj
    · rw [List.getElem?_append_right (by omega)] at hj
      have h0 : j - B.2.1.length < 1 := by simpa using (List.getElem?_eq_some_iff.mp hj).1
      rw [show j - B.2.1.length = 0 by omega] at hj
      cases hj
      have : j = B.2.1.length := by omega
      subst this
      refine ⟨?_, ?_, ?_⟩
      · rw [u_at, if_neg (by omega), u_at, if_neg (by omega), u_at, if_neg (by omega), u_at, if_pos rfl]
      · rw [u_at, if_neg (by omega), u_at, if_neg (by omega), u_at, if_pos rfl]
      · rw [u_at, if_neg (by omega), u_at, if_pos rfl]
end MW
