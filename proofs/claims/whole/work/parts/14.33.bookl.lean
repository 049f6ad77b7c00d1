/-! PURE: the class's book, loops that write -/
def gapC (f : Nat) (c : Cm) : Cm := if f < c.1 then (c.1 - 1, c.2) else c
def bitN (s y : Nat) : Prop := s / 2 ^ y % 2 = 1
def isOfN (f s : Nat) (c : Cm) : Bool := decide (c.1 = f) && decide (s / 2 ^ c.2.1 % 2 = 1)
def notIn (a s : Nat) : Nat := a &&& (31 ^^^ s)
theorem p_notIn : ∀ a, a < 32 → ∀ s, s < 32 → nI a &&& (nI s ^^^ (-1 : Int32)) = nI (notIn a s) ∧ notIn a s < 32 := by decide +kernel
section PL
variable {b : S0} {B : Bk}
theorem c_cut (h : rC b B) {n : Nat} (hn : n ≤ B.1.length) : rC (u0_fleets b (nI n)) (B.1.take n, B.2) := by
  obtain ⟨⟨a1, a2, a3, a4, a5⟩, h1, h2, h3, h4, h5, h6⟩ := h
  refine ⟨⟨by simp; omega, a2, fun x hx => a3 x (List.mem_of_mem_take hx), a4, a5⟩, by simp [Nat.min_eq_left hn]; rfl, h2, h3, h4, fun j g hg => ?_, h6⟩
  rw [List.getElem?_take] at hg
  split at hg
  · exact h5 j g hg
  · cases hg
theorem c_cutC (h : rC b B) {n : Nat} (hn : n ≤ B.2.1.length) : rC (u0_claims b (nI n)) (B.1, B.2.1.take n, B.2.2) := by
  obtain ⟨⟨a1, a2, a3, a4, a5⟩, h1, h2, h3, h4, h5, h6⟩ := h
  refine ⟨⟨a1, by simp; omega, a3, fun x hx => a4 x (List.mem_of_mem_take hx), a5⟩, h1, by simp [Nat.min_eq_left hn]; rfl, h3, h4, h5, fun j g hg => ?_⟩
  rw [List.getElem?_take] at hg
  split at hg
  · exact h6 j g hg
  · cases hg
/-- claims turned one by one by fleets -/
theorem c_gapC (h : rC b B) {f : Nat} (hf : f < 8) : ∃ b', lp_X0_closeGapAt_p54 b (nI f) 0 = some b' ∧ rC b' (B.1, B.2.1.map (gapC f), B.2.2) := by
  unfold lp_X0_closeGapAt_p54
  refine p_forI B.2.1.length (fun i s => ∃ b', s = (b', nI f, nI i) ∧ rC b' (B.1, mapTo (gapC f) i B.2.1, B.2.2)) _ (by have := h.1.2.1; omega) (fun i k s hi hI ih => ?_) (fun k s hI => ?_) 0 _ (Nat.zero_le _) ⟨b, rfl, by rw [mapTo_0]; exact h⟩
  · obtain ⟨b', rfl, hb⟩ := hI
    obtain ⟨c, hc, hcm⟩ := p_at hi
    have hc' : (mapTo (gapC f) i B.2.1)[i]? = some c := by rw [mapTo_get, if_neg (by omega)]; exact hc
    have w := h.1.2.2.2.1 c hcm
    have w0 := h.1.2.1
    have w1 := w.1
    dsimp only
    unfold f_X0_closeGapAt_p54
    rw [hb.2.2.1, if_neg (by rw [p_le (by simp [mapTo_len]; omega) (by omega)]; simp [mapTo_len]; omega), c_fleetOf hb hc', p_bind]
    by_cases hcf : f < c.1
    · rw [if_neg (by rw [p_le (by omega) (by omega)]; omega), p_bind]
      obtain ⟨b2, e2, h2⟩ := c_putFleet (f := c.1 - 1) hb hc' (by omega)
      rw [show nI c.1 - (1 : Int32) = nI (c.1 - 1) by rw [show c.1 = (c.1 - 1) + 1 by omega, nI_pred]; rfl, e2, p_bind]
      refine ih _ ⟨b2, by rw [nI_1], ?_⟩
      rw [mapTo_step (gapC f) hc]
      unfold gapC
      rw [if_pos hcf]
      exact h2
    · rw [if_pos (by rw [p_le (by omega) (by omega)]; omega)]
      refine ih _ ⟨b', by rw [nI_1], ?_⟩
      rw [mapTo_id (gapC f) hc (by unfold gapC; rw [if_neg hcf])]
      exact hb
  · obtain ⟨b', rfl, hb⟩ := hI
    have w0 := h.1.2.1
    dsimp only
    unfold f_X0_closeGapAt_p54
    rw [hb.2.2.1, if_pos (by rw [p_le (by simp [mapTo_len]; omega) (by omega)]; simp [mapTo_len])]
    refine ⟨b', rfl, ?_⟩
    rw [mapTo_all] at hb
    exact hb
theorem c_closeGapAt (h : rC b B) {f : Nat} (hf : f < B.1.length) : ∃ b', f_X0_closeGapAt b (nI f) = some b' ∧ rC b' (B.1.eraseIdx f, B.2.1.map (gapC f), B.2.2) := by
  have w0 := h.1.1
  unfold f_X0_closeGapAt
  rw [nI_1]
  unfold lp_X0_closeGapAt_p4
  refine p_forI B.1.length (fun i s => ∃ b' fl, s = (b', nI f, nI i) ∧ f + 1 ≤ i ∧ rC b' (fl, B.2) ∧ fl.length = B.1.length ∧ ∀ j : Nat, fl[j]? = if f ≤ j ∧ j + 1 < i then B.1[j + 1]? else B.1[j]?) _ (by omega) (fun i k s hi hI ih => ?_) (fun k s hI => ?_) (f + 1) _ (by omega) ⟨b, B.1, rfl, Nat.le_refl _, h, rfl, fun j => by rw [if_neg (by omega)]⟩
  · obtain ⟨b', fl, rfl, hfi, hb, hl, hg⟩ := hI
    obtain ⟨g, hgi, hgm⟩ := p_at hi
    have hgi' : fl[i]? = some g := by rw [hg, if_neg (by omega)]; exact hgi
    obtain ⟨p, hpi, hpm⟩ := p_at (l := fl) (i := i - 1) (by omega)
    have wg := h.1.2.2.1 g hgm
    dsimp only
    unfold f_X0_closeGapAt_p4
    rw [hb.2.1, if_neg (by rw [p_le (by simp; omega) (by omega)]; simp; omega), c_classOf hb hgi', p_bind]
    rw [show nI i - (1 : Int32) = nI (i - 1) by rw [show i = (i - 1) + 1 by omega, nI_pred]; rfl]
    obtain ⟨b2, e2, h2⟩ := c_putClass hb hpi wg.1
    dsimp only at h2
    rw [e2, p_bind]
    have hgi2 : (fl.set (i - 1) (g.1, p.2))[i]? = some g := by rw [List.getElem?_set, if_neg (by omega)]; exact hgi'
    rw [c_yearsOf h2 hgi2, p_bind]
    obtain ⟨b3, e3, h3⟩ := c_putYears (i := i - 1) (f := (g.1, p.2)) h2 (by dsimp only; rw [List.getElem?_set, if_pos rfl, if_pos (by omega)]) wg.2
    dsimp only at h3
    rw [List.set_set] at h3
    rw [e3, p_bind]
    refine ih _ ⟨b3, _, by rw [nI_1], by omega, h3, by simp [hl], fun j => ?_⟩
    rw [List.getElem?_set, hg]
    by_cases hj : i - 1 = j
    · rw [if_pos hj, if_pos (by omega), if_pos ⟨by omega, by omega⟩]
      rw [show j + 1 = i by omega, hgi]
    · rw [if_neg hj]
      by_cases hj2 : f ≤ j ∧ j + 1 < i
      · rw [if_pos hj2, if_pos ⟨hj2.1, by omega⟩]
      · rw [if_neg hj2, if_neg (by omega)]
  · obtain ⟨b', fl, rfl, hfi, hb, hl, hg⟩ := hI
    dsimp only
    unfold f_X0_closeGapAt_p4
    rw [hb.2.1, if_pos (by rw [p_le (by simp; omega) (by omega)]; simp; omega)]
    have hb2 := c_cut hb (n := fl.length - 1) (by simp)
    rw [show nI fl.length - (1 : Int32) = nI (fl.length - 1) by rw [show fl.length = (fl.length - 1) + 1 by omega, nI_pred]; rfl]
    obtain ⟨b3, e3, h3⟩ := c_gapC (f := f) hb2 (by omega)
    refine ⟨b3, e3, ?_⟩
    have e : (fl.take (fl.length - 1)) = B.1.eraseIdx f := by
      apply List.ext_getElem?
      intro j
      rw [List.getElem?_take, List.getElem?_eraseIdx, hg]
      by_cases h1 : j < fl.length - 1
      · rw [if_pos h1]
        by_cases h2 : j < f
        · rw [if_pos h2, if_neg (by omega)]
        · rw [if_neg h2, if_pos ⟨by omega, by omega⟩]
      · rw [if_neg h1, if_neg (by omega), List.getElem?_eq_none (by omega)]
    dsimp only at h3
    rw [e] at h3
    exact h3
theorem c_isOf (h : rC b B) {j f : Nat} {x : Int32} {c : Cm} (hc : B.2.1[j]? = some c) (hf : f < 2 ^ 31) : f_X0_isOf b (nI j) (nI f) x = some (if c.1 = f ∧ (x >>> (nI c.2.1 &&& 31)) &&& (1 : Int32) = 1 then 1 else 0) := by
  have hj := (List.getElem?_eq_some_iff.mp hc).1
  have w1 := h.1.2.1
  have w := h.1.2.2.2.1 c (List.mem_of_getElem? hc)
  have w2 := w.1
  unfold f_X0_isOf
  rw [c_hasC h hj, p_bind, if_neg (by decide), p_rd (by omega) (by omega), p_bind, h.2.2.2.2.2.2 j c hc, p_enc1 w, p_bind, p_enc2 w]
  by_cases h1 : c.1 = f
  · rw [if_pos (by rw [h1])]
    by_cases h2 : (x >>> (nI c.2.1 &&& 31)) &&& (1 : Int32) = 1
    · rw [if_pos h2, if_pos ⟨h1, h2⟩]
    · rw [if_neg h2, if_neg (fun q => h2 q.2)]
  · rw [if_neg (by rw [p_eq (by omega) hf]; exact h1), if_neg (fun q => h1 q.1)]
theorem p_bit {s y : Nat} (hs : s < 2 ^ 31) (hy : y < 32) : ((nI s >>> (nI y &&& 31)) &&& (1 : Int32) = 1) ↔ s / 2 ^ y % 2 = 1 := by
  have h1 : s / 2 ^ y ≤ s := Nat.div_le_self _ _
  rw [p_shr hs hy, pk_andN (by omega) 1 (by decide), show (1 : Int32) = nI 1 from rfl, nI_eq (by omega) (by omega)]
theorem c_isOfN (h : rC b B) {j f s : Nat} {c : Cm} (hc : B.2.1[j]? = some c) (hf : f < 2 ^ 31) (hs : s < 2 ^ 31) : f_X0_isOf b (nI j) (nI f) (nI s) = some (if isOfN f s c = true then 1 else 0) := by
  have w := h.1.2.2.2.1 c (List.mem_of_getElem? hc)
  rw [c_isOf h hc hf]
  have e : (c.1 = f ∧ (nI s >>> (nI c.2.1 &&& 31)) &&& (1 : Int32) = 1) ↔ isOfN f s c = true := by
    rw [p_bit hs (by have := w.2.1; omega)]
    unfold isOfN
    rw [Bool.and_eq_true, decide_eq_true_iff, decide_eq_true_iff]
  simp only [e]
end PL
