/-! PURE: the class's book, claims that go, and what stands on it -/
section PD
variable {b : S0} {B : Bk}
theorem c_dropClaimsOf (h : rC b B) {f s : Nat} (hf : f < 2 ^ 31) (hs : s < 2 ^ 31) : ∃ b', f_X0_dropClaimsOf b (nI f) (nI s) = some (nI (B.2.1.length - (B.2.1.filter (fun c => !isOfN f s c)).length), b') ∧ rC b' (B.1, B.2.1.filter (fun c => !isOfN f s c), B.2.2) := by
  have w0 := h.1.2.1
  have hfl : ∀ i : Nat, ((B.2.1.take i).filter (fun c => !isOfN f s c)).length ≤ i := fun i => Nat.le_trans (List.length_filter_le _ _) (by simp; omega)
  have hfl2 := List.length_filter_le (fun c => !isOfN f s c) B.2.1
  unfold f_X0_dropClaimsOf
  rw [h.2.2.1]
  unfold lp_X0_dropClaimsOf_p11
  have key := p_forI (body := fun (k : S0 × Int32 × Int32 × Int32 × Int32 × Int32 → Option (Int32 × S0)) (z : S0 × Int32 × Int32 × Int32 × Int32 × Int32) => f_X0_dropClaimsOf_p11 (fun s x1 x2 x3 x4 x5 => k (s, x1, x2, x3, x4, x5)) z.1 z.2.1 z.2.2.1 z.2.2.2.1 z.2.2.2.2.1 z.2.2.2.2.2) B.2.1.length
    (fun i t => ∃ b' cl, t = (b', nI f, nI s, nI B.2.1.length, nI ((B.2.1.take i).filter (fun c => !isOfN f s c)).length, nI i) ∧ rC b' (B.1, cl, B.2.2) ∧ cl.length = B.2.1.length ∧ (∀ j : Nat, j < ((B.2.1.take i).filter (fun c => !isOfN f s c)).length → cl[j]? = ((B.2.1.take i).filter (fun c => !isOfN f s c))[j]?) ∧ ∀ j : Nat, i ≤ j → cl[j]? = B.2.1[j]?)
    (fun r => ∃ b', r = (nI (B.2.1.length - (B.2.1.filter (fun c => !isOfN f s c)).length), b') ∧ rC b' (B.1, B.2.1.filter (fun c => !isOfN f s c), B.2.2)) (by omega) (fun i k t hi hI ih => ?_) (fun k t hI => ?_) 0 (b, nI f, nI s, nI B.2.1.length, 0, 0) (Nat.zero_le _) ⟨b, B.2.1, (by simp; rfl), h, rfl, fun j hj => by simp at hj, fun j _ => rfl⟩
  · obtain ⟨r, e1, b', rfl, hb⟩ := key
    exact ⟨b', e1, hb⟩
  · obtain ⟨b', cl, rfl, hb, hl, hlo, hhi⟩ := hI
    obtain ⟨c, hc, hcm⟩ := p_at hi
    have hc' : cl[i]? = some c := by rw [hhi i (Nat.le_refl _)]; exact hc
    have w := h.1.2.2.2.1 c hcm
    have hk := hfl i
    have ht : B.2.1.take (i + 1) = B.2.1.take i ++ [c] := by
      rw [List.take_succ, hc]; rfl
    dsimp only
    unfold f_X0_dropClaimsOf_p11
    rw [if_neg (by rw [p_le (by omega) (by omega)]; omega), c_isOfN hb hc' hf hs, p_bind]
    by_cases hof : isOfN f s c = true
    · rw [if_pos hof, if_neg (by decide)]
      have e : (B.2.1.take (i + 1)).filter (fun c => !isOfN f s c) = (B.2.1.take i).filter (fun c => !isOfN f s c) := by rw [ht, List.filter_append]; simp [hof]
      exact ih _ ⟨b', cl, by rw [e, nI_1], hb, hl, by rw [e]; exact hlo, fun j hj => hhi j (by omega)⟩
    · rw [if_neg hof, if_pos rfl, c_fleetOf hb hc', p_bind, c_yearOf hb hc', p_bind, c_amountOf hb hc', p_bind]
      obtain ⟨b2, e2, h2⟩ := c_putClaim (j := ((B.2.1.take i).filter (fun c => !isOfN f s c)).length) hb (by dsimp only; omega) (show wfc (c.1, c.2.1, c.2.2) from w)
      rw [e2, p_bind]
      have e : (B.2.1.take (i + 1)).filter (fun c => !isOfN f s c) = (B.2.1.take i).filter (fun c => !isOfN f s c) ++ [c] := by rw [ht, List.filter_append]; simp [hof]
      refine ih _ ⟨b2, _, by rw [e, nI_1, nI_1]; simp, h2, by simp [hl], fun j hj => ?_, fun j hj => ?_⟩
      · rw [e] at hj ⊢
        dsimp only
        rw [List.getElem?_set]
        by_cases hj2 : ((B.2.1.take i).filter (fun c => !isOfN f s c)).length = j
        · rw [if_pos hj2, if_pos (by omega), List.getElem?_append_right (by omega), hj2, Nat.sub_self]
          rfl
        · have : j < ((B.2.1.take i).filter (fun c => !isOfN f s c)).length := by simp at hj; omega
          rw [if_neg hj2, List.getElem?_append_left this]
          exact hlo j this
      · dsimp only
        rw [List.getElem?_set, if_neg (by omega)]
        exact hhi j (by omega)
  · obtain ⟨b', cl, rfl, hb, hl, hlo, hhi⟩ := hI
    rw [List.take_length] at hlo
    dsimp only
    unfold f_X0_dropClaimsOf_p11
    rw [if_pos (by rw [p_le (by omega) (by omega)]; omega), List.take_length]
    refine ⟨_, rfl, u0_claims b' (nI (B.2.1.filter (fun c => !isOfN f s c)).length), by rw [pk_sub hfl2], ?_⟩
    have h2 := c_cutC hb (n := (B.2.1.filter (fun c => !isOfN f s c)).length) (by dsimp only; omega)
    dsimp only at h2
    have e : cl.take (B.2.1.filter (fun c => !isOfN f s c)).length = B.2.1.filter (fun c => !isOfN f s c) := by
      apply List.ext_getElem?
      intro j
      rw [List.getElem?_take]
      by_cases hj : j < (B.2.1.filter (fun c => !isOfN f s c)).length
      · rw [if_pos hj]; exact hlo j hj
      · rw [if_neg hj, List.getElem?_eq_none (by omega)]
    rw [e] at h2
    exact h2
theorem isOfN_31 (f : Nat) {c : Cm} (h : wfc c) : isOfN f 31 c = decide (c.1 = f) := by
  have : ∀ y, y < 5 → 31 / 2 ^ y % 2 = 1 := by decide
  unfold isOfN
  rw [decide_eq_true (this c.2.1 h.2.1), Bool.and_true]
theorem c_dropFleet (h : rC b B) {f : Nat} (hf : f < B.1.length) : ∃ b', f_X0_dropFleet b (nI f) = some b' ∧ rC b' (B.1.eraseIdx f, (B.2.1.filter (fun c => !decide (c.1 = f))).map (gapC f), B.2.2) := by
  have w0 := h.1.1
  unfold f_X0_dropFleet
  rw [c_hasF h hf, p_bind, if_neg (by decide)]
  obtain ⟨b1, e1, h1⟩ := c_dropClaimsOf (f := f) (s := 31) h (by omega) (by omega)
  rw [show (31 : Int32) = nI 31 from rfl, e1, p_bind]
  obtain ⟨b2, e2, h2⟩ := c_closeGapAt (f := f) h1 hf
  rw [e2, p_bind]
  refine ⟨b2, rfl, ?_⟩
  have e : B.2.1.filter (fun c => !isOfN f 31 c) = B.2.1.filter (fun c => !decide (c.1 = f)) := List.filter_congr (fun c hc => by rw [isOfN_31 f (h.1.2.2.2.1 c hc)])
  rw [e] at h2
  exact h2
theorem c_endYears (h : rC b B) {f s : Nat} {g : Nat × Nat} (hg : B.1[f]? = some g) (hs : s < 32) : ∃ b' r, f_X0_endYears b (nI f) (nI s) = some (nI r, b') ∧ r = B.2.1.length - (B.2.1.filter (fun c => !isOfN f s c)).length ∧ rC b' (B.1.set f (g.1, notIn g.2 s), B.2.1.filter (fun c => !isOfN f s c), B.2.2) := by
  have hf := (List.getElem?_eq_some_iff.mp hg).1
  have w0 := h.1.1
  have wg := h.1.2.2.1 g (List.mem_of_getElem? hg)
  unfold f_X0_endYears
  obtain ⟨n1, n2⟩ := p_notIn g.2 wg.2 s hs
  rw [c_yearsOf h hg, p_bind, n1]
  obtain ⟨b1, e1, h1⟩ := c_putYears h hg n2
  rw [e1, p_bind]
  obtain ⟨b2, e2, h2⟩ := c_dropClaimsOf (f := f) (s := s) h1 (by omega) (by omega)
  rw [e2, p_bind]
  exact ⟨b2, _, rfl, rfl, h2⟩
theorem filter_filter_or {α : Type} (p q r : α → Bool) (l : List α) (h : ∀ a ∈ l, r a = (p a || q a)) : (l.filter (fun a => !p a)).filter (fun a => !q a) = l.filter (fun a => !r a) := by
  rw [List.filter_filter]
  apply List.filter_congr
  intro a ha
  rw [h a ha]
  cases p a <;> cases q a <;> rfl
/-- claims of the years of a set, of every fleet below i -/
def inSetTo (i s : Nat) (c : Cm) : Bool := decide (c.1 < i) && decide (s / 2 ^ c.2.1 % 2 = 1)
theorem c_endYearsOfAll (h : rC b B) {s : Nat} (hs : s < 32) : ∃ b', f_X0_endYearsOfAll b (nI s) = some b' ∧ rC b' (B.1.map (fun g => (g.1, notIn g.2 s)), B.2.1.filter (fun c => !inSetTo B.1.length s c), B.2.2) := by
  have w0 := h.1.1
  unfold f_X0_endYearsOfAll lp_X0_endYearsOfAll_p2
  refine p_forI B.1.length (fun i t => ∃ b', t = (b', nI s, nI i) ∧ rC b' (mapTo (fun g => (g.1, notIn g.2 s)) i B.1, B.2.1.filter (fun c => !inSetTo i s c), B.2.2)) _ (by omega) (fun i k t hi hI ih => ?_) (fun k t hI => ?_) 0 _ (Nat.zero_le _) ⟨b, rfl, ?_⟩
  · obtain ⟨b', rfl, hb⟩ := hI
    obtain ⟨g, hg, hgm⟩ := p_at hi
    have hg' : (mapTo (fun g : Nat × Nat => (g.1, notIn g.2 s)) i B.1)[i]? = some g := by rw [mapTo_get, if_neg (by omega)]; exact hg
    dsimp only
    unfold f_X0_endYearsOfAll_p2
    rw [hb.2.1, if_neg (by rw [p_le (by simp [mapTo_len]; omega) (by omega)]; simp [mapTo_len]; omega)]
    obtain ⟨b2, r, e2, -, h2⟩ := c_endYears hb hg' hs
    rw [e2, p_bind]
    refine ih _ ⟨b2, by rw [nI_1], ?_⟩
    rw [mapTo_step (fun g : Nat × Nat => (g.1, notIn g.2 s)) hg]
    dsimp only at h2
    rw [filter_filter_or (inSetTo i s) (isOfN i s) (inSetTo (i + 1) s)] at h2
    · exact h2
    · intro c _
      unfold inSetTo isOfN
      by_cases h1 : c.1 < i
      · simp [h1, show c.1 < i + 1 by omega, show ¬ c.1 = i by omega]
      · by_cases h3 : c.1 = i
        · simp [h3]
        · simp [h1, h3, show ¬ c.1 < i + 1 by omega]
  · obtain ⟨b', rfl, hb⟩ := hI
    dsimp only
    unfold f_X0_endYearsOfAll_p2
    rw [hb.2.1, if_pos (by rw [p_le (by simp [mapTo_len]; omega) (by omega)]; simp [mapTo_len])]
    refine ⟨b', rfl, ?_⟩
    rw [mapTo_all] at hb
    exact hb
  · rw [mapTo_0]
    have : B.2.1.filter (fun c => !inSetTo 0 s c) = B.2.1 := by
      apply List.filter_eq_self.mpr
      intro c _
      simp [inSetTo]
    rw [this]
    exact h
end PD
