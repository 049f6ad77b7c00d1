/-! PURE: the class's book, the other writes, and counts -/
def cnt {α : Type} (p : α → Bool) (l : List α) : Nat := (l.filter p).length
theorem cnt_le {α : Type} (p : α → Bool) (l : List α) : cnt p l ≤ l.length := List.length_filter_le p l
theorem cnt_take {α : Type} (p : α → Bool) {l : List α} {i : Nat} {a : α} (h : l[i]? = some a) : cnt p (l.take (i + 1)) = cnt p (l.take i) + (if p a = true then 1 else 0) := by
  unfold cnt
  rw [List.take_succ, h, List.filter_append, List.length_append]
  by_cases hp : p a = true
  · simp [hp]
  · simp [hp]
theorem cnt_0 {α : Type} (p : α → Bool) (l : List α) : cnt p (l.take 0) = 0 := by simp [cnt]
theorem cnt_all {α : Type} (p : α → Bool) (l : List α) : cnt p (l.take l.length) = cnt p l := by rw [List.take_length]
section PM
variable {b : S0} {B : Bk}
theorem c_moveAll (h : rC b B) {c d : Nat} (hc : c < 3) (hd : d < 3) : ∃ b', f_X0_moveAll b (nI c) (nI d) = some (nI (cnt (fun g => decide (g.1 = c)) B.1), b') ∧ rC b' (B.1.map (fun g => if g.1 = c then (d, g.2) else g), B.2) := by
  have w0 := h.1.1
  have hle := cnt_le (fun g : Nat × Nat => decide (g.1 = c)) B.1
  unfold f_X0_moveAll lp_X0_moveAll_p5
  have key := p_forI (body := fun (k : S0 × Int32 × Int32 × Int32 × Int32 → Option (Int32 × S0)) (z : S0 × Int32 × Int32 × Int32 × Int32) => f_X0_moveAll_p5 (fun s x1 x2 x3 x4 => k (s, x1, x2, x3, x4)) z.1 z.2.1 z.2.2.1 z.2.2.2.1 z.2.2.2.2) B.1.length
    (fun i t => ∃ b', t = (b', nI c, nI d, nI (cnt (fun g => decide (g.1 = c)) (B.1.take i)), nI i) ∧ rC b' (mapTo (fun g => if g.1 = c then (d, g.2) else g) i B.1, B.2))
    (fun r => ∃ b', r = (nI (cnt (fun g => decide (g.1 = c)) B.1), b') ∧ rC b' (B.1.map (fun g => if g.1 = c then (d, g.2) else g), B.2)) (by omega) (fun i k t hi hI ih => ?_) (fun k t hI => ?_) 0 (b, nI c, nI d, 0, 0) (Nat.zero_le _) ⟨b, by rw [cnt_0]; rfl, by rw [mapTo_0]; exact h⟩
  · obtain ⟨r, e1, b', rfl, hb⟩ := key
    exact ⟨b', e1, hb⟩
  · obtain ⟨b', rfl, hb⟩ := hI
    obtain ⟨g, hg, hgm⟩ := p_at hi
    have hg' : (mapTo (fun g : Nat × Nat => if g.1 = c then (d, g.2) else g) i B.1)[i]? = some g := by rw [mapTo_get, if_neg (by omega)]; exact hg
    have wg := h.1.2.2.1 g hgm
    dsimp only
    unfold f_X0_moveAll_p5
    rw [hb.2.1, if_neg (by rw [p_le (by simp [mapTo_len]; omega) (by omega)]; simp [mapTo_len]; omega), c_classOf hb hg', p_bind]
    by_cases hgc : g.1 = c
    · rw [if_pos (by rw [hgc])]
      obtain ⟨b2, e2, h2⟩ := c_putClass hb hg' hd
      rw [e2, p_bind]
      refine ih _ ⟨b2, by rw [cnt_take _ hg, if_pos (by simp [hgc]), nI_1, nI_1], ?_⟩
      rw [mapTo_step _ hg, if_pos hgc]
      exact h2
    · rw [if_neg (by rw [p_eq (by omega) (by omega)]; exact hgc)]
      refine ih _ ⟨b', by rw [cnt_take _ hg, if_neg (by simp [hgc]), nI_1]; rfl, ?_⟩
      rw [mapTo_id _ hg (by rw [if_neg hgc])]
      exact hb
  · obtain ⟨b', rfl, hb⟩ := hI
    dsimp only
    unfold f_X0_moveAll_p5
    rw [hb.2.1, if_pos (by rw [p_le (by simp [mapTo_len]; omega) (by omega)]; simp [mapTo_len]), cnt_all]
    rw [mapTo_all] at hb
    exact ⟨_, rfl, b', rfl, hb⟩
def handC (f s o : Nat) (c : Cm) : Cm := if isOfN f s c = true then (o, c.2) else c
theorem c_handOver (h : rC b B) {f s o : Nat} (hf : f < 2 ^ 31) (hs : s < 2 ^ 31) (ho : o < 8) : ∃ b', f_X0_handOver b (nI f) (nI s) (nI o) = some b' ∧ rC b' (B.1, B.2.1.map (handC f s o), B.2.2) := by
  have w0 := h.1.2.1
  unfold f_X0_handOver lp_X0_handOver_p3
  refine p_forI B.2.1.length (fun i t => ∃ b', t = (b', nI f, nI s, nI o, nI i) ∧ rC b' (B.1, mapTo (handC f s o) i B.2.1, B.2.2)) _ (by omega) (fun i k t hi hI ih => ?_) (fun k t hI => ?_) 0 _ (Nat.zero_le _) ⟨b, rfl, by rw [mapTo_0]; exact h⟩
  · obtain ⟨b', rfl, hb⟩ := hI
    obtain ⟨c, hc, hcm⟩ := p_at hi
    have hc' : (mapTo (handC f s o) i B.2.1)[i]? = some c := by rw [mapTo_get, if_neg (by omega)]; exact hc
    dsimp only
    unfold f_X0_handOver_p3
    rw [hb.2.2.1, if_neg (by rw [p_le (by simp [mapTo_len]; omega) (by omega)]; simp [mapTo_len]; omega), c_isOfN hb hc' hf hs, p_bind]
    by_cases hof : isOfN f s c = true
    · rw [if_pos hof, if_neg (by decide)]
      obtain ⟨b2, e2, h2⟩ := c_putFleet hb hc' ho
      rw [e2, p_bind]
      refine ih _ ⟨b2, by rw [nI_1], ?_⟩
      rw [mapTo_step (handC f s o) hc]
      unfold handC
      rw [if_pos hof]
      exact h2
    · rw [if_neg hof, if_pos rfl]
      refine ih _ ⟨b', by rw [nI_1], ?_⟩
      rw [mapTo_id (handC f s o) hc (by unfold handC; rw [if_neg hof])]
      exact hb
  · obtain ⟨b', rfl, hb⟩ := hI
    dsimp only
    unfold f_X0_handOver_p3
    rw [hb.2.2.1, if_pos (by rw [p_le (by simp [mapTo_len]; omega) (by omega)]; simp [mapTo_len])]
    refine ⟨b', rfl, ?_⟩
    rw [mapTo_all] at hb
    exact hb
def swapC (f o : Nat) (c : Cm) : Cm := if c.1 = f then (o, c.2) else if c.1 = o then (f, c.2) else c
theorem c_exchange (h : rC b B) {f o : Nat} {g k : Nat × Nat} (hg : B.1[f]? = some g) (hk : B.1[o]? = some k) (hfo : f ≠ o) : ∃ b', f_X0_exchange b (nI f) (nI o) = some b' ∧ rC b' ((B.1.set f k).set o g, B.2.1.map (swapC f o), B.2.2) := by
  have w0 := h.1.1
  have w1 := h.1.2.1
  have hf := (List.getElem?_eq_some_iff.mp hg).1
  have ho := (List.getElem?_eq_some_iff.mp hk).1
  have wg := h.1.2.2.1 g (List.mem_of_getElem? hg)
  have wk := h.1.2.2.1 k (List.mem_of_getElem? hk)
  unfold f_X0_exchange
  rw [c_classOf h hg, p_bind, c_yearsOf h hg, p_bind, c_classOf h hk, p_bind]
  obtain ⟨b1, e1, h1⟩ := c_putClass h hg wk.1
  rw [e1, p_bind]
  have q1 : (B.1.set f (k.1, g.2))[o]? = some k := by rw [List.getElem?_set, if_neg hfo]; exact hk
  rw [c_yearsOf h1 q1, p_bind]
  obtain ⟨b2, e2, h2⟩ := c_putYears (i := f) (f := (k.1, g.2)) h1 (by rw [List.getElem?_set, if_pos rfl, if_pos hf]) wk.2
  rw [e2, p_bind]
  have q2 : ((B.1.set f (k.1, g.2)).set f (k.1, k.2))[o]? = some k := by rw [List.getElem?_set, if_neg hfo]; exact q1
  obtain ⟨b3, e3, h3⟩ := c_putClass (i := o) (f := k) h2 q2 wg.1
  rw [e3, p_bind]
  obtain ⟨b4, e4, h4⟩ := c_putYears (i := o) (f := (g.1, k.2)) h3 (by dsimp only; rw [List.getElem?_set, if_pos rfl, if_pos (by simp; exact ho)]) wg.2
  rw [e4, p_bind]
  have e0 : ((((B.1.set f (k.1, g.2)).set f (k.1, k.2)).set o (g.1, k.2)).set o (g.1, g.2)) = (B.1.set f k).set o g := by
    rw [List.set_set, List.set_set]
  dsimp only at h4
  rw [e0] at h4
  unfold lp_X0_exchange_p49
  refine p_forI B.2.1.length (fun i t => ∃ b', t = (b', nI f, nI o, nI i) ∧ rC b' ((B.1.set f k).set o g, mapTo (swapC f o) i B.2.1, B.2.2)) _ (by omega) (fun i kk t hi hI ih => ?_) (fun kk t hI => ?_) 0 _ (Nat.zero_le _) ⟨b4, rfl, by rw [mapTo_0]; exact h4⟩
  · obtain ⟨b', rfl, hb⟩ := hI
    obtain ⟨c, hc, hcm⟩ := p_at hi
    have hc' : (mapTo (swapC f o) i B.2.1)[i]? = some c := by rw [mapTo_get, if_neg (by omega)]; exact hc
    have wc := (h.1.2.2.2.1 c hcm).1
    dsimp only
    unfold f_X0_exchange_p49
    rw [hb.2.2.1, if_neg (by rw [p_le (by simp [mapTo_len]; omega) (by omega)]; simp [mapTo_len]; omega), c_fleetOf hb hc', p_bind]
    by_cases h1 : c.1 = f
    · rw [if_pos (by rw [h1])]
      obtain ⟨b2, e2, h2⟩ := c_putFleet (f := o) hb hc' (by omega)
      rw [e2, p_bind]
      refine ih _ ⟨b2, by rw [nI_1], ?_⟩
      rw [mapTo_step (swapC f o) hc]
      unfold swapC
      rw [if_pos h1]
      exact h2
    · rw [if_neg (by rw [p_eq (by omega) (by omega)]; exact h1), p_bind]
      by_cases h2 : c.1 = o
      · rw [if_pos (by rw [h2])]
        obtain ⟨b2, e2, h2'⟩ := c_putFleet (f := f) hb hc' (by omega)
        rw [e2, p_bind]
        refine ih _ ⟨b2, by rw [nI_1], ?_⟩
        rw [mapTo_step (swapC f o) hc]
        unfold swapC
        rw [if_neg h1, if_pos h2]
        exact h2'
      · rw [if_neg (by rw [p_eq (by omega) (by omega)]; exact h2)]
        refine ih _ ⟨b', by rw [nI_1], ?_⟩
        rw [mapTo_id (swapC f o) hc (by unfold swapC; rw [if_neg h1, if_neg h2])]
        exact hb
  · obtain ⟨b', rfl, hb⟩ := hI
    dsimp only
    unfold f_X0_exchange_p49
    rw [hb.2.2.1, if_pos (by rw [p_le (by simp [mapTo_len]; omega) (by omega)]; simp [mapTo_len])]
    refine ⟨b', rfl, ?_⟩
    rw [mapTo_all] at hb
    exact hb
theorem c_splitOff (h : rC b B) {f s : Nat} {g : Nat × Nat} (hg : B.1[f]? = some g) (hn : B.1.length < 8) (hs : s < 32) : ∃ b', f_X0_splitOff b (nI f) (nI s) = some (nI B.1.length, b') ∧ rC b' (B.1.set f (g.1, notIn g.2 s) ++ [(g.1, s)], B.2.1.map (handC f s B.1.length), B.2.2) := by
  have hf := (List.getElem?_eq_some_iff.mp hg).1
  have wg := h.1.2.2.1 g (List.mem_of_getElem? hg)
  unfold f_X0_splitOff
  rw [c_classOf h hg, p_bind]
  obtain ⟨b1, e1, h1⟩ := c_addFleet h hn wg.1 hs
  rw [e1, p_bind]
  dsimp only
  rw [if_neg (by intro e; have := nI_pos (n := B.1.length) (by omega); rw [e] at this; exact this (by decide))]
  have q1 : (B.1 ++ [(g.1, s)])[f]? = some g := by rw [List.getElem?_append_left hf]; exact hg
  obtain ⟨n1, n2⟩ := p_notIn g.2 wg.2 s hs
  rw [c_yearsOf h1 q1, p_bind, n1]
  obtain ⟨b2, e2, h2⟩ := c_putYears h1 q1 n2
  rw [e2, p_bind]
  obtain ⟨b3, e3, h3⟩ := c_handOver (f := f) (s := s) (o := B.1.length) h2 (by omega) (by omega) (by omega)
  rw [e3, p_bind]
  refine ⟨b3, rfl, ?_⟩
  dsimp only at h3
  rw [List.set_append_left _ _ hf] at h3
  exact h3
theorem c_mergeInto (h : rC b B) {f o : Nat} {g k : Nat × Nat} (hg : B.1[f]? = some g) (hk : B.1[o]? = some k) (hfo : f ≠ o) : ∃ b', f_X0_mergeInto b (nI f) (nI o) = some (nI (if o ≤ f then o else o - 1), b') ∧ rC b' ((B.1.set o (k.1, k.2 ||| g.2)).eraseIdx f, (B.2.1.map (fun c => if c.1 = f then (o, c.2) else c)).map (gapC f), B.2.2) := by
  have w0 := h.1.1
  have hf := (List.getElem?_eq_some_iff.mp hg).1
  have ho := (List.getElem?_eq_some_iff.mp hk).1
  have wg := h.1.2.2.1 g (List.mem_of_getElem? hg)
  have wk := h.1.2.2.1 k (List.mem_of_getElem? hk)
  unfold f_X0_mergeInto
  rw [c_yearsOf h hk, p_bind, c_yearsOf h hg, p_bind, p_or (by omega) (by omega)]
  obtain ⟨b1, e1, h1⟩ := c_putYears (v := k.2 ||| g.2) h hk (Nat.or_lt_two_pow (n := 5) wk.2 wg.2)
  rw [e1, p_bind]
  obtain ⟨b2, e2, h2⟩ := c_handOver (f := f) (s := 31) (o := o) h1 (by omega) (by omega) (by omega)
  rw [show (31 : Int32) = nI 31 from rfl, e2, p_bind]
  obtain ⟨b3, e3, h3⟩ := c_closeGapAt (f := f) h2 (by simp; exact hf)
  rw [e3, p_bind]
  have ec : B.2.1.map (handC f 31 o) = B.2.1.map (fun c => if c.1 = f then (o, c.2) else c) := by
    apply List.map_congr_left
    intro c hc
    unfold handC
    rw [isOfN_31 f (h.1.2.2.2.1 c hc)]
    simp
  dsimp only at h3
  rw [ec] at h3
  by_cases h4 : o ≤ f
  · rw [if_pos (by rw [p_le (by omega) (by omega)]; exact h4), if_pos h4]
    exact ⟨b3, rfl, h3⟩
  · rw [if_neg (by rw [p_le (by omega) (by omega)]; exact h4), if_neg h4]
    rw [show nI o - (1 : Int32) = nI (o - 1) by rw [show o = (o - 1) + 1 by omega, nI_pred]; rfl]
    exact ⟨b3, rfl, h3⟩
end PM
