/-! PURE: swap, scale -/
theorem m_swapC {s : S8} {B : Bk} (h : rM (g8_now s) B) {f o : Nat} (hf : f < 8) (ho : o < 8) : ∃ w, lp_X8_swap_p94 s (nI f) (nI o) 0 = some (1, u8_now s w) ∧ rM w (B.1, B.2.1.map (swapC f o), B.2.2) := by
  have w1 := h.1.2.1
  unfold lp_X8_swap_p94
  have key := p_forI (body := fun (k : S8 × Int32 × Int32 × Int32 → Option (Int32 × S8)) (z : S8 × Int32 × Int32 × Int32) => f_X8_swap_p94 (fun s x1 x2 x3 => k (s, x1, x2, x3)) z.1 z.2.1 z.2.2.1 z.2.2.2) B.2.1.length (fun i t => ∃ w, t = (u8_now s w, nI f, nI o, nI i) ∧ rM w (B.1, mapTo (swapC f o) i B.2.1, B.2.2)) (fun r => ∃ w, r = (1, u8_now s w) ∧ rM w (B.1, B.2.1.map (swapC f o), B.2.2)) (by omega) (fun i k t hi hI ih => ?_) (fun k t hI => ?_) 0 (s, nI f, nI o, 0) (Nat.zero_le _) ⟨g8_now s, rfl, by rw [mapTo_0]; exact h⟩
  · obtain ⟨r, e1, w, rfl, hw⟩ := key
    exact ⟨w, e1, hw⟩
  · obtain ⟨w, rfl, hb⟩ := hI
    obtain ⟨c, hc, hcm⟩ := p_at hi
    have hc' : (mapTo (swapC f o) i B.2.1)[i]? = some c := by rw [mapTo_get, if_neg (by omega)]; exact hc
    have wc := h.1.2.2.2.1 c hcm
    have wc1 := wc.1
    have hb' : rM (g8_now (u8_now s w)) (B.1, mapTo (swapC f o) i B.2.1, B.2.2) := hb
    dsimp only
    unfold f_X8_swap_p94
    rw [m_claims hb', p_bind, if_neg (by rw [p_le (by simp [mapTo_len]; omega) (by omega)]; simp [mapTo_len]; omega), m_fleetOf hb' hc', p_bind]
    by_cases q : c.1 = f
    · rw [if_pos (by rw [q]), e20, p_wr (by omega) (by decide), p_bind]
      refine ih _ ⟨_, by rw [nI_1]; rfl, ?_⟩
      rw [mapTo_step _ hc]
      unfold swapC
      rw [if_pos q]
      exact r_cf hb hc' ho
    · rw [if_neg (by rw [p_eq (by omega) (by omega)]; exact q), p_bind]
      by_cases q2 : c.1 = o
      · rw [if_pos (by rw [q2]), e20, p_wr (by omega) (by decide), p_bind]
        refine ih _ ⟨_, by rw [nI_1]; rfl, ?_⟩
        rw [mapTo_step _ hc]
        unfold swapC
        rw [if_neg q, if_pos q2]
        exact r_cf hb hc' hf
      · rw [if_neg (by rw [p_eq (by omega) (by omega)]; exact q2)]
        refine ih _ ⟨w, by rw [nI_1], ?_⟩
        rw [mapTo_id _ hc (by unfold swapC; rw [if_neg q, if_neg q2])]
        exact hb
  · obtain ⟨w, rfl, hb⟩ := hI
    rw [mapTo_all] at hb
    have hb' : rM (g8_now (u8_now s w)) (B.1, B.2.1.map (swapC f o), B.2.2) := hb
    dsimp only
    unfold f_X8_swap_p94
    rw [m_claims hb', p_bind, if_pos (by rw [p_le (by simp; omega) (by omega)]; simp)]
    exact ⟨_, rfl, w, rfl, hb⟩
theorem m_swap {s : S8} {B : Bk} (h : rM (g8_now s) B) {f o : Nat} {g k : Nat × Nat} (hg : B.1[f]? = some g) (hk : B.1[o]? = some k) (hfo : f ≠ o) : ∃ w, lp_X8_swap_p29 s (nI f) (nI o) 0 = some (1, u8_now s w) ∧ rM w ((B.1.set f k).set o g, B.2.1.map (swapC f o), B.2.2) := by
  have w0 := h.1.1
  have hf := (List.getElem?_eq_some_iff.mp hg).1
  have ho := (List.getElem?_eq_some_iff.mp hk).1
  have wg := h.1.2.2.1 g (List.mem_of_getElem? hg)
  have wk := h.1.2.2.1 k (List.mem_of_getElem? hk)
  have h1 := r_class h hg wk.1
  have q1 : (B.1.set f (k.1, g.2))[o]? = some k := by rw [List.getElem?_set, if_neg hfo]; exact hk
  have h2 := r_class h1 q1 wg.1
  have q2 : ((B.1.set f (k.1, g.2)).set o (g.1, k.2))[f]? = some (k.1, g.2) := by rw [List.getElem?_set, if_neg (Ne.symm hfo), List.getElem?_set, if_pos rfl, if_pos hf]
  have h3 := r_years h2 q2 wk.2
  have q3 : (((B.1.set f (k.1, g.2)).set o (g.1, k.2)).set f (k.1, k.2))[o]? = some (g.1, k.2) := by rw [List.getElem?_set, if_neg hfo, List.getElem?_set, if_pos rfl, if_pos (by simp; exact ho)]
  have h4 := r_years h3 q3 wg.2
  have e0 : (((B.1.set f (k.1, g.2)).set o (g.1, k.2)).set f (k.1, k.2)).set o (g.1, g.2) = (B.1.set f k).set o g := by
    rw [List.set_comm _ _ (Ne.symm hfo), List.set_set, List.set_set]
  dsimp only at h4
  rw [e0] at h4
  obtain ⟨w, e9, h5⟩ := m_swapC (s := u8_now s (upd (upd (upd (upd (g8_now s) (4 + 2 * f) (nI k.1)) (4 + 2 * o) (nI g.1)) (5 + 2 * f) (nI k.2)) (5 + 2 * o) (nI g.2))) h4 (f := f) (o := o) (by omega) (by omega)
  refine ⟨w, ?_, h5⟩
  have e5' : lp_X8_swap_p94 (u8_now s (upd (upd (upd (upd (g8_now s) (4 + 2 * f) (nI k.1)) (4 + 2 * o) (nI g.1)) (5 + 2 * f) (nI k.2)) (5 + 2 * o) (nI g.2))) (nI f) (nI o) 0 = some (1, u8_now s w) := e9
  unfold lp_X8_swap_p29
  have key := p_for (body := fun (k : S8 × Int32 × Int32 × Int32 → Option (Int32 × S8)) (z : S8 × Int32 × Int32 × Int32) => f_X8_swap_p29 (fun s x1 x2 x3 => k (s, x1, x2, x3)) z.1 z.2.1 z.2.2.1 z.2.2.2) 2 (fun i => (u8_now s (if i = 0 then g8_now s else if i = 1 then upd (upd (g8_now s) (4 + 2 * f) (nI k.1)) (4 + 2 * o) (nI g.1) else upd (upd (upd (upd (g8_now s) (4 + 2 * f) (nI k.1)) (4 + 2 * o) (nI g.1)) (5 + 2 * f) (nI k.2)) (5 + 2 * o) (nI g.2)), nI f, nI o, nI i)) (1, u8_now s w) (by omega) (fun i kk hi ih => ?_) (fun kk => ?_) 0 (Nat.zero_le _)
  · exact key
  · rcases (show i = 0 ∨ i = 1 by omega) with rfl | rfl
    · dsimp only
      rw [if_pos rfl]
      unfold f_X8_swap_p29
      rw [if_neg (by decide), show (nI 0 : Int32) = 0 from rfl, p_a0, p_a0, e4, e4, show x_rd 140 (g8_now (u8_now s (g8_now s))) (nI (4 + 2 * f)) = some (nI g.1) from (p_rd (by omega) (by decide)).trans (congrArg some (h.2.2.2.2.2.1 f g hg).1), p_bind, show x_rd 140 (g8_now (u8_now s (g8_now s))) (nI (4 + 2 * o)) = some (nI k.1) from (p_rd (by omega) (by decide)).trans (congrArg some (h.2.2.2.2.2.1 o k hk).1), p_bind, p_wr (by omega) (by decide), p_bind, p_wr (by omega) (by decide), p_bind]
      exact ih
    · dsimp only
      rw [if_neg (by decide), if_pos rfl]
      unfold f_X8_swap_p29
      rw [if_neg (by decide), show (nI 1 : Int32) = 1 from rfl, e5, e5]
      rw [show x_rd 140 (g8_now (u8_now s (upd (upd (g8_now s) (4 + 2 * f) (nI k.1)) (4 + 2 * o) (nI g.1)))) (nI (5 + 2 * f)) = some (nI g.2) from (p_rd (by omega) (by decide)).trans (congrArg some (h2.2.2.2.2.2.1 f _ q2).2), p_bind, show x_rd 140 (g8_now (u8_now s (upd (upd (g8_now s) (4 + 2 * f) (nI k.1)) (4 + 2 * o) (nI g.1)))) (nI (5 + 2 * o)) = some (nI k.2) from (p_rd (by omega) (by decide)).trans (congrArg some (h2.2.2.2.2.2.1 o (g.1, k.2) (by dsimp only; rw [List.getElem?_set, if_pos rfl, if_pos (by simp; exact ho)])).2), p_bind, p_wr (by omega) (by decide), p_bind, p_wr (by omega) (by decide), p_bind]
      exact ih
  · dsimp only
    rw [if_neg (by decide), if_neg (by decide)]
    unfold f_X8_swap_p29
    rw [if_pos (by decide)]
    exact e5'
theorem ok_swap {B : Bk} (h : okB B) {f o : Nat} {g k : Nat × Nat} (hg : B.1[f]? = some g) (hk : B.1[o]? = some k) (hfo : f ≠ o) : okB ((B.1.set f k).set o g, B.2.1.map (swapC f o), B.2.2) := by
  obtain ⟨⟨a1, a2, a3, a4, a5, a6⟩, o1, o2, o3⟩ := h
  have hf := (List.getElem?_eq_some_iff.mp hg).1
  have ho := (List.getElem?_eq_some_iff.mp hk).1
  have gm := a3 g (List.mem_of_getElem? hg)
  have km := a3 k (List.mem_of_getElem? hk)
  refine ⟨⟨by simpa using a1, by simpa using a2, fun x hx => ?_, fun c hc => ?_, a5, a6⟩, o1, fun c hc => ?_, fun f' y => ?_⟩
  · rcases p_setmem hx with h | h
    · rcases p_setmem h with h | h
      · exact a3 x h
      · rw [h]; exact km
    · rw [h]; exact gm
  · obtain ⟨d, hd, rfl⟩ := List.mem_map.mp hc
    have := a4 d hd
    unfold swapC
    split
    · exact ⟨by dsimp only; omega, this.2⟩
    · split
      · exact ⟨by dsimp only; omega, this.2⟩
      · exact this
  · obtain ⟨d, hd, rfl⟩ := List.mem_map.mp hc
    obtain ⟨d1, x, d2, d3⟩ := o2 d hd
    unfold swapC
    by_cases q : d.1 = f
    · rw [if_pos q]
      refine ⟨d1, x, ?_, d3⟩
      rw [q, hg] at d2
      dsimp only
      rw [List.getElem?_set, if_pos rfl, if_pos (by simp; exact ho)]
      exact d2
    · rw [if_neg q]
      by_cases q2 : d.1 = o
      · rw [if_pos q2]
        refine ⟨d1, x, ?_, d3⟩
        rw [q2, hk] at d2
        dsimp only
        rw [List.getElem?_set, if_neg (Ne.symm hfo), List.getElem?_set, if_pos rfl, if_pos hf]
        exact d2
      · rw [if_neg q2]
        refine ⟨d1, x, ?_, d3⟩
        dsimp only
        rw [List.getElem?_set, if_neg (Ne.symm q2), List.getElem?_set, if_neg (Ne.symm q)]
        exact d2
  · refine Nat.le_trans (Nat.le_of_eq (cnt_map _ _ _)) (Nat.le_trans (cnt_mono (q := ofFY (if f' = f then o else if f' = o then f else f') y) (fun c hc e => ?_)) (o3 _ y))
    unfold swapC at e
    by_cases q : c.1 = f
    · rw [if_pos q] at e
      simp at e ⊢
      refine ⟨?_, e.2⟩
      rw [← e.1, if_neg (Ne.symm hfo), if_pos rfl, q]
    · rw [if_neg q] at e
      by_cases q2 : c.1 = o
      · rw [if_pos q2] at e
        simp at e ⊢
        refine ⟨?_, e.2⟩
        rw [← e.1, if_pos rfl, q2]
      · rw [if_neg q2] at e
        simp at e ⊢
        refine ⟨?_, e.2⟩
        rw [← e.1, if_neg q, if_neg q2]
theorem op_swap {s : S7} {q : S8} (h : RR s q) (x y : Int32) : ∃ r s' q', f_X7_swap s x y = some (r, s') ∧ f_X8_swap q x y = some (r, q') ∧ RR s' q' := by
  obtain ⟨g, hc, hm⟩ := id h
  have hb := hc.1
  have hw := hm.1
  have w1 := hb.1.1
  rcases p_ix x (n := g.1.1.length) (by omega) with ⟨i, i1, rfl⟩ | hx
  · have e7 := (show f_X7_swap s (nI i) y = _ from (by unfold f_X7_swap; exact p_yes (c_hasF hb i1)))
    have e8 := (show f_X8_swap q (nI i) y = _ from (by unfold f_X8_swap; exact p_yes (m_isFleet hw i1)))
    rcases p_ix y (n := g.1.1.length) (by omega) with ⟨j, j1, rfl⟩ | hy
    · rw [p_yes (c_hasF hb j1)] at e7
      simp only [p_eq (a := i) (b := j) (by omega) (by omega)] at e7
      rw [p_yes (m_isFleet hw j1)] at e8
      simp only [p_eq (a := i) (b := j) (by omega) (by omega)] at e8
      by_cases q0 : i = j
      · rw [if_pos q0] at e7 e8
        exact ⟨_, _, _, e7, e8, h⟩
      · rw [if_neg q0] at e7 e8
        obtain ⟨a, ha, -⟩ := p_at i1
        obtain ⟨k, hk, -⟩ := p_at j1
        obtain ⟨p', e1, h1⟩ := c_keep hc.2.2.1 hb
        obtain ⟨b', e2, h2⟩ := c_exchange hb ha hk q0
        obtain ⟨bf, ac, e3, h3⟩ := m_keeps hw hm.2.1
        obtain ⟨w, e4, h4⟩ := m_swap (s := u8_acts (u8_before q bf) ac) hw ha hk q0
        rw [e1, p_bind, e2, p_bind] at e7
        rw [e3, p_bind, e4] at e8
        exact ⟨_, _, _, e7, e8, R_act hc hm (ok_swap hc.2.1 ha hk q0) h1 h2 h3 h4⟩
    · exact ⟨_, _, _, e7.trans (p_no (c_hasF0 hb hy)), e8.trans (p_no (m_isFleet0 hw hy)), h⟩
  · exact ⟨_, _, _, (by unfold f_X7_swap; exact p_no (c_hasF0 hb hx)), (by unfold f_X8_swap; exact p_no (m_isFleet0 hw hx)), h⟩
theorem m_scaled {p a : Nat} (hp : p ≤ 900) (ha : a < 128) : f_X8_scaled (nI a) (nI p) = some (nI (scl p a)) := by
  have h0 : a * p ≤ 128 * 900 := Nat.mul_le_mul (by omega) hp
  have h1 : a * p / 100 < 2000 := by omega
  unfold f_X8_scaled
  rw [pk_mul, show (100 : Int32) = nI 100 from rfl, pk_div (by omega) (by omega) (by omega), show (99 : Int32) = nI 99 from rfl, show (1 : Int32) = nI 1 from rfl]
  unfold scl
  generalize a * p / 100 = v at *
  simp only [p_le (a := 1) (b := v) (by omega) (by omega), p_le (a := v) (b := 99) (by omega) (by omega)]
  by_cases q1 : 1 ≤ v
  · rw [if_pos q1]
    by_cases q2 : v ≤ 99
    · rw [if_pos q2]
      congr 2
      split <;> (try split) <;> omega
    · rw [if_neg q2]
      congr 2
      split <;> (try split) <;> omega
  · rw [if_neg q1]
    congr 2
    split <;> (try split) <;> omega
abbrev scN (f p : Nat) (c : Cm) : Bool := decide (c.1 = f) && !decide (scl p c.2.2 = c.2.2)
theorem m_scale1 {s : S8} {B : Bk} (h : rM (g8_now s) B) {f p : Nat} (hf : f < 8) (hp : p ≤ 900) : lp_X8_scale_p26 s (nI f) (nI p) 0 0 = (if nI (cnt (scN f p) B.2.1) = 0 then some ((-1), s) else Option.bind (f_X8_keeps s) (fun v5 => lp_X8_scale_p86 v5 (nI f) (nI p) (nI (cnt (scN f p) B.2.1)) 0)) := by
  have w0 := h.1.2.1
  unfold lp_X8_scale_p26
  refine p_forE B.2.1.length (fun j => (s, nI f, nI p, nI (cnt (scN f p) (B.2.1.take j)), nI j)) _ (by omega) (fun j k hj ih => ?_) (fun k => ?_) 0 (Nat.zero_le _)
  · obtain ⟨c, hc, hcm⟩ := p_at hj
    have wc := h.1.2.2.2.1 c hcm
    have wc1 := wc.1
    have wc2 := wc.2.2
    have hsc := scl_lt p c.2.2
    dsimp only
    unfold f_X8_scale_p26
    rw [m_claims h, p_bind, if_neg (by rw [p_le (by omega) (by omega)]; omega), m_fleetOf h hc, p_bind]
    by_cases q : c.1 = f
    · rw [if_pos (by rw [q]), m_amountOf h hc, p_bind, m_scaled hp wc2, p_bind, p_bind]
      simp only [p_eq (a := scl p c.2.2) (b := c.2.2) (by omega) (by omega)]
      by_cases q2 : scl p c.2.2 = c.2.2
      · rw [if_pos q2]
        rw [cnt_F _ hc (by simp [q2]), ← nI_1] at ih
        exact ih
      · rw [if_neg q2]
        rw [cnt_T _ hc (by simp [q, q2]), ← nI_1] at ih
        exact ih
    · rw [if_neg (by rw [p_eq (by omega) (by omega)]; exact q)]
      rw [cnt_F _ hc (by simp [q]), ← nI_1] at ih
      exact ih
  · dsimp only
    unfold f_X8_scale_p26
    rw [m_claims h, p_bind, if_pos (by rw [p_le (by omega) (by omega)]; omega), cnt_all]
theorem m_scale2 {s : S8} {B : Bk} (h : rM (g8_now s) B) {f p : Nat} (hf : f < 8) (hp : p ≤ 900) (x : Int32) : ∃ w, lp_X8_scale_p86 s (nI f) (nI p) x 0 = some (x, u8_now s w) ∧ rM w (B.1, B.2.1.map (scaleC f p), B.2.2) := by
  have w1 := h.1.2.1
  unfold lp_X8_scale_p86
  have key := p_forI (body := fun (k : S8 × Int32 × Int32 × Int32 × Int32 → Option (Int32 × S8)) (z : S8 × Int32 × Int32 × Int32 × Int32) => f_X8_scale_p86 (fun s x1 x2 x3 x4 => k (s, x1, x2, x3, x4)) z.1 z.2.1 z.2.2.1 z.2.2.2.1 z.2.2.2.2) B.2.1.length (fun i t => ∃ w, t = (u8_now s w, nI f, nI p, x, nI i) ∧ rM w (B.1, mapTo (scaleC f p) i B.2.1, B.2.2)) (fun r => ∃ w, r = (x, u8_now s w) ∧ rM w (B.1, B.2.1.map (scaleC f p), B.2.2)) (by omega) (fun i k t hi hI ih => ?_) (fun k t hI => ?_) 0 (s, nI f, nI p, x, 0) (Nat.zero_le _) ⟨g8_now s, rfl, by rw [mapTo_0]; exact h⟩
  · obtain ⟨r, e1, w, rfl, hw⟩ := key
    exact ⟨w, e1, hw⟩
  · obtain ⟨w, rfl, hb⟩ := hI
    obtain ⟨c, hc, hcm⟩ := p_at hi
    have hc' : (mapTo (scaleC f p) i B.2.1)[i]? = some c := by rw [mapTo_get, if_neg (by omega)]; exact hc
    have wc := h.1.2.2.2.1 c hcm
    have wc1 := wc.1
    have wc2 := wc.2.2
    have hsc := scl_lt p c.2.2
    have hb' : rM (g8_now (u8_now s w)) (B.1, mapTo (scaleC f p) i B.2.1, B.2.2) := hb
    dsimp only
    unfold f_X8_scale_p86
    rw [m_claims hb', p_bind, if_neg (by rw [p_le (by simp [mapTo_len]; omega) (by omega)]; simp [mapTo_len]; omega), m_fleetOf hb' hc', p_bind]
    by_cases q : c.1 = f
    · rw [if_pos (by rw [q]), m_amountOf hb' hc', p_bind, m_scaled hp wc2, p_bind, e22, p_wr (by omega) (by decide), p_bind]
      refine ih _ ⟨_, by rw [nI_1]; rfl, ?_⟩
      rw [mapTo_step _ hc]
      unfold scaleC
      rw [if_pos q]
      exact r_ca hb hc' (by omega)
    · rw [if_neg (by rw [p_eq (by omega) (by omega)]; exact q)]
      refine ih _ ⟨w, by rw [nI_1], ?_⟩
      rw [mapTo_id _ hc (by unfold scaleC; rw [if_neg q])]
      exact hb
  · obtain ⟨w, rfl, hb⟩ := hI
    rw [mapTo_all] at hb
    have hb' : rM (g8_now (u8_now s w)) (B.1, B.2.1.map (scaleC f p), B.2.2) := hb
    dsimp only
    unfold f_X8_scale_p86
    rw [m_claims hb', p_bind, if_pos (by rw [p_le (by simp; omega) (by omega)]; simp)]
    exact ⟨_, rfl, w, rfl, hb⟩
theorem ok_mapC {B : Bk} (h : okB B) {m : Cm → Cm} (hm : ∀ c ∈ B.2.1, (m c).1 = c.1 ∧ (m c).2.1 = c.2.1 ∧ 1 ≤ (m c).2.2 ∧ (m c).2.2 ≤ 99) : okB (B.1, B.2.1.map m, B.2.2) := by
  obtain ⟨⟨a1, a2, a3, a4, a5, a6⟩, o1, o2, o3⟩ := h
  refine ⟨⟨a1, by simpa using a2, a3, fun c hc => ?_, a5, a6⟩, o1, fun c hc => ?_, fun f y => ?_⟩
  · obtain ⟨d, hd, rfl⟩ := List.mem_map.mp hc
    obtain ⟨m1, m2, m3, m4⟩ := hm d hd
    have := a4 d hd
    exact ⟨by rw [m1]; exact this.1, by rw [m2]; exact this.2.1, by omega⟩
  · obtain ⟨d, hd, rfl⟩ := List.mem_map.mp hc
    obtain ⟨m1, m2, m3, m4⟩ := hm d hd
    obtain ⟨x, e1, e2⟩ := (o2 d hd).2
    exact ⟨⟨m3, m4⟩, x, by rw [m1]; exact e1, by rw [m2]; exact e2⟩
  · refine Nat.le_trans (Nat.le_of_eq (cnt_map _ _ _)) (Nat.le_trans (Nat.le_of_eq (cnt_congr (fun c hc => ?_))) (o3 f y))
    obtain ⟨m1, m2, -⟩ := hm c hc
    rw [m1, m2]
theorem ok_scale {B : Bk} (h : okB B) (f p : Nat) : okB (B.1, B.2.1.map (scaleC f p), B.2.2) := by
  refine ok_mapC h (fun c hc => ?_)
  have := (h.2.2.1 c hc).1
  have hs := scl_lt p c.2.2
  unfold scaleC
  split
  · exact ⟨rfl, rfl, by dsimp only; omega, by dsimp only; omega⟩
  · exact ⟨rfl, rfl, this.1, this.2⟩
theorem op_scale {s : S7} {q : S8} (h : RR s q) (x y : Int32) : ∃ r s' q', f_X7_scale s x y = some (r, s') ∧ f_X8_scale q x y = some (r, q') ∧ RR s' q' := by
  obtain ⟨g, hc, hm⟩ := id h
  have hb := hc.1
  have hw := hm.1
  have w1 := hb.1.1
  have w2 := hb.1.2.1
  rcases p_ix x (n := g.1.1.length) (by omega) with ⟨i, i1, rfl⟩ | hx
  · have e7 := (show f_X7_scale s (nI i) y = _ from (by unfold f_X7_scale; exact p_yes (c_hasF hb i1)))
    have e8 := (show f_X8_scale q (nI i) y = _ from (by unfold f_X8_scale; exact p_yes (m_isFleet hw i1)))
    by_cases y1 : y < 1
    · rw [if_pos y1] at e7
      rw [p_no (p_in0 (Or.inl y1))] at e8
      exact ⟨_, _, _, e7, e8, h⟩
    · rw [if_neg y1] at e7
      rcases p_ix y (n := 901) (by decide) with ⟨j, j1, rfl⟩ | hy
      · rw [if_pos (by rw [show (900 : Int32) = nI 900 from rfl, p_le (by omega) (by omega)]; omega)] at e7
        rw [p_yes (p_in1 y1 (by rw [show (900 : Int32) = nI 900 from rfl, p_lt (by omega) (by omega)]; omega)), m_scale1 hw (by omega) (by omega)] at e8
        obtain ⟨t1, t2, t3⟩ := c_copyFrom hb (g7_trial s)
        obtain ⟨t4, t5, t6⟩ := c_scale t3 (f := i) (p := j) (by omega) (by omega)
        rw [t2, p_bind, t5, p_bind] at e7
        by_cases q1 : nI (cnt (scN i j) g.1.2.1) = 0
        · rw [if_pos q1] at e7 e8
          exact ⟨_, _, _, e7, e8, g, ⟨hc, hm⟩⟩
        · rw [if_neg q1] at e7 e8
          obtain ⟨p', e1, h1⟩ := c_keep hc.2.2.1 hb
          obtain ⟨b', e2, h2⟩ := c_copyFrom t6 (g7_book s)
          obtain ⟨bf, ac, e3, h3⟩ := m_keeps hw hm.2.1
          obtain ⟨w, e4, h4⟩ := m_scale2 (s := u8_acts (u8_before q bf) ac) hw (f := i) (p := j) (by omega) (by omega) (nI (cnt (scN i j) g.1.2.1))
          rw [e1, p_bind, e2, p_bind] at e7
          rw [e3, p_bind, e4] at e8
          exact ⟨_, _, _, e7, e8, R_act (s := u7_trial s t4) hc hm (ok_scale hc.2.1 i j) h1 h2 h3 h4⟩
      · have hy' : y < 0 ∨ (900 : Int32) < y := p_test (n := 901) (by decide) hy
        have y9 : (900 : Int32) < y := by
          rcases hy' with h' | h'
          · exact absurd (by rw [i_lt] at h' ⊢; exact Int.lt_trans h' (by decide)) y1
          · exact h'
        rw [if_neg (by rw [i_le]; rw [i_lt] at y9; omega)] at e7
        rw [p_no (p_in0 (Or.inr y9))] at e8
        exact ⟨_, _, _, e7, e8, h⟩
  · exact ⟨_, _, _, (by unfold f_X7_scale; exact p_no (c_hasF0 hb hx)), (by unfold f_X8_scale; exact p_no (m_isFleet0 hw hx)), h⟩
