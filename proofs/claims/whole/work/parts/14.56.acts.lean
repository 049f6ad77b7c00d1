/-! PURE: split, merge, undo, feed, back -/
theorem p_subset (x : Int32) {a : Nat} (ha : a < 32) (h : x &&& (nI a ^^^ (-1 : Int32)) = 0) : ∃ s, s < 32 ∧ x = nI s := by
  have h1 : x.toBitVec &&& ((nI a).toBitVec ^^^ (BitVec.allOnes 32)) = 0#32 := by
    have := congrArg Int32.toBitVec h
    rw [Int32.toBitVec_and, Int32.toBitVec_xor] at this
    exact this
  have h2 : x.toBitVec = x.toBitVec &&& (nI a).toBitVec := by
    apply BitVec.eq_of_getLsbD_eq
    intro i hi
    have e := congrArg (fun v => BitVec.getLsbD v i) h1
    simp only [BitVec.getLsbD_and, BitVec.getLsbD_xor, BitVec.getLsbD_allOnes, hi, decide_true, BitVec.getLsbD_zero] at e ⊢
    revert e
    cases x.toBitVec.getLsbD i <;> cases (nI a).toBitVec.getLsbD i <;> simp
  have h3 : x.toBitVec.toNat ≤ a := by
    rw [h2, BitVec.toNat_and, pk_tn (n := a) (by omega)]
    exact Nat.and_le_right
  refine ⟨x.toBitVec.toNat, by omega, ?_⟩
  apply Int32.toBitVec_inj.mp
  apply BitVec.eq_of_toNat_eq
  rw [pk_tn (by omega)]
theorem upd_comm {w : Nat → Int32} {a b : Nat} {x y : Int32} (h : a ≠ b) : upd (upd w a x) b y = upd (upd w b y) a x := by
  funext j
  rw [u_at, u_at, u_at, u_at]
  by_cases q : j = b
  · rw [if_pos q, if_pos q, if_neg (by omega)]
  · rw [if_neg q, if_neg q]
theorem m_splitC {s : S8} {B : Bk} (h : rM (g8_now s) B) {f y o : Nat} (hf : f < 8) (hy : y < 32) (ho : o < 8) : ∃ w, lp_X8_split_p112 s (nI f) (nI y) (nI o) 0 = some (nI o, u8_now s w) ∧ rM w (B.1, B.2.1.map (handC f y o), B.2.2) := by
  have w1 := h.1.2.1
  unfold lp_X8_split_p112
  have key := p_forI (body := fun (k : S8 × Int32 × Int32 × Int32 × Int32 → Option (Int32 × S8)) (z : S8 × Int32 × Int32 × Int32 × Int32) => f_X8_split_p112 (fun s x1 x2 x3 x4 => k (s, x1, x2, x3, x4)) z.1 z.2.1 z.2.2.1 z.2.2.2.1 z.2.2.2.2) B.2.1.length (fun i t => ∃ w, t = (u8_now s w, nI f, nI y, nI o, nI i) ∧ rM w (B.1, mapTo (handC f y o) i B.2.1, B.2.2)) (fun r => ∃ w, r = (nI o, u8_now s w) ∧ rM w (B.1, B.2.1.map (handC f y o), B.2.2)) (by omega) (fun i k t hi hI ih => ?_) (fun k t hI => ?_) 0 (s, nI f, nI y, nI o, 0) (Nat.zero_le _) ⟨g8_now s, rfl, by rw [mapTo_0]; exact h⟩
  · obtain ⟨r, e1, w, rfl, hw⟩ := key
    exact ⟨w, e1, hw⟩
  · obtain ⟨w, rfl, hb⟩ := hI
    obtain ⟨c, hc, hcm⟩ := p_at hi
    have hc' : (mapTo (handC f y o) i B.2.1)[i]? = some c := by rw [mapTo_get, if_neg (by omega)]; exact hc
    have wc := h.1.2.2.2.1 c hcm
    have wc1 := wc.1
    have wc2 := wc.2.1
    have hb' : rM (g8_now (u8_now s w)) (B.1, mapTo (handC f y o) i B.2.1, B.2.2) := hb
    dsimp only
    unfold f_X8_split_p112
    rw [m_claims hb', p_bind, if_neg (by rw [p_le (by simp [mapTo_len]; omega) (by omega)]; simp [mapTo_len]; omega), m_fleetOf hb' hc', p_bind]
    have hno : ¬ isOfN f y c = true → ∃ r, k (u8_now s w, nI f, nI y, nI o, nI i + 1) = some r ∧ ∃ w, r = (nI o, u8_now s w) ∧ rM w (B.1, B.2.1.map (handC f y o), B.2.2) := by
      intro q
      refine ih _ ⟨w, by rw [nI_1], ?_⟩
      rw [mapTo_id _ hc (by unfold handC; rw [if_neg q])]
      exact hb
    by_cases q : c.1 = f
    · rw [if_pos (by rw [q]), m_yearOf hb' hc', p_bind]
      by_cases q2 : y / 2 ^ c.2.1 % 2 = 1
      · rw [if_pos ((p_bit (by omega) (by omega)).mpr q2), e20, p_wr (by omega) (by decide), p_bind]
        refine ih _ ⟨_, by rw [nI_1]; rfl, ?_⟩
        rw [mapTo_step _ hc]
        unfold handC
        rw [if_pos (by simp [isOfN, q, q2])]
        exact r_cf hb hc' ho
      · rw [if_neg (fun e => q2 ((p_bit (by omega) (by omega)).mp e))]
        exact hno (by simp [isOfN, q2])
    · rw [if_neg (by rw [p_eq (by omega) (by omega)]; exact q)]
      exact hno (by simp [isOfN, q])
  · obtain ⟨w, rfl, hb⟩ := hI
    rw [mapTo_all] at hb
    have hb' : rM (g8_now (u8_now s w)) (B.1, B.2.1.map (handC f y o), B.2.2) := hb
    dsimp only
    unfold f_X8_split_p112
    rw [m_claims hb', p_bind, if_pos (by rw [p_le (by simp; omega) (by omega)]; simp)]
    exact ⟨_, rfl, w, rfl, hb⟩
theorem p_subY0 : ∀ a, a < 32 → ∀ s, s < 32 → nI s &&& (nI a ^^^ (-1 : Int32)) = 0 → ∀ k, k < 5 → (s / 2 ^ k % 2 = 1 → a / 2 ^ k % 2 = 1) := by decide +kernel
theorem ok_split {B : Bk} (h : okB B) {f s : Nat} {g : Nat × Nat} (hg : B.1[f]? = some g) (hn : B.1.length < 8) (hs : s < 32) : okB (B.1.set f (g.1, notIn g.2 s) ++ [(g.1, s)], B.2.1.map (handC f s B.1.length), B.2.2) := by
  have hl : ∀ c ∈ B.2.1, c.1 < B.1.length := fun c hc => ok_len h hc
  obtain ⟨⟨a1, a2, a3, a4, a5, a6⟩, o1, o2, o3⟩ := h
  have hf := (List.getElem?_eq_some_iff.mp hg).1
  have gm := a3 g (List.mem_of_getElem? hg)
  refine ⟨⟨by simp; omega, by simpa using a2, fun x hx => ?_, fun c hc => ?_, a5, a6⟩, o1, fun c hc => ?_, fun f' y => ?_⟩
  · rcases List.mem_append.mp hx with h | h
    · rcases p_setmem h with h | h
      · exact a3 x h
      · rw [h]; exact ⟨gm.1, (p_notIn g.2 gm.2 s hs).2⟩
    · rw [List.mem_singleton.mp h]; exact ⟨gm.1, hs⟩
  · obtain ⟨d, hd, rfl⟩ := List.mem_map.mp hc
    have := a4 d hd
    unfold handC
    split
    · exact ⟨by dsimp only; omega, this.2⟩
    · exact this
  · obtain ⟨d, hd, rfl⟩ := List.mem_map.mp hc
    obtain ⟨d1, x, d2, d3⟩ := o2 d hd
    have dl := hl d hd
    unfold handC
    by_cases q : isOfN f s d = true
    · rw [if_pos q]
      refine ⟨d1, (g.1, s), ?_, ?_⟩
      · dsimp only
        rw [List.getElem?_append_right (by simp), List.length_set, Nat.sub_self]
        rfl
      · unfold isOfN at q
        simp at q
        exact q.2
    · rw [if_neg q]
      by_cases q2 : d.1 = f
      · refine ⟨d1, (g.1, notIn g.2 s), ?_, ?_⟩
        · dsimp only
          rw [List.getElem?_append_left (by simp; exact dl), q2, List.getElem?_set, if_pos rfl, if_pos hf]
        · rw [q2, hg] at d2
          rcases p_notS0 g.2 gm.2 s hs d.2.1 (a4 d hd).2.1 with h' | h'
          · exact absurd (by simp [isOfN, q2, h']) q
          · show notIn g.2 s / 2 ^ d.2.1 % 2 = 1
            rw [h', Option.some.inj d2]; exact d3
      · refine ⟨d1, x, ?_, d3⟩
        dsimp only
        rw [List.getElem?_append_left (by simp; exact dl), List.getElem?_set, if_neg (Ne.symm q2)]
        exact d2
  · refine Nat.le_trans (Nat.le_of_eq (cnt_map _ _ _)) (Nat.le_trans (cnt_mono (q := ofFY (if f' = B.1.length then f else f') y) (fun c hc e => ?_)) (o3 _ y))
    have cl := hl c hc
    unfold handC at e
    by_cases q : isOfN f s c = true
    · rw [if_pos q] at e
      unfold isOfN at q
      simp at e q ⊢
      refine ⟨?_, e.2⟩
      rw [if_pos e.1.symm]; exact q.1
    · rw [if_neg q] at e
      simp at e ⊢
      refine ⟨?_, e.2⟩
      rw [if_neg (by omega)]; exact e.1
theorem op_split {s : S7} {q : S8} (h : RR s q) (x y : Int32) : ∃ r s' q', f_X7_split s x y = some (r, s') ∧ f_X8_split q x y = some (r, q') ∧ RR s' q' := by
  obtain ⟨g, hc, hm⟩ := id h
  have hb := hc.1
  have hw := hm.1
  have w1 := hb.1.1
  rcases p_ix x (n := g.1.1.length) (by omega) with ⟨i, i1, rfl⟩ | hx
  · have e7 := (show f_X7_split s (nI i) y = _ from (by unfold f_X7_split; exact p_yes (c_hasF hb i1)))
    have e8 := (show f_X8_split q (nI i) y = _ from (by unfold f_X8_split; exact p_yes (m_isFleet hw i1)))
    obtain ⟨f, hf, hfm⟩ := p_at i1
    have hf3 := hb.1.2.2.1 f hfm
    have l8 : (nI g.1.1.length < 8) = (g.1.1.length < 8) := p_lt (b := 8) (by omega) (by omega)
    have q8 : (nI g.1.1.length = 8) = (g.1.1.length = 8) := p_eq (b := 8) (by omega) (by omega)
    rw [hb.2.1] at e7
    simp only [l8] at e7
    rw [c_yearsOf hb hf, p_bind] at e7
    rw [m_many hw, p_bind] at e8
    simp only [q8] at e8
    rw [m_yearsOf hw hf, p_bind] at e8
    by_cases n8 : g.1.1.length = 8
    · rw [if_neg (by omega)] at e7
      rw [if_pos n8] at e8
      exact ⟨_, _, _, e7, e8, h⟩
    · rw [if_pos (by omega)] at e7
      rw [if_neg n8, p_bind] at e8
      by_cases q1 : y &&& (nI f.2 ^^^ (-1 : Int32)) = 0
      · obtain ⟨v, v1, rfl⟩ := p_subset y hf3.2 q1
        rw [if_pos q1] at e7
        simp only [show (nI v = 0) = (v = 0) from p_eq (b := 0) (by omega) (by omega)] at e7
        simp only [p_eq (a := v) (b := f.2) (by omega) (by omega)] at e7
        rw [if_pos q1] at e8
        simp only [show (nI v ≤ 0) = (v ≤ 0) from p_le (b := 0) (by omega) (by omega)] at e8
        simp only [p_eq (a := v) (b := f.2) (by omega) (by omega)] at e8
        by_cases q2 : v = 0
        · rw [if_pos q2] at e7
          rw [if_pos (by omega)] at e8
          exact ⟨_, _, _, e7, e8, h⟩
        · rw [if_neg q2] at e7
          rw [if_neg (by omega)] at e8
          by_cases q3 : v = f.2
          · rw [if_pos q3] at e7 e8
            exact ⟨_, _, _, e7, e8, h⟩
          · rw [if_neg q3] at e7 e8
            have o := p_notIn f.2 hf3.2 v v1
            obtain ⟨p', e1, h1⟩ := c_keep hc.2.2.1 hb
            obtain ⟨b', e2, h2⟩ := c_splitOff hb hf (by omega) v1
            obtain ⟨bf, ac, e3, h3⟩ := m_keeps hw hm.2.1
            have hA := r_addF hw (c := f.1) (y := v) (by omega) hf3.1 v1
            have qA : (g.1.1 ++ [(f.1, v)])[i]? = some f := by rw [List.getElem?_append_left i1]; exact hf
            have hB := r_years hA qA o.2
            rw [upd_comm (by omega)] at hB
            dsimp only at hB
            rw [List.set_append_left _ _ i1] at hB
            have h4 := m_splitC (s := u8_now (u8_acts (u8_before q bf) ac) (upd (upd (upd (upd (g8_now q) (4 + 2 * g.1.1.length) (nI f.1)) (5 + 2 * g.1.1.length) (nI v)) (5 + 2 * i) (nI (notIn f.2 v))) 2 (nI (g.1.1.length + 1)))) hB (f := i) (y := v) (o := g.1.1.length) (by omega) v1 (by omega)
            obtain ⟨w, e4', h4⟩ := h4
            rw [e1, p_bind, e2, p_bind] at e7
            have hwq : rM (g8_now (u8_acts (u8_before q bf) ac)) g.1 := hw
            rw [e3, p_bind, m_many hwq, p_bind, m_classOf hwq hf, p_bind, e5, e5, e4, p_wr (by omega) (by decide), p_bind, p_wr (by omega) (by decide), p_bind, show x_rd 140 _ (nI (5 + 2 * i)) = some (nI f.2) from (p_rd (by omega) (by decide)).trans (congrArg some (by rw [u_at, u_at, if_neg (by omega), if_neg (by omega)]; exact (hw.2.2.2.2.2.1 i f hf).2)), p_bind, o.1, p_wr (by omega) (by decide), p_bind, show x_rd 140 _ 2 = some (nI g.1.1.length) from (p_rd (i := 2) (by decide) (by decide)).trans (congrArg some (by rw [u_at, u_at, u_at, if_neg (by omega), if_neg (by omega), if_neg (by omega)]; exact hw.2.2.2.1)), p_bind, nI_1, show x_wr 140 _ 2 _ = _ from p_wr (i := 2) (by decide) (by decide), p_bind] at e8
            exact ⟨_, _, _, e7, e8.trans e4', R_act hc hm (ok_split hc.2.1 hf (by omega) v1) h1 h2 h3 h4⟩
      · rw [if_neg q1] at e7 e8
        refine ⟨-1, s, q, ?_, ?_, h⟩
        · rw [e7]
          split
          · rfl
          · split <;> rfl
        · rw [e8]
          split <;> rfl
  · exact ⟨_, _, _, (by unfold f_X7_split; exact p_no (c_hasF0 hb hx)), (by unfold f_X8_split; exact p_no (m_isFleet0 hw hx)), h⟩
abbrev mergeC (f o : Nat) (c : Cm) : Cm := if c.1 = f then (o, c.2) else c
theorem m_mergeC {s : S8} {B : Bk} (h : rM (g8_now s) B) {f o : Nat} (hf : f < B.1.length) (ho : o < 8) : ∃ w, lp_X8_merge_p63 s (nI f) (nI o) 0 = some (nI (if o ≤ f then o else o - 1), u8_now s w) ∧ rM w (B.1.eraseIdx f, (B.2.1.map (mergeC f o)).map (gapC f), B.2.2) := by
  have w0 := h.1.1
  have w1 := h.1.2.1
  unfold lp_X8_merge_p63
  have key := p_forI (body := fun (k : S8 × Int32 × Int32 × Int32 → Option (Int32 × S8)) (z : S8 × Int32 × Int32 × Int32) => f_X8_merge_p63 (fun s x1 x2 x3 => k (s, x1, x2, x3)) z.1 z.2.1 z.2.2.1 z.2.2.2) B.2.1.length (fun i t => ∃ w, t = (u8_now s w, nI f, nI o, nI i) ∧ rM w (B.1, mapTo (mergeC f o) i B.2.1, B.2.2)) (fun r => ∃ w, r = (nI (if o ≤ f then o else o - 1), u8_now s w) ∧ rM w (B.1.eraseIdx f, (B.2.1.map (mergeC f o)).map (gapC f), B.2.2)) (by omega) (fun i k t hi hI ih => ?_) (fun k t hI => ?_) 0 (s, nI f, nI o, 0) (Nat.zero_le _) ⟨g8_now s, rfl, by rw [mapTo_0]; exact h⟩
  · obtain ⟨r, e1, w, rfl, hw⟩ := key
    exact ⟨w, e1, hw⟩
  · obtain ⟨w, rfl, hb⟩ := hI
    obtain ⟨c, hc, hcm⟩ := p_at hi
    have hc' : (mapTo (mergeC f o) i B.2.1)[i]? = some c := by rw [mapTo_get, if_neg (by omega)]; exact hc
    have wc := h.1.2.2.2.1 c hcm
    have wc1 := wc.1
    have hb' : rM (g8_now (u8_now s w)) (B.1, mapTo (mergeC f o) i B.2.1, B.2.2) := hb
    dsimp only
    unfold f_X8_merge_p63
    rw [m_claims hb', p_bind, if_neg (by rw [p_le (by simp [mapTo_len]; omega) (by omega)]; simp [mapTo_len]; omega), m_fleetOf hb' hc', p_bind]
    by_cases q : c.1 = f
    · rw [if_pos (by rw [q]), e20, p_wr (by omega) (by decide), p_bind]
      refine ih _ ⟨_, by rw [nI_1]; rfl, ?_⟩
      rw [mapTo_step _ hc]
      unfold mergeC
      rw [if_pos q]
      exact r_cf hb hc' ho
    · rw [if_neg (by rw [p_eq (by omega) (by omega)]; exact q)]
      refine ih _ ⟨w, by rw [nI_1], ?_⟩
      rw [mapTo_id _ hc (by unfold mergeC; rw [if_neg q])]
      exact hb
  · obtain ⟨w, rfl, hb⟩ := hI
    rw [mapTo_all] at hb
    have hb' : rM (g8_now (u8_now s w)) (B.1, B.2.1.map (mergeC f o), B.2.2) := hb
    dsimp only
    unfold f_X8_merge_p63
    obtain ⟨w2, e2, h2⟩ := m_goes hb' hf
    rw [m_claims hb', p_bind, if_pos (by rw [p_le (by simp; omega) (by omega)]; simp), e2, p_bind]
    simp only [p_le (a := o) (b := f) (by omega) (by omega)]
    by_cases q : o ≤ f
    · rw [if_pos q, if_pos q]
      exact ⟨_, rfl, w2, rfl, h2⟩
    · rw [if_neg q, if_neg q, m1 (by omega)]
      exact ⟨_, rfl, w2, rfl, h2⟩
theorem p_orS0 : ∀ a, a < 32 → ∀ b, b < 32 → ((a ||| b) < 32 ∧ ∀ k, k < 5 → (a / 2 ^ k % 2 = 1 ∨ b / 2 ^ k % 2 = 1 → (a ||| b) / 2 ^ k % 2 = 1)) := by decide +kernel
theorem p_andS0 : ∀ a, a < 32 → ∀ b, b < 32 → a &&& b = 0 → ∀ k, k < 5 → ¬ (a / 2 ^ k % 2 = 1 ∧ b / 2 ^ k % 2 = 1) := by decide +kernel
theorem ok_mergeC {B : Bk} (h : okB B) {f o : Nat} {g k : Nat × Nat} (hg : B.1[f]? = some g) (hk : B.1[o]? = some k) (hfo : f ≠ o) (hd : g.2 &&& k.2 = 0) : okB (B.1.set o (k.1, k.2 ||| g.2), B.2.1.map (mergeC f o), B.2.2) := by
  have hB := h
  obtain ⟨⟨a1, a2, a3, a4, a5, a6⟩, o1, o2, o3⟩ := h
  have hf := (List.getElem?_eq_some_iff.mp hg).1
  have ho := (List.getElem?_eq_some_iff.mp hk).1
  have gm := a3 g (List.mem_of_getElem? hg)
  have km := a3 k (List.mem_of_getElem? hk)
  have oo := p_orS0 k.2 km.2 g.2 gm.2
  refine ⟨⟨by simpa using a1, by simpa using a2, fun x hx => ?_, fun c hc => ?_, a5, a6⟩, o1, fun c hc => ?_, fun f' y => ?_⟩
  · rcases p_setmem hx with h | h
    · exact a3 x h
    · rw [h]; exact ⟨km.1, oo.1⟩
  · obtain ⟨d, hd, rfl⟩ := List.mem_map.mp hc
    have := a4 d hd
    unfold mergeC
    split
    · exact ⟨by dsimp only; omega, this.2⟩
    · exact this
  · obtain ⟨d, hdm, rfl⟩ := List.mem_map.mp hc
    obtain ⟨d1, x, d2, d3⟩ := o2 d hdm
    have dy := (a4 d hdm).2.1
    unfold mergeC
    by_cases q : d.1 = f
    · rw [if_pos q]
      refine ⟨d1, (k.1, k.2 ||| g.2), ?_, ?_⟩
      · dsimp only
        rw [List.getElem?_set, if_pos rfl, if_pos ho]
      · rw [q, hg] at d2
        rw [← Option.some.inj d2] at d3
        exact oo.2 _ dy (Or.inr d3)
    · rw [if_neg q]
      by_cases q2 : d.1 = o
      · refine ⟨d1, (k.1, k.2 ||| g.2), ?_, ?_⟩
        · dsimp only
          rw [q2, List.getElem?_set, if_pos rfl, if_pos ho]
        · rw [q2, hk] at d2
          rw [← Option.some.inj d2] at d3
          exact oo.2 _ dy (Or.inl d3)
      · refine ⟨d1, x, ?_, d3⟩
        dsimp only
        rw [List.getElem?_set, if_neg (Ne.symm q2)]
        exact d2
  · by_cases qy : f' = o ∧ g.2 / 2 ^ y % 2 = 1
    · refine Nat.le_trans (Nat.le_of_eq (cnt_map _ _ _)) (Nat.le_trans (cnt_mono (q := ofFY f y) (fun c hc e => ?_)) (o3 _ y))
      unfold mergeC at e
      by_cases q : c.1 = f
      · rw [if_pos q] at e
        simp at e ⊢
        exact ⟨q, e.2⟩
      · rw [if_neg q] at e
        simp at e
        have cb := ok_bit hB hc hk (e.1.trans qy.1)
        have cy := (a4 c hc).2.1
        rw [e.2] at cb cy
        exact (p_andS0 g.2 gm.2 k.2 km.2 hd y cy ⟨qy.2, cb⟩).elim
    · refine Nat.le_trans (Nat.le_of_eq (cnt_map _ _ _)) (Nat.le_trans (cnt_mono (q := ofFY f' y) (fun c hc e => ?_)) (o3 _ y))
      unfold mergeC at e
      by_cases q : c.1 = f
      · rw [if_pos q] at e
        simp at e
        have cb := ok_bit hB hc hg q
        rw [e.2] at cb
        exact absurd ⟨e.1.symm, cb⟩ qy
      · rw [if_neg q] at e
        exact e
theorem op_merge {s : S7} {q : S8} (h : RR s q) (x y : Int32) : ∃ r s' q', f_X7_merge s x y = some (r, s') ∧ f_X8_merge q x y = some (r, q') ∧ RR s' q' := by
  obtain ⟨g, hc, hm⟩ := id h
  have hb := hc.1
  have hw := hm.1
  have w1 := hb.1.1
  rcases p_ix x (n := g.1.1.length) (by omega) with ⟨i, i1, rfl⟩ | hx
  · have e7 := (show f_X7_merge s (nI i) y = _ from (by unfold f_X7_merge; exact p_yes (c_hasF hb i1)))
    have e8 := (show f_X8_merge q (nI i) y = _ from (by unfold f_X8_merge; exact p_yes (m_isFleet hw i1)))
    rcases p_ix y (n := g.1.1.length) (by omega) with ⟨j, j1, rfl⟩ | hy
    · rw [p_yes (c_hasF hb j1)] at e7
      simp only [p_eq (a := i) (b := j) (by omega) (by omega)] at e7
      rw [p_yes (m_isFleet hw j1)] at e8
      simp only [p_eq (a := i) (b := j) (by omega) (by omega)] at e8
      by_cases q0 : i = j
      · rw [if_pos q0] at e7 e8
        exact ⟨_, _, _, e7, e8, h⟩
      · obtain ⟨a, ha, ham⟩ := p_at i1
        obtain ⟨k, hk, hkm⟩ := p_at j1
        have am := hb.1.2.2.1 a ham
        have km := hb.1.2.2.1 k hkm
        have al : a.2 &&& k.2 ≤ a.2 := Nat.and_le_left
        rw [if_neg q0, c_yearsOf hb ha, p_bind, c_yearsOf hb hk, p_bind, p_and (by omega) (by omega)] at e7
        simp only [show (nI (a.2 &&& k.2) = 0) = (a.2 &&& k.2 = 0) from p_eq (b := 0) (by omega) (by omega)] at e7
        rw [if_neg q0, m_yearsOf hw ha, p_bind, m_yearsOf hw hk, p_bind, p_and (by omega) (by omega)] at e8
        simp only [show (nI (a.2 &&& k.2) = 0) = (a.2 &&& k.2 = 0) from p_eq (b := 0) (by omega) (by omega)] at e8
        by_cases q1 : a.2 &&& k.2 = 0
        · have oo := p_orS0 k.2 km.2 a.2 am.2
          obtain ⟨p', e1, h1⟩ := c_keep hc.2.2.1 hb
          obtain ⟨b', e2, h2⟩ := c_mergeInto hb ha hk q0
          obtain ⟨bf, ac, e3, h3⟩ := m_keeps hw hm.2.1
          have hB := r_years hw hk (v := k.2 ||| a.2) oo.1
          obtain ⟨w, e4', h4⟩ := m_mergeC (s := u8_now (u8_acts (u8_before q bf) ac) (upd (g8_now q) (5 + 2 * j) (nI (k.2 ||| a.2)))) hB (f := i) (o := j) (by dsimp only; rw [List.length_set]; exact i1) (by omega)
          have hwq : rM (g8_now (u8_acts (u8_before q bf) ac)) g.1 := hw
          rw [if_pos q1, e1, p_bind, e2, p_bind] at e7
          rw [if_pos q1, e3, p_bind, e5, show x_rd 140 (g8_now (u8_acts (u8_before q bf) ac)) (nI (5 + 2 * j)) = some (nI k.2) from (p_rd (by omega) (by decide)).trans (congrArg some (hw.2.2.2.2.2.1 j k hk).2), p_bind, m_yearsOf hwq ha, p_bind, p_or (by omega) (by omega), p_wr (by omega) (by decide), p_bind] at e8
          exact ⟨_, _, _, e7, e8.trans e4', R_act hc hm (ok_erase (ok_set hc.2.1 (i := j) (v := k.1) (y := k.2 ||| a.2) km.1 oo.1 (fun c hcm ec => oo.2 _ (hb.1.2.2.2.1 c hcm).2.1 (Or.inl (ok_bit hc.2.1 hcm hk ec)))) (l := g.1.2.1.map (mergeC i j)) (B := (g.1.1.set j (k.1, k.2 ||| a.2), g.1.2)) (fun c hcm => (by
            obtain ⟨d, hd, rfl⟩ := List.mem_map.mp hcm
            unfold mergeC
            by_cases q2 : d.1 = i
            · rw [if_pos q2]; exact Ne.symm q0
            · rw [if_neg q2]; exact q2)) (ok_mergeC hc.2.1 ha hk q0 q1)) h1 h2 h3 h4⟩
        · rw [if_neg q1] at e7 e8
          exact ⟨_, _, _, e7, e8, h⟩
    · exact ⟨_, _, _, e7.trans (p_no (c_hasF0 hb hy)), e8.trans (p_no (m_isFleet0 hw hy)), h⟩
  · exact ⟨_, _, _, (by unfold f_X7_merge; exact p_no (c_hasF0 hb hx)), (by unfold f_X8_merge; exact p_no (m_isFleet0 hw hx)), h⟩
theorem op_undo {s : S7} {q : S8} (h : RR s q) : ∃ r s' q', f_X7_undo s = some (r, s') ∧ f_X8_undo q = some (r, q') ∧ RR s' q' := by
  obtain ⟨⟨B, hs, T⟩, hc, hm⟩ := id h
  cases hs with
  | nil =>
    refine ⟨-1, s, q, ?_, ?_, h⟩
    · unfold f_X7_undo f_X2_size
      rw [p_bind, show g2_kept (g7_past s) = 0 from hc.2.2.1.2.1, if_pos rfl]
    · unfold f_X8_undo
      rw [show g8_acts q = 0 from hm.2.1.2.1, if_pos rfl]
  | cons B' hs =>
    have hl := hc.2.2.1.1
    obtain ⟨p', b', e1, h1, h2⟩ := c_takeBack (q := g7_book s) hc.2.2.1
    obtain ⟨w, e2, h3, h4⟩ := m_undo (B0 := B) hm.2.1
    refine ⟨_, u7_book (u7_past s p') b', _, ?_, e2, (B', hs, T), ⟨h2, hc.2.2.2.1 B' List.mem_cons_self, h1, fun X hX => hc.2.2.2.1 X (List.mem_cons_of_mem _ hX), hc.2.2.2.2⟩, ⟨h3, h4, hm.2.2.1, hm.2.2.2⟩⟩
    unfold f_X7_undo f_X2_size
    rw [p_bind, show g2_kept (g7_past s) = nI (hs.length + 1) from hc.2.2.1.2.1, if_neg (by rw [show (0 : Int32) = nI 0 from rfl, p_eq (by simp at hl; omega) (by omega)]; omega), e1, p_bind, p_bind, h1.2.1]
theorem op_feed {s : S7} {q : S8} (h : RR s q) (a b c d e : Int32) : ∃ r s' q', f_X7_feed s a b c d e = some (r, s') ∧ f_X8_feed q a b c d e = some (r, q') ∧ RR s' q' := by
  obtain ⟨⟨B, hs, T⟩, hc, hm⟩ := id h
  have ht : rT (g7_tape s) T := hc.2.2.2.2
  have hu : rU (g8_tape q) (g8_taped q) T := hm.2.2.1
  have tl := ht.1
  have e7 := (show f_X7_feed s a b c d e = _ from (by unfold f_X7_feed f_X6_size; rw [p_bind, ht.2.2.1]))
  have e8 := (show f_X8_feed q a b c d e = _ from (by unfold f_X8_feed; rw [hu.2.2.1]))
  rw [show nI T.length + (20 : Int32) = nI (T.length + 20) from nI_add _ 20] at e7 e8
  simp only [show (nI (T.length + 20) ≤ 700) = (T.length + 20 ≤ 700) from p_le (b := 700) (by omega) (by omega)] at e7 e8
  by_cases q1 : T.length + 20 ≤ 700
  · rw [if_pos q1] at e7 e8
    obtain ⟨t1, f1, g1⟩ := c_addFour ht (by omega) a
    obtain ⟨t2, f2, g2⟩ := c_addFour g1 (by simp [four]; omega) b
    obtain ⟨t3, f3, g3⟩ := c_addFour g2 (by simp [four]; omega) c
    obtain ⟨t4, f4, g4⟩ := c_addFour g3 (by simp [four]; omega) d
    obtain ⟨t5, f5, g5⟩ := c_addFour g4 (by simp [four]; omega) e
    obtain ⟨tp, f6, g6⟩ := m_feed hu q1 a b c d e
    rw [f1, p_bind, f2, p_bind, f3, p_bind, f4, p_bind, f5, p_bind, p_bind, g5.2.2.1] at e7
    rw [f6] at e8
    rw [show T ++ four a ++ four b ++ four c ++ four d ++ four e = T ++ (four a ++ four b ++ four c ++ four d ++ four e) by simp] at e7 g5
    rw [show (T ++ (four a ++ four b ++ four c ++ four d ++ four e)).length = T.length + 20 by simp [four]] at e7
    exact ⟨_, _, _, e7, e8, (B, hs, T ++ (four a ++ four b ++ four c ++ four d ++ four e)), ⟨hc.1, hc.2.1, hc.2.2.1, hc.2.2.2.1, g5⟩, ⟨hm.1, hm.2.1, g6, hm.2.2.2⟩⟩
  · rw [if_neg q1] at e7 e8
    exact ⟨_, _, _, e7, e8, h⟩
theorem rT_take {t : S6} {T : List Nat} (h : rT t T) {n : Nat} (hn : n ≤ T.length) : rT (u6_size t (nI n)) (T.take n) := by
  refine ⟨by simp; have := h.1; omega, fun x hx => h.2.1 x (List.mem_of_mem_take hx), ?_, fun i x hi => ?_⟩
  · rw [List.length_take, Nat.min_eq_left hn]; rfl
  · rw [List.getElem?_take] at hi
    split at hi
    · exact h.2.2.2 i x hi
    · cases hi
theorem rU_take {tp : Nat → Int32} {z : Int32} {T : List Nat} (h : rU tp z T) {n : Nat} (hn : n ≤ T.length) : rU tp (nI n) (T.take n) := by
  refine ⟨by simp; have := h.1; omega, fun x hx => h.2.1 x (List.mem_of_mem_take hx), ?_, fun i x hi => ?_⟩
  · rw [List.length_take, Nat.min_eq_left hn]
  · rw [List.getElem?_take] at hi
    split at hi
    · exact h.2.2.2 i x hi
    · cases hi
theorem op_back {s : S7} {q : S8} (h : RR s q) (x : Int32) : ∃ r s' q', f_X7_back s x = some (r, s') ∧ f_X8_back q x = some (r, q') ∧ RR s' q' := by
  obtain ⟨⟨B, hs, T⟩, hc, hm⟩ := id h
  have ht : rT (g7_tape s) T := hc.2.2.2.2
  have hu : rU (g8_tape q) (g8_taped q) T := hm.2.2.1
  have tl := ht.1
  have e7 := (show f_X7_back s x = _ from (by unfold f_X7_back f_X6_size; rw [p_bind, ht.2.2.1]))
  have e8 := (show f_X8_back q x = _ from (by unfold f_X8_back; rw [hu.2.2.1]))
  rcases p_ix x (n := T.length + 1) (by omega) with ⟨j, j1, rfl⟩ | hx
  · have n1 : ¬ nI j < 0 := nI_pos (by omega)
    have n2 : nI j ≤ nI T.length := by rw [p_le (by omega) (by omega)]; omega
    have n3 : ¬ nI T.length < nI j := by rw [p_lt (by omega) (by omega)]; omega
    have e9 : f_X6_dropLast (g7_tape s) (nI j) = some (u6_size (g7_tape s) (nI (T.length - j))) := by
      unfold f_X6_dropLast
      rw [if_neg n1, ht.2.2.1, if_neg n3, pk_sub (by omega)]
    rw [if_neg n1, if_pos n2, e9, p_bind, p_bind] at e7
    rw [p_yes (p_in1 n1 n3), pk_sub (by omega)] at e8
    exact ⟨_, _, _, e7, e8, (B, hs, T.take (T.length - j)), ⟨hc.1, hc.2.1, hc.2.2.1, hc.2.2.2.1, rT_take ht (by omega)⟩, ⟨hm.1, hm.2.1, rU_take hu (by omega), hm.2.2.2⟩⟩
  · have hx' : x < 0 ∨ nI T.length < x := by
      have := p_test (n := T.length + 1) (by omega) hx
      rw [nI_pred] at this
      exact this
    rw [p_no (p_in0 hx')] at e8
    refine ⟨_, _, _, ?_, e8, h⟩
    rw [e7]
    rcases hx' with h' | h'
    · rw [if_pos h']
    · by_cases h0 : x < 0
      · rw [if_pos h0]
      · rw [if_neg h0, if_neg (by rw [i_le]; rw [i_lt] at h'; omega)]
