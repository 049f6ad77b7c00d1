/-! PURE: the dearest claim; earlier years -/
def lessF (B : Bk) (j : Nat) : Int32 := match B.2.1[j]? with | some c => nI (thN B c.1) - nI (thN (dropB B j) c.1) | none => 0
theorem lessF_at {B : Bk} {j : Nat} {c : Cm} (h : B.2.1[j]? = some c) : lessF B j = nI (thN B c.1) - nI (thN (dropB B j) c.1) := by unfold lessF; rw [h]
def mostF (B : Bk) : Option Nat → Int32
  | none => 0
  | some m => lessF B m
theorem ok_nf {B : Bk} (ok : okB B) {c : Cm} (hc : c ∈ B.2.1) : c.1 < len B ∧ 0 < nf B c.1 := by
  obtain ⟨f, e1, e2⟩ := (ok.2.2.1 c hc).2
  have hl := (List.getElem?_eq_some_iff.mp e1).1
  refine ⟨hl, ?_⟩
  rw [nf_at e1]
  have f3 := ok.1.2.2.1 f (List.mem_of_getElem? e1)
  have b := (bits5 f.2 f3.2).2.1
  rcases Nat.eq_zero_or_pos (bits f.2) with h | h
  · rw [b.mp h] at e2
    simp at e2
  · exact h
theorem k_keepRates {s : S7} {g : Sg} (hc : RC s g) : ∃ l r, f_X7_keepRatesNow s = some (u7_ratesNow (u7_ledger s l) r) ∧ ∀ i, i < len g.1 → r i = rt g.1 i := by
  have hb := hc.1
  have ok := hc.2.1
  have w := ok.1.1
  change len g.1 ≤ 8 at w
  obtain ⟨l, e1, hl⟩ := c_reckon (g7_ledger s) hb ok
  unfold f_X7_keepRatesNow
  rw [e1, p_bind]
  unfold lp_X7_keepRatesNow_p13
  have key := p_forI (body := fun (k : S7 × Int32 → Option (S7)) (z : S7 × Int32) => f_X7_keepRatesNow_p13 (fun s x1 => k (s, x1)) z.1 z.2) 8 (fun i t => ∃ l r, t = (u7_ratesNow (u7_ledger s l) r, nI i) ∧ rL l g.1 ∧ ∀ j, j < i → j < len g.1 → r j = rt g.1 j) (fun z => ∃ l r, z = u7_ratesNow (u7_ledger s l) r ∧ ∀ i, i < len g.1 → r i = rt g.1 i) (by omega) (fun i k t hi hI ih => ?_) (fun k t hI => ?_) 0 (u7_ledger s l, 0) (Nat.zero_le _) ⟨l, g7_ratesNow s, rfl, hl, fun j hj => by omega⟩
  · obtain ⟨z, e, l, r, rfl, hr⟩ := key
    exact ⟨l, r, e, hr⟩
  · obtain ⟨l, r, rfl, hl, hr⟩ := hI
    dsimp only
    unfold f_X7_keepRatesNow_p13
    rw [if_neg (by rw [show (8 : Int32) = nI 8 from rfl, p_le (by omega) (by omega)]; omega)]
    by_cases q : i < len g.1
    · obtain ⟨l', e2, hl'⟩ := c_rateCut ok hl q
      rw [show f_X1_rateCut (g7_ledger (u7_ratesNow (u7_ledger s l) r)) (nI i) = _ from e2, p_bind, p_wr hi (by decide), p_bind, nI_1]
      refine ih _ ⟨l', upd r i (rt g.1 i), rfl, hl', fun j hj hjl => ?_⟩
      by_cases z : j = i
      · rw [z, upd_same]
      · rw [upd_ne z]; exact hr j (by omega) hjl
    · have e2 : f_X1_rateCut l (nI i) = some (-2, u1_first l (0, 0)) := c_rateCut0 (c_isRated0 (l := u1_first l (u5_lower (u5_upper (g1_first l) 0) 0)) (B := g.1) hl (Or.inr ⟨nI_pos (by omega), by rw [p_le (by omega) (by omega)]; omega⟩))
      rw [show f_X1_rateCut (g7_ledger (u7_ratesNow (u7_ledger s l) r)) (nI i) = _ from e2, p_bind, p_wr hi (by decide), p_bind, nI_1]
      refine ih _ ⟨u1_first l (0, 0), upd r i (-2), rfl, hl, fun j hj hjl => ?_⟩
      rw [upd_ne (by omega)]; exact hr j (by omega) hjl
  · obtain ⟨l, r, rfl, hl, hr⟩ := hI
    dsimp only
    unfold f_X7_keepRatesNow_p13
    rw [if_pos (by decide)]
    exact ⟨_, rfl, l, r, rfl, fun i hi => hr i (by omega) hi⟩
theorem op_dearest {s : S7} {q : S8} (h : RR s q) : ∃ r s' q', f_X7_dearest s = some (r, s') ∧ f_X8_dearest q = some (r, q') ∧ RR s' q' := by
  obtain ⟨g, hc, hm⟩ := id h
  have hb := hc.1
  have ok := hc.2.1
  have w := ok.1.1
  have w1 := ok.1.2.1
  change len g.1 ≤ 8 at w
  obtain ⟨l0, r0, e1, hr0⟩ := k_keepRates hc
  have e7 := (show f_X7_dearest s = _ from (by unfold f_X7_dearest; rw [e1, p_bind]))
  have i2 : ∀ a b : Int32, (a ≤ b) = ¬ (b < a) := fun a b => by rw [i_le, i_lt]; exact propext ⟨fun h => by omega, fun h => by omega⟩
  have hA : ∃ s', lp_X7_dearest_p11 (u7_ratesNow (u7_ledger s l0) r0) (-2) 0 0 = some (encP (pick (fun _ => true) (fun a m => decide (lessF g.1 m < lessF g.1 a)) g.1.2.1.length), s') ∧ K7 s s' := by
    unfold lp_X7_dearest_p11
    have key := p_forI (body := fun (k : S7 × Int32 × Int32 × Int32 → Option (Int32 × S7)) (z : S7 × Int32 × Int32 × Int32) => f_X7_dearest_p11 (fun s x1 x2 x3 => k (s, x1, x2, x3)) z.1 z.2.1 z.2.2.1 z.2.2.2) g.1.2.1.length
      (fun j t => ∃ s', t = (s', encP (pick (fun _ => true) (fun a m => decide (lessF g.1 m < lessF g.1 a)) j), mostF g.1 (pick (fun _ => true) (fun a m => decide (lessF g.1 m < lessF g.1 a)) j), nI j) ∧ K7 s s' ∧ g7_ratesNow s' = r0)
      (fun r => ∃ s', r = (encP (pick (fun _ => true) (fun a m => decide (lessF g.1 m < lessF g.1 a)) g.1.2.1.length), s') ∧ K7 s s') (by omega) (fun j k t hj hI ih => ?_) (fun k t hI => ?_) 0 (u7_ratesNow (u7_ledger s l0) r0, -2, 0, 0) (Nat.zero_le _) ⟨u7_ratesNow (u7_ledger s l0) r0, rfl, ⟨rfl, rfl, rfl⟩, rfl⟩
    · obtain ⟨r, e, s', rfl, hs⟩ := key
      exact ⟨s', e, hs⟩
    · obtain ⟨s', rfl, ks, hrr⟩ := hI
      have hc' := RC_K hc ks
      obtain ⟨c, hcl, hcm⟩ := p_at hj
      obtain ⟨cl1, cn⟩ := ok_nf ok hcm
      obtain ⟨l, t, e9⟩ := k_without hc' cl1 hj
      rw [rt_1 (B := dropB g.1 j) (by show 0 < nf g.1 c.1; exact cn)] at e9
      have hb' := hc'.1
      dsimp only
      unfold f_X7_dearest_p11
      rw [hb'.2.2.1, if_neg (by rw [p_le (by omega) (by omega)]; omega), c_fleetOf hb' hcl, p_bind, c_hasF hb' cl1, p_bind, if_neg (by decide), p_rd (by omega) (by decide), p_bind, e9, p_bind, hrr, hr0 c.1 cl1, rt_1 cn, ← lessF_at hcl, nI_1]
      cases e : pick (fun _ => true) (fun a m => decide (lessF g.1 m < lessF g.1 a)) j with
      | none =>
        rw [if_pos (show encP none = -2 from rfl)]
        exact ih _ ⟨u7_ledger (u7_trial s' t) l, by rw [pick_N rfl e]; rfl, ⟨ks.1, ks.2.1, ks.2.2⟩, hrr⟩
      | some m =>
        have hml := (pick_lt _ _ e).1
        rw [show encP (some m) = nI m from rfl, if_neg (fun e' => by
          have := nI_pos (n := m) (by omega)
          rw [e'] at this
          exact this (by decide)), show mostF g.1 (some m) = lessF g.1 m from rfl]
        by_cases z : lessF g.1 m < lessF g.1 j
        · rw [if_neg (by rw [i2]; exact fun hh => hh z)]
          exact ih _ ⟨u7_ledger (u7_trial s' t) l, by rw [pick_B rfl e (by simp [z])]; rfl, ⟨ks.1, ks.2.1, ks.2.2⟩, hrr⟩
        · rw [if_pos (by rw [i2]; exact z)]
          exact ih _ ⟨u7_ledger (u7_trial s' t) l, by rw [pick_S rfl e (by simp [z])]; rfl, ⟨ks.1, ks.2.1, ks.2.2⟩, hrr⟩
    · obtain ⟨s', rfl, ks, hrr⟩ := hI
      have hb' := (RC_K hc ks).1
      dsimp only
      unfold f_X7_dearest_p11
      rw [hb'.2.2.1, if_pos (by rw [p_le (by omega) (by omega)]; omega)]
      exact ⟨_, rfl, s', rfl, ks⟩
  have hB : ∃ q', f_X8_dearest q = some (encP (pick (fun _ => true) (fun a m => decide (lessF g.1 m < lessF g.1 a)) g.1.2.1.length), q') ∧ K8 q q' := by
    unfold f_X8_dearest lp_X8_dearest_p7
    have key := p_forI (body := fun (k : S8 × Int32 × Int32 × Int32 → Option (Int32 × S8)) (z : S8 × Int32 × Int32 × Int32) => f_X8_dearest_p7 (fun s x1 x2 x3 => k (s, x1, x2, x3)) z.1 z.2.1 z.2.2.1 z.2.2.2) g.1.2.1.length
      (fun j t => ∃ q', t = (q', encP (pick (fun _ => true) (fun a m => decide (lessF g.1 m < lessF g.1 a)) j), mostF g.1 (pick (fun _ => true) (fun a m => decide (lessF g.1 m < lessF g.1 a)) j), nI j) ∧ K8 q q')
      (fun r => ∃ q', r = (encP (pick (fun _ => true) (fun a m => decide (lessF g.1 m < lessF g.1 a)) g.1.2.1.length), q') ∧ K8 q q') (by omega) (fun j k t hj hI ih => ?_) (fun k t hI => ?_) 0 (q, -2, 0, 0) (Nat.zero_le _) ⟨q, rfl, K8_r q⟩
    · obtain ⟨r, e, s', rfl, hs⟩ := key
      exact ⟨s', e, hs⟩
    · obtain ⟨q', rfl, ks⟩ := hI
      have hm' := (RM_K hm ks).1
      obtain ⟨c, hcl, hcm⟩ := p_at hj
      obtain ⟨cl1, cn⟩ := ok_nf ok hcm
      obtain ⟨z1, f1, k1, -⟩ := m_ratedNow ok hm' cl1 cn
      have ks1 := K8_t ks (K8_k k1)
      have hm1 := (RM_K hm ks1).1
      obtain ⟨z2, f2, k2⟩ := m_without ok hm1 cl1 cn hj
      have ks2 := K8_t ks1 k2
      dsimp only
      unfold f_X8_dearest_p7
      rw [m_claims hm', p_bind, if_neg (by rw [p_le (by omega) (by omega)]; omega), m_fleetOf hm' hcl, p_bind, f1, p_bind, m_fleetOf hm1 hcl, p_bind, f2, p_bind, ← lessF_at hcl, nI_1]
      cases e : pick (fun _ => true) (fun a m => decide (lessF g.1 m < lessF g.1 a)) j with
      | none =>
        rw [if_pos (show encP none < 0 by decide)]
        exact ih _ ⟨_, by rw [pick_N rfl e]; rfl, ks2⟩
      | some m =>
        have hml := (pick_lt _ _ e).1
        rw [show encP (some m) = nI m from rfl, if_neg (nI_pos (by omega)), show mostF g.1 (some m) = lessF g.1 m from rfl]
        by_cases z : lessF g.1 m < lessF g.1 j
        · rw [if_pos z]
          exact ih _ ⟨_, by rw [pick_B rfl e (by simp [z])]; rfl, ks2⟩
        · rw [if_neg z]
          exact ih _ ⟨_, by rw [pick_S rfl e (by simp [z])]; rfl, ks2⟩
    · obtain ⟨q', rfl, ks⟩ := hI
      have hm' := (RM_K hm ks).1
      dsimp only
      unfold f_X8_dearest_p7
      rw [m_claims hm', p_bind, if_pos (by rw [p_le (by omega) (by omega)]; omega)]
      exact ⟨_, rfl, q', rfl, ks⟩
  obtain ⟨s', e9, k9⟩ := hA
  obtain ⟨q', e10, k10⟩ := hB
  exact ⟨_, _, _, e7.trans e9, e10, RR_K hc hm k9 k10⟩
/-! earlier years -/
abbrev endB (B : Bk) (s : Nat) : Bk := (B.1.map (endF s), B.2.1.filter (fun c => !inSetTo B.1.length s c), B.2.2)
def msk (a b : Nat) : Nat := 2 ^ b - 2 ^ a
theorem msk0a : ∀ a, a < 6 → ∀ b, b < 5 → (a ≤ b → msk a b < 32) ∧ (a ≤ b → msk a (b + 1) < 32) := by
  unfold msk
  decide +kernel
theorem msk0b : ∀ a, a < 6 → ∀ b, b < 5 → ∀ v, v < 32 → (a ≤ b → notIn (notIn v (msk a b)) (2 ^ b) = notIn v (msk a (b + 1))) := by
  unfold msk notIn
  decide +kernel
theorem msk0c : ∀ a, a < 6 → ∀ b, b < 5 → ∀ k, k < 5 → (a ≤ b → (msk a (b + 1) / 2 ^ k % 2 = 1 ↔ (msk a b / 2 ^ k % 2 = 1 ∨ 2 ^ b / 2 ^ k % 2 = 1))) := by
  unfold msk
  decide +kernel
theorem msk0 (a : Nat) (ha : a < 6) (b : Nat) (hb : b < 5) (h : a ≤ b) : (msk a b < 32 ∧ msk a (b + 1) < 32 ∧ (∀ v, v < 32 → notIn (notIn v (msk a b)) (2 ^ b) = notIn v (msk a (b + 1))) ∧ ∀ k, k < 5 → (msk a (b + 1) / 2 ^ k % 2 = 1 ↔ (msk a b / 2 ^ k % 2 = 1 ∨ 2 ^ b / 2 ^ k % 2 = 1))) := ⟨(msk0a a ha b hb).1 h, (msk0a a ha b hb).2 h, fun v hv => msk0b a ha b hb v hv h, fun k hk => msk0c a ha b hb k hk h⟩
theorem msk1 : ∀ a, a < 6 → (msk a a = 0 ∧ (∀ v, v < 32 → notIn v 0 = v) ∧ msk a 5 < 32) := by
  unfold msk notIn
  decide +kernel
theorem msk2 : ∀ a, a < 6 → (31 : Int32) &&& ((-1 : Int32) <<< (nI a &&& 31)) = nI (msk a 5) := by
  unfold msk
  decide +kernel
theorem endB_0 {B : Bk} (ok : okB B) {a : Nat} (ha : a < 6) : endB B (msk a a) = B := by
  obtain ⟨h1, h2, -⟩ := msk1 a ha
  rw [h1]
  unfold endB
  have e1 : B.1.map (endF 0) = B.1 := by
    conv => rhs; rw [← List.map_id B.1]
    refine List.map_congr_left (fun f hf => ?_)
    unfold endF
    rw [h2 f.2 (ok.1.2.2.1 f hf).2]
    rfl
  have e2 : B.2.1.filter (fun c => !inSetTo B.1.length 0 c) = B.2.1 := by
    refine List.filter_eq_self.mpr (fun c _ => ?_)
    simp [inSetTo]
  rw [e1, e2]
theorem endB_s {B : Bk} (ok : okB B) {a b : Nat} (ha : a < 6) (hb : b < 5) (hab : a ≤ b) : endB (endB B (msk a b)) (2 ^ b) = endB B (msk a (b + 1)) := by
  obtain ⟨h1, h2, h3, h4⟩ := msk0 a ha b hb hab
  unfold endB
  dsimp only
  have e1 : (B.1.map (endF (msk a b))).map (endF (2 ^ b)) = B.1.map (endF (msk a (b + 1))) := by
    rw [List.map_map]
    refine List.map_congr_left (fun f hf => ?_)
    show (f.1, notIn (notIn f.2 (msk a b)) (2 ^ b)) = (f.1, notIn f.2 (msk a (b + 1)))
    rw [h3 f.2 (ok.1.2.2.1 f hf).2]
  have e2 : (B.2.1.filter (fun c => !inSetTo B.1.length (msk a b) c)).filter (fun c => !inSetTo (B.1.map (endF (msk a b))).length (2 ^ b) c) = B.2.1.filter (fun c => !inSetTo B.1.length (msk a (b + 1)) c) := by
    rw [List.length_map]
    refine filter_filter_or (inSetTo B.1.length (msk a b)) (inSetTo B.1.length (2 ^ b)) _ _ (fun c hc => ?_)
    have := h4 c.2.1 (ok.1.2.2.2.1 c hc).2.1
    unfold inSetTo
    by_cases z : c.1 < B.1.length
    · simp [z, this]
    · simp [z]
  rw [e1, e2]
theorem m_ends9 {s : S8} {B : Bk} (h : rM (g8_now s) B) (ok : okB B) {y : Nat} (hy : y < 5) {k2 : S8 → Int32 → Option S8} {Q : S8 → Prop} (hk : ∀ w, rM w (endB B (2 ^ y)) → ∃ r, k2 (u8_now s w) (nI (y + 1)) = some r ∧ Q r) : ∃ r, lp_X8_ends_p9 k2 s (nI y) 0 = some r ∧ Q r := by
  have w0 := h.1.1
  unfold lp_X8_ends_p9
  refine p_forI (body := fun (k : S8 × Int32 × Int32 → Option (S8)) (z : S8 × Int32 × Int32) => f_X8_ends_p9 k2 (fun s x2 x3 => k (s, x2, x3)) z.1 z.2.1 z.2.2) B.1.length (fun i t => ∃ w, t = (u8_now s w, nI y, nI i) ∧ rM w (mapTo (endF (2 ^ y)) i B.1, B.2)) Q (by omega) (fun i k t hi hI ih => ?_) (fun k t hI => ?_) 0 (s, nI y, 0) (Nat.zero_le _) ⟨g8_now s, rfl, by rw [mapTo_0]; exact h⟩
  · obtain ⟨w, rfl, hb⟩ := hI
    obtain ⟨g, hg, hgm⟩ := p_at hi
    have hg' : (mapTo (endF (2 ^ y)) i B.1)[i]? = some g := by rw [mapTo_get, if_neg (by omega)]; exact hg
    have wg := h.1.2.2.1 g hgm
    have o := p_notIn g.2 wg.2 (2 ^ y) (p_pow5 y hy).1
    have hb' : rM (g8_now (u8_now s w)) (mapTo (endF (2 ^ y)) i B.1, B.2) := hb
    dsimp only
    unfold f_X8_ends_p9
    rw [m_many hb', p_bind, if_neg (by rw [p_le (by simp [mapTo_len]; omega) (by omega)]; simp [mapTo_len]; omega), e5, show x_rd 140 (g8_now (u8_now s w)) (nI (5 + 2 * i)) = some (nI g.2) from (p_rd (by omega) (by decide)).trans (congrArg some (hb.2.2.2.2.2.1 i g hg').2), p_bind, p_1sh hy, o.1, p_wr (by omega) (by decide), p_bind]
    refine ih _ ⟨_, by rw [nI_1]; rfl, ?_⟩
    rw [mapTo_step _ hg]
    exact r_years hb hg' o.2
  · obtain ⟨w, rfl, hb⟩ := hI
    rw [mapTo_all] at hb
    have hb' : rM (g8_now (u8_now s w)) (B.1.map (endF (2 ^ y)), B.2) := hb
    dsimp only
    unfold f_X8_ends_p9
    obtain ⟨w2, e2, h2⟩ := m_dropsAll hb' (-1) (nI y)
    rw [m_many hb', p_bind, if_pos (by rw [p_le (by simp; omega) (by omega)]; simp), e2, p_bind, nI_1]
    dsimp only at h2
    rw [end_filter ok hy] at h2
    exact hk w2 h2
theorem m_ends {s : S8} {B : Bk} (h : rM (g8_now s) B) (ok : okB B) {a : Nat} (ha : a < 6) : ∃ w, f_X8_ends s (nI a) = some (u8_now s w) ∧ rM w (endB B (msk a 5)) := by
  unfold f_X8_ends lp_X8_ends_p2
  have key := p_forI (body := fun (k : S8 × Int32 → Option (S8)) (z : S8 × Int32) => f_X8_ends_p2 (fun s x2 => k (s, x2)) z.1 z.2) (5 - a) (fun i t => ∃ w, t = (u8_now s w, nI (a + i)) ∧ rM w (endB B (msk a (a + i)))) (fun r => ∃ w, r = u8_now s w ∧ rM w (endB B (msk a 5))) (by omega) (fun i k t hi hI ih => ?_) (fun k t hI => ?_) 0 (s, nI a) (Nat.zero_le _) ⟨g8_now s, rfl, by rw [Nat.add_zero, endB_0 ok ha]; exact h⟩
  · obtain ⟨r, e, w, rfl, hw⟩ := key
    exact ⟨w, e, hw⟩
  · obtain ⟨w, rfl, hw⟩ := hI
    have hm0 := msk0 a ha (a + i) (by omega) (by omega)
    dsimp only
    unfold f_X8_ends_p2
    rw [if_neg (by rw [show (5 : Int32) = nI 5 from rfl, p_le (by omega) (by omega)]; omega)]
    refine m_ends9 (s := u8_now s w) hw (ok_end ok hm0.1) (y := a + i) (by omega) (fun w2 h2 => ?_)
    rw [endB_s ok ha (by omega) (by omega)] at h2
    exact ih _ ⟨w2, rfl, h2⟩
  · obtain ⟨w, rfl, hw⟩ := hI
    rw [show a + (5 - a) = 5 by omega] at hw ⊢
    dsimp only
    unfold f_X8_ends_p2
    rw [if_pos (by decide)]
    exact ⟨_, rfl, w, rfl, hw⟩
theorem k_tryEarly {s : S7} {g : Sg} (hc : RC s g) {a : Nat} (ha : a < 6) : ∃ t, f_X7_tryEarly s (nI a) = some (u7_trial s t) ∧ rC t (endB g.1 (msk a 5)) := by
  obtain ⟨t1, e1, b1⟩ := c_copyFrom hc.1 (g7_trial s)
  obtain ⟨t2, e2, b2⟩ := c_endYearsOfAll b1 (s := msk a 5) (msk1 a ha).2.2
  refine ⟨t2, ?_, b2⟩
  unfold f_X7_tryEarly
  rw [e1, p_bind, msk2 a ha, e2, p_bind]
theorem op_early0 {s : S7} {q : S8} (h : RR s q) (x y : Int32) : (∃ r s' q', f_X7_early s x y = some (r, s') ∧ f_X8_early q x y = some (r, q') ∧ RR s' q') ∧ ∃ r s' q', f_X7_earlyShare s x y = some (r, s') ∧ f_X8_earlyShare q x y = some (r, q') ∧ RR s' q' := by
  obtain ⟨g, hc, hm⟩ := id h
  have hb := hc.1
  have ok := hc.2.1
  have w := ok.1.1
  change len g.1 ≤ 8 at w
  rcases p_ix x (n := len g.1) (by omega) with ⟨i, hi, rfl⟩ | hx
  · rcases p_btw y (n := 5) (b := 5) rfl (by decide) with ⟨a, a1, a2, rfl, y1, y2, y3⟩ | ⟨hy, hy'⟩
    · have ok' : okB (endB g.1 (msk a 5)) := ok_end ok (msk1 a (by omega)).2.2
      have hi' : i < len (endB g.1 (msk a 5)) := by show i < (g.1.1.map _).length; rw [List.length_map]; exact hi
      obtain ⟨t, e1, b1⟩ := k_tryEarly hc (a := a) (by omega)
      obtain ⟨l, e2⟩ := c_rateIn7 (s := u7_trial s t) b1 ok' hi'
      obtain ⟨l2, e3, hl2⟩ := c_reckon (g7_ledger (u7_trial s t)) b1 ok'
      have e4 : f_X1_shareOf l2 (nI i) = some (if nf (endB g.1 (msk a 5)) i = 0 then -2 else nI (sh (endB g.1 (msk a 5)) i)) := by
        have w' := ok'.1.1
        change len (endB g.1 (msk a 5)) ≤ 8 at w'
        unfold f_X1_shareOf; rw [p_yes (c_hasRow w' hl2.1 hi'), p_rd (by omega) (by decide), p_bind, hl2.2.2.2.1 i hi']
      have e7 : f_X7_early s (nI i) (nI a) = some (rt (endB g.1 (msk a 5)) i, u7_ledger (u7_trial s t) l) := by
        unfold f_X7_early
        rw [p_yes (c_hasF hb hi), if_neg y1, if_pos y2, e1, p_bind, e2, p_bind]
      have e7' := (show f_X7_earlyShare s (nI i) (nI a) = _ from (by unfold f_X7_earlyShare; rw [p_yes (c_hasF hb hi), if_neg y1, if_pos y2, e1, p_bind, show f_X1_reckon (g7_ledger (u7_trial s t)) (g7_trial (u7_trial s t)) = _ from e3, p_bind, e4, p_bind]))
      obtain ⟨d, f1, hd⟩ := m_aside q
      obtain ⟨v, f2, h2⟩ := m_ends (s := u8_aside q d) hm.1 ok (a := a) (by omega)
      have e8 : ∀ z : Int32, f_X8_earlier q (nI i) (nI a) z = _ := fun z => (by unfold f_X8_earlier; rw [p_yes (m_isFleet hm.1 hi), p_yes (p_in1 y1 y3), f1, p_bind, f2, p_bind, m_isRated (s := u8_now (u8_aside q d) v) ok' h2 hi', p_bind])
      by_cases n1 : nf (endB g.1 (msk a 5)) i = 0
      · obtain ⟨z', f5, k5⟩ := m_round (z := u8_now (u8_aside q d) v) hd (keep8_r _)
        have e9 : ∀ z : Int32, f_X8_earlier q (nI i) (nI a) z = some (-2, z') := fun z => by
          rw [e8 z, if_pos n1, if_pos rfl]
          unfold f_X8_earlier_p58
          rw [f5, p_bind]
        rw [rt_0 n1] at e7
        rw [if_pos n1] at e7'
        exact ⟨⟨_, _, _, e7, (by unfold f_X8_early; rw [e9, p_bind]), RR_K hc hm ⟨rfl, rfl, rfl⟩ k5⟩, ⟨_, _, _, e7', (by unfold f_X8_earlyShare; rw [e9, p_bind]), RR_K hc hm ⟨rfl, rfl, rfl⟩ k5⟩⟩
      · obtain ⟨z1, f3, k3, -⟩ := m_ratedNow (s := u8_now (u8_aside q d) v) ok' h2 hi' (by omega)
        obtain ⟨z1', f5, k5⟩ := m_round hd k3
        obtain ⟨z2, f6, k6, w6⟩ := m_works (s := u8_now (u8_aside q d) v) h2 ok'
        obtain ⟨z2', f7, k7⟩ := m_round hd k6
        have f8 : f_X8_sharedNow (u8_now (u8_aside q d) v) (nI i) = some (nI (sh (endB g.1 (msk a 5)) i), z2) := by
          unfold f_X8_sharedNow
          rw [f6, p_bind, show x_rd 8 (g8_share z2) (nI i) = some _ from (p_rd (by omega) (by decide)).trans (congrArg some (w6.2.2 i hi' (by omega)).1), p_bind]
        have e9 : f_X8_earlier q (nI i) (nI a) 0 = some (nI (thN (endB g.1 (msk a 5)) i), z1') := by
          rw [e8 0, if_neg n1, if_neg (by decide), if_pos rfl, f3, p_bind]
          unfold f_X8_earlier_p58
          rw [f5, p_bind]
        have e10 : f_X8_earlier q (nI i) (nI a) 1 = some (nI (sh (endB g.1 (msk a 5)) i), z2') := by
          rw [e8 1, if_neg n1, if_neg (by decide), if_neg (by decide), f8, p_bind]
          unfold f_X8_earlier_p58
          rw [f7, p_bind]
        rw [rt_1 (by omega)] at e7
        rw [if_neg n1] at e7'
        exact ⟨⟨_, _, _, e7, (by unfold f_X8_early; rw [e9, p_bind]), RR_K hc hm ⟨rfl, rfl, rfl⟩ k5⟩, ⟨_, _, _, e7', (by unfold f_X8_earlyShare; rw [e10, p_bind]), RR_K hc hm ⟨rfl, rfl, rfl⟩ k7⟩⟩
    · have e9 : ∀ z : Int32, f_X8_earlier q (nI i) y z = some (-1, q) := fun z => by
        unfold f_X8_earlier
        rw [p_yes (m_isFleet hm.1 hi), p_no (p_in0 hy)]
      refine ⟨⟨-1, s, q, ?_, (by unfold f_X8_early; rw [e9, p_bind]), h⟩, ⟨-1, s, q, ?_, (by unfold f_X8_earlyShare; rw [e9, p_bind]), h⟩⟩
      · unfold f_X7_early
        rw [p_yes (c_hasF hb hi)]
        rcases hy' with h' | h'
        · rw [if_pos h']
        · rw [if_neg h']
          split <;> rfl
      · unfold f_X7_earlyShare
        rw [p_yes (c_hasF hb hi)]
        rcases hy' with h' | h'
        · rw [if_pos h']
        · rw [if_neg h']
          split <;> rfl
  · have e9 : ∀ z : Int32, f_X8_earlier q x y z = some (-1, q) := fun z => by
      unfold f_X8_earlier
      exact p_no (m_isFleet0 hm.1 hx)
    exact ⟨⟨-1, s, q, (by unfold f_X7_early; exact p_no (c_hasF0 hb hx)), (by unfold f_X8_early; rw [e9, p_bind]), h⟩, ⟨-1, s, q, (by unfold f_X7_earlyShare; exact p_no (c_hasF0 hb hx)), (by unfold f_X8_earlyShare; rw [e9, p_bind]), h⟩⟩
theorem op_early {s : S7} {q : S8} (h : RR s q) (x y : Int32) : ∃ r s' q', f_X7_early s x y = some (r, s') ∧ f_X8_early q x y = some (r, q') ∧ RR s' q' := (op_early0 h x y).1
theorem op_earlyShare {s : S7} {q : S8} (h : RR s q) (x y : Int32) : ∃ r s' q', f_X7_earlyShare s x y = some (r, s') ∧ f_X8_earlyShare q x y = some (r, q') ∧ RR s' q' := (op_early0 h x y).2
