/-! PURE: the class's ledger -/
theorem upd_upd (f : Nat → Int32) (i : Nat) (x y : Int32) : upd (upd f i x) i y = upd f i y := by
  funext j
  rw [u_at, u_at, u_at]
  by_cases q : j = i
  · rw [if_pos q, if_pos q]
  · rw [if_neg q, if_neg q, if_neg q]
theorem upd_same (f : Nat → Int32) (i : Nat) (x : Int32) : upd f i x i = x := by rw [u_at, if_pos rfl]
theorem upd_ne {f : Nat → Int32} {i j : Nat} {x : Int32} (h : j ≠ i) : upd f i x j = f j := by rw [u_at, if_neg h]
theorem cf_lt {B : Bk} (ok : okB B) {i : Nat} (h : i < len B) : cf B i < 3 := by
  obtain ⟨f, hf, hfm⟩ := p_at (l := B.1) h
  rw [cf_at hf]
  exact (ok.1.2.2.1 f hfm).1
def lossOK (f : Nat → Int32) (B : Bk) : Prop := ∀ i y, i < 8 → y < 5 → f (i * 5 + y) = nI (lossN B i y)
theorem c_fill (f : Nat → Int32) : ∃ g, f_J7_fill_53178 f 0 = some g ∧ ∀ j, j < 40 → g j = 0 := by
  unfold f_J7_fill_53178 lp_J7_fill_53178_p5
  refine p_forI (body := fun (k : (Nat → Int32) × Int32 × Int32 × Int32 → Option ((Nat → Int32))) (z : (Nat → Int32) × Int32 × Int32 × Int32) => f_J7_fill_53178_p5 (fun s x1 x2 x3 => k (s, x1, x2, x3)) z.1 z.2.1 z.2.2.1 z.2.2.2) 40 (fun i t => ∃ g, t = (g, 0, nI i, 40) ∧ ∀ j, j < i → g j = 0) (fun g => ∀ j, j < 40 → g j = 0) (by omega) (fun i k t hi hI ih => ?_) (fun k t hI => ?_) 0 (f, 0, 0, 40) (Nat.zero_le _) ⟨f, rfl, fun j hj => by omega⟩
  · obtain ⟨g, rfl, hg⟩ := hI
    dsimp only
    unfold f_J7_fill_53178_p5
    rw [if_neg (by rw [show (40 : Int32) = nI 40 from rfl, p_le (by omega) (by omega)]; omega), p_wr (by omega) (by decide), p_bind]
    refine ih _ ⟨_, by rw [nI_1], fun j hj => ?_⟩
    by_cases q : j = i
    · rw [q, upd_same]
    · rw [upd_ne q]; exact hg j (by omega)
  · obtain ⟨g, rfl, hg⟩ := hI
    dsimp only
    unfold f_J7_fill_53178_p5
    rw [if_pos (by decide)]
    exact ⟨_, rfl, hg⟩
theorem c_sumLosses (l : S1) {q : S0} {B : Bk} (h : rC q B) : ∃ f, f_X1_sumLosses l q = some (u1_losses l f) ∧ lossOK f B := by
  have w1 := h.1.2.1
  obtain ⟨g, e1, h1⟩ := c_fill (g1_losses l)
  unfold f_X1_sumLosses
  rw [e1, p_bind]
  unfold lp_X1_sumLosses_p10
  have key := p_forI (body := fun (k : S1 × S0 × Int32 → Option (S1)) (z : S1 × S0 × Int32) => f_X1_sumLosses_p10 (fun s q x2 => k (s, q, x2)) z.1 z.2.1 z.2.2) B.2.1.length (fun i t => ∃ f, t = (u1_losses l f, q, nI i) ∧ ∀ k y, k < 8 → y < 5 → f (k * 5 + y) = nI (sumL (lossV B k y) (B.2.1.take i))) (fun r => ∃ f, r = u1_losses l f ∧ lossOK f B) (by omega) (fun i k t hi hI ih => ?_) (fun k t hI => ?_) 0 (u1_losses l g, q, 0) (Nat.zero_le _) ⟨g, rfl, fun k y hk hy => by rw [sumL_0]; exact h1 _ (by omega)⟩
  · obtain ⟨r, e2, f, rfl, hf⟩ := key
    exact ⟨f, e2, hf⟩
  · obtain ⟨f, rfl, hf⟩ := hI
    obtain ⟨c, hc, hcm⟩ := p_at hi
    have wc := h.1.2.2.2.1 c hcm
    have wc1 := wc.1
    have wc2 := wc.2.1
    dsimp only
    unfold f_X1_sumLosses_p10
    rw [h.2.2.1, if_neg (by rw [p_le (by omega) (by omega)]; omega), c_fleetOf h hc, p_bind, c_yearOf h hc, p_bind, show (nI c.1 * (5 : Int32)) = nI (c.1 * 5) from pk_mul _ 5, nI_add, if_neg (nI_pos (by omega)), if_neg (by rw [show (40 : Int32) = nI 40 from rfl, p_le (by omega) (by omega)]; omega), show x_rd 40 (g1_losses (u1_losses l f)) (nI (c.1 * 5 + c.2.1)) = some (f (c.1 * 5 + c.2.1)) from p_rd (by omega) (by decide), p_bind, c_countedOf h hc, p_bind, p_wr (by omega) (by decide), p_bind, hf c.1 c.2.1 wc1 wc2, nI_add]
    refine ih _ ⟨_, by rw [nI_1]; rfl, fun k y hk hy => ?_⟩
    rw [sumL_take _ hc]
    by_cases q1 : k = c.1 ∧ y = c.2.1
    · obtain ⟨rfl, rfl⟩ := q1
      rw [upd_same]
      unfold lossV
      rw [if_pos (by simp)]
    · rw [upd_ne (by omega)]
      show f (k * 5 + y) = _
      rw [hf k y hk hy]
      unfold lossV
      rw [if_neg (by simp; omega)]
      rfl
  · obtain ⟨f, rfl, hf⟩ := hI
    dsimp only
    unfold f_X1_sumLosses_p10
    rw [h.2.2.1, if_pos (by rw [p_le (by omega) (by omega)]; omega)]
    refine ⟨_, rfl, f, rfl, fun i y hi hy => ?_⟩
    rw [hf i y hi hy, sumL_all]
    rfl
def rowsOK (l : S1) (B : Bk) (j : Nat) : Prop := ∀ i, i < j → g1_classes l i = nI (cf B i) ∧ g1_spans l i = nI (nf B i) ∧ g1_sums l i = nI (sS B i) ∧ g1_squares l i = nI (sQ B i)
def rLa (l : S1) (B : Bk) (j : Nat) : Prop := g1_fleets l = nI (len B) ∧ lossOK (g1_losses l) B ∧ rowsOK l B j ∧ rPa (g1_poolA l) B 0 j ∧ rPa (g1_poolB l) B 1 j ∧ rPa (g1_poolC l) B 2 j ∧ g1_allSum l = nI (aS B j) ∧ g1_allSpan l = nI (aN B j)
theorem c_hasRow {l : S1} {B : Bk} (w : len B ≤ 8) (h : g1_fleets l = nI (len B)) {i : Nat} (hi : i < len B) : f_X1_hasRow l (nI i) = some 1 := by
  unfold f_X1_hasRow
  rw [if_neg (nI_pos (by omega)), h, if_neg (by rw [p_le (by omega) (by omega)]; omega)]
theorem c_hasRow0 {l : S1} {B : Bk} (h : g1_fleets l = nI (len B)) {x : Int32} (hx : x < 0 ∨ (¬ x < 0 ∧ nI (len B) ≤ x)) : f_X1_hasRow l x = some 0 := by
  unfold f_X1_hasRow
  rcases hx with hx | ⟨hx, hy⟩
  · rw [if_pos hx]
  · rw [if_neg hx, h, if_pos hy]
theorem c_lossOf {l : S1} {B : Bk} (w : len B ≤ 8) (h : g1_fleets l = nI (len B)) (hl : lossOK (g1_losses l) B) {i y : Nat} (hi : i < len B) (hy : y < 5) : f_X1_lossOf l (nI i) (nI y) = some (nI (lossN B i y)) := by
  unfold f_X1_lossOf
  rw [p_yes (c_hasRow w h hi), p_yes (c_isYear hy), show (nI i * (5 : Int32)) = nI (i * 5) from pk_mul _ 5, nI_add, p_rd (by omega) (by decide), p_bind, hl i y (by omega) hy]
theorem c_poolOf (l : S1) {c : Nat} (h : c < 3) : f_X1_poolOf l (nI c) = some (if c = 0 then 7 else if c = 1 then 9 else 11) := by
  unfold f_X1_poolOf
  rcases (show c = 0 ∨ c = 1 ∨ c = 2 by omega) with rfl | rfl | rfl <;> rfl
theorem inK_no {B : Bk} {c i : Nat} (h : cf B i ≠ c) : ¬ inK B c i = true := by unfold inK; simp [h]
theorem inK_n0 {B : Bk} {c i : Nat} (h : nf B i = 0) : ¬ inK B c i = true := by unfold inK; simp [h]
theorem inK_yes {B : Bk} {c i : Nat} (h : cf B i = c) (hn : 0 < nf B i) : inK B c i = true := by unfold inK; simp [h, hn]
theorem aS_s {B : Bk} (j : Nat) : aS B (j + 1) = aS B j + (if 0 < nf B j then sS B j else 0) := rfl
theorem aN_s {B : Bk} (j : Nat) : aN B (j + 1) = aN B j + nf B j := rfl
theorem c_rf50 {l : S1} {q : S0} {B : Bk} (ok : okB B) {i : Nat} (hi : i < len B) (hf : g1_fleets l = nI (len B)) (hl : lossOK (g1_losses l) B) (R : Option S1) (hR : ∀ k, f_X1_reckonFleet_p50 k (u1_squares (u1_sums l (upd (g1_sums l) i (nI (sS B i)))) (upd (g1_squares l) i (nI (sQ B i)))) q (nI i) (nI 5) = R) : lp_X1_reckonFleet_p50 (u1_squares (u1_sums l (upd (g1_sums l) i 0)) (upd (g1_squares l) i 0)) q (nI i) 0 = R := by
  have w := ok.1.1
  change len B ≤ 8 at w
  unfold lp_X1_reckonFleet_p50
  refine p_forE 5 (fun y => (u1_squares (u1_sums l (upd (g1_sums l) i (nI (sumI (fun y => lossN B i y) y)))) (upd (g1_squares l) i (nI (sumI (fun y => lossN B i y * lossN B i y) y))), q, nI i, nI y)) R (by omega) (fun y k hy ih => ?_) (fun k => hR _) 0 (Nat.zero_le _)
  dsimp only
  unfold f_X1_reckonFleet_p50
  rw [if_neg (by rw [show (5 : Int32) = nI 5 from rfl, p_le (by omega) (by omega)]; omega), c_lossOf (l := u1_squares (u1_sums l (upd (g1_sums l) i (nI (sumI (fun y => lossN B i y) y)))) (upd (g1_squares l) i (nI (sumI (fun y => lossN B i y * lossN B i y) y)))) w hf hl hi hy, p_bind]
  rw [show x_rd 8 (g1_sums (u1_squares (u1_sums l (upd (g1_sums l) i (nI (sumI (fun y => lossN B i y) y)))) (upd (g1_squares l) i (nI (sumI (fun y => lossN B i y * lossN B i y) y))))) (nI i) = some (nI (sumI (fun y => lossN B i y) y)) from (p_rd (by omega) (by decide)).trans (congrArg some (upd_same _ _ _)), p_bind, p_wr (by omega) (by decide), p_bind]
  rw [show x_rd 8 (g1_squares (u1_squares (u1_sums l (upd (g1_sums l) i (nI (sumI (fun y => lossN B i y) y)))) (upd (g1_squares l) i (nI (sumI (fun y => lossN B i y * lossN B i y) y))))) (nI i) = some (nI (sumI (fun y => lossN B i y * lossN B i y) y)) from (p_rd (by omega) (by decide)).trans (congrArg some (upd_same _ _ _)), p_bind, p_wr (by omega) (by decide), p_bind, pk_mul, nI_add, nI_add]
  rw [show g1_sums (u1_squares (u1_sums l (upd (g1_sums l) i (nI (sumI (fun y => lossN B i y) y)))) (upd (g1_squares l) i (nI (sumI (fun y => lossN B i y * lossN B i y) y)))) = upd (g1_sums l) i (nI (sumI (fun y => lossN B i y) y)) from rfl, show g1_squares (u1_squares (u1_sums l (upd (g1_sums l) i (nI (sumI (fun y => lossN B i y) y)))) (upd (g1_squares l) i (nI (sumI (fun y => lossN B i y * lossN B i y) y)))) = upd (g1_squares l) i (nI (sumI (fun y => lossN B i y * lossN B i y) y)) from rfl, upd_upd, upd_upd, nI_1]
  exact ih
theorem c_reckonFleet {l : S1} {q : S0} {B : Bk} (hq : rC q B) (ok : okB B) {i : Nat} (hi : i < len B) (h : rLa l B i) : ∃ l', f_X1_reckonFleet l q (nI i) = some l' ∧ rLa l' B (i + 1) := by
  have w := ok.1.1
  change len B ≤ 8 at w
  obtain ⟨f, hf, hfm⟩ := p_at (l := B.1) hi
  have f3 := ok.1.2.2.1 f hfm
  have ef := nf_at hf
  have ec := cf_at hf
  have c3 := cf_lt ok hi
  have n5 := nf_le ok i
  obtain ⟨h1, h2, h3, h4, h5, h6, h7, h8⟩ := h
  unfold f_X1_reckonFleet
  rw [p_yes (c_hasRow w h1 hi), c_classOf hq hf, p_bind, p_wr (by omega) (by decide), p_bind, c_yearsOf hq hf, p_bind, c_bits _ f3.2, p_bind, p_wr (by omega) (by decide), p_bind, p_wr (by omega) (by decide), p_bind, p_wr (by omega) (by decide), p_bind, ← ec, ← ef]
  have hrow : ∀ l2 : S1, g1_classes l2 = upd (g1_classes l) i (nI (cf B i)) → g1_spans l2 = upd (g1_spans l) i (nI (nf B i)) → g1_sums l2 = upd (g1_sums l) i (nI (sS B i)) → g1_squares l2 = upd (g1_squares l) i (nI (sQ B i)) → rowsOK l2 B (i + 1) := by
    intro l2 e1 e2 e3 e4 j hj
    rw [e1, e2, e3, e4]
    by_cases q1 : j = i
    · rw [q1, upd_same, upd_same, upd_same, upd_same]
      exact ⟨rfl, rfl, rfl, rfl⟩
    · rw [upd_ne q1, upd_ne q1, upd_ne q1, upd_ne q1]
      exact h3 j (by omega)
  by_cases n0 : nf B i = 0
  · refine ⟨_, c_rf50 (l := u1_spans (u1_classes l (upd (g1_classes l) i (nI (cf B i)))) (upd (g1_spans l) i (nI (nf B i)))) ok hi h1 h2 (some (u1_squares (u1_sums (u1_spans (u1_classes l (upd (g1_classes l) i (nI (cf B i)))) (upd (g1_spans l) i (nI (nf B i)))) (upd (g1_sums l) i (nI (sS B i)))) (upd (g1_squares l) i (nI (sQ B i))))) (fun k => ?_), ?_⟩
    · unfold f_X1_reckonFleet_p50
      rw [if_pos (by decide)]
      simp only [gu1_spans, gu1_classes, gu1_sums, gu1_squares]
      rw [show ∀ X : Nat → Int32, x_rd 8 (upd X i (nI (nf B i))) (nI i) = some (nI (nf B i)) from fun X => (p_rd (by omega) (by decide)).trans (congrArg some (upd_same _ _ _)), p_bind, n0, if_pos (by decide)]
    · refine ⟨h1, h2, hrow _ rfl rfl rfl rfl, rPa_F h4 (inK_n0 n0), rPa_F h5 (inK_n0 n0), rPa_F h6 (inK_n0 n0), ?_, ?_⟩
      · rw [aS_s, if_neg (by omega)]; exact h7
      · rw [aN_s, n0]; exact h8
  · have np : 0 < nf B i := by omega
    have hend : ∃ l', (∀ k, f_X1_reckonFleet_p50 k (u1_squares (u1_sums (u1_spans (u1_classes l (upd (g1_classes l) i (nI (cf B i)))) (upd (g1_spans l) i (nI (nf B i)))) (upd (g1_sums l) i (nI (sS B i)))) (upd (g1_squares l) i (nI (sQ B i)))) q (nI i) (nI 5) = some l') ∧ rLa l' B (i + 1) := by
      have r1 : ∀ X : Nat → Int32, x_rd 8 (upd X i (nI (nf B i))) (nI i) = some (nI (nf B i)) := fun X => (p_rd (by omega) (by decide)).trans (congrArg some (upd_same _ _ _))
      have r2 : ∀ X : Nat → Int32, x_rd 8 (upd X i (nI (cf B i))) (nI i) = some (nI (cf B i)) := fun X => (p_rd (by omega) (by decide)).trans (congrArg some (upd_same _ _ _))
      have r3 : ∀ X : Nat → Int32, x_rd 8 (upd X i (nI (sS B i))) (nI i) = some (nI (sS B i)) := fun X => (p_rd (by omega) (by decide)).trans (congrArg some (upd_same _ _ _))
      have r4 : ∀ X : Nat → Int32, x_rd 8 (upd X i (nI (sQ B i))) (nI i) = some (nI (sQ B i)) := fun X => (p_rd (by omega) (by decide)).trans (congrArg some (upd_same _ _ _))
      have zle : ¬ nI (nf B i) ≤ 0 := by rw [show (0 : Int32) = nI 0 from rfl, p_le (by omega) (by omega)]; omega
      have es : g1_allSum l + nI (sS B i) = nI (aS B (i + 1)) := by rw [h7, nI_add, aS_s, if_pos np]
      have en : g1_allSpan l + nI (nf B i) = nI (aN B (i + 1)) := by rw [h8, nI_add, aN_s]
      rcases (show cf B i = 0 ∨ cf B i = 1 ∨ cf B i = 2 by omega) with c0 | c0 | c0
      · obtain ⟨p', e1, e2⟩ := c_addFleet4 ok h4 (inK_yes c0 np)
        refine ⟨u1_allSpan (u1_allSum (u1_poolA (u1_squares (u1_sums (u1_spans (u1_classes l (upd (g1_classes l) i (nI (cf B i)))) (upd (g1_spans l) i (nI (nf B i)))) (upd (g1_sums l) i (nI (sS B i)))) (upd (g1_squares l) i (nI (sQ B i)))) p') (nI (aS B (i + 1)))) (nI (aN B (i + 1))), fun k => ?_, h1, h2, hrow _ rfl rfl rfl rfl, e2, rPa_F h5 (inK_no (by omega)), rPa_F h6 (inK_no (by omega)), rfl, rfl⟩
        unfold f_X1_reckonFleet_p50
        rw [if_pos (by decide)]
        simp only [gu1_spans, gu1_classes, gu1_sums, gu1_squares]
        rw [r1, p_bind, if_neg zle, r2, p_bind, c_poolOf _ c3, p_bind, if_pos c0, if_pos rfl, p_bind, r3, p_bind, r4, p_bind, e1, p_bind, p_bind, p_bind, es, en]
      · obtain ⟨p', e1, e2⟩ := c_addFleet4 ok h5 (inK_yes c0 np)
        refine ⟨u1_allSpan (u1_allSum (u1_poolB (u1_squares (u1_sums (u1_spans (u1_classes l (upd (g1_classes l) i (nI (cf B i)))) (upd (g1_spans l) i (nI (nf B i)))) (upd (g1_sums l) i (nI (sS B i)))) (upd (g1_squares l) i (nI (sQ B i)))) p') (nI (aS B (i + 1)))) (nI (aN B (i + 1))), fun k => ?_, h1, h2, hrow _ rfl rfl rfl rfl, rPa_F h4 (inK_no (by omega)), e2, rPa_F h6 (inK_no (by omega)), rfl, rfl⟩
        unfold f_X1_reckonFleet_p50
        rw [if_pos (by decide)]
        simp only [gu1_spans, gu1_classes, gu1_sums, gu1_squares]
        rw [r1, p_bind, if_neg zle, r2, p_bind, c_poolOf _ c3, p_bind, if_neg (show ¬ cf B i = 0 by omega), if_pos c0, if_neg (by decide), if_pos rfl, p_bind, r3, p_bind, r4, p_bind, e1, p_bind, p_bind, p_bind, es, en]
      · obtain ⟨p', e1, e2⟩ := c_addFleet4 ok h6 (inK_yes c0 np)
        refine ⟨u1_allSpan (u1_allSum (u1_poolC (u1_squares (u1_sums (u1_spans (u1_classes l (upd (g1_classes l) i (nI (cf B i)))) (upd (g1_spans l) i (nI (nf B i)))) (upd (g1_sums l) i (nI (sS B i)))) (upd (g1_squares l) i (nI (sQ B i)))) p') (nI (aS B (i + 1)))) (nI (aN B (i + 1))), fun k => ?_, h1, h2, hrow _ rfl rfl rfl rfl, rPa_F h4 (inK_no (by omega)), rPa_F h5 (inK_no (by omega)), e2, rfl, rfl⟩
        unfold f_X1_reckonFleet_p50
        rw [if_pos (by decide)]
        simp only [gu1_spans, gu1_classes, gu1_sums, gu1_squares]
        rw [r1, p_bind, if_neg zle, r2, p_bind, c_poolOf _ c3, p_bind, if_neg (show ¬ cf B i = 0 by omega), if_neg (show ¬ cf B i = 1 by omega), if_neg (by decide), if_neg (by decide), if_pos rfl, p_bind, r3, p_bind, r4, p_bind, e1, p_bind, p_bind, p_bind, es, en]
    obtain ⟨l', e1, e2⟩ := hend
    exact ⟨l', c_rf50 (l := u1_spans (u1_classes l (upd (g1_classes l) i (nI (cf B i)))) (upd (g1_spans l) i (nI (nf B i)))) ok hi h1 h2 (some l') e1, e2⟩
