/-! PURE: the class's ledger, shares and bases -/
def shOK (f : Nat → Int32) (B : Bk) (j : Nat) : Prop := ∀ i, i < j → f i = if nf B i = 0 then -2 else nI (sh B i)
def rLb (l : S1) (B : Bk) (j : Nat) : Prop := g1_fleets l = nI (len B) ∧ lossOK (g1_losses l) B ∧ rowsOK l B (len B) ∧ shOK (g1_shares l) B j ∧ rPb (g1_poolA l) B 0 j ∧ rPb (g1_poolB l) B 1 j ∧ rPb (g1_poolC l) B 2 j ∧ g1_allSum l = nI (aS B (len B)) ∧ g1_allSpan l = nI (aN B (len B))
def rL (l : S1) (B : Bk) : Prop := g1_fleets l = nI (len B) ∧ lossOK (g1_losses l) B ∧ rowsOK l B (len B) ∧ shOK (g1_shares l) B (len B) ∧ rPf (g1_poolA l) B 0 ∧ rPf (g1_poolB l) B 1 ∧ rPf (g1_poolC l) B 2 ∧ g1_allSum l = nI (aS B (len B)) ∧ g1_allSpan l = nI (aN B (len B))
theorem c_reckonShare {l : S1} {B : Bk} (ok : okB B) {i : Nat} (hi : i < len B) (h : rLb l B i) : ∃ l', f_X1_reckonShare l (nI i) = some l' ∧ rLb l' B (i + 1) := by
  have w := ok.1.1
  change len B ≤ 8 at w
  have c3 := cf_lt ok hi
  have n5 := nf_le ok i
  obtain ⟨h1, h2, h3, h4, h5, h6, h7, h8, h9⟩ := h
  obtain ⟨t1, t2, t3, t4⟩ := h3 i hi
  have r1 : x_rd 8 (g1_spans l) (nI i) = some (nI (nf B i)) := (p_rd (by omega) (by decide)).trans (congrArg some t2)
  have r2 : x_rd 8 (g1_classes l) (nI i) = some (nI (cf B i)) := (p_rd (by omega) (by decide)).trans (congrArg some t1)
  have r3 : x_rd 8 (g1_sums l) (nI i) = some (nI (sS B i)) := (p_rd (by omega) (by decide)).trans (congrArg some t3)
  have hsh : ∀ f : Nat → Int32, f = upd (g1_shares l) i (if nf B i = 0 then -2 else nI (sh B i)) → shOK f B (i + 1) := by
    intro f e j hj
    rw [e]
    by_cases q1 : j = i
    · rw [q1, upd_same]
    · rw [upd_ne q1]; exact h4 j (by omega)
  unfold f_X1_reckonShare
  rw [p_yes (c_hasRow w h1 hi), p_wr (by omega) (by decide), p_bind, r1, p_bind]
  by_cases n0 : nf B i = 0
  · rw [n0, if_pos (by decide)]
    exact ⟨_, rfl, h1, h2, h3, hsh _ (by rw [if_pos n0]; rfl), rPb_F h5 (inK_n0 n0), rPb_F h6 (inK_n0 n0), rPb_F h7 (inK_n0 n0), h8, h9⟩
  · have np : 0 < nf B i := by omega
    rw [if_neg (by rw [show (0 : Int32) = nI 0 from rfl, p_le (by omega) (by omega)]; omega), r2, p_bind, c_poolOf _ c3, p_bind]
    have r5 : ∀ X : Nat → Int32, x_rd 8 (upd X i (nI (sh B i))) (nI i) = some (nI (sh B i)) := fun X => (p_rd (by omega) (by decide)).trans (congrArg some (upd_same _ _ _))
    rcases (show cf B i = 0 ∨ cf B i = 1 ∨ cf B i = 2 by omega) with c0 | c0 | c0
    · obtain ⟨p', e1, e2⟩ := c_addShare ok h5 (inK_yes c0 np)
      have e3 : f_X4_shareBySpan (g1_poolA l) (nI (nf B i)) = some (nI (sh B i)) := by rw [c_shareBySpan ok h5 (by omega)]; unfold sh; rw [c0]
      rw [if_pos c0, if_pos rfl, p_bind, e3, p_bind, p_wr (by omega) (by decide), p_bind, upd_upd, p_bind, r3, p_bind, r5, p_bind, e1, p_bind]
      exact ⟨_, rfl, h1, h2, h3, hsh _ (by rw [if_neg n0]; rfl), e2, rPb_F h6 (inK_no (by omega)), rPb_F h7 (inK_no (by omega)), h8, h9⟩
    · obtain ⟨p', e1, e2⟩ := c_addShare ok h6 (inK_yes c0 np)
      have e3 : f_X4_shareBySpan (g1_poolB l) (nI (nf B i)) = some (nI (sh B i)) := by rw [c_shareBySpan ok h6 (by omega)]; unfold sh; rw [c0]
      rw [if_neg (show ¬ cf B i = 0 by omega), if_pos c0, if_neg (by decide), if_pos rfl, p_bind, e3, p_bind, p_wr (by omega) (by decide), p_bind, upd_upd, p_bind, r3, p_bind, r5, p_bind, e1, p_bind]
      exact ⟨_, rfl, h1, h2, h3, hsh _ (by rw [if_neg n0]; rfl), rPb_F h5 (inK_no (by omega)), e2, rPb_F h7 (inK_no (by omega)), h8, h9⟩
    · obtain ⟨p', e1, e2⟩ := c_addShare ok h7 (inK_yes c0 np)
      have e3 : f_X4_shareBySpan (g1_poolC l) (nI (nf B i)) = some (nI (sh B i)) := by rw [c_shareBySpan ok h7 (by omega)]; unfold sh; rw [c0]
      rw [if_neg (show ¬ cf B i = 0 by omega), if_neg (show ¬ cf B i = 1 by omega), if_neg (by decide), if_neg (by decide), if_pos rfl, p_bind, e3, p_bind, p_wr (by omega) (by decide), p_bind, upd_upd, p_bind, r3, p_bind, r5, p_bind, e1, p_bind]
      exact ⟨_, rfl, h1, h2, h3, hsh _ (by rw [if_neg n0]; rfl), rPb_F h5 (inK_no (by omega)), rPb_F h6 (inK_no (by omega)), e2, h8, h9⟩
theorem c_reckon94 {l : S1} {q : S0} {B : Bk} (hq : rC q B) (ok : okB B) (h : rLb l B 0) : ∃ l', lp_X1_reckon_p94 l q 0 = some l' ∧ rL l' B := by
  have w := ok.1.1
  change len B ≤ 8 at w
  unfold lp_X1_reckon_p94
  refine p_forI (body := fun (k : S1 × S0 × Int32 → Option (S1)) (z : S1 × S0 × Int32) => f_X1_reckon_p94 (fun s q x2 => k (s, q, x2)) z.1 z.2.1 z.2.2) (len B) (fun i t => ∃ l, t = (l, q, nI i) ∧ rLb l B i) (fun r => rL r B) (by omega) (fun i k t hi hI ih => ?_) (fun k t hI => ?_) 0 (l, q, 0) (Nat.zero_le _) ⟨l, rfl, h⟩
  · obtain ⟨l, rfl, hl⟩ := hI
    obtain ⟨l', e1, e2⟩ := c_reckonShare ok hi hl
    dsimp only
    unfold f_X1_reckon_p94
    rw [hl.1, if_neg (by rw [p_le (by omega) (by omega)]; omega), e1, p_bind]
    exact ih _ ⟨l', by rw [nI_1], e2⟩
  · obtain ⟨l, rfl, hl⟩ := hI
    obtain ⟨h1, h2, h3, h4, h5, h6, h7, h8, h9⟩ := hl
    obtain ⟨pA, a1, a2⟩ := c_reckonBase ok h5
    obtain ⟨pB, b1, b2⟩ := c_reckonBase ok h6
    obtain ⟨pC, c1, c2⟩ := c_reckonBase ok h7
    have s40 := aN_le ok
    have s41 := aS_le ok (len B)
    have ep : f_X1_putWhole_i13 l = some (u1_first l (lU (aS B (len B)), lU (aN B (len B)))) := by
      unfold f_X1_putWhole_i13 f_X5_put
      rw [h8, h9, lI_i (by omega), lI_i (by omega)]
      rfl
    dsimp only
    unfold f_X1_reckon_p94
    rw [h1, if_pos (by rw [p_le (by omega) (by omega)]; omega), ep, p_bind]
    simp only [gu1_first]
    rw [hq.2.2.2.2.1, a1, p_bind, b1, p_bind, c1, p_bind]
    exact ⟨_, rfl, h1, h2, h3, h4, a2, b2, c2, h8, h9⟩
theorem c_reckon51 {l : S1} {q : S0} {B : Bk} (hq : rC q B) (ok : okB B) (h : rLa l B 0) : ∃ l', lp_X1_reckon_p51 l q 0 = some l' ∧ rL l' B := by
  have w := ok.1.1
  change len B ≤ 8 at w
  unfold lp_X1_reckon_p51
  refine p_forI (body := fun (k : S1 × S0 × Int32 → Option (S1)) (z : S1 × S0 × Int32) => f_X1_reckon_p51 (fun s q x2 => k (s, q, x2)) z.1 z.2.1 z.2.2) (len B) (fun i t => ∃ l, t = (l, q, nI i) ∧ rLa l B i) (fun r => rL r B) (by omega) (fun i k t hi hI ih => ?_) (fun k t hI => ?_) 0 (l, q, 0) (Nat.zero_le _) ⟨l, rfl, h⟩
  · obtain ⟨l, rfl, hl⟩ := hI
    obtain ⟨l', e1, e2⟩ := c_reckonFleet hq ok hi hl
    dsimp only
    unfold f_X1_reckon_p51
    rw [hl.1, if_neg (by rw [p_le (by omega) (by omega)]; omega), e1, p_bind]
    exact ih _ ⟨l', by rw [nI_1], e2⟩
  · obtain ⟨l, rfl, hl⟩ := hI
    obtain ⟨h1, h2, h3, h5, h6, h7, h8, h9⟩ := hl
    obtain ⟨pA, a1, a2⟩ := c_settle ok h5
    obtain ⟨pB, b1, b2⟩ := c_settle ok h6
    obtain ⟨pC, c1, c2⟩ := c_settle ok h7
    dsimp only
    unfold f_X1_reckon_p51
    rw [h1, if_pos (by rw [p_le (by omega) (by omega)]; omega), a1, p_bind, b1, p_bind, c1, p_bind]
    exact c_reckon94 (l := u1_poolC (u1_poolB (u1_poolA l pA) pB) pC) hq ok ⟨h1, h2, h3, fun i hi => by omega, a2, b2, c2, h8, h9⟩
theorem c_reckon {q : S0} {B : Bk} (l : S1) (hq : rC q B) (ok : okB B) : ∃ l', f_X1_reckon l q = some l' ∧ rL l' B := by
  have w := ok.1.1
  unfold f_X1_reckon
  rw [hq.2.1, if_neg (by rw [show (8 : Int32) = nI 8 from rfl, p_lt (by omega) (by omega)]; omega)]
  obtain ⟨f, e1, hf⟩ := c_sumLosses (u1_fleets l (nI B.1.length)) hq
  rw [e1, p_bind]
  obtain ⟨pA, a1, a2⟩ := c_clear (g1_poolA (u1_losses (u1_fleets l (nI B.1.length)) f)) B 0
  obtain ⟨pB, b1, b2⟩ := c_clear (g1_poolB (u1_losses (u1_fleets l (nI B.1.length)) f)) B 1
  obtain ⟨pC, c1, c2⟩ := c_clear (g1_poolC (u1_losses (u1_fleets l (nI B.1.length)) f)) B 2
  rw [a1, p_bind, b1, p_bind, c1, p_bind]
  exact c_reckon51 (l := u1_allSpan (u1_allSum (u1_poolC (u1_poolB (u1_poolA (u1_losses (u1_fleets l (nI B.1.length)) f) pA) pB) pC) 0) 0) hq ok ⟨rfl, hf, fun i hi => by omega, a2, b2, c2, rfl, rfl⟩
