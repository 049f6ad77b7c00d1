/-! PURE: acts kept and taken back, in both -/
def rowB (r : Nat → Int32) (o : Nat) : S0 := (r o, r (o + 1), r (o + 2), r (o + 3), fun i => r (o + 4 + i), fun i => r (o + 12 + i), fun j => r (o + 20 + j))
theorem rC_of {b b' : S0} {B : Bk} (h : rC b B) (e0 : g0_fleets b' = g0_fleets b) (e1 : g0_claims b' = g0_claims b) (e2 : g0_cap b' = g0_cap b) (e3 : g0_steady b' = g0_steady b) (e4 : ∀ i, i < 8 → g0_classes b' i = g0_classes b i ∧ g0_years b' i = g0_years b i) (e5 : ∀ j, j < 40 → g0_slips b' j = g0_slips b j) : rC b' B := by
  obtain ⟨⟨a1, a2, a3, a4, a5⟩, h0, h1, h2, h3, h4, h5⟩ := h
  refine ⟨⟨a1, a2, a3, a4, a5⟩, e0.trans h0, e1.trans h1, e2.trans h2, e3.trans h3, fun i f hf => ?_, fun j c hc => ?_⟩
  · have hi := (List.getElem?_eq_some_iff.mp hf).1
    obtain ⟨q1, q2⟩ := e4 i (by omega)
    rw [q1, q2]
    exact h4 i f hf
  · have hj := (List.getElem?_eq_some_iff.mp hc).1
    rw [e5 j (by omega)]
    exact h5 j c hc
theorem rM_of {w w' : Nat → Int32} {B : Bk} (h : rM w B) (e : ∀ j, j < 140 → w' j = w j) : rM w' B := by
  obtain ⟨⟨a1, a2, a3, a4, a5⟩, h0, h1, h2, h3, h4, h5⟩ := h
  refine ⟨⟨a1, a2, a3, a4, a5⟩, (e _ (by omega)).trans h0, (e _ (by omega)).trans h1, (e _ (by omega)).trans h2, (e _ (by omega)).trans h3, fun i f hf => ?_, fun j c hc => ?_⟩
  · have hi := (List.getElem?_eq_some_iff.mp hf).1
    rw [e _ (by omega), e _ (by omega)]
    exact h4 i f hf
  · have hj := (List.getElem?_eq_some_iff.mp hc).1
    rw [e _ (by omega), e _ (by omega), e _ (by omega)]
    exact h5 j c hc
def rP (p : S2) (hs : List Bk) : Prop := hs.length ≤ 12 ∧ g2_kept p = nI hs.length ∧ ∃ nx : Nat, nx < 12 ∧ g2_next p = nI nx ∧ ∀ (k : Nat) (B : Bk), hs[k]? = some B → rC (rowB (g2_rows p) (60 * ((nx + 11 - k) % 12))) B
def rH (bf : Nat → Int32) (a : Int32) (hs : List Bk) : Prop := hs.length ≤ 12 ∧ a = nI hs.length ∧ ∀ (k : Nat) (B : Bk), hs[k]? = some B → rM (fun j => bf (140 * (hs.length - 1 - k) + j)) B
theorem c_saveTo {b : S0} {B : Bk} (h : rC b B) (r : Nat → Int32) {m : Nat} (hm : m < 12) : ∃ r', f_X0_saveTo b r (nI (60 * m)) = some r' ∧ rC (rowB r' (60 * m)) B ∧ ∀ j, (j < 60 * m ∨ 60 * m + 60 ≤ j) → r' j = r j := by
  unfold f_X0_saveTo
  rw [if_neg (nI_pos (by omega)), show (720 : Int32) - (60 : Int32) = nI 660 from by decide, if_pos (by rw [p_le (by omega) (by omega)]; omega)]
  rw [show (1 : Int32) = nI 1 from rfl, show (2 : Int32) = nI 2 from rfl, show (3 : Int32) = nI 3 from rfl, show (4 : Int32) = nI 4 from rfl, show (8 : Int32) = nI 8 from rfl, show (16 : Int32) = nI 16 from rfl, show (40 : Int32) = nI 40 from rfl, show (0 : Int32) = nI 0 from rfl, nI_add, nI_add, nI_add, nI_add, nI_add, nI_add]
  rw [p_wr (by omega) (by omega), p_bind, p_wr (by omega) (by omega), p_bind, p_wr (by omega) (by omega), p_bind, p_wr (by omega) (by omega), p_bind, p_cp (by omega) (by omega) (by omega) (by omega), p_bind, p_cp (by omega) (by omega) (by omega) (by omega), p_bind, p_cp (by omega) (by omega) (by omega) (by omega), p_bind]
  refine ⟨_, rfl, rC_of h ?_ ?_ ?_ ?_ (fun i hi => ⟨?_, ?_⟩) (fun j hj => ?_), fun j hj => ?_⟩
  · show va_cpy _ (va_cpy _ (va_cpy _ _ _ _ _) _ _ _) _ _ _ (60 * m) = _
    rw [pk_cpy_out (by omega), pk_cpy_out (by omega), pk_cpy_out (by omega), u_at, if_neg (by omega), u_at, if_neg (by omega), u_at, if_neg (by omega), u_at, if_pos rfl]
  · show va_cpy _ (va_cpy _ (va_cpy _ _ _ _ _) _ _ _) _ _ _ (60 * m + 1) = _
    rw [pk_cpy_out (by omega), pk_cpy_out (by omega), pk_cpy_out (by omega), u_at, if_neg (by omega), u_at, if_neg (by omega), u_at, if_pos rfl]
  · show va_cpy _ (va_cpy _ (va_cpy _ _ _ _ _) _ _ _) _ _ _ (60 * m + 2) = _
    rw [pk_cpy_out (by omega), pk_cpy_out (by omega), pk_cpy_out (by omega), u_at, if_neg (by omega), u_at, if_pos rfl]
  · show va_cpy _ (va_cpy _ (va_cpy _ _ _ _ _) _ _ _) _ _ _ (60 * m + 3) = _
    rw [pk_cpy_out (by omega), pk_cpy_out (by omega), pk_cpy_out (by omega), u_at, if_pos rfl]
  · show va_cpy _ (va_cpy _ (va_cpy _ _ _ _ _) _ _ _) _ _ _ (60 * m + 4 + i) = _
    rw [pk_cpy_out (by omega), pk_cpy_out (by omega), pk_cpy_in (by omega) (by omega)]
    congr 1
    omega
  · show va_cpy _ (va_cpy _ (va_cpy _ _ _ _ _) _ _ _) _ _ _ (60 * m + 12 + i) = _
    rw [pk_cpy_out (by omega), pk_cpy_in (by omega) (by omega)]
    congr 1
    omega
  · show va_cpy _ (va_cpy _ (va_cpy _ _ _ _ _) _ _ _) _ _ _ (60 * m + 20 + j) = _
    rw [pk_cpy_in (by omega) (by omega)]
    congr 1
    omega
  · rw [pk_cpy_out (by omega), pk_cpy_out (by omega), pk_cpy_out (by omega), u_at, if_neg (by omega), u_at, if_neg (by omega), u_at, if_neg (by omega), u_at, if_neg (by omega)]
theorem c_loadFrom {B : Bk} (b : S0) {r : Nat → Int32} {m : Nat} (hm : m < 12) (h : rC (rowB r (60 * m)) B) : ∃ b', f_X0_loadFrom b r (nI (60 * m)) = some b' ∧ rC b' B := by
  unfold f_X0_loadFrom
  rw [if_neg (nI_pos (by omega)), show (720 : Int32) - (60 : Int32) = nI 660 from by decide, if_pos (by rw [p_le (by omega) (by omega)]; omega)]
  rw [show (1 : Int32) = nI 1 from rfl, show (2 : Int32) = nI 2 from rfl, show (3 : Int32) = nI 3 from rfl, show (4 : Int32) = nI 4 from rfl, show (8 : Int32) = nI 8 from rfl, show (16 : Int32) = nI 16 from rfl, show (40 : Int32) = nI 40 from rfl, show (0 : Int32) = nI 0 from rfl, nI_add, nI_add, nI_add, nI_add, nI_add, nI_add]
  rw [p_rd (by omega) (by omega), p_bind, p_rd (by omega) (by omega), p_bind, p_rd (by omega) (by omega), p_bind, p_rd (by omega) (by omega), p_bind, p_cp (by omega) (by omega) (by omega) (by omega), p_bind, p_cp (by omega) (by omega) (by omega) (by omega), p_bind, p_cp (by omega) (by omega) (by omega) (by omega), p_bind]
  refine ⟨_, rfl, rC_of h rfl rfl rfl rfl (fun i hi => ⟨?_, ?_⟩) (fun j hj => ?_)⟩
  · show va_cpy r _ (60 * m + 4) 0 8 i = r (60 * m + 4 + i)
    rw [pk_cpy_in (by omega) (by omega)]
    congr 1
  · show va_cpy r _ (60 * m + 4 + 8) 0 8 i = r (60 * m + 12 + i)
    rw [pk_cpy_in (by omega) (by omega)]
    congr 1
  · show va_cpy r _ (60 * m + 4 + 16) 0 40 j = r (60 * m + 20 + j)
    rw [pk_cpy_in (by omega) (by omega)]
    congr 1
theorem rowB_eq {r r' : Nat → Int32} {o : Nat} {B : Bk} (h : rC (rowB r o) B) (e : ∀ j, o ≤ j → j < o + 60 → r' j = r j) : rC (rowB r' o) B := by
  refine rC_of h (e _ (by omega) (by omega)) (e _ (by omega) (by omega)) (e _ (by omega) (by omega)) (e _ (by omega) (by omega)) (fun i hi => ⟨e _ (by omega) (by omega), e _ (by omega) (by omega)⟩) (fun j hj => e _ (by omega) (by omega))
theorem c_keep {p : S2} {hs : List Bk} {b : S0} {B : Bk} (hp : rP p hs) (h : rC b B) : ∃ p', f_X2_keep p b = some p' ∧ rP p' ((B :: hs).take 12) := by
  obtain ⟨h1, h2, nx, h3, h4, h5⟩ := hp
  unfold f_X2_keep
  rw [h4, show (60 : Int32) = nI 60 from rfl, pk_mul, Nat.mul_comm]
  obtain ⟨r', e1, hr, hk⟩ := c_saveTo h (g2_rows p) h3
  rw [e1, p_bind, h2, nI_1, nI_1, show (12 : Int32) = nI 12 from rfl, pk_rem (by omega) (by omega) (by omega)]
  refine ⟨_, rfl, by simp; omega, ?_, (nx + 1) % 12, by omega, rfl, fun k B' hB => ?_⟩
  · show (if nI 12 < nI (hs.length + 1) then nI 12 else nI (hs.length + 1)) = _
    by_cases q : 12 < hs.length + 1
    · rw [if_pos (by rw [p_lt (by omega) (by omega)]; exact q)]
      congr 1
      simp
      omega
    · rw [if_neg (by rw [p_lt (by omega) (by omega)]; exact q)]
      congr 1
      simp
      omega
  · show rC (rowB r' _) B'
    rw [List.getElem?_take] at hB
    split at hB
    · rename_i hk12
      cases k with
      | zero =>
        cases hB
        rw [show 60 * (((nx + 1) % 12 + 11 - 0) % 12) = 60 * nx by omega]
        exact hr
      | succ k =>
        have hB' : hs[k]? = some B' := hB
        have e : ((nx + 1) % 12 + 11 - (k + 1)) % 12 = (nx + 11 - k) % 12 := by omega
        rw [e]
        refine rowB_eq (h5 k B' hB') (fun j q1 q2 => hk j ?_)
        have : (nx + 11 - k) % 12 ≠ nx := by omega
        omega
    · cases hB
theorem c_takeBack {p : S2} {hs : List Bk} {q : S0} {B : Bk} (hp : rP p (B :: hs)) : ∃ p' b', f_X2_takeBack p q = some (p', b') ∧ rP p' hs ∧ rC b' B := by
  obtain ⟨h1, h2, nx, h3, h4, h5⟩ := hp
  have hl : (B :: hs).length = hs.length + 1 := rfl
  rw [hl] at h1 h2
  unfold f_X2_takeBack
  rw [h2, if_neg (by rw [show (0 : Int32) = nI 0 from rfl, p_le (by omega) (by omega)]; omega), h4, show (12 : Int32) = nI 12 from rfl, nI_add, m1 (by omega), pk_rem (by omega) (by omega) (by omega), show (60 : Int32) = nI 60 from rfl, pk_mul, Nat.mul_comm]
  have h0 := h5 0 B rfl
  rw [show (nx + 11 - 0) % 12 = (nx + 12 - 1) % 12 by omega] at h0
  obtain ⟨b', e1, hb⟩ := c_loadFrom q (m := (nx + 12 - 1) % 12) (by omega) h0
  rw [e1, p_bind]
  refine ⟨_, b', rfl, ⟨by omega, by rw [m1 (by omega)]; rfl, (nx + 12 - 1) % 12, by omega, rfl, fun k B' hB => ?_⟩, hb⟩
  have hk := (List.getElem?_eq_some_iff.mp hB).1
  have := h5 (k + 1) B' hB
  rw [show (nx + 11 - (k + 1)) % 12 = ((nx + 12 - 1) % 12 + 11 - k) % 12 by omega] at this
  exact this
theorem cpy_s (f g : Nat → Int32) (sp dp i : Nat) : upd (va_cpy f g sp dp i) (dp + i) (f (sp + i)) = va_cpy f g sp dp (i + 1) := by
  funext j
  rw [u_at]
  by_cases h : j = dp + i
  · subst h
    rw [if_pos rfl, pk_cpy_in (by omega) (by omega)]
    congr 1
    omega
  · rw [if_neg h]
    by_cases h2 : dp ≤ j ∧ j < dp + i
    · rw [pk_cpy_in h2.1 h2.2, pk_cpy_in h2.1 (by omega)]
    · rw [pk_cpy_out (by omega), pk_cpy_out (by omega)]
theorem cpy_0 (f g : Nat → Int32) (sp dp : Nat) : va_cpy f g sp dp 0 = g := by funext j; rw [pk_cpy_out (by omega)]
theorem m_keepRow (s : S8) {n : Nat} (hn : n < 12) (ha : g8_acts s = nI n) : lp_X8_keeps_p54 s 0 = some (u8_acts (u8_before s (va_cpy (g8_now s) (g8_before s) 0 (140 * n) 140)) (nI (n + 1))) := by
  unfold lp_X8_keeps_p54
  have key := p_for (body := fun (k : S8 × Int32 → Option S8) (z : S8 × Int32) => f_X8_keeps_p54 (fun s x1 => k (s, x1)) z.1 z.2) 140 (fun i => (u8_before s (va_cpy (g8_now s) (g8_before s) 0 (140 * n) i), nI i)) (u8_acts (u8_before s (va_cpy (g8_now s) (g8_before s) 0 (140 * n) 140)) (nI (n + 1))) (by omega) (fun i k hi ih => ?_) (fun k => ?_) 0 (Nat.zero_le _)
  · rw [cpy_0] at key
    exact key
  · dsimp only
    unfold f_X8_keeps_p54
    rw [show (140 : Int32) = nI 140 from rfl, if_neg (by rw [p_le (by omega) (by omega)]; omega), p_rd (by omega) (by omega), p_bind]
    rw [show g8_acts (u8_before s (va_cpy (g8_now s) (g8_before s) 0 (140 * n) i)) = g8_acts s from rfl, ha, pk_mul, nI_add, p_wr (by omega) (by omega), p_bind]
    rw [show g8_before (u8_before s (va_cpy (g8_now s) (g8_before s) 0 (140 * n) i)) = va_cpy (g8_now s) (g8_before s) 0 (140 * n) i from rfl, show g8_now (u8_before s (va_cpy (g8_now s) (g8_before s) 0 (140 * n) i)) i = g8_now s (0 + i) from by rw [Nat.zero_add]; rfl, cpy_s, nI_1]
    exact ih
  · dsimp only
    unfold f_X8_keeps_p54
    rw [show (140 : Int32) = nI 140 from rfl, if_pos (by rw [p_le (by omega) (by omega)]; omega)]
    rw [show g8_acts (u8_before s (va_cpy (g8_now s) (g8_before s) 0 (140 * n) 140)) = g8_acts s from rfl, ha, nI_1]
theorem m_keeps {s : S8} {hs : List Bk} {B : Bk} (h : rM (g8_now s) B) (hh : rH (g8_before s) (g8_acts s) hs) : ∃ bf a, f_X8_keeps s = some (u8_acts (u8_before s bf) a) ∧ rH bf a ((B :: hs).take 12) := by
  obtain ⟨h1, h2, h3⟩ := hh
  unfold f_X8_keeps
  rw [h2, show (12 : Int32) = nI 12 from rfl]
  by_cases q : hs.length = 12
  · rw [if_pos (by rw [q])]
    have hsh : lp_X8_keeps_p13 s 140 = some (u8_acts (u8_before (u8_acts (u8_before s (shf 140 0 1540 (g8_before s))) (nI 11)) (va_cpy (g8_now s) (shf 140 0 1540 (g8_before s)) 0 (140 * 11) 140)) (nI 12)) := by
      unfold lp_X8_keeps_p13
      have key := p_for (body := fun (k : S8 × Int32 → Option S8) (z : S8 × Int32) => f_X8_keeps_p13 (fun s x1 => k (s, x1)) z.1 z.2) 1540 (fun i => (u8_before s (shf 140 0 i (g8_before s)), nI (140 + i))) (u8_acts (u8_before (u8_acts (u8_before s (shf 140 0 1540 (g8_before s))) (nI 11)) (va_cpy (g8_now s) (shf 140 0 1540 (g8_before s)) 0 (140 * 11) 140)) (nI 12)) (by omega) (fun i k hi ih => ?_) (fun k => ?_) 0 (Nat.zero_le _)
      · rw [shf_0] at key
        exact key
      · dsimp only
        unfold f_X8_keeps_p13
        rw [show (1680 : Int32) = nI 1680 from rfl, if_neg (by rw [p_le (by omega) (by omega)]; omega), p_rd (by omega) (by omega), p_bind, show (140 : Int32) = nI 140 from rfl, pk_sub (by omega), show 140 + i - 140 = i by omega, p_wr (by omega) (by omega), p_bind]
        rw [show g8_before (u8_before s (shf 140 0 i (g8_before s))) = shf 140 0 i (g8_before s) from rfl, show 140 + i = i + 140 by omega, shf_s _ _ _ _ (by omega) (by omega), nI_1]
        rw [show 140 + (i + 1) = i + 140 + 1 by omega] at ih
        exact ih
      · dsimp only
        unfold f_X8_keeps_p13
        rw [show (1680 : Int32) = nI 1680 from rfl, if_pos (by rw [p_le (by omega) (by omega)]; omega)]
        rw [show g8_acts (u8_before s (shf 140 0 1540 (g8_before s))) = g8_acts s from rfl, h2, q, show nI 12 - (1 : Int32) = nI 11 from by decide]
        rw [m_keepRow _ (n := 11) (by omega) rfl]
        rfl
    rw [hsh]
    refine ⟨_, _, rfl, by simp; omega, by show nI 12 = nI ((B :: hs).take 12).length; congr 1; simp; omega, fun k B' hB => ?_⟩
    have hlen : ((B :: hs).take 12).length = 12 := by simp; omega
    rw [hlen]
    rw [List.getElem?_take] at hB
    split at hB
    · cases k with
      | zero =>
        cases hB
        refine rM_of h (fun j hj => ?_)
        show va_cpy _ _ 0 (140 * 11) 140 (140 * (12 - 1 - 0) + j) = _
        rw [pk_cpy_in (by omega) (by omega), show 0 + (140 * (12 - 1 - 0) + j - 140 * 11) = j by omega]
      | succ k =>
        have hB' : hs[k]? = some B' := hB
        refine rM_of (h3 k B' hB') (fun j hj => ?_)
        show va_cpy _ _ 0 (140 * 11) 140 (140 * (12 - 1 - (k + 1)) + j) = g8_before s (140 * (hs.length - 1 - k) + j)
        rw [pk_cpy_out (by omega)]
        unfold shf
        rw [if_pos (by omega)]
        congr 1
        omega
    · cases hB
  · rw [if_neg (by rw [p_eq (by omega) (by omega)]; exact q), m_keepRow s (n := hs.length) (by omega) h2]
    refine ⟨_, _, rfl, by simp; omega, ?_, fun k B' hB => ?_⟩
    · congr 1
      simp
      omega
    · have hlen : ((B :: hs).take 12).length = hs.length + 1 := by simp; omega
      rw [hlen]
      rw [List.getElem?_take] at hB
      split at hB
      · cases k with
        | zero =>
          cases hB
          refine rM_of h (fun j hj => ?_)
          show va_cpy _ _ 0 (140 * hs.length) 140 (140 * (hs.length + 1 - 1 - 0) + j) = _
          rw [pk_cpy_in (by omega) (by omega)]
          congr 1
          omega
        | succ k =>
          have hB' : hs[k]? = some B' := hB
          have hk := (List.getElem?_eq_some_iff.mp hB').1
          refine rM_of (h3 k B' hB') (fun j hj => ?_)
          show va_cpy _ _ 0 (140 * hs.length) 140 (140 * (hs.length + 1 - 1 - (k + 1)) + j) = g8_before s (140 * (hs.length - 1 - k) + j)
          rw [pk_cpy_out (by omega)]
          congr 1
          omega
      · cases hB
