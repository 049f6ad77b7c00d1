/-! PURE: the class's book, counts -/
def scl (p a : Nat) : Nat := if 1 < (if a * p / 100 < 99 then a * p / 100 else 99) then (if a * p / 100 < 99 then a * p / 100 else 99) else 1
def scaleC (f p : Nat) (c : Cm) : Cm := if c.1 = f then (c.1, c.2.1, scl p c.2.2) else c
theorem p_a0 (z : Int32) : z + 0 = z := by simp
theorem scl_lt (p a : Nat) : scl p a < 100 ∧ 1 ≤ scl p a := by unfold scl; split <;> (try split) <;> omega
theorem p_scl {p a : Nat} (hp : p ≤ 900) (ha : a < 128) : (if (1 : Int32) < (if ((nI a * nI p) / 100) < 99 then ((nI a * nI p) / 100) else 99) then (if ((nI a * nI p) / 100) < 99 then ((nI a * nI p) / 100) else 99) else 1) = nI (scl p a) := by
  have h0 : a * p ≤ 128 * 900 := Nat.mul_le_mul (by omega) hp
  have h1 : a * p / 100 < 2000 := by omega
  rw [pk_mul, show (100 : Int32) = nI 100 from rfl, pk_div (by omega) (by omega) (by omega), show (99 : Int32) = nI 99 from rfl, show (1 : Int32) = nI 1 from rfl]
  unfold scl
  generalize a * p / 100 = v at *
  by_cases q : v < 99
  · have q' : nI v < nI 99 := by rw [p_lt (by omega) (by omega)]; exact q
    rw [if_pos q', if_pos q]
    by_cases r : 1 < v
    · have r' : nI 1 < nI v := by rw [p_lt (by omega) (by omega)]; exact r
      rw [if_pos r', if_pos r]
    · have r' : ¬ nI 1 < nI v := by rw [p_lt (by omega) (by omega)]; exact r
      rw [if_neg r', if_neg r]
  · have q' : ¬ nI v < nI 99 := by rw [p_lt (by omega) (by omega)]; exact q
    rw [if_neg q', if_neg q, if_pos (by decide), if_pos (by decide)]
/-- a set of places as bits -/
def orTo {α : Type} (p : α → Bool) (l : List α) : Nat → Nat
  | 0 => 0
  | i + 1 => orTo p l i ||| (if l[i]?.any p = true then 2 ^ i else 0)
theorem orTo_lt {α : Type} (p : α → Bool) (l : List α) : ∀ i, orTo p l i < 2 ^ i
  | 0 => by simp [orTo]
  | i + 1 => by
    unfold orTo
    have h := orTo_lt p l i
    refine Nat.or_lt_two_pow (Nat.lt_of_lt_of_le h (Nat.pow_le_pow_right (by omega) (by omega))) ?_
    split
    · exact Nat.pow_lt_pow_right (by omega) (by omega)
    · exact Nat.two_pow_pos _
theorem orTo_zero {α : Type} (p : α → Bool) (l : List α) : ∀ i, i ≤ l.length → (orTo p l i = 0 ↔ cnt p (l.take i) = 0)
  | 0, _ => by simp [orTo, cnt]
  | i + 1, h => by
    have ih := orTo_zero p l i (by omega)
    obtain ⟨a, ha, -⟩ := p_at (l := l) (i := i) (by omega)
    rw [cnt_take p ha]
    unfold orTo
    rw [ha, Nat.or_eq_zero_iff, ih]
    have h2 := Nat.two_pow_pos i
    by_cases hp : p a = true
    · simp [hp]
    · simp [hp]
section PC
variable {b : S0} {B : Bk}
theorem c_scale (h : rC b B) {f p : Nat} (hf : f < 2 ^ 31) (hp : p ≤ 900) : ∃ b', f_X0_scaleAmounts b (nI f) (nI p) = some (nI (cnt (fun c => decide (c.1 = f) && !decide (scl p c.2.2 = c.2.2)) B.2.1), b') ∧ rC b' (B.1, B.2.1.map (scaleC f p), B.2.2) := by
  have w0 := h.1.2.1
  have hle := cnt_le (fun c : Cm => decide (c.1 = f) && !decide (scl p c.2.2 = c.2.2)) B.2.1
  unfold f_X0_scaleAmounts lp_X0_scaleAmounts_p5
  have key := p_forI (body := fun (k : S0 × Int32 × Int32 × Int32 × Int32 → Option (Int32 × S0)) (z : S0 × Int32 × Int32 × Int32 × Int32) => f_X0_scaleAmounts_p5 (fun s x1 x2 x3 x4 => k (s, x1, x2, x3, x4)) z.1 z.2.1 z.2.2.1 z.2.2.2.1 z.2.2.2.2) B.2.1.length
    (fun i t => ∃ b', t = (b', nI f, nI p, nI (cnt (fun c => decide (c.1 = f) && !decide (scl p c.2.2 = c.2.2)) (B.2.1.take i)), nI i) ∧ rC b' (B.1, mapTo (scaleC f p) i B.2.1, B.2.2))
    (fun r => ∃ b', r = (nI (cnt (fun c => decide (c.1 = f) && !decide (scl p c.2.2 = c.2.2)) B.2.1), b') ∧ rC b' (B.1, B.2.1.map (scaleC f p), B.2.2)) (by omega) (fun i k t hi hI ih => ?_) (fun k t hI => ?_) 0 (b, nI f, nI p, 0, 0) (Nat.zero_le _) ⟨b, by rw [cnt_0]; rfl, by rw [mapTo_0]; exact h⟩
  · obtain ⟨r, e1, b', rfl, hb⟩ := key
    exact ⟨b', e1, hb⟩
  · obtain ⟨b', rfl, hb⟩ := hI
    obtain ⟨c, hc, hcm⟩ := p_at hi
    have hc' : (mapTo (scaleC f p) i B.2.1)[i]? = some c := by rw [mapTo_get, if_neg (by omega)]; exact hc
    have wc := h.1.2.2.2.1 c hcm
    have wc1 := wc.1
    have wc2 := wc.2.2
    have hsc := scl_lt p c.2.2
    dsimp only
    unfold f_X0_scaleAmounts_p5
    rw [hb.2.2.1, if_neg (by rw [p_le (by simp [mapTo_len]; omega) (by omega)]; simp [mapTo_len]; omega), c_fleetOf hb hc', p_bind]
    by_cases hcf : c.1 = f
    · rw [if_pos (by rw [hcf]), c_amountOf hb hc', p_bind, p_scl hp wc2]
      obtain ⟨b2, e2, h2⟩ := c_putAmount (a := scl p c.2.2) hb hc' (by omega)
      rw [e2, p_bind]
      have q2 : ((mapTo (scaleC f p) i B.2.1).set i (c.1, c.2.1, scl p c.2.2))[i]? = some (c.1, c.2.1, scl p c.2.2) := by rw [List.getElem?_set, if_pos rfl, if_pos (by rw [mapTo_len]; exact hi)]
      rw [c_amountOf h2 q2, p_bind]
      dsimp only
      by_cases hsame : scl p c.2.2 = c.2.2
      · rw [if_pos (by rw [hsame])]
        refine ih _ ⟨b2, by rw [cnt_take _ hc, if_neg (by simp [hsame]), nI_1, p_a0]; rfl, ?_⟩
        rw [mapTo_step (scaleC f p) hc]
        unfold scaleC
        rw [if_pos hcf]
        exact h2
      · rw [if_neg (by rw [p_eq (by omega) (by omega)]; exact hsame)]
        refine ih _ ⟨b2, by rw [cnt_take _ hc, if_pos (by simp [hsame, hcf]), nI_1, nI_1], ?_⟩
        rw [mapTo_step (scaleC f p) hc]
        unfold scaleC
        rw [if_pos hcf]
        exact h2
    · rw [if_neg (by rw [p_eq (by omega) hf]; exact hcf)]
      refine ih _ ⟨b', by rw [cnt_take _ hc, if_neg (by simp [hcf]), nI_1]; rfl, ?_⟩
      rw [mapTo_id (scaleC f p) hc (by unfold scaleC; rw [if_neg hcf])]
      exact hb
  · obtain ⟨b', rfl, hb⟩ := hI
    dsimp only
    unfold f_X0_scaleAmounts_p5
    rw [hb.2.2.1, if_pos (by rw [p_le (by simp [mapTo_len]; omega) (by omega)]; simp [mapTo_len]), cnt_all]
    rw [mapTo_all] at hb
    exact ⟨_, rfl, b', rfl, hb⟩
theorem c_dropClaim (h : rC b B) {j : Nat} (hj : j < B.2.1.length) : ∃ b', f_X0_dropClaim b (nI j) = some b' ∧ rC b' (B.1, B.2.1.eraseIdx j, B.2.2) := by
  obtain ⟨⟨a1, a2, a3, a4, a5⟩, h1, h2, h3, h4, h5, h6⟩ := id h
  refine ⟨u0_claims (u0_slips b (va_cpy (g0_slips b) (g0_slips b) (j + 1) j (B.2.1.length - 1 - j))) (nI (B.2.1.length - 1)), ?_, ?_⟩
  · unfold f_X0_dropClaim
    rw [c_hasC h hj, p_bind, if_neg (by decide), nI_1, h2, pk_sub (by omega)]
    rw [show nI (B.2.1.length - j) - (1 : Int32) = nI (B.2.1.length - 1 - j) by rw [show B.2.1.length - j = (B.2.1.length - 1 - j) + 1 by omega, nI_pred]]
    rw [p_cp (by omega) (by omega) (by omega) (by omega), p_bind]
    rw [show nI B.2.1.length - (1 : Int32) = nI (B.2.1.length - 1) by rw [show B.2.1.length = (B.2.1.length - 1) + 1 by omega, nI_pred]; rfl]
  · have hl : (B.2.1.eraseIdx j).length = B.2.1.length - 1 := List.length_eraseIdx_of_lt hj
    refine ⟨⟨a1, by dsimp only; omega, a3, fun x hx => a4 x (List.mem_of_mem_eraseIdx hx), a5⟩, h1, by dsimp only; rw [hl]; rfl, h3, h4, h5, fun k c hk => ?_⟩
    dsimp only at hk
    have hk1 := (List.getElem?_eq_some_iff.mp hk).1
    show va_cpy (g0_slips b) (g0_slips b) (j + 1) j (B.2.1.length - 1 - j) k = enc c
    rw [List.getElem?_eraseIdx] at hk
    by_cases q : k < j
    · rw [if_pos q] at hk
      rw [pk_cpy_out (Or.inl q)]
      exact h6 k c hk
    · rw [if_neg q] at hk
      rw [pk_cpy_in (by omega) (by omega), show j + 1 + (k - j) = k + 1 by omega]
      exact h6 (k + 1) c hk
theorem c_copyFrom (h : rC b B) (t : S0) : ∃ b', f_X0_copyFrom t b = some b' ∧ rC b' B := by
  obtain ⟨⟨a1, a2, a3, a4, a5⟩, h1, h2, h3, h4, h5, h6⟩ := id h
  unfold f_X0_copyFrom
  rw [show (0 : Int32) = nI 0 from rfl, show (8 : Int32) = nI 8 from rfl, show (40 : Int32) = nI 40 from rfl, p_cp (by omega) (by omega) (by omega) (by omega), p_bind, p_cp (by omega) (by omega) (by omega) (by omega), p_bind, p_cp (by omega) (by omega) (by omega) (by omega), p_bind]
  refine ⟨_, rfl, ⟨a1, a2, a3, a4, a5⟩, h1, h2, h3, h4, fun i f hf => ?_, fun j c hc => ?_⟩
  · have := (List.getElem?_eq_some_iff.mp hf).1
    show va_cpy (g0_classes b) _ 0 0 8 i = _ ∧ va_cpy (g0_years b) _ 0 0 8 i = _
    rw [pk_cpy_in (by omega) (by omega), pk_cpy_in (by omega) (by omega), show 0 + (i - 0) = i by omega]
    exact h5 i f hf
  · have := (List.getElem?_eq_some_iff.mp hc).1
    show va_cpy (g0_slips b) _ 0 0 40 j = _
    rw [pk_cpy_in (by omega) (by omega), show 0 + (j - 0) = j by omega]
    exact h6 j c hc
/-- a count over the claims -/
theorem c_claimsWith (h : rC b B) (x : Int32) : f_X0_claimsWith b x = some (nI (cnt (fun c => decide (nI c.1 = x)) B.2.1)) := by
  have w0 := h.1.2.1
  unfold f_X0_claimsWith lp_X0_claimsWith_p4
  refine p_for B.2.1.length (fun i => (b, x, nI (cnt (fun c => decide (nI c.1 = x)) (B.2.1.take i)), nI i)) _ (by omega) (fun i k hi ih => ?_) (fun k => ?_) 0 (Nat.zero_le _)
  · obtain ⟨c, hc, hcm⟩ := p_at hi
    rw [cnt_take _ hc, ← nI_1] at ih
    dsimp only
    unfold f_X0_claimsWith_p4
    rw [h.2.2.1, if_neg (by rw [p_le (by omega) (by omega)]; omega), c_fleetOf h hc, p_bind]
    by_cases q : nI c.1 = x
    · rw [if_pos q]
      rw [if_pos (by simp [q]), ← nI_1] at ih
      exact ih
    · rw [if_neg q]
      rw [if_neg (by simp [q])] at ih
      rw [show ∀ z : Int32, z + 0 = z from fun z => by simp]
      exact ih
  · dsimp only
    unfold f_X0_claimsWith_p4
    rw [h.2.2.1, if_pos (by rw [p_le (by omega) (by omega)]; omega), cnt_all]
theorem c_claimsOfYear (h : rC b B) (x : Int32) : f_X0_claimsOfYear b x = some (nI (cnt (fun c => decide (nI c.2.1 = x)) B.2.1)) := by
  have w0 := h.1.2.1
  unfold f_X0_claimsOfYear lp_X0_claimsOfYear_p4
  refine p_for B.2.1.length (fun i => (b, x, nI (cnt (fun c => decide (nI c.2.1 = x)) (B.2.1.take i)), nI i)) _ (by omega) (fun i k hi ih => ?_) (fun k => ?_) 0 (Nat.zero_le _)
  · obtain ⟨c, hc, hcm⟩ := p_at hi
    rw [cnt_take _ hc, ← nI_1] at ih
    dsimp only
    unfold f_X0_claimsOfYear_p4
    rw [h.2.2.1, if_neg (by rw [p_le (by omega) (by omega)]; omega), c_yearOf h hc, p_bind]
    by_cases q : nI c.2.1 = x
    · rw [if_pos q]
      rw [if_pos (by simp [q]), ← nI_1] at ih
      exact ih
    · rw [if_neg q]
      rw [if_neg (by simp [q])] at ih
      rw [show ∀ z : Int32, z + 0 = z from fun z => by simp]
      exact ih
  · dsimp only
    unfold f_X0_claimsOfYear_p4
    rw [h.2.2.1, if_pos (by rw [p_le (by omega) (by omega)]; omega), cnt_all]
end PC
