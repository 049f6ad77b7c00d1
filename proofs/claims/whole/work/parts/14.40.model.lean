/-! PURE: the reference's row -/
def rM (w : Nat → Int32) (B : Bk) : Prop := wf B ∧ w 0 = nI B.2.2.1 ∧ w 1 = nI B.2.2.2 ∧ w 2 = nI B.1.length ∧ w 3 = nI B.2.1.length ∧ (∀ (i : Nat) (f : Nat × Nat), B.1[i]? = some f → w (4 + 2 * i) = nI f.1 ∧ w (5 + 2 * i) = nI f.2) ∧ ∀ (j : Nat) (c : Cm), B.2.1[j]? = some c → w (20 + 3 * j) = nI c.1 ∧ w (21 + 3 * j) = nI c.2.1 ∧ w (22 + 3 * j) = nI c.2.2
theorem e4 (i : Nat) : (4 : Int32) + ((2 : Int32) * nI i) = nI (4 + 2 * i) := by rw [show (2 : Int32) = nI 2 from rfl, show (4 : Int32) = nI 4 from rfl, pk_mul, nI_add]
theorem e5 (i : Nat) : ((4 : Int32) + ((2 : Int32) * nI i)) + (1 : Int32) = nI (5 + 2 * i) := by rw [e4, nI_1]; congr 1; omega
theorem e20 (j : Nat) : (20 : Int32) + ((3 : Int32) * nI j) = nI (20 + 3 * j) := by rw [show (3 : Int32) = nI 3 from rfl, show (20 : Int32) = nI 20 from rfl, pk_mul, nI_add]
theorem e21 (j : Nat) : ((20 : Int32) + ((3 : Int32) * nI j)) + (1 : Int32) = nI (21 + 3 * j) := by rw [e20, nI_1]; congr 1; omega
theorem e22 (j : Nat) : ((20 : Int32) + ((3 : Int32) * nI j)) + (2 : Int32) = nI (22 + 3 * j) := by rw [e20, show (2 : Int32) = nI 2 from rfl, nI_add]; congr 1; omega
theorem p_in1 {x a c : Int32} (h1 : ¬ x < a) (h2 : ¬ c < x) : f_X8_in x a c = some 1 := by unfold f_X8_in; rw [if_neg h1, if_neg h2]
theorem p_in0 {x a c : Int32} (h : x < a ∨ c < x) : f_X8_in x a c = some 0 := by
  unfold f_X8_in
  by_cases h1 : x < a
  · rw [if_pos h1]
  · rw [if_neg h1, if_pos (h.resolve_left h1)]
theorem i_lt {a b : Int32} : a < b ↔ a.toInt < b.toInt := Int32.lt_iff_toInt_lt
theorem i_le {a b : Int32} : a ≤ b ↔ a.toInt ≤ b.toInt := Int32.le_iff_toInt_le
/-- a number below n, or not: the class's test and the reference's -/
theorem p_test {n : Nat} (hn : n < 2 ^ 31) {x : Int32} (hx : x < 0 ∨ (¬ x < 0 ∧ nI n ≤ x)) : x < 0 ∨ nI n - (1 : Int32) < x := by
  rcases hx with h | ⟨h1, h2⟩
  · exact Or.inl h
  · right
    by_cases h0 : n = 0
    · subst h0
      rw [i_lt]
      rw [i_lt] at h1
      rw [show (nI 0 - (1 : Int32)).toInt = -1 from by decide]
      rw [show (0 : Int32).toInt = 0 from rfl] at h1
      omega
    · rw [show nI n - (1 : Int32) = nI (n - 1) by rw [show n = (n - 1) + 1 by omega, nI_pred]; rfl]
      rw [i_lt]
      rw [i_le] at h2
      rw [nI_toInt (by omega)] at h2 ⊢
      omega
theorem p_test1 {n j : Nat} (hn : n < 2 ^ 31) (hj : j < n) : ¬ nI j < 0 ∧ ¬ nI n - (1 : Int32) < nI j := by
  refine ⟨nI_pos (by omega), ?_⟩
  rw [show nI n - (1 : Int32) = nI (n - 1) by rw [show n = (n - 1) + 1 by omega, nI_pred]; rfl, p_lt (by omega) (by omega)]
  omega
theorem m_isClass {j : Nat} (h : j < 3) : f_X8_isClass (nI j) = some 1 := by
  unfold f_X8_isClass
  rw [show (2 : Int32) = nI 3 - 1 from by decide]
  have := p_test1 (n := 3) (j := j) (by omega) h
  rw [p_in1 this.1 this.2]; rfl
theorem m_isClass0 {x : Int32} (hx : x < 0 ∨ (¬ x < 0 ∧ nI 3 ≤ x)) : f_X8_isClass x = some 0 := by
  unfold f_X8_isClass
  rw [show (2 : Int32) = nI 3 - 1 from by decide, p_in0 (p_test (n := 3) (by omega) hx)]; rfl
theorem m_isYear {j : Nat} (h : j < 5) : f_X8_isYear (nI j) = some 1 := by
  unfold f_X8_isYear
  rw [show (4 : Int32) = nI 5 - 1 from by decide]
  have := p_test1 (n := 5) (j := j) (by omega) h
  rw [p_in1 this.1 this.2]; rfl
theorem m_isYear0 {x : Int32} (hx : x < 0 ∨ (¬ x < 0 ∧ nI 5 ≤ x)) : f_X8_isYear x = some 0 := by
  unfold f_X8_isYear
  rw [show (4 : Int32) = nI 5 - 1 from by decide, p_in0 (p_test (n := 5) (by omega) hx)]; rfl
theorem c_isClass {j : Nat} (h : j < 3) : f_X7_isClass (nI j) = some 1 := by
  unfold f_X7_isClass
  rw [if_neg (nI_pos (by omega)), if_neg (by rw [show (3 : Int32) = nI 3 from rfl, p_le (by omega) (by omega)]; omega)]
theorem c_isClass0 {x : Int32} (hx : x < 0 ∨ (¬ x < 0 ∧ nI 3 ≤ x)) : f_X7_isClass x = some 0 := by
  unfold f_X7_isClass
  rcases hx with h | ⟨h1, h2⟩
  · rw [if_pos h]
  · rw [if_neg h1, show (3 : Int32) = nI 3 from rfl, if_pos h2]
theorem c_isYear {j : Nat} (h : j < 5) : f_X7_isYear (nI j) = some 1 := by
  unfold f_X7_isYear
  rw [if_neg (nI_pos (by omega)), if_neg (by rw [show (5 : Int32) = nI 5 from rfl, p_le (by omega) (by omega)]; omega)]
theorem c_isYear0 {x : Int32} (hx : x < 0 ∨ (¬ x < 0 ∧ nI 5 ≤ x)) : f_X7_isYear x = some 0 := by
  unfold f_X7_isYear
  rcases hx with h | ⟨h1, h2⟩
  · rw [if_pos h]
  · rw [if_neg h1, show (5 : Int32) = nI 5 from rfl, if_pos h2]
/-- an amount: 1 .. 99, or not -/
theorem p_amount (x : Int32) : (∃ j : Nat, 1 ≤ j ∧ j ≤ 99 ∧ x = nI j) ∨ (x < 1 ∨ 99 < x) := by
  by_cases h1 : x < 1
  · exact Or.inr (Or.inl h1)
  · by_cases h2 : 99 < x
    · exact Or.inr (Or.inr h2)
    · left
      rw [i_lt] at h1 h2
      rw [show (1 : Int32).toInt = 1 from rfl] at h1
      rw [show (99 : Int32).toInt = 99 from rfl] at h2
      refine ⟨x.toInt.toNat, by omega, by omega, ?_⟩
      rw [← Int32.toInt_inj, nI_toInt (by omega)]
      omega
theorem c_isAmount {j : Nat} (h1 : 1 ≤ j) (h2 : j ≤ 99) : f_X7_isAmount (nI j) = some 1 := by
  unfold f_X7_isAmount
  rw [if_neg (by rw [show (1 : Int32) = nI 1 from rfl, p_lt (by omega) (by omega)]; omega), if_neg (by rw [show (99 : Int32) = nI 99 from rfl, p_lt (by omega) (by omega)]; omega)]
theorem c_isAmount0 {x : Int32} (hx : x < 1 ∨ 99 < x) : f_X7_isAmount x = some 0 := by
  unfold f_X7_isAmount
  by_cases h1 : x < 1
  · rw [if_pos h1]
  · rw [if_neg h1, if_pos (hx.resolve_left h1)]
theorem m_isAmount {j : Nat} (h1 : 1 ≤ j) (h2 : j ≤ 99) : f_X8_isAmount (nI j) = some 1 := by
  unfold f_X8_isAmount
  rw [p_in1 (by rw [show (1 : Int32) = nI 1 from rfl, p_lt (by omega) (by omega)]; omega) (by rw [show (99 : Int32) = nI 99 from rfl, p_lt (by omega) (by omega)]; omega)]; rfl
theorem m_isAmount0 {x : Int32} (hx : x < 1 ∨ 99 < x) : f_X8_isAmount x = some 0 := by
  unfold f_X8_isAmount
  rw [p_in0 hx]; rfl
section MB
variable {s : S8} {B : Bk}
theorem m_many (h : rM (g8_now s) B) : f_X8_many s = some (nI B.1.length) := by
  unfold f_X8_many
  rw [show (2 : Int32) = nI 2 from rfl, p_rd (by omega) (by omega), p_bind, h.2.2.2.1]
theorem m_claims (h : rM (g8_now s) B) : f_X8_claims s = some (nI B.2.1.length) := by
  unfold f_X8_claims
  rw [show (3 : Int32) = nI 3 from rfl, p_rd (by omega) (by omega), p_bind, h.2.2.2.2.1]
theorem m_isFleet (h : rM (g8_now s) B) {i : Nat} (hi : i < B.1.length) : f_X8_isFleet s (nI i) = some 1 := by
  have w0 := h.1.1
  unfold f_X8_isFleet
  have := p_test1 (n := B.1.length) (j := i) (by omega) hi
  rw [m_many h, p_bind, p_in1 this.1 this.2]; rfl
theorem m_isFleet0 (h : rM (g8_now s) B) {x : Int32} (hx : x < 0 ∨ (¬ x < 0 ∧ nI B.1.length ≤ x)) : f_X8_isFleet s x = some 0 := by
  have w0 := h.1.1
  unfold f_X8_isFleet
  rw [m_many h, p_bind, p_in0 (p_test (by omega) hx)]; rfl
theorem m_isClaim (h : rM (g8_now s) B) {i : Nat} (hi : i < B.2.1.length) : f_X8_isClaim s (nI i) = some 1 := by
  have w0 := h.1.2.1
  unfold f_X8_isClaim
  have := p_test1 (n := B.2.1.length) (j := i) (by omega) hi
  rw [m_claims h, p_bind, p_in1 this.1 this.2]; rfl
theorem m_isClaim0 (h : rM (g8_now s) B) {x : Int32} (hx : x < 0 ∨ (¬ x < 0 ∧ nI B.2.1.length ≤ x)) : f_X8_isClaim s x = some 0 := by
  have w0 := h.1.2.1
  unfold f_X8_isClaim
  rw [m_claims h, p_bind, p_in0 (p_test (by omega) hx)]; rfl
theorem m_classOf (h : rM (g8_now s) B) {i : Nat} {f : Nat × Nat} (hf : B.1[i]? = some f) : f_X8_classOf s (nI i) = some (nI f.1) := by
  have hi := (List.getElem?_eq_some_iff.mp hf).1
  have w0 := h.1.1
  unfold f_X8_classOf
  rw [e4, p_rd (by omega) (by omega), p_bind, (h.2.2.2.2.2.1 i f hf).1]
theorem m_yearsOf (h : rM (g8_now s) B) {i : Nat} {f : Nat × Nat} (hf : B.1[i]? = some f) : f_X8_yearsOf s (nI i) = some (nI f.2) := by
  have hi := (List.getElem?_eq_some_iff.mp hf).1
  have w0 := h.1.1
  unfold f_X8_yearsOf
  rw [e5, p_rd (by omega) (by omega), p_bind, (h.2.2.2.2.2.1 i f hf).2]
theorem m_isInsured (h : rM (g8_now s) B) {i y : Nat} {f : Nat × Nat} (hf : B.1[i]? = some f) (hy : y < 5) : f_X8_isInsured s (nI i) (nI y) = some (if f.2 / 2 ^ y % 2 = 1 then 1 else 0) := by
  have wf := h.1.2.2.1 f (List.mem_of_getElem? hf)
  unfold f_X8_isInsured
  rw [m_yearsOf h hf, p_bind]
  have e := p_bit (s := f.2) (y := y) (by omega) (by omega)
  by_cases q : f.2 / 2 ^ y % 2 = 1
  · rw [if_pos (e.mpr q), if_pos q]
  · rw [if_neg (fun z => q (e.mp z)), if_neg q]
theorem m_fleetOf (h : rM (g8_now s) B) {j : Nat} {c : Cm} (hc : B.2.1[j]? = some c) : f_X8_fleetOf s (nI j) = some (nI c.1) := by
  have hj := (List.getElem?_eq_some_iff.mp hc).1
  have w0 := h.1.2.1
  unfold f_X8_fleetOf
  rw [e20, p_rd (by omega) (by omega), p_bind, (h.2.2.2.2.2.2 j c hc).1]
theorem m_yearOf (h : rM (g8_now s) B) {j : Nat} {c : Cm} (hc : B.2.1[j]? = some c) : f_X8_yearOf s (nI j) = some (nI c.2.1) := by
  have hj := (List.getElem?_eq_some_iff.mp hc).1
  have w0 := h.1.2.1
  unfold f_X8_yearOf
  rw [e21, p_rd (by omega) (by omega), p_bind, (h.2.2.2.2.2.2 j c hc).2.1]
theorem m_amountOf (h : rM (g8_now s) B) {j : Nat} {c : Cm} (hc : B.2.1[j]? = some c) : f_X8_amountOf s (nI j) = some (nI c.2.2) := by
  have hj := (List.getElem?_eq_some_iff.mp hc).1
  have w0 := h.1.2.1
  unfold f_X8_amountOf
  rw [e22, p_rd (by omega) (by omega), p_bind, (h.2.2.2.2.2.2 j c hc).2.2]
theorem m_counted (h : rM (g8_now s) B) {j : Nat} {c : Cm} (hc : B.2.1[j]? = some c) : f_X8_counted s (nI j) = some (nI (min c.2.2 B.2.2.1)) := by
  have w := h.1.2.2.2.1 c (List.mem_of_getElem? hc)
  have w1 := w.2.2
  have w2 := h.1.2.2.2.2.1
  unfold f_X8_counted
  rw [m_amountOf h hc, p_bind, show (0 : Int32) = nI 0 from rfl, p_rd (by omega) (by omega), p_bind, h.2.1, p_bind, p_bind]
  by_cases q : B.2.2.1 ≤ c.2.2
  · rw [if_pos (by rw [p_le (by omega) (by omega)]; exact q), Nat.min_eq_right q]
  · rw [if_neg (by rw [p_le (by omega) (by omega)]; exact q), Nat.min_eq_left (by omega)]
end MB
