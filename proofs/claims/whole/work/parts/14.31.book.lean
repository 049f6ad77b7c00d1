/-! PURE: what a book is: fleets (class, years), claims (fleet, year, amount), cap, steady -/
abbrev Cm : Type := Nat × Nat × Nat
abbrev Bk : Type := List (Nat × Nat) × List Cm × Nat × Nat
def enc (c : Cm) : Int32 := nI (c.1 * 1024 + c.2.1 * 128 + c.2.2)
def wfc (c : Cm) : Prop := c.1 < 8 ∧ c.2.1 < 5 ∧ c.2.2 < 128
/-- bounds that hold at every moment -/
def wf (B : Bk) : Prop := B.1.length ≤ 8 ∧ B.2.1.length ≤ 40 ∧ (∀ f ∈ B.1, f.1 < 3 ∧ f.2 < 32) ∧ (∀ c ∈ B.2.1, wfc c) ∧ B.2.2.1 < 100 ∧ B.2.2.2 ≤ 50
def rC (b : S0) (B : Bk) : Prop := wf B ∧ g0_fleets b = nI B.1.length ∧ g0_claims b = nI B.2.1.length ∧ g0_cap b = nI B.2.2.1 ∧ g0_steady b = nI B.2.2.2 ∧ (∀ (i : Nat) (f : Nat × Nat), B.1[i]? = some f → g0_classes b i = nI f.1 ∧ g0_years b i = nI f.2) ∧ ∀ (j : Nat) (c : Cm), B.2.1[j]? = some c → g0_slips b j = enc c
theorem p_at {α : Type} {l : List α} {i : Nat} (h : i < l.length) : ∃ a, l[i]? = some a ∧ a ∈ l := ⟨l[i], List.getElem?_eq_getElem h, List.getElem_mem h⟩
theorem p_enc1 {c : Cm} (h : wfc c) : enc c >>> ((10 : Int32) &&& 31) = nI c.1 := by
  obtain ⟨h1, h2, h3⟩ := h
  have := p_shr (n := c.1 * 1024 + c.2.1 * 128 + c.2.2) (k := 10) (by omega) (by omega)
  rw [show (10 : Int32) = nI 10 from rfl]
  unfold enc
  rw [this]
  congr 1
  omega
theorem p_enc2 {c : Cm} (h : wfc c) : (enc c >>> ((7 : Int32) &&& 31)) &&& (7 : Int32) = nI c.2.1 := by
  obtain ⟨h1, h2, h3⟩ := h
  have := p_shr (n := c.1 * 1024 + c.2.1 * 128 + c.2.2) (k := 7) (by omega) (by omega)
  rw [show ((7 : Int32) &&& 31) = nI 7 &&& 31 from rfl]
  unfold enc
  rw [this, pk_andN (by omega) 3 (by decide)]
  congr 1
  omega
theorem p_enc3 {c : Cm} (h : wfc c) : enc c &&& (127 : Int32) = nI c.2.2 := by
  obtain ⟨h1, h2, h3⟩ := h
  unfold enc
  rw [pk_andN (by omega) 7 (by decide)]
  congr 1
  omega
theorem p_encm {f y a : Nat} (h : wfc (f, y, a)) : ((nI f <<< ((10 : Int32) &&& 31)) ||| (nI y <<< ((7 : Int32) &&& 31))) ||| nI a = enc (f, y, a) := by
  obtain ⟨h1, h2, h3⟩ := h
  dsimp only at h1 h2 h3
  rw [show ((10 : Int32) &&& 31) = nI 10 &&& 31 from rfl, show ((7 : Int32) &&& 31) = nI 7 &&& 31 from rfl, p_shl (by omega) (by omega), p_shl (by omega) (by omega), p_or (by omega) (by omega)]
  have e1 : f * 2 ^ 10 ||| y * 2 ^ 7 = f * 1024 + y * 128 := by
    have := Nat.two_pow_add_eq_or_of_lt (i := 10) (b := y * 2 ^ 7) (by omega) f
    rw [show f * 2 ^ 10 = 2 ^ 10 * f by omega, ← this]
  rw [e1, p_or (by omega) (by omega)]
  have e2 : f * 1024 + y * 128 ||| a = f * 1024 + y * 128 + a := by
    have := Nat.two_pow_add_eq_or_of_lt (i := 7) (b := a) (by omega) (f * 8 + y)
    rw [show f * 1024 + y * 128 = 2 ^ 7 * (f * 8 + y) by omega, ← this]
  rw [e2]
  rfl
section PB
variable {b : S0} {B : Bk}
theorem c_hasF (h : rC b B) {i : Nat} (hi : i < B.1.length) : f_X0_hasFleet b (nI i) = some 1 := by
  obtain ⟨⟨w1, -⟩, h1, -⟩ := h
  unfold f_X0_hasFleet
  rw [if_neg (nI_pos (by omega)), h1, if_neg (by rw [p_le (by omega) (by omega)]; omega), if_neg (by rw [show (8 : Int32) = nI 8 from rfl, p_le (by omega) (by omega)]; omega)]
theorem c_hasF0 (h : rC b B) {x : Int32} (hx : x < 0 ∨ (¬ x < 0 ∧ nI B.1.length ≤ x)) : f_X0_hasFleet b x = some 0 := by
  obtain ⟨⟨w1, -⟩, h1, -⟩ := h
  unfold f_X0_hasFleet
  rcases hx with hx | ⟨hx, hy⟩
  · rw [if_pos hx]
  · rw [if_neg hx, h1, if_pos hy]
theorem c_hasC (h : rC b B) {i : Nat} (hi : i < B.2.1.length) : f_X0_hasClaim b (nI i) = some 1 := by
  obtain ⟨⟨-, w1, -⟩, -, h1, -⟩ := h
  unfold f_X0_hasClaim
  rw [if_neg (nI_pos (by omega)), h1, if_neg (by rw [p_le (by omega) (by omega)]; omega), if_neg (by rw [show (40 : Int32) = nI 40 from rfl, p_le (by omega) (by omega)]; omega)]
theorem c_hasC0 (h : rC b B) {x : Int32} (hx : x < 0 ∨ (¬ x < 0 ∧ nI B.2.1.length ≤ x)) : f_X0_hasClaim b x = some 0 := by
  obtain ⟨⟨-, w1, -⟩, -, h1, -⟩ := h
  unfold f_X0_hasClaim
  rcases hx with hx | ⟨hx, hy⟩
  · rw [if_pos hx]
  · rw [if_neg hx, h1, if_pos hy]
theorem c_classOf (h : rC b B) {i : Nat} {f : Nat × Nat} (hf : B.1[i]? = some f) : f_X0_classOf b (nI i) = some (nI f.1) := by
  have hi := (List.getElem?_eq_some_iff.mp hf).1
  unfold f_X0_classOf
  have w1 := h.1.1
  rw [c_hasF h hi, p_bind, if_neg (by decide), p_rd (by omega) (by omega), p_bind, (h.2.2.2.2.2.1 i f hf).1]
theorem c_yearsOf (h : rC b B) {i : Nat} {f : Nat × Nat} (hf : B.1[i]? = some f) : f_X0_yearsOf b (nI i) = some (nI f.2) := by
  have hi := (List.getElem?_eq_some_iff.mp hf).1
  unfold f_X0_yearsOf
  have w1 := h.1.1
  rw [c_hasF h hi, p_bind, if_neg (by decide), p_rd (by omega) (by omega), p_bind, (h.2.2.2.2.2.1 i f hf).2]
theorem c_fleetOf (h : rC b B) {j : Nat} {c : Cm} (hc : B.2.1[j]? = some c) : f_X0_fleetOf b (nI j) = some (nI c.1) := by
  have hj := (List.getElem?_eq_some_iff.mp hc).1
  unfold f_X0_fleetOf
  have w1 := h.1.2.1
  rw [c_hasC h hj, p_bind, if_neg (by decide), p_rd (by omega) (by omega), p_bind, h.2.2.2.2.2.2 j c hc, p_enc1 (h.1.2.2.2.1 c (List.mem_of_getElem? hc))]
theorem c_yearOf (h : rC b B) {j : Nat} {c : Cm} (hc : B.2.1[j]? = some c) : f_X0_yearOf b (nI j) = some (nI c.2.1) := by
  have hj := (List.getElem?_eq_some_iff.mp hc).1
  unfold f_X0_yearOf
  have w1 := h.1.2.1
  rw [c_hasC h hj, p_bind, if_neg (by decide), p_rd (by omega) (by omega), p_bind, h.2.2.2.2.2.2 j c hc, p_enc2 (h.1.2.2.2.1 c (List.mem_of_getElem? hc))]
theorem c_amountOf (h : rC b B) {j : Nat} {c : Cm} (hc : B.2.1[j]? = some c) : f_X0_amountOf b (nI j) = some (nI c.2.2) := by
  have hj := (List.getElem?_eq_some_iff.mp hc).1
  unfold f_X0_amountOf
  have w1 := h.1.2.1
  rw [c_hasC h hj, p_bind, if_neg (by decide), p_rd (by omega) (by omega), p_bind, h.2.2.2.2.2.2 j c hc, p_enc3 (h.1.2.2.2.1 c (List.mem_of_getElem? hc))]
theorem c_countedOf (h : rC b B) {j : Nat} {c : Cm} (hc : B.2.1[j]? = some c) : f_X0_countedOf b (nI j) = some (nI (min c.2.2 B.2.2.1)) := by
  have hj := (List.getElem?_eq_some_iff.mp hc).1
  unfold f_X0_countedOf
  have w1 := h.1.2.1
  have w2 := h.1.2.2.2.2.1
  have w3 := h.1.2.2.2.1 c (List.mem_of_getElem? hc)
  have w4 := w3.2.2
  rw [c_hasC h hj, p_bind, if_neg (by decide), p_rd (by omega) (by omega), p_bind, h.2.2.2.2.2.2 j c hc, p_enc3 w3, h.2.2.2.1]
  congr 1
  split
  · rename_i q
    rw [p_lt (by omega) (by omega)] at q
    rw [Nat.min_eq_right (by omega)]
  · rename_i q
    rw [p_lt (by omega) (by omega)] at q
    rw [Nat.min_eq_left (by omega)]
end PB
