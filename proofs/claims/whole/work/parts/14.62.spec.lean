/-! PURE: what a book's fleets and classes come to -/
def sumL {α : Type} (g : α → Nat) (l : List α) : Nat := (l.map g).sum
theorem sumL_take {α : Type} (g : α → Nat) {l : List α} {i : Nat} {a : α} (h : l[i]? = some a) : sumL g (l.take (i + 1)) = sumL g (l.take i) + g a := by
  unfold sumL
  rw [List.take_succ, h, List.map_append, List.sum_append]
  simp
theorem sumL_0 {α : Type} (g : α → Nat) (l : List α) : sumL g (l.take 0) = 0 := by simp [sumL]
theorem sumL_all {α : Type} (g : α → Nat) (l : List α) : sumL g (l.take l.length) = sumL g l := by rw [List.take_length]
theorem sumL_cons {α : Type} (g : α → Nat) (a : α) (l : List α) : sumL g (a :: l) = g a + sumL g l := by simp [sumL]
theorem sumL_le {α : Type} {g : α → Nat} {p : α → Bool} {k : Nat} {l : List α} (h : ∀ a ∈ l, g a ≤ if p a = true then k else 0) : sumL g l ≤ k * cnt p l := by
  induction l with
  | nil => simp [sumL]
  | cons a l ih =>
    have h1 := ih (fun b hb => h b (List.mem_cons_of_mem _ hb))
    have h2 := h a List.mem_cons_self
    rw [sumL_cons]
    unfold cnt at h1 ⊢
    rw [List.filter_cons]
    by_cases q : p a = true
    · rw [if_pos q] at h2 ⊢
      rw [List.length_cons, Nat.mul_add]
      omega
    · rw [if_neg q] at h2 ⊢
      omega
theorem sumL_take_le {α : Type} (g : α → Nat) (l : List α) (i : Nat) : sumL g (l.take i) ≤ sumL g l := by
  have e : sumL g l = sumL g (l.take i) + sumL g (l.drop i) := by
    unfold sumL
    rw [← List.sum_append, ← List.map_append, List.take_append_drop]
  omega
theorem sumL_zero {α : Type} {g : α → Nat} {l : List α} (h : ∀ a ∈ l, g a = 0) : sumL g l = 0 := by
  induction l with
  | nil => rfl
  | cons a l ih => rw [sumL_cons, h a List.mem_cons_self, ih (fun b hb => h b (List.mem_cons_of_mem _ hb))]
def sumI (g : Nat → Nat) : Nat → Nat
  | 0 => 0
  | i + 1 => sumI g i + g i
theorem sumI_s (g : Nat → Nat) (i : Nat) : sumI g (i + 1) = sumI g i + g i := rfl
theorem sumI_le {f g : Nat → Nat} (k : Nat) {n : Nat} (h : ∀ i, i < n → f i ≤ k * g i) : sumI f n ≤ k * sumI g n := by
  induction n with
  | zero => exact Nat.zero_le _
  | succ n ih =>
    have h1 := ih (fun i hi => h i (by omega))
    have h2 := h n (by omega)
    rw [sumI_s, sumI_s, Nat.mul_add]
    omega
theorem sumI_mono (g : Nat → Nat) {i n : Nat} (h : i ≤ n) : sumI g i ≤ sumI g n := by
  induction n with
  | zero => rw [show i = 0 by omega]; exact Nat.le_refl _
  | succ n ih =>
    by_cases q : i = n + 1
    · rw [q]; exact Nat.le_refl _
    · have := ih (by omega)
      rw [sumI_s]
      omega
theorem sumI_len (g : Nat → Nat) {n : Nat} (h : ∀ i, i < n → g i ≤ 1) : sumI g n ≤ n := by
  induction n with
  | zero => exact Nat.le_refl _
  | succ n ih =>
    have h1 := ih (fun i hi => h i (by omega))
    have h2 := h n (by omega)
    rw [sumI_s]
    omega
/-- of a fleet -/
def nf (B : Bk) (i : Nat) : Nat := match B.1[i]? with | some f => bits f.2 | none => 0
def cf (B : Bk) (i : Nat) : Nat := match B.1[i]? with | some f => f.1 | none => 3
theorem nf_at {B : Bk} {i : Nat} {f : Nat × Nat} (h : B.1[i]? = some f) : nf B i = bits f.2 := by unfold nf; rw [h]
theorem cf_at {B : Bk} {i : Nat} {f : Nat × Nat} (h : B.1[i]? = some f) : cf B i = f.1 := by unfold cf; rw [h]
def lossV (B : Bk) (i y : Nat) (c : Cm) : Nat := if ofFY i y c = true then min c.2.2 B.2.2.1 else 0
def lossN (B : Bk) (i y : Nat) : Nat := sumL (lossV B i y) B.2.1
def sS (B : Bk) (i : Nat) : Nat := sumI (fun y => lossN B i y) 5
def sQ (B : Bk) (i : Nat) : Nat := sumI (fun y => lossN B i y * lossN B i y) 5
/-- of a class -/
def inK (B : Bk) (c i : Nat) : Bool := decide (cf B i = c) && decide (0 < nf B i)
def kS (B : Bk) (c : Nat) (g : Nat → Nat) (j : Nat) : Nat := sumI (fun i => if inK B c i = true then g i else 0) j
theorem kS_T {B : Bk} {c : Nat} {g : Nat → Nat} {j : Nat} (h : inK B c j = true) : kS B c g (j + 1) = kS B c g j + g j := by
  unfold kS; rw [sumI_s, if_pos h]
theorem kS_F {B : Bk} {c : Nat} {g : Nat → Nat} {j : Nat} (h : ¬ inK B c j = true) : kS B c g (j + 1) = kS B c g j := by
  unfold kS; rw [sumI_s, if_neg h]; rfl
theorem kS_0 (B : Bk) (c : Nat) (g : Nat → Nat) : kS B c g 0 = 0 := rfl
abbrev len (B : Bk) : Nat := B.1.length
def qK (B : Bk) (c : Nat) : Nat := kS B c (fun _ => 1) (len B)
def qN (B : Bk) (c : Nat) : Nat := kS B c (nf B) (len B)
def qT (B : Bk) (c : Nat) : Nat := kS B c (sS B) (len B)
def qSP (B : Bk) (c : Nat) : Nat := kS B c (fun i => nf B i * nf B i) (len B)
def qLQ (B : Bk) (c : Nat) : Nat := kS B c (sQ B) (len B)
def msI (B : Bk) (i : Nat) : Nat := sS B i * sS B i * (60 / nf B i)
def qMS (B : Bk) (c : Nat) : Nat := kS B c (msI B) (len B)
def fr (B : Bk) (c : Nat) : Nat := qN B c - qK B c
def un (B : Bk) (c : Nat) : Nat := qN B c * qN B c - qSP B c
def wi (B : Bk) (c : Nat) : Nat := 60 * qLQ B c - qMS B c
def bt (B : Bk) (c : Nat) : Nat := if 2 ≤ qK B c ∧ 0 < fr B c then qMS B c * qN B c * fr B c - (60 * qT B c * qT B c * fr B c + (qK B c - 1) * wi B c * qN B c) else 0
def shr (B : Bk) (c n : Nat) : Nat := 1000 * (n * bt B c) / (n * bt B c + wi B c * un B c)
def sh (B : Bk) (i : Nat) : Nat := shr B (cf B i) (nf B i)
def qSH (B : Bk) (c : Nat) : Nat := kS B c (sh B) (len B)
def qWM (B : Bk) (c : Nat) : Nat := kS B c (fun i => sS B i * sh B i * (60 / nf B i)) (len B)
def qOL (B : Bk) (c : Nat) : Nat := kS B c (fun i => sS B i * sh B i) (len B)
def qRS (B : Bk) (c : Nat) : Nat := kS B c (fun i => nf B i * (1000 - sh B i)) (len B)
def aS (B : Bk) (j : Nat) : Nat := sumI (fun i => if 0 < nf B i then sS B i else 0) j
def aN (B : Bk) (j : Nat) : Nat := sumI (nf B) j
def cu (B : Bk) (c : Nat) : Nat := if qSH B c = 0 then qT B c else qWM B c
def cl (B : Bk) (c : Nat) : Nat := if qSH B c = 0 then qN B c else 60 * qSH B c
def yy (B : Bk) (c : Nat) : Nat := 1000 * qN B c / (qN B c + B.2.2.2)
def bu (B : Bk) (c : Nat) : Nat := yy B c * cu B c * aN B (len B) + (1000 - yy B c) * aS B (len B) * cl B c
def bl (B : Bk) (c : Nat) : Nat := 1000 * cl B c * aN B (len B)
def ru (B : Bk) (i : Nat) : Nat := sh B i * sS B i * bl B (cf B i) + (1000 - sh B i) * bu B (cf B i) * nf B i
def rl (B : Bk) (i : Nat) : Nat := 1000 * nf B i * bl B (cf B i)
/-! bounds -/
theorem bits5 : ∀ n, n < 32 → bits n ≤ 5 ∧ (bits n = 0 ↔ n = 0) ∧ bits n = n % 2 + n / 2 % 2 + n / 4 % 2 + n / 8 % 2 + n / 16 % 2 := by decide
theorem div60 : ∀ n, n < 6 → 0 < n → 60 / n * n = 60 ∧ 60 / n ≤ 60 := by decide
theorem nf_le {B : Bk} (h : okB B) (i : Nat) : nf B i ≤ 5 := by
  unfold nf
  cases e : B.1[i]? with
  | none => exact Nat.zero_le _
  | some f => exact (bits5 f.2 (h.1.2.2.1 f (List.mem_of_getElem? e)).2).1
theorem nf_ge {B : Bk} {i : Nat} (h : len B ≤ i) : nf B i = 0 := by
  unfold nf
  rw [List.getElem?_eq_none h]
def byr (B : Bk) (i y : Nat) : Nat := match B.1[i]? with | some f => f.2 / 2 ^ y % 2 | none => 0
theorem nf_byr (B : Bk) (i : Nat) : nf B i = sumI (fun y => byr B i y) 5 := by
  unfold nf byr
  cases B.1[i]? with
  | none => rfl
  | some f =>
    show bits f.2 = 0 + f.2 / 2 ^ 0 % 2 + f.2 / 2 ^ 1 % 2 + f.2 / 2 ^ 2 % 2 + f.2 / 2 ^ 3 % 2 + f.2 / 2 ^ 4 % 2
    simp only [Nat.reducePow, Nat.div_one]
    unfold bits
    omega
theorem loss_le {B : Bk} (h : okB B) (i y : Nat) : lossN B i y ≤ 396 * byr B i y ∧ (byr B i y = 0 ∨ byr B i y = 1) := by
  have hb : byr B i y = 0 ∨ byr B i y = 1 := by
    unfold byr
    cases B.1[i]? with
    | none => exact Or.inl rfl
    | some f => show f.2 / 2 ^ y % 2 = 0 ∨ f.2 / 2 ^ y % 2 = 1; omega
  refine ⟨?_, hb⟩
  rcases hb with hb | hb
  · rw [hb, Nat.mul_zero]
    refine Nat.le_of_eq (sumL_zero (fun c hc => ?_))
    unfold lossV
    split
    · rename_i q
      exfalso
      obtain ⟨f, e1, e2⟩ := (h.2.2.1 c hc).2
      simp at q
      rw [q.1] at e1
      rw [q.2] at e2
      unfold byr at hb
      rw [e1] at hb
      have hb' : f.2 / 2 ^ y % 2 = 0 := hb
      omega
    · rfl
  · rw [hb, Nat.mul_one]
    have h1 : lossN B i y ≤ 99 * cnt (ofFY i y) B.2.1 := by
      refine sumL_le (fun c hc => ?_)
      unfold lossV
      have := (h.2.2.1 c hc).1
      split
      · have := Nat.min_le_left c.2.2 B.2.2.1
        omega
      · exact Nat.zero_le _
    have h2 : cnt (ofFY i y) B.2.1 ≤ 4 := h.2.2.2 i y
    have h3 : 99 * cnt (ofFY i y) B.2.1 ≤ 99 * 4 := Nat.mul_le_mul_left _ h2
    omega
theorem loss_396 {B : Bk} (h : okB B) (i y : Nat) : lossN B i y ≤ 396 := by
  obtain ⟨h1, h2 | h2⟩ := loss_le h i y
  · rw [h2] at h1; omega
  · rw [h2] at h1; omega
theorem sS_le {B : Bk} (h : okB B) (i : Nat) : sS B i ≤ 396 * nf B i := by
  rw [nf_byr]
  exact sumI_le 396 (fun y _ => (loss_le h i y).1)
theorem sQ_le {B : Bk} (h : okB B) (i : Nat) : sQ B i ≤ 156816 * nf B i := by
  rw [nf_byr]
  refine sumI_le 156816 (fun y _ => ?_)
  obtain ⟨h1, h2⟩ := loss_le h i y
  have h3 : lossN B i y * lossN B i y ≤ (396 * byr B i y) * (396 * byr B i y) := Nat.mul_le_mul h1 h1
  rcases h2 with h2 | h2
  · rw [h2] at h3 ⊢; omega
  · rw [h2] at h3 ⊢; omega
/-- squares: by years, then for the fleet -/
theorem cs_year {B : Bk} (h : okB B) (i y s t : Nat) : 2 * (s * t * lossN B i y) ≤ s * s * (lossN B i y * lossN B i y) + t * t * byr B i y := by
  obtain ⟨h1, h2 | h2⟩ := loss_le h i y
  · rw [h2] at h1
    rw [show lossN B i y = 0 by omega]
    simp
  · rw [h2, Nat.mul_one]
    generalize lossN B i y = l
    have key : ∀ p q : Nat, 2 * (p * q) ≤ p * p + q * q := by
      intro p q
      rcases Nat.le_total p q with hpq | hpq
      · obtain ⟨d, rfl⟩ := Nat.le.dest hpq
        rw [Nat.mul_add, Nat.add_mul, Nat.mul_add, Nat.mul_add]
        have := Nat.mul_comm p d
        have := Nat.mul_add d p d
        have := Nat.zero_le (d * d)
        omega
      · obtain ⟨d, rfl⟩ := Nat.le.dest hpq
        rw [Nat.add_mul, Nat.add_mul, Nat.mul_add, Nat.mul_add]
        have := Nat.mul_comm q d
        have := Nat.mul_add d q d
        have := Nat.zero_le (d * d)
        omega
    have := key (s * l) t
    rw [show s * l * t = s * t * l by ac_rfl, show s * l * (s * l) = s * s * (l * l) by ac_rfl] at this
    exact this
theorem sumI_add (f g : Nat → Nat) (n : Nat) : sumI (fun i => f i + g i) n = sumI f n + sumI g n := by
  induction n with
  | zero => rfl
  | succ n ih => rw [sumI_s, sumI_s, sumI_s, ih]; omega
theorem sumI_mul (k : Nat) (f : Nat → Nat) (n : Nat) : sumI (fun i => k * f i) n = k * sumI f n := by
  induction n with
  | zero => rfl
  | succ n ih => rw [sumI_s, sumI_s, ih, Nat.mul_add]
theorem cs_fleet {B : Bk} (h : okB B) (i : Nat) : sS B i * sS B i ≤ nf B i * sQ B i := by
  have hl : ∀ s t : Nat, 2 * (s * t * sS B i) ≤ s * s * sQ B i + t * t * nf B i := by
    intro s t
    have h1 := sumI_le (f := fun y => 2 * (s * t * lossN B i y)) (g := fun y => s * s * (lossN B i y * lossN B i y) + t * t * byr B i y) 1 (n := 5) (fun y _ => by have := cs_year h i y s t; omega)
    rw [Nat.one_mul, sumI_add, sumI_mul, sumI_mul, sumI_mul, sumI_mul, ← nf_byr] at h1
    exact h1
  rcases Nat.eq_zero_or_pos (nf B i) with q | q
  · have := sS_le h i
    rw [q] at this ⊢
    rw [show sS B i = 0 by omega]
    omega
  · have h1 := hl (nf B i) (sS B i)
    generalize sS B i = S at *
    generalize nf B i = n at *
    generalize sQ B i = Q at *
    have e1 : n * S * S = n * (S * S) := by ac_rfl
    have e2 : n * n * Q = n * (n * Q) := by ac_rfl
    have e3 : S * S * n = n * (S * S) := by ac_rfl
    rw [e1, e2, e3] at h1
    have h2 : n * (S * S) ≤ n * (n * Q) := by omega
    exact Nat.le_of_mul_le_mul_left h2 q
theorem ms_le {B : Bk} (h : okB B) {i : Nat} (q : 0 < nf B i) : msI B i ≤ 60 * sQ B i := by
  obtain ⟨h1, h2⟩ := div60 (nf B i) (by have := nf_le h i; omega) q
  have h3 := Nat.mul_le_mul_right (60 / nf B i) (cs_fleet h i)
  unfold msI
  refine Nat.le_trans h3 (Nat.le_of_eq ?_)
  rw [show nf B i * sQ B i * (60 / nf B i) = (60 / nf B i * nf B i) * sQ B i by ac_rfl, h1]
theorem kS_le {B : Bk} {c : Nat} {f g : Nat → Nat} (k : Nat) {j : Nat} (h : ∀ i, i < j → inK B c i = true → f i ≤ k * g i) : kS B c f j ≤ k * kS B c g j := by
  unfold kS
  refine sumI_le k (fun i hi => ?_)
  by_cases q : inK B c i = true
  · rw [if_pos q, if_pos q]; exact h i hi q
  · rw [if_neg q, if_neg q]; exact Nat.zero_le _
theorem inK_n {B : Bk} {c i : Nat} (h : inK B c i = true) : 0 < nf B i ∧ cf B i = c := by
  unfold inK at h
  simp at h
  exact ⟨h.2, h.1⟩
theorem kS_mono {B : Bk} {c : Nat} {g : Nat → Nat} {i j : Nat} (h : i ≤ j) : kS B c g i ≤ kS B c g j := sumI_mono _ h
theorem qK_le {B : Bk} (h : okB B) (c : Nat) : qK B c ≤ 8 := by
  have h1 : qK B c ≤ len B := sumI_len _ (fun i _ => by dsimp only; split <;> omega)
  have h2 := h.1.1
  exact Nat.le_trans h1 h2
theorem qKN {B : Bk} (c j : Nat) : kS B c (fun _ => 1) j ≤ kS B c (nf B) j := by
  have := kS_le (B := B) (c := c) (f := fun _ => 1) (g := nf B) 1 (j := j) (fun i _ hi => by have := (inK_n hi).1; omega)
  omega
theorem kN_5 {B : Bk} (h : okB B) (c j : Nat) : kS B c (nf B) j ≤ 5 * kS B c (fun _ => 1) j := kS_le 5 (fun i _ _ => by have := nf_le h i; omega)
theorem qN_le {B : Bk} (h : okB B) (c : Nat) : qN B c ≤ 40 := by
  have h1 := kN_5 h c (len B)
  have h2 := qK_le h c
  unfold qN qK at *
  omega
theorem qT_le {B : Bk} (h : okB B) (c : Nat) : qT B c ≤ 396 * qN B c := kS_le 396 (fun i _ _ => sS_le h i)
theorem qLQ_le {B : Bk} (h : okB B) (c : Nat) : qLQ B c ≤ 156816 * qN B c := kS_le 156816 (fun i _ _ => sQ_le h i)
theorem qMS_le {B : Bk} (h : okB B) (c : Nat) : qMS B c ≤ 60 * qLQ B c := kS_le 60 (fun i _ hi => ms_le h (inK_n hi).1)
theorem kSP {B : Bk} (c : Nat) : ∀ j, kS B c (fun i => nf B i * nf B i) j ≤ kS B c (nf B) j * kS B c (nf B) j ∧ (2 ≤ kS B c (fun _ => 1) j → kS B c (fun i => nf B i * nf B i) j < kS B c (nf B) j * kS B c (nf B) j)
  | 0 => ⟨Nat.le_refl _, fun h => absurd h (by rw [kS_0]; omega)⟩
  | j + 1 => by
    obtain ⟨h1, h2⟩ := kSP (B := B) c j
    by_cases q : inK B c j = true
    · rw [kS_T q, kS_T q, kS_T q]
      have n0 := (inK_n q).1
      have hk := qKN (B := B) c j
      generalize kS B c (nf B) j = N at *
      generalize kS B c (fun i => nf B i * nf B i) j = P at *
      generalize kS B c (fun _ => 1) j = K at *
      generalize nf B j = n at *
      have e : (N + n) * (N + n) = N * N + n * n + 2 * (N * n) := by
        rw [Nat.add_mul, Nat.mul_add, Nat.mul_add, Nat.mul_comm n N]; omega
      rw [e]
      refine ⟨by omega, fun h => ?_⟩
      have : 0 < N * n := Nat.mul_pos (by omega) n0
      omega
    · rw [kS_F q, kS_F q, kS_F q]
      exact ⟨h1, h2⟩
theorem un_pos {B : Bk} {c : Nat} (h : 2 ≤ qK B c) : 0 < un B c := by
  have := (kSP (B := B) c (len B)).2 h
  unfold un qN qSP
  omega
theorem sh_le (B : Bk) (c n : Nat) : shr B c n ≤ 1000 := by
  unfold shr
  rcases Nat.eq_zero_or_pos (n * bt B c + wi B c * un B c) with q | q
  · rw [q, Nat.div_zero]; omega
  · refine Nat.div_le_of_le_mul ?_
    rw [Nat.mul_comm _ 1000]
    exact Nat.mul_le_mul_left _ (Nat.le_add_right _ _)
theorem qSH_le {B : Bk} (h : okB B) (c : Nat) : qSH B c ≤ 8000 := by
  have h1 : qSH B c ≤ 1000 * qK B c := kS_le 1000 (fun i _ _ => by have : sh B i ≤ 1000 := sh_le _ _ _; omega)
  have h2 := qK_le h c
  omega
theorem wm_le {B : Bk} (h : okB B) {i : Nat} (q : 0 < nf B i) : sS B i * sh B i * (60 / nf B i) ≤ 23760 * sh B i := by
  obtain ⟨h1, h2⟩ := div60 (nf B i) (by have := nf_le h i; omega) q
  have h3 := Nat.mul_le_mul_right (sh B i * (60 / nf B i)) (sS_le h i)
  rw [Nat.mul_assoc]
  refine Nat.le_trans h3 (Nat.le_of_eq ?_)
  rw [show 396 * nf B i * (sh B i * (60 / nf B i)) = 396 * (60 / nf B i * nf B i) * sh B i by ac_rfl, h1]
theorem qWM_le {B : Bk} (h : okB B) (c : Nat) : qWM B c ≤ 23760 * qSH B c := kS_le 23760 (fun i _ hi => wm_le h (inK_n hi).1)
theorem aN_le {B : Bk} (h : okB B) : aN B (len B) ≤ 40 := by
  have h1 : aN B (len B) ≤ 5 * sumI (fun _ => 1) (len B) := sumI_le 5 (fun i _ => by have := nf_le h i; omega)
  have h2 : sumI (fun _ => 1) (len B) ≤ len B := sumI_len _ (fun i _ => Nat.le_refl _)
  have h3 := h.1.1
  unfold len at *
  omega
theorem aS_le {B : Bk} (h : okB B) (j : Nat) : aS B j ≤ 396 * aN B j := sumI_le 396 (fun i _ => by
  split
  · exact sS_le h i
  · exact Nat.zero_le _)
theorem qN_aN {B : Bk} (c j : Nat) : kS B c (nf B) j ≤ aN B j := by
  have := sumI_le (f := fun i => if inK B c i = true then nf B i else 0) (g := nf B) 1 (n := j) (fun i _ => by split <;> omega)
  unfold kS aN
  omega
theorem yy_le (B : Bk) (c : Nat) : yy B c ≤ 1000 := by
  unfold yy
  rcases Nat.eq_zero_or_pos (qN B c + B.2.2.2) with q | q
  · rw [q, Nat.div_zero]; omega
  · refine Nat.div_le_of_le_mul ?_
    rw [Nat.mul_comm _ 1000]
    exact Nat.mul_le_mul_left _ (Nat.le_add_right _ _)
theorem cu_le {B : Bk} (h : okB B) (c : Nat) : cu B c ≤ 396 * cl B c := by
  unfold cu cl
  split
  · exact qT_le h c
  · have := qWM_le h c
    omega
theorem cl_le {B : Bk} (h : okB B) (c : Nat) : cl B c ≤ 480000 := by
  unfold cl
  have := qN_le h c
  have := qSH_le h c
  split <;> omega
theorem cl_pos {B : Bk} {c : Nat} (h : 0 < qN B c) : 0 < cl B c := by
  unfold cl
  split <;> omega
theorem bl_le {B : Bk} (h : okB B) (c : Nat) : bl B c ≤ 19200000000 := by
  unfold bl
  have h1 := cl_le h c
  have h2 := aN_le h
  have := Nat.mul_le_mul (Nat.mul_le_mul_left 1000 h1) h2
  omega
theorem mix_le {p a b c d e k : Nat} (hp : p ≤ e) (h1 : a ≤ k * b) (h2 : c ≤ k * d) : p * a * d + (e - p) * c * b ≤ k * (e * b * d) := by
  have h3 : p * a * d ≤ p * (k * b) * d := Nat.mul_le_mul_right _ (Nat.mul_le_mul_left _ h1)
  have h4 : (e - p) * c * b ≤ (e - p) * (k * d) * b := Nat.mul_le_mul_right _ (Nat.mul_le_mul_left _ h2)
  have e1 : p * (k * b) * d = p * (k * b * d) := by ac_rfl
  have e2 : (e - p) * (k * d) * b = (e - p) * (k * b * d) := by ac_rfl
  have e3 : p * (k * b * d) + (e - p) * (k * b * d) = e * (k * b * d) := by rw [← Nat.add_mul, Nat.add_sub_cancel' hp]
  have e4 : k * (e * b * d) = e * (k * b * d) := by ac_rfl
  omega
theorem bu_le {B : Bk} (h : okB B) (c : Nat) : bu B c ≤ 396 * bl B c := mix_le (yy_le B c) (cu_le h c) (aS_le h (len B))
theorem rl_le {B : Bk} (h : okB B) (i : Nat) : rl B i ≤ 96000000000000 := by
  unfold rl
  have h1 := bl_le h (cf B i)
  have h2 := nf_le h i
  have := Nat.mul_le_mul (Nat.mul_le_mul_left 1000 h2) h1
  omega
theorem ru_le {B : Bk} (h : okB B) (i : Nat) : ru B i ≤ 396 * rl B i := by
  have := mix_le (p := sh B i) (a := sS B i) (b := nf B i) (c := bu B (cf B i)) (d := bl B (cf B i)) (e := 1000) (k := 396) (sh_le _ _ _) (sS_le h i) (bu_le h _)
  unfold ru rl
  exact this
