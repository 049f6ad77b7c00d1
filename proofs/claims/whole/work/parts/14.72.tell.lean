/-! PURE: what is told, on both sides -/
def K7 (s s' : S7) : Prop := g7_book s' = g7_book s ∧ g7_past s' = g7_past s ∧ g7_tape s' = g7_tape s
def K8 (q q' : S8) : Prop := (∀ j, j < 140 → g8_now q' j = g8_now q j) ∧ g8_before q' = g8_before q ∧ g8_acts q' = g8_acts q ∧ g8_tape q' = g8_tape q ∧ g8_taped q' = g8_taped q ∧ g8_words q' = g8_words q
theorem K7_r (s : S7) : K7 s s := ⟨rfl, rfl, rfl⟩
theorem K8_r (s : S8) : K8 s s := ⟨fun _ _ => rfl, rfl, rfl, rfl, rfl, rfl⟩
theorem K8_k {s s' : S8} (h : keep8 s s') : K8 s s' := ⟨fun j _ => by rw [h.1], h.2.2.1, h.2.2.2.1, h.2.2.2.2.1, h.2.2.2.2.2.1, h.2.2.2.2.2.2⟩
theorem K8_t {a b c : S8} (h : K8 a b) (k : K8 b c) : K8 a c := by
  obtain ⟨h1, h2, h3, h4, h5, h6⟩ := h
  obtain ⟨k1, k2, k3, k4, k5, k6⟩ := k
  exact ⟨fun j hj => (k1 j hj).trans (h1 j hj), k2.trans h2, k3.trans h3, k4.trans h4, k5.trans h5, k6.trans h6⟩
theorem RC_K {s s' : S7} {g : Sg} (h : RC s g) (k : K7 s s') : RC s' g := by
  unfold RC at h ⊢
  rw [k.1, k.2.1, k.2.2]
  exact h
theorem RM_K {q q' : S8} {g : Sg} (h : RM q g) (k : K8 q q') : RM q' g := by
  obtain ⟨k1, k2, k3, k4, k5, k6⟩ := k
  obtain ⟨h1, h2, h3, h4⟩ := h
  refine ⟨rM_of h1 k1, ?_, ?_, k6.trans h4⟩
  · rw [k2, k3]; exact h2
  · rw [k4, k5]; exact h3
theorem RR_K {s s' : S7} {q q' : S8} {g : Sg} (hc : RC s g) (hm : RM q g) (k : K7 s s') (l : K8 q q') : RR s' q' := ⟨g, RC_K hc k, RM_K hm l⟩
/-! the class's pools -/
def poolN (l : S1) (c : Nat) : S4 := if c = 0 then g1_poolA l else if c = 1 then g1_poolB l else g1_poolC l
theorem rL_pool {l : S1} {B : Bk} (h : rL l B) {c : Nat} (hc : c < 3) : rPf (poolN l c) B c := by
  obtain ⟨-, -, -, -, h5, h6, h7, -⟩ := h
  unfold poolN
  rcases (show c = 0 ∨ c = 1 ∨ c = 2 by omega) with rfl | rfl | rfl
  · exact h5
  · exact h6
  · exact h7
def spA (B : Bk) (c k : Nat) : Int := if k = 0 then (wi B c : Int) else if k = 1 then (if 2 ≤ qK B c ∧ 0 < fr B c then (bt B c : Int) else 0) else if k = 2 then (cu B c : Int) else if k = 3 then (if qN B c = 0 then 0 else (bu B c : Int)) else (if qN B c = 0 then 0 else offA B c)
def spM (B : Bk) (c k : Nat) : Nat := if k = 0 then 60 * fr B c else if k = 1 then (if 2 ≤ qK B c ∧ 0 < fr B c then 60 * fr B c * un B c else 0) else if k = 2 then cl B c else if k = 3 then (if qN B c = 0 then 0 else bl B c) else (if qN B c = 0 then 0 else 1000 * bl B c)
theorem spA_0 (B : Bk) (c : Nat) : spA B c 0 = (wi B c : Int) := rfl
theorem spA_1 (B : Bk) (c : Nat) : spA B c 1 = (if 2 ≤ qK B c ∧ 0 < fr B c then (bt B c : Int) else 0) := rfl
theorem spA_2 (B : Bk) (c : Nat) : spA B c 2 = (cu B c : Int) := rfl
theorem spA_3 (B : Bk) (c : Nat) : spA B c 3 = (if qN B c = 0 then 0 else (bu B c : Int)) := rfl
theorem spA_4 (B : Bk) (c : Nat) : spA B c 4 = (if qN B c = 0 then 0 else offA B c) := rfl
theorem spM_0 (B : Bk) (c : Nat) : spM B c 0 = 60 * fr B c := rfl
theorem spM_1 (B : Bk) (c : Nat) : spM B c 1 = (if 2 ≤ qK B c ∧ 0 < fr B c then 60 * fr B c * un B c else 0) := rfl
theorem spM_2 (B : Bk) (c : Nat) : spM B c 2 = cl B c := rfl
theorem spM_3 (B : Bk) (c : Nat) : spM B c 3 = (if qN B c = 0 then 0 else bl B c) := rfl
theorem spM_4 (B : Bk) (c : Nat) : spM B c 4 = (if qN B c = 0 then 0 else 1000 * bl B c) := rfl
theorem sp_in {B : Bk} (ok : okB B) (c k : Nat) : inL (spA B c k) ∧ inL (spM B c k : Int) := by
  have w1 := wi_le ok c
  have u1 := un_le ok c
  have b1 := bt_le ok c
  have f1 := fr_le ok c
  have bl1 := bl_le ok c
  have bu1 := bu_le ok c
  have cl1 := cl_le ok c
  have cu1 := cu_le ok c
  have hD : 60 * fr B c * un B c ≤ 60 * 40 * 1600 := Nat.mul_le_mul (Nat.mul_le_mul_left 60 f1) u1
  have ho : inL (offA B c) := by rw [← off_eq]; exact off_in ok c (Nat.le_refl _)
  unfold spA spM
  by_cases k0 : k = 0
  · rw [if_pos k0, if_pos k0]; exact ⟨inL_n (by omega), inL_n (by omega)⟩
  · rw [if_neg k0, if_neg k0]
    by_cases k1 : k = 1
    · rw [if_pos k1, if_pos k1]
      by_cases q : 2 ≤ qK B c ∧ 0 < fr B c
      · rw [if_pos q, if_pos q]; exact ⟨inL_n (by omega), inL_n (by omega)⟩
      · rw [if_neg q, if_neg q]; exact ⟨inL_0, inL_0⟩
    · rw [if_neg k1, if_neg k1]
      by_cases k2 : k = 2
      · rw [if_pos k2, if_pos k2]; exact ⟨inL_n (by omega), inL_n (by omega)⟩
      · rw [if_neg k2, if_neg k2]
        by_cases k3 : k = 3
        · rw [if_pos k3, if_pos k3]
          by_cases q : qN B c = 0
          · rw [if_pos q, if_pos q]; exact ⟨inL_0, inL_0⟩
          · rw [if_neg q, if_neg q]; exact ⟨inL_n (by omega), inL_n (by omega)⟩
        · rw [if_neg k3, if_neg k3]
          by_cases q : qN B c = 0
          · rw [if_pos q, if_pos q]; exact ⟨inL_0, inL_0⟩
          · rw [if_neg q, if_neg q]; exact ⟨ho, inL_n (by omega)⟩
theorem c_hasBetween {p : S4} {B : Bk} (ok : okB B) {c : Nat} (h : rPf p B c) : f_X4_hasBetween p = some (if 2 ≤ qK B c ∧ 0 < fr B c then 1 else 0) := by
  have k8 := qK_le ok c
  have f1 := fr_le ok c
  unfold f_X4_hasBetween
  rw [h.1, h.2.2.2.1]
  simp only [c0_le (inL_n (show fr B c < 2 ^ 63 by omega)), show (nI (qK B c) < 2) = (qK B c < 2) from p_lt (b := 2) (by omega) (by omega)]
  by_cases q1 : qK B c < 2
  · rw [if_pos q1, if_neg (by omega)]
  · rw [if_neg q1]
    by_cases q2 : 0 < fr B c
    · rw [if_neg (by omega), if_pos ⟨by omega, q2⟩]
    · rw [if_pos (by omega), if_neg (by omega)]
theorem qN_K {B : Bk} (ok : okB B) (c : Nat) : (qN B c = 0 ↔ qK B c = 0) := by
  have h1 : qK B c ≤ qN B c := qKN c (len B)
  have h2 : qN B c ≤ 5 * qK B c := kN_5 ok c (len B)
  omega
theorem c_putS {p : S4} {B : Bk} (ok : okB B) {c : Nat} (h : rPf p B c) (q : S5) {k : Nat} : (k = 0 → f_X4_putWithin p q = some (lI (spA B c 0), lI (spM B c 0 : Int))) ∧ (k = 1 → f_X4_putBetween p q = some (lI (spA B c 1), lI (spM B c 1 : Int))) ∧ (k = 2 → f_X4_putCentre p q = some (lI (spA B c 2), lI (spM B c 2 : Int))) ∧ (k = 3 → f_X5_put q (g5_upper (g4_base p)) (g5_lower (g4_base p)) = some (lI (spA B c 3), lI (spM B c 3 : Int))) ∧ (k = 4 → f_X4_putOff p q = some (lI (spA B c 4), lI (spM B c 4 : Int))) := by
  have t1 := qT_le ok c
  have n40 := qN_le ok c
  have sh8 := qSH_le ok c
  have bl1 := bl_le ok c
  have hb := c_hasBetween ok h
  obtain ⟨h1, h2, h3, h4, h5, h6, h7, h8, h9, h10, h11, h12⟩ := h
  refine ⟨fun _ => ?_, fun _ => ?_, fun _ => ?_, fun _ => ?_, fun _ => ?_⟩
  · unfold f_X4_putWithin f_X5_put
    rw [h6, h4, k60, lU_mul]; rfl
  · unfold f_X4_putBetween f_X5_putNone f_X5_put
    rw [p_bind, hb, p_bind]
    rw [spA_1, spM_1]
    by_cases q1 : 2 ≤ qK B c ∧ 0 < fr B c
    · rw [if_pos q1, if_pos q1, if_pos q1, if_neg (by decide), p_bind, h7, h4, h5, k60, lU_mul, lU_mul]; rfl
    · rw [if_neg q1, if_neg q1, if_neg q1, if_pos rfl]; rfl
  · unfold f_X4_putCentre f_X5_put
    rw [h8, h2, h3, h9]
    simp only [show (nI (qSH B c) = 0) = (qSH B c = 0) from p_eq (b := 0) (by omega) (by omega)]
    rw [spA_2, spM_2]
    unfold cu cl
    by_cases q1 : qSH B c = 0
    · rw [if_pos q1, if_pos q1, if_pos q1, p_bind, lI_i (by omega), lI_i (by omega)]; rfl
    · rw [if_neg q1, if_neg q1, if_neg q1, p_bind, lI_i (by omega), k60, lU_mul]; rfl
  · unfold f_X5_put
    rw [h12]
    unfold baseOf
    rw [spA_3, spM_3]
    by_cases q1 : qN B c = 0
    · rw [if_pos q1, if_pos q1, if_pos q1]; rfl
    · rw [if_neg q1, if_neg q1, if_neg q1]; rfl
  · unfold f_X4_putOff f_X5_putNone f_X5_put
    rw [p_bind, h12]
    unfold baseOf
    rw [spA_4, spM_4]
    by_cases q1 : qN B c = 0
    · rw [if_pos q1, if_pos q1, if_pos q1, show f_X5_isNone (lU 0, lU 0) = some 1 from c_isNone inL_0, p_bind, if_neg (by decide)]; rfl
    · have cp := cl_pos (B := B) (c := c) (by omega)
      have a0 : 0 < aN B (len B) := Nat.lt_of_lt_of_le (show 0 < qN B c by omega) (qN_aN c (len B))
      have bp : 0 < bl B c := Nat.mul_pos (Nat.mul_pos (by omega) cp) a0
      rw [if_neg q1, if_neg q1, if_neg q1, c_isNone (inL_n (by omega)), if_pos (show (0 : Int) < (bl B c : Int) by omega), p_bind, if_pos rfl, p_bind]
      show some (((g4_ownLosses p - (1000 : Int64) * Int32.toInt64 (g4_sum p)) * lU (bl B c) + g4_restSpans p * lU (bu B c)), (1000 : Int64) * lU (bl B c)) = _
      rw [h10, h3, h11, lI_i (by omega), k1000', lU_mul, lU_mul, lU_mul, lI_sub, lI_mul, lI_add]
      rfl
theorem c_putSpread {l : S1} {B : Bk} (ok : okB B) (h : rL l B) {c k : Nat} (hc : c < 3) (hk : k < 5) (q : S5) : f_X1_putSpread l q (nI c) (nI k) = some (lI (spA B c k), lI (spM B c k : Int)) := by
  have hp := c_putS ok (rL_pool h hc) q (k := k)
  unfold f_X1_putSpread
  rw [c_poolOf l hc, p_bind]
  rcases (show c = 0 ∨ c = 1 ∨ c = 2 by omega) with rfl | rfl | rfl <;> rcases (show k = 0 ∨ k = 1 ∨ k = 2 ∨ k = 3 ∨ k = 4 by omega) with rfl | rfl | rfl | rfl | rfl
  all_goals first
    | exact p_bE (hp.1 rfl)
    | exact p_bE (hp.2.1 rfl)
    | exact p_bE (hp.2.2.1 rfl)
    | exact p_bE (hp.2.2.2.1 rfl)
    | exact p_bE (hp.2.2.2.2 rfl)
theorem c_putSpread0 {l : S1} {c : Nat} (hc : c < 3) {x : Int32} (hx : x < 0 ∨ (¬ x < 0 ∧ nI 5 ≤ x)) (q : S5) : f_X1_putSpread l q (nI c) x = some (lI 0, lI 0) := by
  have hne : ∀ k : Nat, k < 5 → ¬ x = nI k := by
    intro k hk e
    rw [e] at hx
    rcases hx with h | ⟨-, h⟩
    · exact nI_pos (by omega) h
    · rw [p_le (by omega) (by omega)] at h; omega
  unfold f_X1_putSpread f_X5_putNone
  rw [c_poolOf l hc, p_bind]
  have n0 : ¬ x = 0 := hne 0 (by omega)
  have n1 : ¬ x = 1 := hne 1 (by omega)
  have n2 : ¬ x = 2 := hne 2 (by omega)
  have n3 : ¬ x = 3 := hne 3 (by omega)
  have n4 : ¬ x = 4 := hne 4 (by omega)
  simp only [if_neg n0, if_neg n1, if_neg n2, if_neg n3, if_neg n4]
  rcases (show c = 0 ∨ c = 1 ∨ c = 2 by omega) with rfl | rfl | rfl <;> rfl
/-! the reference's table -/
def Tell (f g : Nat → Int64) (k : Nat) (A : Int) (M : Nat) : Prop := (M = 0 ∧ g k = 0) ∨ (0 < M ∧ tl f g k A M)
theorem cls_tell {s : S8} {B : Bk} (ok : okB B) {c : Nat} (h : clsOK s B c) {k : Nat} (hk : k < 5) : Tell (g8_up s) (g8_low s) (5 * c + k) (spA B c k) (spM B c k) := by
  unfold clsOK at h
  have nk := qN_K ok c
  by_cases q : qK B c = 0
  · rw [if_pos q] at h
    have n0 := nk.mpr q
    have f0 : fr B c = 0 := by unfold fr; omega
    obtain ⟨z1, z2, z3⟩ := qSH_z ok n0
    refine Or.inl ⟨?_, h.2 k hk⟩
    rcases (show k = 0 ∨ k = 1 ∨ k = 2 ∨ k = 3 ∨ k = 4 by omega) with rfl | rfl | rfl | rfl | rfl
    · rw [spM_0, f0]
    · rw [spM_1, if_neg (by omega)]
    · rw [spM_2]; unfold cl; rw [if_pos z3, n0]
    · rw [spM_3, if_pos n0]
    · rw [spM_4, if_pos n0]
  · rw [if_neg q] at h
    have n0 : ¬ qN B c = 0 := fun e => q (nk.mp e)
    have cp := cl_pos (B := B) (c := c) (by omega)
    have a0 : 0 < aN B (len B) := Nat.lt_of_lt_of_le (show 0 < qN B c by omega) (qN_aN c (len B))
    have bp : 0 < bl B c := Nat.mul_pos (Nat.mul_pos (by omega) cp) a0
    obtain ⟨h1, h2, h3, h4, h5, h6⟩ := h
    rcases (show k = 0 ∨ k = 1 ∨ k = 2 ∨ k = 3 ∨ k = 4 by omega) with rfl | rfl | rfl | rfl | rfl
    · rw [spA_0, spM_0]
      unfold E0 at h2
      by_cases q1 : fr B c = 0
      · rw [if_pos q1] at h2
        exact Or.inl ⟨by omega, h2⟩
      · rw [if_neg q1] at h2
        exact Or.inr ⟨by omega, h2⟩
    · rw [spA_1, spM_1]
      unfold E1 at h3
      by_cases q1 : 2 ≤ qK B c ∧ 0 < fr B c
      · rw [if_pos q1] at h3
        rw [if_pos q1, if_pos q1]
        exact Or.inr ⟨Nat.mul_pos (by omega) (un_pos q1.1), h3⟩
      · rw [if_neg q1] at h3
        rw [if_neg q1, if_neg q1]
        exact Or.inl ⟨rfl, h3⟩
    · rw [spA_2, spM_2]
      exact Or.inr ⟨cp, h4⟩
    · rw [spA_3, spM_3, if_neg n0, if_neg n0]
      exact Or.inr ⟨bp, h5⟩
    · rw [spA_4, spM_4, if_neg n0, if_neg n0]
      exact Or.inr ⟨by omega, h6⟩
theorem tell_part {f g : Nat → Int64} {k : Nat} {A : Int} {M : Nat} (h : Tell f g k A M) (iA : inL A) (iM : inL (M : Int)) (x : Int32) : f_X5_part (lI A, lI (M : Int)) x = some (if lg_cmp (g k) 0 = 0 then -1000000000 else if x = 0 then f k else g k) := by
  rcases h with ⟨h1, h2⟩ | ⟨h1, u, l, h2, h3, h4⟩
  · rw [c_part0 iM (by omega), h2, if_pos (by decide)]
  · have il := Fr_in h4.1 iA iM
    rw [c_part iA iM h4, h2, h3, if_neg (show ¬ lg_cmp (lI l) 0 = 0 by rw [c0_eq il.2]; have := h4.1.1; omega)]
