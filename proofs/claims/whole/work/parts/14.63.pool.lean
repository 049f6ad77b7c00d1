/-! PURE: the class's pools -/
abbrev lU (n : Nat) : Int64 := lI (n : Int)
theorem lU_add (a b : Nat) : lU a + lU b = lU (a + b) := by rw [lI_add, ← Int.natCast_add]
theorem lU_mul (a b : Nat) : lU a * lU b = lU (a * b) := by rw [lI_mul, ← Int.natCast_mul]
theorem lU_sub {a b : Nat} (h : b ≤ a) : lU a - lU b = lU (a - b) := by rw [lI_sub, ← Int.ofNat_sub h]
theorem k60 : (60 : Int64) = lU 60 := (Int64.ofInt_eq_ofNat (n := 60)).symm
theorem k1000' : (1000 : Int64) = lU 1000 := k1000
theorem k0 : (0 : Int64) = lU 0 := rfl
theorem k1 : (1 : Int64) = lU 1 := rfl
def rPa (p : S4) (B : Bk) (c j : Nat) : Prop := g4_fleets p = nI (kS B c (fun _ => 1) j) ∧ g4_span p = nI (kS B c (nf B) j) ∧ g4_sum p = nI (kS B c (sS B) j) ∧ g4_shares p = 0 ∧ g4_spanSquares p = lU (kS B c (fun i => nf B i * nf B i) j) ∧ g4_lossSquares p = lU (60 * kS B c (sQ B) j) ∧ g4_meanSquares p = lU (kS B c (msI B) j) ∧ g4_weightedMeans p = 0 ∧ g4_ownLosses p = 0 ∧ g4_restSpans p = 0
theorem c_clear (p : S4) (B : Bk) (c : Nat) : ∃ p', f_X4_clear p = some p' ∧ rPa p' B c 0 := ⟨_, rfl, rfl, rfl, rfl, rfl, rfl, rfl, rfl, rfl, rfl, rfl⟩
theorem rPa_F {p : S4} {B : Bk} {c j : Nat} (h : rPa p B c j) (q : ¬ inK B c j = true) : rPa p B c (j + 1) := by
  unfold rPa at h ⊢
  rw [kS_F q, kS_F q, kS_F q, kS_F q, kS_F q, kS_F q]
  exact h
theorem c_addFleet4 {p : S4} {B : Bk} (ok : okB B) {c j : Nat} (h : rPa p B c j) (q : inK B c j = true) : ∃ p', f_X4_addFleet p (nI (nf B j)) (nI (sS B j)) (nI (sQ B j)) = some p' ∧ rPa p' B c (j + 1) := by
  obtain ⟨n0, -⟩ := inK_n q
  have n5 := nf_le ok j
  have s1 := sS_le ok j
  have q1 := sQ_le ok j
  have nn : nf B j * nf B j ≤ 5 * 5 := Nat.mul_le_mul n5 n5
  have d1 : 60 / nf B j ≤ 60 := Nat.div_le_self _ _
  obtain ⟨h1, h2, h3, h4, h5, h6, h7, h8, h9, h10⟩ := h
  unfold f_X4_addFleet
  rw [if_neg (by rw [show (0 : Int32) = nI 0 from rfl, p_le (by omega) (by omega)]; omega), p_nz (by rw [show (0 : Int32) = nI 0 from rfl, p_eq (by omega) (by omega)]; omega), p_bind]
  refine ⟨_, rfl, ?_, ?_, ?_, h4, ?_, ?_, ?_, h8, h9, h10⟩
  · show g4_fleets p + (1 : Int32) = _
    rw [h1, nI_1, kS_T q]
  · show g4_span p + nI (nf B j) = _
    rw [h2, nI_add, kS_T q]
  · show g4_sum p + nI (sS B j) = _
    rw [h3, nI_add, kS_T q]
  · show g4_spanSquares p + Int32.toInt64 (nI (nf B j) * nI (nf B j)) = _
    rw [h5, pk_mul, lI_i (by omega), lU_add, kS_T q]
  · show g4_lossSquares p + (60 : Int64) * Int32.toInt64 (nI (sQ B j)) = _
    rw [h6, lI_i (by omega), k60, lU_mul, lU_add, kS_T q, Nat.mul_add]
  · show g4_meanSquares p + Int32.toInt64 (nI (sS B j)) * Int32.toInt64 (nI (sS B j)) * Int32.toInt64 (60 / nI (nf B j)) = _
    rw [h7, lI_i (by omega), show (60 : Int32) = nI 60 from rfl, pk_div (by omega) (by omega) (by omega), lI_i (by omega), lU_mul, lU_mul, lU_add, kS_T q]
    rfl
def rPb (p : S4) (B : Bk) (c j : Nat) : Prop := g4_fleets p = nI (qK B c) ∧ g4_span p = nI (qN B c) ∧ g4_sum p = nI (qT B c) ∧ g4_freedom p = lU (fr B c) ∧ g4_unlikeSpans p = lU (un B c) ∧ g4_within p = lU (wi B c) ∧ g4_between p = lU (bt B c) ∧ g4_shares p = nI (kS B c (sh B) j) ∧ g4_weightedMeans p = lU (kS B c (fun i => sS B i * sh B i * (60 / nf B i)) j) ∧ g4_ownLosses p = lU (kS B c (fun i => sS B i * sh B i) j) ∧ g4_restSpans p = lU (kS B c (fun i => nf B i * (1000 - sh B i)) j)
theorem fr_le {B : Bk} (ok : okB B) (c : Nat) : fr B c ≤ 40 := by have := qN_le ok c; unfold fr; omega
theorem wi_le {B : Bk} (ok : okB B) (c : Nat) : wi B c ≤ 376358400 := by
  have h1 := qLQ_le ok c
  have h2 := qN_le ok c
  unfold wi
  omega
theorem un_le {B : Bk} (ok : okB B) (c : Nat) : un B c ≤ 1600 := by
  have h2 := qN_le ok c
  have := Nat.mul_le_mul h2 h2
  unfold un
  omega
theorem MSf_le {B : Bk} (ok : okB B) (c : Nat) : qMS B c * qN B c * fr B c ≤ 602173440000 := by
  have h1 := qLQ_le ok c
  have h2 := qN_le ok c
  have h3 := qMS_le ok c
  have h4 : qMS B c ≤ 376358400 := by omega
  have h5 := Nat.mul_le_mul (Nat.mul_le_mul h4 h2) (fr_le ok c)
  omega
theorem TTf_le {B : Bk} (ok : okB B) (c : Nat) : 60 * qT B c * qT B c * fr B c ≤ 602173440000 := by
  have h1 := qT_le ok c
  have h2 := qN_le ok c
  have h4 : qT B c ≤ 15840 := by omega
  have h5 := Nat.mul_le_mul (Nat.mul_le_mul (Nat.mul_le_mul_left 60 h4) h4) (fr_le ok c)
  omega
theorem Kw_le {B : Bk} (ok : okB B) (c : Nat) : (qK B c - 1) * wi B c * qN B c ≤ 105380352000 := by
  have h1 := qK_le ok c
  have h2 := qN_le ok c
  have h3 := wi_le ok c
  have h5 := Nat.mul_le_mul (Nat.mul_le_mul (show qK B c - 1 ≤ 7 by omega) h3) h2
  omega
theorem bt_le {B : Bk} (ok : okB B) (c : Nat) : bt B c ≤ 602173440000 := by
  have := MSf_le ok c
  unfold bt
  split <;> omega
theorem c_settle {p : S4} {B : Bk} (ok : okB B) {c : Nat} (h : rPa p B c (len B)) : ∃ p', f_X4_settle p = some p' ∧ rPb p' B c 0 := by
  obtain ⟨h1, h2, h3, h4, h5, h6, h7, h8, h9, h10⟩ := h
  have kn : qK B c ≤ qN B c := qKN c (len B)
  have k8 := qK_le ok c
  have n40 := qN_le ok c
  have t1 := qT_le ok c
  have l1 := qLQ_le ok c
  have m1' := qMS_le ok c
  have b1 := MSf_le ok c
  have b2 := TTf_le ok c
  have b3 := Kw_le ok c
  have f40 := fr_le ok c
  have sp : qSP B c ≤ qN B c * qN B c := (kSP c (len B)).1
  change g4_fleets p = nI (qK B c) at h1
  change g4_span p = nI (qN B c) at h2
  change g4_sum p = nI (qT B c) at h3
  change g4_spanSquares p = lU (qSP B c) at h5
  change g4_lossSquares p = lU (60 * qLQ B c) at h6
  change g4_meanSquares p = lU (qMS B c) at h7
  have e1 : Int32.toInt64 (g4_span p - g4_fleets p) = lU (fr B c) := by rw [h1, h2, pk_sub kn, lI_i (by omega)]; rfl
  have e2 : Int32.toInt64 (g4_span p) * Int32.toInt64 (g4_span p) - g4_spanSquares p = lU (un B c) := by rw [h2, h5, lI_i (by omega), lU_mul, lU_sub sp]; rfl
  have e3 : g4_lossSquares p - g4_meanSquares p = lU (wi B c) := by rw [h6, h7, lU_sub m1']; rfl
  unfold f_X4_settle
  rw [e1, e2, e3]
  have e4 : f_X4_hasBetween (u4_between (u4_within (u4_unlikeSpans (u4_freedom p (lU (fr B c))) (lU (un B c))) (lU (wi B c))) 0) = some (if 2 ≤ qK B c ∧ 0 < fr B c then 1 else 0) := by
    unfold f_X4_hasBetween
    rw [show g4_fleets (u4_between (u4_within (u4_unlikeSpans (u4_freedom p (lU (fr B c))) (lU (un B c))) (lU (wi B c))) 0) = g4_fleets p from rfl, show g4_freedom (u4_between (u4_within (u4_unlikeSpans (u4_freedom p (lU (fr B c))) (lU (un B c))) (lU (wi B c))) 0) = lU (fr B c) from rfl, h1]
    simp only [c0_le (inL_n (show fr B c < 2 ^ 63 by omega)), show (nI (qK B c) < 2) = (qK B c < 2) from p_lt (b := 2) (by omega) (by omega)]
    by_cases q1 : qK B c < 2
    · rw [if_pos q1, if_neg (by omega)]
    · rw [if_neg q1]
      by_cases q2 : 0 < fr B c
      · rw [if_neg (by omega), if_pos ⟨by omega, q2⟩]
      · rw [if_pos (by omega), if_neg (by omega)]
  rw [e4, p_bind]
  by_cases q : 2 ≤ qK B c ∧ 0 < fr B c
  · rw [if_pos q, if_neg (by decide)]
    refine ⟨_, rfl, h1, h2, h3, rfl, rfl, rfl, ?_, by rw [kS_0]; exact h4, by rw [kS_0]; exact h8, by rw [kS_0]; exact h9, by rw [kS_0]; exact h10⟩
    rw [h1, h2, h3, h7, lI_i (by omega), lI_i (by omega), show nI (qK B c) - (1 : Int32) = nI (qK B c - 1) from m1 (by omega), lI_i (by omega), k60, lU_mul, lU_mul, lU_mul, lU_mul, lU_mul, lU_mul, lU_mul, lI_sub, lI_sub]
    have eb : bt B c = qMS B c * qN B c * fr B c - (60 * qT B c * qT B c * fr B c + (qK B c - 1) * wi B c * qN B c) := by unfold bt; rw [if_pos q]
    rw [eb]
    generalize qMS B c * qN B c * fr B c = X at *
    generalize 60 * qT B c * qT B c * fr B c = Y at *
    generalize (qK B c - 1) * wi B c * qN B c = Z at *
    have iz : inL ((X : Int) - (Y : Int) - (Z : Int)) := ⟨by omega, by omega⟩
    show (if lI ((X : Int) - (Y : Int) - (Z : Int)) < 0 then (0 : Int64) else lI ((X : Int) - (Y : Int) - (Z : Int))) = _
    simp only [show (lI ((X : Int) - (Y : Int) - (Z : Int)) < 0) = ((X : Int) - (Y : Int) - (Z : Int) < 0) from lI_lt iz inL_0]
    by_cases q3 : (X : Int) - (Y : Int) - (Z : Int) < 0
    · rw [if_pos q3, show X - (Y + Z) = 0 by omega]; rfl
    · rw [if_neg q3]
      congr 1
      omega
  · rw [if_neg q, if_pos rfl]
    refine ⟨_, rfl, h1, h2, h3, rfl, rfl, rfl, ?_, by rw [kS_0]; exact h4, by rw [kS_0]; exact h8, by rw [kS_0]; exact h9, by rw [kS_0]; exact h10⟩
    show (0 : Int64) = _
    have eb : bt B c = 0 := by unfold bt; rw [if_neg q]
    rw [eb]; rfl
theorem c_shareBySpan {p : S4} {B : Bk} (ok : okB B) {c j n : Nat} (h : rPb p B c j) (n9 : n ≤ 99) : f_X4_shareBySpan p (nI n) = some (nI (shr B c n)) := by
  obtain ⟨h1, h2, h3, h4, h5, h6, h7, h8, h9, h10⟩ := h
  have b1 := bt_le ok c
  have b2 := wi_le ok c
  have b3 := un_le ok c
  have b4 := Nat.mul_le_mul n9 b1
  have b5 := Nat.mul_le_mul b2 b3
  unfold f_X4_shareBySpan
  rw [h5, h6, h7, lI_i (by omega), lU_mul, lU_mul, lU_add, k1000', lU_mul]
  simp only [c0_le (inL_n (show n * bt B c < 2 ^ 63 by omega)), c0_le (inL_n (show n * bt B c + wi B c * un B c < 2 ^ 63 by omega))]
  unfold shr
  generalize n * bt B c = X at *
  generalize wi B c * un B c = Y at *
  by_cases q : X = 0
  · rw [if_pos (by omega), q, Nat.mul_zero, Nat.zero_div]; rfl
  · rw [if_neg (by omega), if_neg (by omega), lI_nz (inL_n (by omega)) (by omega), p_bind, lI_divn (by omega) (by omega) (by omega), lI_to32n]
theorem rPb_F {p : S4} {B : Bk} {c j : Nat} (h : rPb p B c j) (q : ¬ inK B c j = true) : rPb p B c (j + 1) := by
  unfold rPb at h ⊢
  rw [kS_F q, kS_F q, kS_F q, kS_F q]
  exact h
theorem c_addShare {p : S4} {B : Bk} (ok : okB B) {c j : Nat} (h : rPb p B c j) (q : inK B c j = true) : ∃ p', f_X4_addShare p (nI (nf B j)) (nI (sS B j)) (nI (sh B j)) = some p' ∧ rPb p' B c (j + 1) := by
  obtain ⟨n0, -⟩ := inK_n q
  have n5 := nf_le ok j
  have s1 := sS_le ok j
  have s2 : sh B j ≤ 1000 := sh_le _ _ _
  have d1 : 60 / nf B j ≤ 60 := Nat.div_le_self _ _
  obtain ⟨h1, h2, h3, h4, h5, h6, h7, h8, h9, h10, h11⟩ := h
  unfold f_X4_addShare
  rw [if_neg (by rw [show (0 : Int32) = nI 0 from rfl, p_le (by omega) (by omega)]; omega), p_nz (by rw [show (0 : Int32) = nI 0 from rfl, p_eq (by omega) (by omega)]; omega), p_bind]
  refine ⟨_, rfl, h1, h2, h3, h4, h5, h6, h7, ?_, ?_, ?_, ?_⟩
  · show g4_shares p + nI (sh B j) = _
    rw [h8, nI_add, kS_T q]
  · show g4_weightedMeans p + Int32.toInt64 (nI (sS B j)) * Int32.toInt64 (nI (sh B j)) * Int32.toInt64 (60 / nI (nf B j)) = _
    rw [h9, lI_i (by omega), show (60 : Int32) = nI 60 from rfl, pk_div (by omega) (by omega) (by omega), lI_i (by omega), lI_i (by omega), lU_mul, lU_mul, lU_add, kS_T q]
  · show g4_ownLosses p + Int32.toInt64 (nI (sS B j)) * Int32.toInt64 (nI (sh B j)) = _
    rw [h10, lI_i (by omega), lI_i (by omega), lU_mul, lU_add, kS_T q]
  · show g4_restSpans p + Int32.toInt64 (nI (nf B j)) * Int32.toInt64 ((1000 : Int32) - nI (sh B j)) = _
    rw [h11, lI_i (by omega), show (1000 : Int32) - nI (sh B j) = nI (1000 - sh B j) from pk_sub (a := 1000) s2, lI_i (by omega), lU_mul, lU_add, kS_T q]
def baseOf (B : Bk) (c : Nat) : S5 := if qN B c = 0 then (lU 0, lU 0) else (lU (bu B c), lU (bl B c))
def rPf (p : S4) (B : Bk) (c : Nat) : Prop := g4_fleets p = nI (qK B c) ∧ g4_span p = nI (qN B c) ∧ g4_sum p = nI (qT B c) ∧ g4_freedom p = lU (fr B c) ∧ g4_unlikeSpans p = lU (un B c) ∧ g4_within p = lU (wi B c) ∧ g4_between p = lU (bt B c) ∧ g4_shares p = nI (qSH B c) ∧ g4_weightedMeans p = lU (qWM B c) ∧ g4_ownLosses p = lU (qOL B c) ∧ g4_restSpans p = lU (qRS B c) ∧ g4_base p = baseOf B c
theorem qSH_z {B : Bk} (ok : okB B) {c : Nat} (h : qN B c = 0) : qK B c = 0 ∧ qT B c = 0 ∧ qSH B c = 0 := by
  have kn : qK B c ≤ qN B c := qKN c (len B)
  have t1 := qT_le ok c
  have h1 : qSH B c ≤ 1000 * qK B c := kS_le 1000 (fun i _ _ => by have : sh B i ≤ 1000 := sh_le _ _ _; omega)
  exact ⟨by omega, by omega, by omega⟩
theorem c_steadiness {p : S4} {B : Bk} (ok : okB B) {c : Nat} (h : g4_span p = nI (qN B c)) (h0 : 0 < qN B c) : f_X4_steadiness p (nI B.2.2.2) = some (nI (yy B c)) := by
  have n40 := qN_le ok c
  have s50 := ok.1.2.2.2.2.2
  unfold f_X4_steadiness
  rw [h, nI_add, if_neg (by rw [show (0 : Int32) = nI 0 from rfl, p_le (by omega) (by omega)]; omega), p_nz (by rw [show (0 : Int32) = nI 0 from rfl, p_eq (by omega) (by omega)]; omega), p_bind, show (1000 : Int32) = nI 1000 from rfl, pk_mul, pk_div (by omega) (by omega) (by omega)]
  rfl
theorem c_reckonBase {p : S4} {B : Bk} (ok : okB B) {c : Nat} (h : rPb p B c (len B)) : ∃ p', f_X4_reckonBase p (lU (aS B (len B)), lU (aN B (len B))) (nI B.2.2.2) = some p' ∧ rPf p' B c := by
  obtain ⟨h1, h2, h3, h4, h5, h6, h7, h8, h9, h10, h11⟩ := h
  change g4_shares p = nI (qSH B c) at h8
  change g4_weightedMeans p = lU (qWM B c) at h9
  have n40 := qN_le ok c
  have t1 := qT_le ok c
  have sh8 := qSH_le ok c
  have a40 := aN_le ok
  have cl4 := cl_le ok c
  have e1 : f_X4_putCentre_i1 p = some (u4_base p (lU (cu B c), lU (cl B c))) := by
    unfold f_X4_putCentre_i1 f_X5_put
    rw [h8, h2, h3, h9]
    simp only [show (nI (qSH B c) = 0) = (qSH B c = 0) from p_eq (b := 0) (by omega) (by omega)]
    unfold cu cl
    by_cases q : qSH B c = 0
    · rw [if_pos q, if_pos q, if_pos q, p_bind, lI_i (by omega), lI_i (by omega)]; rfl
    · rw [if_neg q, if_neg q, if_neg q, p_bind, lI_i (by omega), k60, lU_mul]; rfl
  unfold f_X4_reckonBase
  rw [e1, p_bind, show g4_base (u4_base p (lU (cu B c), lU (cl B c))) = (lU (cu B c), lU (cl B c)) from rfl, c_isNone (inL_n (show cl B c < 2 ^ 63 by omega)), p_bind]
  by_cases q : qN B c = 0
  · obtain ⟨z1, z2, z3⟩ := qSH_z ok q
    have c0 : cl B c = 0 := by unfold cl; rw [if_pos z3, q]
    have c1 : cu B c = 0 := by unfold cu; rw [if_pos z3, z2]
    rw [c0, if_neg (by decide), c1]
    refine ⟨_, rfl, h1, h2, h3, h4, h5, h6, h7, h8, h9, h10, h11, ?_⟩
    unfold baseOf
    rw [if_pos q]; rfl
  · have n0 : 0 < qN B c := by omega
    have cp := cl_pos n0
    have an0 : 0 < aN B (len B) := Nat.lt_of_lt_of_le n0 (qN_aN c (len B))
    have y1 := yy_le B c
    rw [if_pos (show (0 : Int) < (cl B c : Int) by omega), if_pos rfl, c_isNone (inL_n (by omega)), if_pos (show (0 : Int) < (aN B (len B) : Int) by omega), p_bind, if_pos rfl, c_steadiness (p := u4_base p (lU (cu B c), lU (cl B c))) ok h2 n0, p_bind]
    unfold f_X5_put
    rw [p_bind]
    refine ⟨_, rfl, h1, h2, h3, h4, h5, h6, h7, h8, h9, h10, h11, ?_⟩
    show (Int32.toInt64 (nI (yy B c)) * lU (cu B c) * lU (aN B (len B)) + ((1000 : Int64) - Int32.toInt64 (nI (yy B c))) * lU (aS B (len B)) * lU (cl B c), (1000 : Int64) * lU (cl B c) * lU (aN B (len B))) = baseOf B c
    unfold baseOf
    rw [if_neg q, lI_i (by omega), k1000', lU_mul, lU_mul, lU_sub y1, lU_mul, lU_mul, lU_add, lU_mul, lU_mul]
    rfl
