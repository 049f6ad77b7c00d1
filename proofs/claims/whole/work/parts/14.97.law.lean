/-! PURE: the law's loop -/
theorem p_ifE {α : Type} {x y : Int32} {A B R : Option α} (h : x = y) (hA : A = R) : (if x = y then A else B) = R := by rw [if_pos h]; exact hA
theorem lg_self (x : Int64) : lg_cmp x x = 0 := by unfold lg_cmp; rw [if_neg (Int64.lt_irrefl), if_pos rfl]
theorem p_both {α : Type} {c : Prop} [Decidable c] {A B R : Option α} (hA : A = R) (hB : B = R) : (if c then A else B) = R := by split <;> assumption
section LA
variable {k : S7 → S8 → Int32 → Option Int32} {L : Nat} {xs : Nat → Int32} {s : S7} {q : S8} {x3 a1 a2 a3 a4 a5 : Int32}
theorem la_feed (r1 : x_rd L xs (x3 + (1 : Int32)) = some a1) (r2 : x_rd L xs (x3 + (2 : Int32)) = some a2) (r3 : x_rd L xs (x3 + (3 : Int32)) = some a3) (r4 : x_rd L xs (x3 + (4 : Int32)) = some a4) (r5 : x_rd L xs (x3 + (5 : Int32)) = some a5) (h : RR s q) (hk : ∀ s' q', RR s' q' → k s' q' (x3 + 6) = some 1) : f_law_p248 k L xs s q x3 = some 1 := by
  obtain ⟨r, s', q', e1, e2, h'⟩ := op_feed h a1 a2 a3 a4 a5
  unfold f_law_p248
  refine (p_bE r1).trans ?_
  refine (p_bE r2).trans ?_
  refine (p_bE r3).trans ?_
  refine (p_bE r4).trans ?_
  refine (p_bE r5).trans ?_
  refine (p_bE e1).trans ?_
  refine (p_bE r1).trans ?_
  refine (p_bE r2).trans ?_
  refine (p_bE r3).trans ?_
  refine (p_bE r4).trans ?_
  refine (p_bE r5).trans ?_
  refine (p_bE e2).trans ?_
  exact p_ifE rfl (hk _ _ h')
theorem la_back (r1 : x_rd L xs (x3 + (1 : Int32)) = some a1) (h : RR s q) (hk : ∀ s' q', RR s' q' → k s' q' (x3 + 6) = some 1) : f_law_p311 k L xs s q x3 = some 1 := by
  obtain ⟨r, s', q', e1, e2, h'⟩ := op_back h a1
  unfold f_law_p311
  refine (p_bE r1).trans ?_
  refine (p_bE e1).trans ?_
  refine (p_bE r1).trans ?_
  refine (p_bE e2).trans ?_
  exact p_ifE rfl (hk _ _ h')
theorem la_text  (h : RR s q) (hk : ∀ s' q', RR s' q' → k s' q' (x3 + 6) = some 1) : f_law_p334 k L xs s q x3 = some 1 := by
  obtain ⟨r, s', q', e1, e2, h'⟩ := op_text h 
  unfold f_law_p334
  refine (p_bE e1).trans ?_
  refine (p_bE e2).trans ?_
  exact p_ifE rfl (hk _ _ h')
theorem la_fleet (r1 : x_rd L xs (x3 + (1 : Int32)) = some a1) (r2 : x_rd L xs (x3 + (2 : Int32)) = some a2) (h : RR s q) (hk : ∀ s' q', RR s' q' → k s' q' (x3 + 6) = some 1) : f_law_p347 k L xs s q x3 = some 1 := by
  obtain ⟨r, s', q', e1, e2, h'⟩ := op_fleet h a1 a2
  unfold f_law_p347
  refine (p_bE r1).trans ?_
  refine (p_bE r2).trans ?_
  refine (p_bE e1).trans ?_
  refine (p_bE r1).trans ?_
  refine (p_bE r2).trans ?_
  refine (p_bE e2).trans ?_
  exact p_ifE rfl (hk _ _ h')
theorem la_leave (r1 : x_rd L xs (x3 + (1 : Int32)) = some a1) (h : RR s q) (hk : ∀ s' q', RR s' q' → k s' q' (x3 + 6) = some 1) : f_law_p380 k L xs s q x3 = some 1 := by
  obtain ⟨r, s', q', e1, e2, h'⟩ := op_leave h a1
  unfold f_law_p380
  refine (p_bE r1).trans ?_
  refine (p_bE e1).trans ?_
  refine (p_bE r1).trans ?_
  refine (p_bE e2).trans ?_
  exact p_ifE rfl (hk _ _ h')
theorem la_move (r1 : x_rd L xs (x3 + (1 : Int32)) = some a1) (r2 : x_rd L xs (x3 + (2 : Int32)) = some a2) (h : RR s q) (hk : ∀ s' q', RR s' q' → k s' q' (x3 + 6) = some 1) : f_law_p403 k L xs s q x3 = some 1 := by
  obtain ⟨r, s', q', e1, e2, h'⟩ := op_move h a1 a2
  unfold f_law_p403
  refine (p_bE r1).trans ?_
  refine (p_bE r2).trans ?_
  refine (p_bE e1).trans ?_
  refine (p_bE r1).trans ?_
  refine (p_bE r2).trans ?_
  refine (p_bE e2).trans ?_
  exact p_ifE rfl (hk _ _ h')
theorem la_insure (r1 : x_rd L xs (x3 + (1 : Int32)) = some a1) (r2 : x_rd L xs (x3 + (2 : Int32)) = some a2) (h : RR s q) (hk : ∀ s' q', RR s' q' → k s' q' (x3 + 6) = some 1) : f_law_p436 k L xs s q x3 = some 1 := by
  obtain ⟨r, s', q', e1, e2, h'⟩ := op_insure h a1 a2
  unfold f_law_p436
  refine (p_bE r1).trans ?_
  refine (p_bE r2).trans ?_
  refine (p_bE e1).trans ?_
  refine (p_bE r1).trans ?_
  refine (p_bE r2).trans ?_
  refine (p_bE e2).trans ?_
  exact p_ifE rfl (hk _ _ h')
theorem la_lapse (r1 : x_rd L xs (x3 + (1 : Int32)) = some a1) (r2 : x_rd L xs (x3 + (2 : Int32)) = some a2) (h : RR s q) (hk : ∀ s' q', RR s' q' → k s' q' (x3 + 6) = some 1) : f_law_p469 k L xs s q x3 = some 1 := by
  obtain ⟨r, s', q', e1, e2, h'⟩ := op_lapse h a1 a2
  unfold f_law_p469
  refine (p_bE r1).trans ?_
  refine (p_bE r2).trans ?_
  refine (p_bE e1).trans ?_
  refine (p_bE r1).trans ?_
  refine (p_bE r2).trans ?_
  refine (p_bE e2).trans ?_
  exact p_ifE rfl (hk _ _ h')
theorem la_forget (r1 : x_rd L xs (x3 + (1 : Int32)) = some a1) (h : RR s q) (hk : ∀ s' q', RR s' q' → k s' q' (x3 + 6) = some 1) : f_law_p502 k L xs s q x3 = some 1 := by
  obtain ⟨r, s', q', e1, e2, h'⟩ := op_forget h a1
  unfold f_law_p502
  refine (p_bE r1).trans ?_
  refine (p_bE e1).trans ?_
  refine (p_bE r1).trans ?_
  refine (p_bE e2).trans ?_
  exact p_ifE rfl (hk _ _ h')
theorem la_claim (r1 : x_rd L xs (x3 + (1 : Int32)) = some a1) (r2 : x_rd L xs (x3 + (2 : Int32)) = some a2) (r3 : x_rd L xs (x3 + (3 : Int32)) = some a3) (h : RR s q) (hk : ∀ s' q', RR s' q' → k s' q' (x3 + 6) = some 1) : f_law_p525 k L xs s q x3 = some 1 := by
  obtain ⟨r, s', q', e1, e2, h'⟩ := op_claim h a1 a2 a3
  unfold f_law_p525
  refine (p_bE r1).trans ?_
  refine (p_bE r2).trans ?_
  refine (p_bE r3).trans ?_
  refine (p_bE e1).trans ?_
  refine (p_bE r1).trans ?_
  refine (p_bE r2).trans ?_
  refine (p_bE r3).trans ?_
  refine (p_bE e2).trans ?_
  exact p_ifE rfl (hk _ _ h')
theorem la_waive (r1 : x_rd L xs (x3 + (1 : Int32)) = some a1) (h : RR s q) (hk : ∀ s' q', RR s' q' → k s' q' (x3 + 6) = some 1) : f_law_p568 k L xs s q x3 = some 1 := by
  obtain ⟨r, s', q', e1, e2, h'⟩ := op_waive h a1
  unfold f_law_p568
  refine (p_bE r1).trans ?_
  refine (p_bE e1).trans ?_
  refine (p_bE r1).trans ?_
  refine (p_bE e2).trans ?_
  exact p_ifE rfl (hk _ _ h')
theorem la_amend (r1 : x_rd L xs (x3 + (1 : Int32)) = some a1) (r2 : x_rd L xs (x3 + (2 : Int32)) = some a2) (h : RR s q) (hk : ∀ s' q', RR s' q' → k s' q' (x3 + 6) = some 1) : f_law_p591 k L xs s q x3 = some 1 := by
  obtain ⟨r, s', q', e1, e2, h'⟩ := op_amend h a1 a2
  unfold f_law_p591
  refine (p_bE r1).trans ?_
  refine (p_bE r2).trans ?_
  refine (p_bE e1).trans ?_
  refine (p_bE r1).trans ?_
  refine (p_bE r2).trans ?_
  refine (p_bE e2).trans ?_
  exact p_ifE rfl (hk _ _ h')
theorem la_join (r1 : x_rd L xs (x3 + (1 : Int32)) = some a1) (r2 : x_rd L xs (x3 + (2 : Int32)) = some a2) (h : RR s q) (hk : ∀ s' q', RR s' q' → k s' q' (x3 + 6) = some 1) : f_law_p624 k L xs s q x3 = some 1 := by
  obtain ⟨r, s', q', e1, e2, h'⟩ := op_join h a1 a2
  unfold f_law_p624
  refine (p_bE r1).trans ?_
  refine (p_bE r2).trans ?_
  refine (p_bE e1).trans ?_
  refine (p_bE r1).trans ?_
  refine (p_bE r2).trans ?_
  refine (p_bE e2).trans ?_
  exact p_ifE rfl (hk _ _ h')
theorem la_swap (r1 : x_rd L xs (x3 + (1 : Int32)) = some a1) (r2 : x_rd L xs (x3 + (2 : Int32)) = some a2) (h : RR s q) (hk : ∀ s' q', RR s' q' → k s' q' (x3 + 6) = some 1) : f_law_p657 k L xs s q x3 = some 1 := by
  obtain ⟨r, s', q', e1, e2, h'⟩ := op_swap h a1 a2
  unfold f_law_p657
  refine (p_bE r1).trans ?_
  refine (p_bE r2).trans ?_
  refine (p_bE e1).trans ?_
  refine (p_bE r1).trans ?_
  refine (p_bE r2).trans ?_
  refine (p_bE e2).trans ?_
  exact p_ifE rfl (hk _ _ h')
theorem la_scale (r1 : x_rd L xs (x3 + (1 : Int32)) = some a1) (r2 : x_rd L xs (x3 + (2 : Int32)) = some a2) (h : RR s q) (hk : ∀ s' q', RR s' q' → k s' q' (x3 + 6) = some 1) : f_law_p690 k L xs s q x3 = some 1 := by
  obtain ⟨r, s', q', e1, e2, h'⟩ := op_scale h a1 a2
  unfold f_law_p690
  refine (p_bE r1).trans ?_
  refine (p_bE r2).trans ?_
  refine (p_bE e1).trans ?_
  refine (p_bE r1).trans ?_
  refine (p_bE r2).trans ?_
  refine (p_bE e2).trans ?_
  exact p_ifE rfl (hk _ _ h')
theorem la_split (r1 : x_rd L xs (x3 + (1 : Int32)) = some a1) (r2 : x_rd L xs (x3 + (2 : Int32)) = some a2) (h : RR s q) (hk : ∀ s' q', RR s' q' → k s' q' (x3 + 6) = some 1) : f_law_p723 k L xs s q x3 = some 1 := by
  obtain ⟨r, s', q', e1, e2, h'⟩ := op_split h a1 a2
  unfold f_law_p723
  refine (p_bE r1).trans ?_
  refine (p_bE r2).trans ?_
  refine (p_bE e1).trans ?_
  refine (p_bE r1).trans ?_
  refine (p_bE r2).trans ?_
  refine (p_bE e2).trans ?_
  exact p_ifE rfl (hk _ _ h')
theorem la_merge (r1 : x_rd L xs (x3 + (1 : Int32)) = some a1) (r2 : x_rd L xs (x3 + (2 : Int32)) = some a2) (h : RR s q) (hk : ∀ s' q', RR s' q' → k s' q' (x3 + 6) = some 1) : f_law_p756 k L xs s q x3 = some 1 := by
  obtain ⟨r, s', q', e1, e2, h'⟩ := op_merge h a1 a2
  unfold f_law_p756
  refine (p_bE r1).trans ?_
  refine (p_bE r2).trans ?_
  refine (p_bE e1).trans ?_
  refine (p_bE r1).trans ?_
  refine (p_bE r2).trans ?_
  refine (p_bE e2).trans ?_
  exact p_ifE rfl (hk _ _ h')
theorem la_cap (r1 : x_rd L xs (x3 + (1 : Int32)) = some a1) (h : RR s q) (hk : ∀ s' q', RR s' q' → k s' q' (x3 + 6) = some 1) : f_law_p789 k L xs s q x3 = some 1 := by
  obtain ⟨r, s', q', e1, e2, h'⟩ := op_cap h a1
  unfold f_law_p789
  refine (p_bE r1).trans ?_
  refine (p_bE e1).trans ?_
  refine (p_bE r1).trans ?_
  refine (p_bE e2).trans ?_
  exact p_ifE rfl (hk _ _ h')
theorem la_steady (r1 : x_rd L xs (x3 + (1 : Int32)) = some a1) (h : RR s q) (hk : ∀ s' q', RR s' q' → k s' q' (x3 + 6) = some 1) : f_law_p812 k L xs s q x3 = some 1 := by
  obtain ⟨r, s', q', e1, e2, h'⟩ := op_steady h a1
  unfold f_law_p812
  refine (p_bE r1).trans ?_
  refine (p_bE e1).trans ?_
  refine (p_bE r1).trans ?_
  refine (p_bE e2).trans ?_
  exact p_ifE rfl (hk _ _ h')
theorem la_undo  (h : RR s q) (hk : ∀ s' q', RR s' q' → k s' q' (x3 + 6) = some 1) : f_law_p835 k L xs s q x3 = some 1 := by
  obtain ⟨r, s', q', e1, e2, h'⟩ := op_undo h 
  unfold f_law_p835
  refine (p_bE e1).trans ?_
  refine (p_bE e2).trans ?_
  exact p_ifE rfl (hk _ _ h')
theorem la_of (r1 : x_rd L xs (x3 + (1 : Int32)) = some a1) (r2 : x_rd L xs (x3 + (2 : Int32)) = some a2) (h : RR s q) (hk : ∀ s' q', RR s' q' → k s' q' (x3 + 6) = some 1) : f_law_p848 k L xs s q x3 = some 1 := by
  obtain ⟨r, s', q', e1, e2, h'⟩ := op_of h a1 a2
  unfold f_law_p848
  refine (p_bE r1).trans ?_
  refine (p_bE r2).trans ?_
  refine (p_bE e1).trans ?_
  refine (p_bE r1).trans ?_
  refine (p_bE r2).trans ?_
  refine (p_bE e2).trans ?_
  exact p_ifE rfl (hk _ _ h')
theorem la_loss (r1 : x_rd L xs (x3 + (1 : Int32)) = some a1) (r2 : x_rd L xs (x3 + (2 : Int32)) = some a2) (h : RR s q) (hk : ∀ s' q', RR s' q' → k s' q' (x3 + 6) = some 1) : f_law_p881 k L xs s q x3 = some 1 := by
  obtain ⟨r, s', e1, e2, h'⟩ := op_loss h a1 a2
  unfold f_law_p881
  refine (p_bE r1).trans ?_
  refine (p_bE r2).trans ?_
  refine (p_bE e1).trans ?_
  refine (p_bE r1).trans ?_
  refine (p_bE r2).trans ?_
  refine (p_bE e2).trans ?_
  exact p_ifE rfl (hk _ _ h')
theorem la_claimOf (r1 : x_rd L xs (x3 + (1 : Int32)) = some a1) (r2 : x_rd L xs (x3 + (2 : Int32)) = some a2) (h : RR s q) (hk : ∀ s' q', RR s' q' → k s' q' (x3 + 6) = some 1) : f_law_p914 k L xs s q x3 = some 1 := by
  obtain ⟨r, e1, e2⟩ := op_claimOf h a1 a2
  unfold f_law_p914
  refine (p_bE r1).trans ?_
  refine (p_bE r2).trans ?_
  refine (p_bE e1).trans ?_
  refine (p_bE r1).trans ?_
  refine (p_bE r2).trans ?_
  refine (p_bE e2).trans ?_
  exact p_ifE rfl (hk _ _ h)
theorem la_group (r1 : x_rd L xs (x3 + (1 : Int32)) = some a1) (r2 : x_rd L xs (x3 + (2 : Int32)) = some a2) (h : RR s q) (hk : ∀ s' q', RR s' q' → k s' q' (x3 + 6) = some 1) : f_law_p947 k L xs s q x3 = some 1 := by
  obtain ⟨r, s', q', e1, e2, h'⟩ := op_group h a1 a2
  unfold f_law_p947
  refine (p_bE r1).trans ?_
  refine (p_bE r2).trans ?_
  refine (p_bE e1).trans ?_
  refine (p_bE r1).trans ?_
  refine (p_bE r2).trans ?_
  refine (p_bE e2).trans ?_
  exact p_ifE rfl (hk _ _ h')
theorem la_spread (r1 : x_rd L xs (x3 + (1 : Int32)) = some a1) (r2 : x_rd L xs (x3 + (2 : Int32)) = some a2) (r3 : x_rd L xs (x3 + (3 : Int32)) = some a3) (h : RR s q) (hk : ∀ s' q', RR s' q' → k s' q' (x3 + 6) = some 1) : f_law_p980 k L xs s q x3 = some 1 := by
  have key : ∀ y : Int32, (a3 = 0 ∧ y = 0 ∨ ¬ a3 = 0 ∧ y = 1) → f_law_p1004 k L xs s q x3 a1 a2 y = some 1 := by
    intro y hy
    obtain ⟨r, s', q', e1, e2, h'⟩ := op_spread h a1 a2 y
    unfold f_law_p1004
    refine (p_bE e1).trans ?_
    refine (p_bE r1).trans ?_
    refine (p_bE r2).trans ?_
    refine (p_bE r3).trans ?_
    have e3 : f_law_p1031 k L xs s' q x3 r a1 a2 y = some 1 := by
      unfold f_law_p1031
      refine (p_bE e2).trans ?_
      exact p_ifE (lg_self r) (hk _ _ h')
    rcases hy with ⟨h1, rfl⟩ | ⟨h1, rfl⟩
    · exact (if_pos h1).trans e3
    · exact (if_neg h1).trans e3
  unfold f_law_p980
  refine (p_bE r1).trans ?_
  refine (p_bE r2).trans ?_
  refine (p_bE r3).trans ?_
  by_cases c : a3 = 0
  · exact (if_pos c).trans (key 0 (Or.inl ⟨c, rfl⟩))
  · exact (if_neg c).trans (key 1 (Or.inr ⟨c, rfl⟩))
theorem la_whole (r1 : x_rd L xs (x3 + (1 : Int32)) = some a1) (h : RR s q) (hk : ∀ s' q', RR s' q' → k s' q' (x3 + 6) = some 1) : f_law_p1040 k L xs s q x3 = some 1 := by
  have key : ∀ y : Int32, (a1 = 0 ∧ y = 0 ∨ ¬ a1 = 0 ∧ y = 1) → f_law_p1054 k L xs s q x3  y = some 1 := by
    intro y hy
    obtain ⟨r, s', q', e1, e2, h'⟩ := op_whole h  y
    unfold f_law_p1054
    refine (p_bE e1).trans ?_
    refine (p_bE r1).trans ?_
    have e3 : f_law_p1071 k L xs s' q x3 r  y = some 1 := by
      unfold f_law_p1071
      refine (p_bE e2).trans ?_
      exact p_ifE (lg_self r) (hk _ _ h')
    rcases hy with ⟨h1, rfl⟩ | ⟨h1, rfl⟩
    · exact (if_pos h1).trans e3
    · exact (if_neg h1).trans e3
  unfold f_law_p1040
  refine (p_bE r1).trans ?_
  by_cases c : a1 = 0
  · exact (if_pos c).trans (key 0 (Or.inl ⟨c, rfl⟩))
  · exact (if_neg c).trans (key 1 (Or.inr ⟨c, rfl⟩))
theorem la_rate (r1 : x_rd L xs (x3 + (1 : Int32)) = some a1) (r2 : x_rd L xs (x3 + (2 : Int32)) = some a2) (h : RR s q) (hk : ∀ s' q', RR s' q' → k s' q' (x3 + 6) = some 1) : f_law_p1080 k L xs s q x3 = some 1 := by
  have key : ∀ y : Int32, (a2 = 0 ∧ y = 0 ∨ ¬ a2 = 0 ∧ y = 1) → f_law_p1099 k L xs s q x3 a1 y = some 1 := by
    intro y hy
    obtain ⟨r, s', q', e1, e2, h'⟩ := op_rate h a1 y
    unfold f_law_p1099
    refine (p_bE e1).trans ?_
    refine (p_bE r1).trans ?_
    refine (p_bE r2).trans ?_
    have e3 : f_law_p1121 k L xs s' q x3 r a1 y = some 1 := by
      unfold f_law_p1121
      refine (p_bE e2).trans ?_
      exact p_ifE (lg_self r) (hk _ _ h')
    rcases hy with ⟨h1, rfl⟩ | ⟨h1, rfl⟩
    · exact (if_pos h1).trans e3
    · exact (if_neg h1).trans e3
  unfold f_law_p1080
  refine (p_bE r1).trans ?_
  refine (p_bE r2).trans ?_
  by_cases c : a2 = 0
  · exact (if_pos c).trans (key 0 (Or.inl ⟨c, rfl⟩))
  · exact (if_neg c).trans (key 1 (Or.inr ⟨c, rfl⟩))
theorem la_thousandths (r1 : x_rd L xs (x3 + (1 : Int32)) = some a1) (h : RR s q) (hk : ∀ s' q', RR s' q' → k s' q' (x3 + 6) = some 1) : f_law_p1130 k L xs s q x3 = some 1 := by
  obtain ⟨r, s', q', e1, e2, h'⟩ := op_thousandths h a1
  unfold f_law_p1130
  refine (p_bE r1).trans ?_
  refine (p_bE e1).trans ?_
  refine (p_bE r1).trans ?_
  refine (p_bE e2).trans ?_
  exact p_ifE rfl (hk _ _ h')
theorem la_ranked (r1 : x_rd L xs (x3 + (1 : Int32)) = some a1) (h : RR s q) (hk : ∀ s' q', RR s' q' → k s' q' (x3 + 6) = some 1) : f_law_p1153 k L xs s q x3 = some 1 := by
  obtain ⟨r, s', q', e1, e2, h'⟩ := op_ranked h a1
  unfold f_law_p1153
  refine (p_bE r1).trans ?_
  refine (p_bE e1).trans ?_
  refine (p_bE r1).trans ?_
  refine (p_bE e2).trans ?_
  exact p_ifE rfl (hk _ _ h')
theorem la_greatest (r1 : x_rd L xs (x3 + (1 : Int32)) = some a1) (r2 : x_rd L xs (x3 + (2 : Int32)) = some a2) (h : RR s q) (hk : ∀ s' q', RR s' q' → k s' q' (x3 + 6) = some 1) : f_law_p1176 k L xs s q x3 = some 1 := by
  obtain ⟨r, e1, e2⟩ := op_greatest h a1 a2
  unfold f_law_p1176
  refine (p_bE r1).trans ?_
  refine (p_bE r2).trans ?_
  refine (p_bE e1).trans ?_
  refine (p_bE r1).trans ?_
  refine (p_bE r2).trans ?_
  refine (p_bE e2).trans ?_
  exact p_ifE rfl (hk _ _ h)
theorem la_worst (r1 : x_rd L xs (x3 + (1 : Int32)) = some a1) (h : RR s q) (hk : ∀ s' q', RR s' q' → k s' q' (x3 + 6) = some 1) : f_law_p1209 k L xs s q x3 = some 1 := by
  obtain ⟨r, s', e1, e2, h'⟩ := op_worst h a1
  unfold f_law_p1209
  refine (p_bE r1).trans ?_
  refine (p_bE e1).trans ?_
  refine (p_bE r1).trans ?_
  refine (p_bE e2).trans ?_
  exact p_ifE rfl (hk _ _ h')
theorem la_dearestOf (r1 : x_rd L xs (x3 + (1 : Int32)) = some a1) (h : RR s q) (hk : ∀ s' q', RR s' q' → k s' q' (x3 + 6) = some 1) : f_law_p1232 k L xs s q x3 = some 1 := by
  obtain ⟨r, s', q', e1, e2, h'⟩ := op_dearestOf h a1
  unfold f_law_p1232
  refine (p_bE r1).trans ?_
  refine (p_bE e1).trans ?_
  refine (p_bE r1).trans ?_
  refine (p_bE e2).trans ?_
  exact p_ifE rfl (hk _ _ h')
theorem la_claimsIn (r1 : x_rd L xs (x3 + (1 : Int32)) = some a1) (h : RR s q) (hk : ∀ s' q', RR s' q' → k s' q' (x3 + 6) = some 1) : f_law_p1255 k L xs s q x3 = some 1 := by
  obtain ⟨r, e1, e2⟩ := op_claimsIn h a1
  unfold f_law_p1255
  refine (p_bE r1).trans ?_
  refine (p_bE e1).trans ?_
  refine (p_bE r1).trans ?_
  refine (p_bE e2).trans ?_
  exact p_ifE rfl (hk _ _ h)
theorem la_gap (r1 : x_rd L xs (x3 + (1 : Int32)) = some a1) (r2 : x_rd L xs (x3 + (2 : Int32)) = some a2) (h : RR s q) (hk : ∀ s' q', RR s' q' → k s' q' (x3 + 6) = some 1) : f_law_p1278 k L xs s q x3 = some 1 := by
  obtain ⟨r, s', q', e1, e2, h'⟩ := op_gap h a1 a2
  unfold f_law_p1278
  refine (p_bE r1).trans ?_
  refine (p_bE r2).trans ?_
  refine (p_bE e1).trans ?_
  refine (p_bE r1).trans ?_
  refine (p_bE r2).trans ?_
  refine (p_bE e2).trans ?_
  exact p_ifE rfl (hk _ _ h')
theorem la_premium (r1 : x_rd L xs (x3 + (1 : Int32)) = some a1) (r2 : x_rd L xs (x3 + (2 : Int32)) = some a2) (h : RR s q) (hk : ∀ s' q', RR s' q' → k s' q' (x3 + 6) = some 1) : f_law_p1311 k L xs s q x3 = some 1 := by
  obtain ⟨r, s', q', e1, e2, h'⟩ := op_premium h a1 a2
  unfold f_law_p1311
  refine (p_bE r1).trans ?_
  refine (p_bE r2).trans ?_
  refine (p_bE e1).trans ?_
  refine (p_bE r1).trans ?_
  refine (p_bE r2).trans ?_
  refine (p_bE e2).trans ?_
  exact p_ifE rfl (hk _ _ h')
theorem la_shareBy (r1 : x_rd L xs (x3 + (1 : Int32)) = some a1) (r2 : x_rd L xs (x3 + (2 : Int32)) = some a2) (h : RR s q) (hk : ∀ s' q', RR s' q' → k s' q' (x3 + 6) = some 1) : f_law_p1344 k L xs s q x3 = some 1 := by
  obtain ⟨r, s', q', e1, e2, h'⟩ := op_shareBy h a1 a2
  unfold f_law_p1344
  refine (p_bE r1).trans ?_
  refine (p_bE r2).trans ?_
  refine (p_bE e1).trans ?_
  refine (p_bE r1).trans ?_
  refine (p_bE r2).trans ?_
  refine (p_bE e2).trans ?_
  exact p_ifE rfl (hk _ _ h')
theorem la_yearsFor (r1 : x_rd L xs (x3 + (1 : Int32)) = some a1) (r2 : x_rd L xs (x3 + (2 : Int32)) = some a2) (h : RR s q) (hk : ∀ s' q', RR s' q' → k s' q' (x3 + 6) = some 1) : f_law_p1377 k L xs s q x3 = some 1 := by
  obtain ⟨r, s', q', e1, e2, h'⟩ := op_yearsFor h a1 a2
  unfold f_law_p1377
  refine (p_bE r1).trans ?_
  refine (p_bE r2).trans ?_
  refine (p_bE e1).trans ?_
  refine (p_bE r1).trans ?_
  refine (p_bE r2).trans ?_
  refine (p_bE e2).trans ?_
  exact p_ifE rfl (hk _ _ h')
theorem la_inClass (r1 : x_rd L xs (x3 + (1 : Int32)) = some a1) (r2 : x_rd L xs (x3 + (2 : Int32)) = some a2) (h : RR s q) (hk : ∀ s' q', RR s' q' → k s' q' (x3 + 6) = some 1) : f_law_p1410 k L xs s q x3 = some 1 := by
  obtain ⟨r, s', q', e1, e2, h'⟩ := op_inClass h a1 a2
  unfold f_law_p1410
  refine (p_bE r1).trans ?_
  refine (p_bE r2).trans ?_
  refine (p_bE e1).trans ?_
  refine (p_bE r1).trans ?_
  refine (p_bE r2).trans ?_
  refine (p_bE e2).trans ?_
  exact p_ifE rfl (hk _ _ h')
theorem la_bestClass (r1 : x_rd L xs (x3 + (1 : Int32)) = some a1) (h : RR s q) (hk : ∀ s' q', RR s' q' → k s' q' (x3 + 6) = some 1) : f_law_p1443 k L xs s q x3 = some 1 := by
  obtain ⟨r, s', q', e1, e2, h'⟩ := op_bestClass h a1
  unfold f_law_p1443
  refine (p_bE r1).trans ?_
  refine (p_bE e1).trans ?_
  refine (p_bE r1).trans ?_
  refine (p_bE e2).trans ?_
  exact p_ifE rfl (hk _ _ h')
theorem la_byCap (r1 : x_rd L xs (x3 + (1 : Int32)) = some a1) (r2 : x_rd L xs (x3 + (2 : Int32)) = some a2) (h : RR s q) (hk : ∀ s' q', RR s' q' → k s' q' (x3 + 6) = some 1) : f_law_p1466 k L xs s q x3 = some 1 := by
  obtain ⟨r, s', q', e1, e2, h'⟩ := op_byCap h a1 a2
  unfold f_law_p1466
  refine (p_bE r1).trans ?_
  refine (p_bE r2).trans ?_
  refine (p_bE e1).trans ?_
  refine (p_bE r1).trans ?_
  refine (p_bE r2).trans ?_
  refine (p_bE e2).trans ?_
  exact p_ifE rfl (hk _ _ h')
theorem la_capFor (r1 : x_rd L xs (x3 + (1 : Int32)) = some a1) (h : RR s q) (hk : ∀ s' q', RR s' q' → k s' q' (x3 + 6) = some 1) : f_law_p1499 k L xs s q x3 = some 1 := by
  obtain ⟨r, s', q', e1, e2, h'⟩ := op_capFor h a1
  unfold f_law_p1499
  refine (p_bE r1).trans ?_
  refine (p_bE e1).trans ?_
  refine (p_bE r1).trans ?_
  refine (p_bE e2).trans ?_
  exact p_ifE rfl (hk _ _ h')
theorem la_early (r1 : x_rd L xs (x3 + (1 : Int32)) = some a1) (r2 : x_rd L xs (x3 + (2 : Int32)) = some a2) (h : RR s q) (hk : ∀ s' q', RR s' q' → k s' q' (x3 + 6) = some 1) : f_law_p1522 k L xs s q x3 = some 1 := by
  obtain ⟨r, s', q', e1, e2, h'⟩ := op_early h a1 a2
  unfold f_law_p1522
  refine (p_bE r1).trans ?_
  refine (p_bE r2).trans ?_
  refine (p_bE e1).trans ?_
  refine (p_bE r1).trans ?_
  refine (p_bE r2).trans ?_
  refine (p_bE e2).trans ?_
  exact p_ifE rfl (hk _ _ h')
theorem la_earlyShare (r1 : x_rd L xs (x3 + (1 : Int32)) = some a1) (r2 : x_rd L xs (x3 + (2 : Int32)) = some a2) (h : RR s q) (hk : ∀ s' q', RR s' q' → k s' q' (x3 + 6) = some 1) : f_law_p1555 k L xs s q x3 = some 1 := by
  obtain ⟨r, s', q', e1, e2, h'⟩ := op_earlyShare h a1 a2
  unfold f_law_p1555
  refine (p_bE r1).trans ?_
  refine (p_bE r2).trans ?_
  refine (p_bE e1).trans ?_
  refine (p_bE r1).trans ?_
  refine (p_bE r2).trans ?_
  refine (p_bE e2).trans ?_
  exact p_ifE rfl (hk _ _ h')
theorem la_withoutFleet (r1 : x_rd L xs (x3 + (1 : Int32)) = some a1) (r2 : x_rd L xs (x3 + (2 : Int32)) = some a2) (h : RR s q) (hk : ∀ s' q', RR s' q' → k s' q' (x3 + 6) = some 1) : f_law_p1588 k L xs s q x3 = some 1 := by
  obtain ⟨r, s', q', e1, e2, h'⟩ := op_withoutFleet h a1 a2
  unfold f_law_p1588
  refine (p_bE r1).trans ?_
  refine (p_bE r2).trans ?_
  refine (p_bE e1).trans ?_
  refine (p_bE r1).trans ?_
  refine (p_bE r2).trans ?_
  refine (p_bE e2).trans ?_
  exact p_ifE rfl (hk _ _ h')
theorem la_joined (r1 : x_rd L xs (x3 + (1 : Int32)) = some a1) (r2 : x_rd L xs (x3 + (2 : Int32)) = some a2) (r3 : x_rd L xs (x3 + (3 : Int32)) = some a3) (r4 : x_rd L xs (x3 + (4 : Int32)) = some a4) (h : RR s q) (hk : ∀ s' q', RR s' q' → k s' q' (x3 + 6) = some 1) : f_law_p1621 k L xs s q x3 = some 1 := by
  have key : ∀ y : Int32, (a4 = 0 ∧ y = 0 ∨ ¬ a4 = 0 ∧ y = 1) → f_law_p1650 k L xs s q x3 a1 a2 a3 y = some 1 := by
    intro y hy
    obtain ⟨r, s', q', e1, e2, h'⟩ := op_joined h a1 a2 a3 y
    unfold f_law_p1650
    refine (p_bE e1).trans ?_
    refine (p_bE r1).trans ?_
    refine (p_bE r2).trans ?_
    refine (p_bE r3).trans ?_
    refine (p_bE r4).trans ?_
    have e3 : f_law_p1682 k L xs s' q x3 r a1 a2 a3 y = some 1 := by
      unfold f_law_p1682
      refine (p_bE e2).trans ?_
      exact p_ifE (lg_self r) (hk _ _ h')
    rcases hy with ⟨h1, rfl⟩ | ⟨h1, rfl⟩
    · exact (if_pos h1).trans e3
    · exact (if_neg h1).trans e3
  unfold f_law_p1621
  refine (p_bE r1).trans ?_
  refine (p_bE r2).trans ?_
  refine (p_bE r3).trans ?_
  refine (p_bE r4).trans ?_
  by_cases c : a4 = 0
  · exact (if_pos c).trans (key 0 (Or.inl ⟨c, rfl⟩))
  · exact (if_neg c).trans (key 1 (Or.inr ⟨c, rfl⟩))
theorem la_withoutClaim (r1 : x_rd L xs (x3 + (1 : Int32)) = some a1) (r2 : x_rd L xs (x3 + (2 : Int32)) = some a2) (h : RR s q) (hk : ∀ s' q', RR s' q' → k s' q' (x3 + 6) = some 1) : f_law_p1691 k L xs s q x3 = some 1 := by
  obtain ⟨r, s', q', e1, e2, h'⟩ := op_withoutClaim h a1 a2
  unfold f_law_p1691
  refine (p_bE r1).trans ?_
  refine (p_bE r2).trans ?_
  refine (p_bE e1).trans ?_
  refine (p_bE r1).trans ?_
  refine (p_bE r2).trans ?_
  refine (p_bE e2).trans ?_
  exact p_ifE rfl (hk _ _ h')
theorem la_dearest  (h : RR s q) (hk : ∀ s' q', RR s' q' → k s' q' (x3 + 6) = some 1) : f_law_p1724 k L xs s q x3 = some 1 := by
  obtain ⟨r, s', q', e1, e2, h'⟩ := op_dearest h 
  unfold f_law_p1724
  refine (p_bE e1).trans ?_
  refine (p_bE e2).trans ?_
  exact p_ifE rfl (hk _ _ h')
theorem la_report (r1 : x_rd L xs (x3 + (1 : Int32)) = some a1) (r2 : x_rd L xs (x3 + (2 : Int32)) = some a2) (h : RR s q) (hk : ∀ s' q', RR s' q' → k s' q' (x3 + 6) = some 1) : f_law_p1737 k L xs s q x3 = some 1 := by
  obtain ⟨r, s', q', e1, e2, h'⟩ := op_report h a1 a2
  unfold f_law_p1737
  refine (p_bE r1).trans ?_
  refine (p_bE r2).trans ?_
  refine (p_bE e1).trans ?_
  refine (p_bE r1).trans ?_
  refine (p_bE r2).trans ?_
  refine (p_bE e2).trans ?_
  exact p_ifE rfl (hk _ _ h')
theorem la_spell (r1 : x_rd L xs (x3 + (1 : Int32)) = some a1) (h : RR s q) (hk : ∀ s' q', RR s' q' → k s' q' (x3 + 6) = some 1) : f_law_p1770 k L xs s q x3 = some 1 := by
  obtain ⟨r, s', q', e1, e2, h'⟩ := op_spell h a1
  unfold f_law_p1770
  refine (p_bE r1).trans ?_
  refine (p_bE e1).trans ?_
  refine (p_bE r1).trans ?_
  refine (p_bE e2).trans ?_
  exact p_ifE rfl (hk _ _ h')
theorem la_count (r1 : x_rd L xs (x3 + (1 : Int32)) = some a1) (h : RR s q) (hk : ∀ s' q', RR s' q' → k s' q' (x3 + 6) = some 1) : f_law_p1793 k L xs s q x3 = some 1 := by
  obtain ⟨r, e1, e2⟩ := op_count h a1
  unfold f_law_p1793
  refine (p_bE r1).trans ?_
  refine (p_bE e1).trans ?_
  refine (p_bE r1).trans ?_
  refine (p_bE e2).trans ?_
  exact p_ifE rfl (hk _ _ h)
end LA
theorem la_step {k : S7 → S8 → Int32 → Option Int32} {L : Nat} {xs : Nat → Int32} {s : S7} {q : S8} {x3 a0 a1 a2 a3 a4 a5 : Int32} (r0 : x_rd L xs x3 = some a0) (r1 : x_rd L xs (x3 + (1 : Int32)) = some a1) (r2 : x_rd L xs (x3 + (2 : Int32)) = some a2) (r3 : x_rd L xs (x3 + (3 : Int32)) = some a3) (r4 : x_rd L xs (x3 + (4 : Int32)) = some a4) (r5 : x_rd L xs (x3 + (5 : Int32)) = some a5) (h : RR s q) (hk : ∀ s' q', RR s' q' → k s' q' (x3 + 6) = some 1) (hl : ¬ ((Int32.ofNat L) - (6 : Int32)) < x3) : f_law_p18 k L xs s q x3 = some 1 := by
  unfold f_law_p18
  rw [if_neg hl]
  refine (p_bE r0).trans ?_
  exact p_both (la_feed r1 r2 r3 r4 r5 h hk) (p_both (la_back r1 h hk) (p_both (la_text h hk) (p_both (la_fleet r1 r2 h hk) (p_both (la_leave r1 h hk) (p_both (la_move r1 r2 h hk) (p_both (la_insure r1 r2 h hk) (p_both (la_lapse r1 r2 h hk) (p_both (la_forget r1 h hk) (p_both (la_claim r1 r2 r3 h hk) (p_both (la_waive r1 h hk) (p_both (la_amend r1 r2 h hk) (p_both (la_join r1 r2 h hk) (p_both (la_swap r1 r2 h hk) (p_both (la_scale r1 r2 h hk) (p_both (la_split r1 r2 h hk) (p_both (la_merge r1 r2 h hk) (p_both (la_cap r1 h hk) (p_both (la_steady r1 h hk) (p_both (la_undo h hk) (p_both (la_of r1 r2 h hk) (p_both (la_loss r1 r2 h hk) (p_both (la_claimOf r1 r2 h hk) (p_both (la_group r1 r2 h hk) (p_both (la_spread r1 r2 r3 h hk) (p_both (la_whole r1 h hk) (p_both (la_rate r1 r2 h hk) (p_both (la_thousandths r1 h hk) (p_both (la_ranked r1 h hk) (p_both (la_greatest r1 r2 h hk) (p_both (la_worst r1 h hk) (p_both (la_dearestOf r1 h hk) (p_both (la_claimsIn r1 h hk) (p_both (la_gap r1 r2 h hk) (p_both (la_premium r1 r2 h hk) (p_both (la_shareBy r1 r2 h hk) (p_both (la_yearsFor r1 r2 h hk) (p_both (la_inClass r1 r2 h hk) (p_both (la_bestClass r1 h hk) (p_both (la_byCap r1 r2 h hk) (p_both (la_capFor r1 h hk) (p_both (la_early r1 r2 h hk) (p_both (la_earlyShare r1 r2 h hk) (p_both (la_withoutFleet r1 r2 h hk) (p_both (la_joined r1 r2 r3 r4 h hk) (p_both (la_withoutClaim r1 r2 h hk) (p_both (la_dearest h hk) (p_both (la_report r1 r2 h hk) (p_both (la_spell r1 h hk) (p_both (la_count r1 h hk) (hk s q h))))))))))))))))))))))))))))))))))))))))))))))))))
theorem la_loop {L : Nat} (hL : L ≤ 3072) (xs : Nat → Int32) {s : S7} {q : S8} (h : RR s q) : lp_law_p18 L xs s q 0 = some 1 := by
  unfold lp_law_p18
  have key := p_forI (body := fun (k : S7 × S8 × Int32 → Option Int32) (z : S7 × S8 × Int32) => f_law_p18 (fun s q x3 => k (s, q, x3)) L xs z.1 z.2.1 z.2.2) (L / 6) (fun i z => ∃ s' q', z = (s', q', nI (6 * i)) ∧ RR s' q') (fun r => r = 1) (by omega) (fun i k z hi hI ih => ?_) (fun k z hI => ?_) 0 (s, q, nI 0) (Nat.zero_le _) ⟨s, q, rfl, h⟩
  · obtain ⟨r, e, rfl⟩ := key
    exact e
  · obtain ⟨s', q', rfl, h'⟩ := hI
    have hr : ∀ j : Nat, j < 6 → x_rd L xs (nI (6 * i) + nI j) = some (xs (6 * i + j)) := fun j hj => by
      rw [nI_add]; exact p_rd (by omega) (by omega)
    refine ⟨1, ?_, rfl⟩
    refine la_step (a0 := xs (6 * i)) (p_rd (by omega) (by omega)) (hr 1 (by decide)) (hr 2 (by decide)) (hr 3 (by decide)) (hr 4 (by decide)) (hr 5 (by decide)) h' (fun s2 q2 h2 => ?_) ?_
    · obtain ⟨r, e, rfl⟩ := ih (s2, q2, nI (6 * (i + 1))) ⟨s2, q2, rfl, h2⟩
      rw [show nI (6 * i) + (6 : Int32) = nI (6 * (i + 1)) from nI_add _ 6]
      exact e
    · show ¬ nI L - nI 6 < nI (6 * i)
      rw [pk_sub (by omega), p_lt (by omega) (by omega)]
      omega
  · obtain ⟨s', q', rfl, h'⟩ := hI
    refine ⟨1, ?_, rfl⟩
    dsimp only
    unfold f_law_p18
    refine if_pos ?_
    show nI L - nI 6 < nI (6 * (L / 6))
    by_cases c : 6 ≤ L
    · rw [pk_sub c, p_lt (by omega) (by omega)]
      omega
    · have : L = 0 ∨ L = 1 ∨ L = 2 ∨ L = 3 ∨ L = 4 ∨ L = 5 := by omega
      rcases this with rfl | rfl | rfl | rfl | rfl | rfl <;> decide
theorem RR_0 {z : Nat → Int32} (hz : f_X8_starts (fun _ => 0) = some z) : RR i7 (i8 z) := by
  obtain ⟨w, e1, e2⟩ := m_starts (fun _ => 0)
  rw [e1] at hz
  have e3 := Option.some.inj hz
  subst e3
  refine ⟨(B0, [], []), ⟨⟨ok_B0.1, rfl, rfl, rfl, rfl, fun i f hf => by simp at hf, fun j c hc => by simp at hc⟩, ok_B0, ⟨by show 0 ≤ 12; omega, rfl, 0, by omega, rfl, fun k B hk => by simp at hk⟩, fun B hB => (by cases hB), ⟨by show 0 ≤ 700; omega, fun x hx => (by cases hx), rfl, fun i x hx => by simp at hx⟩⟩, ⟨e2, ⟨by show 0 ≤ 12; omega, rfl, fun k B hk => by simp at hk⟩, ⟨by show 0 ≤ 700; omega, fun x hx => (by cases hx), rfl, fun i x hx => by simp at hx⟩, rfl⟩⟩
theorem pure_law {L : Nat} (hL : L ≤ 3072) (xs : Nat → Int32) : ∃ z, f_X8_starts (fun _ => 0) = some z ∧ lp_law_p18 L xs i7 (i8 z) 0 = some 1 := by
  obtain ⟨w, e1, -⟩ := m_starts (fun _ => 0)
  exact ⟨w, e1, la_loop hL xs (RR_0 e1)⟩
