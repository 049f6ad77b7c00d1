/-! PURE: text, in both -/
abbrev B0 : Bk := ([], [], 99, 5)
theorem ok_B0 : okB B0 := by
  refine ⟨⟨by decide, by decide, fun f hf => (by cases hf), fun c hc => (by cases hc), by decide, by decide⟩, by decide, fun c hc => (by cases hc), fun f y => ?_⟩
  show cnt _ [] ≤ 4
  unfold cnt
  simp
theorem c_clear0 (b : S0) : ∃ b', f_X0_clear b = some b' ∧ rC b' B0 := by
  refine ⟨_, rfl, ok_B0.1, rfl, rfl, rfl, rfl, fun i f hf => by simp at hf, fun j c hc => by simp at hc⟩
theorem m_starts (r0 : Nat → Int32) : ∃ w, f_X8_starts r0 = some w ∧ rM w B0 := by
  unfold f_X8_starts lp_X8_starts_p2
  have key := p_forI (body := fun (k : (Nat → Int32) × Int32 → Option ((Nat → Int32))) (z : (Nat → Int32) × Int32) => f_X8_starts_p2 (fun s x1 => k (s, x1)) z.1 z.2) 140 (fun i s => ∃ w : Nat → Int32, s = (w, nI i) ∧ ∀ j, j < i → w j = 0) (fun w => rM w B0) (by omega) (fun i k s hi hI ih => ?_) (fun k s hI => ?_) 0 (r0, nI 0) (Nat.zero_le _) ⟨r0, rfl, fun j hj => by omega⟩
  · exact key
  · obtain ⟨w, rfl, hw⟩ := hI
    dsimp only
    unfold f_X8_starts_p2
    rw [if_neg (by rw [show (140 : Int32) = nI 140 from rfl, p_le (by omega) (by omega)]; omega), p_wr hi (by decide), p_bind, nI_1]
    refine ih _ ⟨_, rfl, fun j hj => ?_⟩
    rw [u_at]
    split
    · rfl
    · exact hw j (by omega)
  · obtain ⟨w, rfl, hw⟩ := hI
    dsimp only
    unfold f_X8_starts_p2
    rw [if_pos (by rw [show (140 : Int32) = nI 140 from rfl, p_le (by omega) (by omega)]; omega), show x_wr 140 w 0 99 = some (upd w 0 99) from p_wr (i := 0) (by decide) (by decide), p_bind, show x_wr 140 (upd w 0 99) 1 5 = some (upd (upd w 0 99) 1 5) from p_wr (i := 1) (by decide) (by decide), p_bind]
    refine ⟨_, rfl, ok_B0.1, ?_, ?_, ?_, ?_, fun i f hf => by simp at hf, fun j c hc => by simp at hc⟩
    · rw [u_at, if_neg (by omega), u_at, if_pos rfl]; rfl
    · rw [u_at, if_pos rfl]; rfl
    · rw [u_at, if_neg (by omega), u_at, if_neg (by omega), hw 2 (by omega)]; rfl
    · rw [u_at, if_neg (by omega), u_at, if_neg (by omega), hw 3 (by omega)]; rfl
noncomputable abbrev bR : (S6 × S0 × Int32 → Option (Int32 × S6 × S0)) → S6 × S0 × Int32 → Option (Int32 × S6 × S0) := fun k z => f_X6_readInto_p20 (fun s q x2 => k (s, q, x2)) z.1 z.2.1 z.2.2
noncomputable abbrev bT : (S8 → Option (Int32 × S8)) → S8 → Option (Int32 × S8) := fun k z => f_X8_text_p26 (fun s => k s) z
theorem l_R (m : Nat) (t : S6) (b : S0) (x : Int32) : x_loop bR (m + 1) (t, b, x) = f_X6_readInto_p20 (fun s q x2 => x_loop bR m (s, q, x2)) t b x := rfl
theorem l_T (m : Nat) (s : S8) : x_loop bT (m + 1) s = f_X8_text_p26 (fun s => x_loop bT m s) s := rfl
theorem kd_stop {T : List Nat} {a : Nat} (hl : a ≤ T.length) : (T.length ≤ nb T a → kd T a false = (0, nb T a)) ∧ (¬ T.length ≤ nb T a → ¬ (kd T a false).1 = 0) := by
  have n1 := nb_le hl
  unfold kd kd0
  refine ⟨fun z => by rw [List.getElem?_eq_none z], fun z => ?_⟩
  obtain ⟨x, hx, -⟩ := p_at (l := T) (i := nb T a) (by omega)
  rw [hx]
  dsimp only
  split
  · dsimp only; split <;> omega
  · split
    · dsimp only
      split
      · omega
      · split <;> omega
    · split
      · show ¬ 3 = 0; omega
      · show ¬ 4 = 0; omega
theorem kd_f {T : List Nat} {a : Nat} (hl : a ≤ T.length) : kd T (nb T a) false = kd T a false := by
  unfold kd
  rw [nb_nb hl]
  rfl
theorem AT_f {q : S8} {r : Nat → Int32} {T : List Nat} {a : Nat} {v : Int32} (hl : a ≤ T.length) : AT q r T a false v = AT q r T (nb T a) false v := by
  unfold AT
  rw [kd_f hl, nb_nb hl]
theorem NV_f {T : List Nat} {a : Nat} {v : Int32} (hl : a ≤ T.length) (h : NV T a false v) : NV T (nb T a) false v := by
  unfold NV at h ⊢
  rw [kd_f hl, nv_nb hl]
  exact h
/-- how both end -/
def TE (T : List Nat) (q : S8) (F : Int32) (t : S6) (b : S0) (z : S8) : Prop := rT t T ∧ ((F = -1 ∧ ∃ (B : Bk) (r : Nat → Int32) (x v e k : Int32), rC b B ∧ okB B ∧ rM r B ∧ z = Z q r x v e k 0) ∨ ∃ (f : Nat) (r : Nat → Int32) (v e k : Int32), f ≤ T.length ∧ F = nI f ∧ z = Z q r (nI f) v e k 1)
theorem txt_loop {q : S8} {T : List Nat} (hu : rU (g8_tape q) (g8_taped q) T) (hw : g8_words q = x_words) : ∀ (d a told : Nat) (t : S6) (b : S0) (B : Bk) (r : Nat → Int32) (v : Int32) (m n : Nat), T.length < a + d → told ≤ a → OKT t T a → nb T a = a → rC b B → okB B → rM r B → d + 1 ≤ m → d + 1 ≤ n → ∃ F t1 b1 q1, x_loop bR m (t, b, nI told) = some (F, t1, b1) ∧ x_loop bT n (AT q r T a false v) = f_X8_text_p47 q1 ∧ TE T q F t1 b1 q1 := by
  intro d
  induction d with
  | zero =>
    intro a told t b B r v m n h1 h2 h3
    have := h3.2.1
    omega
  | succ d ih =>
    intro a told t b B r v m n h1 h2 h3 h4 h5 h6 h7 h8 h9
    obtain ⟨m, rfl⟩ : ∃ m', m = m' + 1 + 1 := ⟨m - 2, by omega⟩
    obtain ⟨n, rfl⟩ : ∃ n', n = n' + 1 + 1 := ⟨n - 2, by omega⟩
    obtain ⟨o1, o2, o3, o4⟩ := id h3
    have h700 := o1.1
    obtain ⟨s1, s2⟩ := kd_stop o2
    have k3 := (kd_le false o2).2.2
    rw [h4] at s1 s2
    rw [l_R, l_T]
    by_cases c : T.length ≤ a
    · refine ⟨-1, t, b, AT q r T a false v, ?_, ?_, o1, Or.inl ⟨rfl, B, r, nI (nb T a), v, nI (kd T a false).2, nI (kd T a false).1, h5, h6, h7, rfl⟩⟩
      · unfold f_X6_readInto_p20
        rw [o1.2.2.1, o3, o4, if_pos (show nI T.length ≤ nI a by rw [p_le (by omega) (by omega)]; exact c)]
        split <;> rfl
      · unfold f_X8_text_p26
        rw [if_pos (show g8_wrong (AT q r T a false v) = 0 from rfl), if_pos (show g8_token (AT q r T a false v) = 0 from congrArg nI (congrArg Prod.fst (s1 c)))]
    · obtain ⟨t', b', q', e1, e2, e3⟩ := J_one (q := q) (v := v) hu hw h3 h4 h5 h6 h7
      have hC : ∀ k : S6 → S0 → Int32 → Option (Int32 × S6 × S0), f_X6_readInto_p20 k t b (nI told) = Option.bind (f_X6_skipGaps t') (fun v6 => k v6 b' (nI (told + 1))) := by
        intro k
        unfold f_X6_readInto_p20
        rw [o1.2.2.1, o3, if_neg (by rw [p_le (by omega) (by omega)]; omega), if_neg (by rw [p_le (by omega) (by omega)]; exact c), if_pos o4, e1, p_bind, nI_1]
      have hM : ∀ k : S8 → Option (Int32 × S8), f_X8_text_p26 k (AT q r T a false v) = k q' := by
        intro k
        unfold f_X8_text_p26
        rw [if_pos (show g8_wrong (AT q r T a false v) = 0 from rfl), if_neg (show ¬ g8_token (AT q r T a false v) = 0 by
          show ¬ nI (kd T a false).1 = nI 0
          rw [p_eq (by omega) (by omega)]
          exact s2 c), e2, p_bind]
      rw [hC, hM]
      rcases e3 with ⟨f, r', v', e', k', g1, rfl⟩ | ⟨a', B', r', v', g1, g2, g3, g4, g5, rfl, g7⟩
      · obtain ⟨i1, i2, ⟨p, i3, i5⟩, i4⟩ := g1
        have n1 := nb_le i3
        rw [c_gaps i1 i5 i3, p_bind]
        refine ⟨nI f, u6_at t' (nI (nb T p)), b', Z q r' (nI f) v' e' k' 1, ?_, ?_, i1, Or.inr ⟨f, r', v', e', k', i2, rfl, rfl⟩⟩
        · rw [l_R]
          unfold f_X6_readInto_p20
          rw [show g6_fault (u6_at t' (nI (nb T p))) = nI f from i4, if_neg (nI_m1 (by omega))]
          split
          · rfl
          · split <;> rfl
        · rw [l_T]
          unfold f_X8_text_p26
          rw [if_neg (show ¬ g8_wrong (Z q r' (nI f) v' e' k' 1) = 0 from (by show ¬ (1 : Int32) = 0; decide))]
      · obtain ⟨i1, i2, i3, i4⟩ := g2
        have n1 := nb_le i2
        rw [c_gaps i1 i3 i2, p_bind, AT_f i2]
        exact ih (nb T a') (told + 1) (u6_at t' (nI (nb T a'))) b' B' r' v' (m + 1) (n + 1) (by omega) (by omega) ⟨i1, n1.2, rfl, i4⟩ (nb_nb i2) g3 g4 g5 (by omega) (by omega)
theorem m_69 {q : S8} {B : Bk} (hr : rM (g8_read q) B) : ∃ w, lp_X8_text_p69 q 0 = some (nI B.1.length, u8_acts (u8_now q w) 0) ∧ rM w B := by
  unfold lp_X8_text_p69
  have key := p_forI (body := fun (k : S8 × Int32 → Option (Int32 × S8)) (z : S8 × Int32) => f_X8_text_p69 (fun s x1 => k (s, x1)) z.1 z.2) 140 (fun i s => ∃ w : Nat → Int32, s = (u8_now q w, nI i) ∧ ∀ j, j < i → w j = g8_read q j) (fun z => ∃ w, z = (nI B.1.length, u8_acts (u8_now q w) 0) ∧ rM w B) (by omega) (fun i k s hi hI ih => ?_) (fun k s hI => ?_) 0 (q, nI 0) (Nat.zero_le _) ⟨g8_now q, rfl, fun j hj => by omega⟩
  · obtain ⟨z, ez, w, rfl, hw⟩ := key
    exact ⟨w, ez, hw⟩
  · obtain ⟨w, rfl, hw⟩ := hI
    dsimp only
    unfold f_X8_text_p69
    rw [if_neg (by rw [show (140 : Int32) = nI 140 from rfl, p_le (by omega) (by omega)]; omega), show x_rd 140 (g8_read (u8_now q w)) (nI i) = some (g8_read q i) from p_rd hi (by decide), p_bind, show x_wr 140 (g8_now (u8_now q w)) (nI i) (g8_read q i) = some (upd w i (g8_read q i)) from p_wr hi (by decide), p_bind, nI_1]
    refine ih _ ⟨upd w i (g8_read q i), rfl, fun j hj => ?_⟩
    rw [u_at]
    split
    · next hji => rw [hji]
    · exact hw j (by omega)
  · obtain ⟨w, rfl, hw⟩ := hI
    have hM : rM w B := rM_of hr hw
    dsimp only
    unfold f_X8_text_p69
    rw [if_pos (by rw [show (140 : Int32) = nI 140 from rfl, p_le (by omega) (by omega)]; omega), m_many (s := u8_acts (u8_now q w) 0) hM, p_bind]
    exact ⟨_, rfl, w, rfl, hM⟩
theorem op_text {s : S7} {q : S8} (h : RR s q) : ∃ r s' q', f_X7_text s = some (r, s') ∧ f_X8_text q = some (r, q') ∧ RR s' q' := by
  obtain ⟨⟨B, hs, T⟩, hc, hm⟩ := id h
  have ht : rT (g7_tape s) T := hc.2.2.2.2
  have hu : rU (g8_tape q) (g8_taped q) T := hm.2.2.1
  have hw : g8_words q = x_words := hm.2.2.2
  have tl := ht.1
  obtain ⟨b0, c1, c2⟩ := c_clear0 (g7_trial s)
  obtain ⟨w0, d1, d2⟩ := m_starts (g8_read q)
  have n1 := nb_le (T := T) (a := 0) (Nat.zero_le _)
  obtain ⟨v0, f1, f2⟩ := m_nextZ (q := q) (r := w0) (b := g8_begun q) (v := g8_number q) (k0 := 3) (a := 0) hu (by decide) (Nat.zero_le T.length)
  have hO : OKT (u6_at (u6_fault (u6_at (g7_tape s) 0) (-1)) (nI (nb T 0))) T (nb T 0) := ⟨ht, n1.2, rfl, rfl⟩
  obtain ⟨F, t1, b1, q1, e1, e2, e3, e4⟩ := txt_loop (q := q) hu hw (T.length - nb T 0 + 1) (nb T 0) 0 _ b0 B0 w0 v0 FU FU (by omega) (by omega) hO (nb_nb (Nat.zero_le _)) c2 ok_B0 d2 (by have := FU_ge; omega) (by have := FU_ge; omega)
  have eI : f_X6_readInto (g7_tape s) (g7_trial s) = some (F, t1, b1) := by
    unfold f_X6_readInto
    rw [c1, p_bind, c_gaps (t := u6_fault (u6_at (g7_tape s) 0) (-1)) (a := 0) ht rfl (Nat.zero_le _), p_bind]
    exact e1
  have eT : f_X8_text q = f_X8_text_p47 q1 := by
    unfold f_X8_text
    rw [d1, p_bind, show f_X8_goesOn (u8_wrong (u8_token (u8_spot (u8_read q w0) 0) 3) 0) = some (AT q w0 T 0 false v0) from f1, p_bind, AT_f (Nat.zero_le _)]
    exact e2
  have hdrop : f_X6_dropLast t1 (nI T.length) = some (u6_size t1 (nI 0)) := by
    unfold f_X6_dropLast
    rw [if_neg (nI_pos (by omega)), e3.2.2.1, if_neg (by rw [p_lt (by omega) (by omega)]; omega), pk_sub (Nat.le_refl _), Nat.sub_self]
  have hT0 : rT (u6_size t1 (nI 0)) [] := rT_take e3 (Nat.zero_le _)
  have hU0 : rU (g8_tape q) (nI 0) [] := rU_take hu (Nat.zero_le _)
  have e7 := (show f_X7_text s = _ from (by unfold f_X7_text f_X6_size; rw [eI, p_bind, p_bind, show g6_size (F, t1, b1).2.1 = nI T.length from e3.2.2.1, show f_X6_dropLast (F, t1, b1).2.1 (nI T.length) = _ from hdrop, p_bind]))
  rcases e4 with ⟨rfl, B1, r1, x, v, e, k, g1, g2, g3, rfl⟩ | ⟨f, r1, v, e, k, g1, rfl, rfl⟩
  · obtain ⟨b2, j1, j2⟩ := c_copyFrom g1 (g7_book s)
    rw [if_pos rfl, show f_X0_copyFrom (g7_book s) (-1, t1, b1).2.2 = _ from j1, p_bind, show f_X2_empty (g7_past s) = some (u2_kept (g7_past s) 0) from rfl, p_bind, j2.2.1] at e7
    obtain ⟨w, j3, j4⟩ := m_69 (q := u8_taped (Z q r1 x v e k 0) 0) (B := B1) g3
    have e8 : f_X8_text q = some (nI B1.1.length, u8_acts (u8_now (u8_taped (Z q r1 x v e k 0) 0) w) 0) := by
      rw [eT]
      unfold f_X8_text_p47
      rw [if_pos (show g8_wrong (Z q r1 x v e k 0) = 0 from rfl)]
      exact j3
    refine ⟨_, _, _, e7, e8, (B1, [], []), ⟨j2, g2, ?_, fun B hB => (by cases hB), hT0⟩, ⟨j4, ?_, hU0, hw⟩⟩
    · obtain ⟨p1, p2, nx, p3, p4, p5⟩ := hc.2.2.1
      exact ⟨by show 0 ≤ 12; omega, rfl, nx, p3, p4, fun k B hk => by simp at hk⟩
    · exact ⟨by show 0 ≤ 12; omega, rfl, fun k B hk => by simp at hk⟩
  · rw [if_neg (show ¬ (nI f, t1, b1).1 = -1 from nI_m1 (by omega))] at e7
    have e8 : f_X8_text q = some ((-4 : Int32) - nI f, u8_taped (Z q r1 (nI f) v e k 1) 0) := by
      rw [eT]
      unfold f_X8_text_p47
      rw [if_neg (show ¬ g8_wrong (Z q r1 (nI f) v e k 1) = 0 from (by show ¬ (1 : Int32) = 0; decide))]
      rfl
    exact ⟨_, _, _, e7, e8, (B, hs, []), ⟨hc.1, hc.2.1, hc.2.2.1, hc.2.2.2.1, hT0⟩, ⟨hm.1, hm.2.1, hU0, hw⟩⟩
