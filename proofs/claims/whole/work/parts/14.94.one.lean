/-! PURE: one sentence, in both -/
theorem wd_ne : ∀ w, w < 4 → (∀ u, u < 4 → w = 2 → u = 3 → ¬ (wdL w).getD 0 0 = (wdL u).getD 0 0) := by decide
theorem isW_23 {T : List Nat} {a : Nat} (h : isW T a 2) : ¬ isW T a 3 := fun e => by
  have h1 := h.2 0 (by decide)
  have h2 := e.2 0 (by decide)
  rw [h1] at h2
  exact absurd h2 (by decide)
theorem cl_cap {b : S0} {B : Bk} (hb : rC b B) {j : Nat} (hj : j ≤ 99) : rC (u0_cap b (nI j)) (B.1, B.2.1, j, B.2.2.2) := by
  obtain ⟨⟨a1, a2, a3, a4, a5, a6⟩, o1, o2, o3, o4, o5, o6⟩ := hb
  exact ⟨⟨a1, a2, a3, a4, by dsimp only; omega, a6⟩, o1, o2, rfl, o4, o5, o6⟩
theorem cl_steady {b : S0} {B : Bk} (hb : rC b B) {j : Nat} (hj : j ≤ 50) : rC (u0_steady b (nI j)) (B.1, B.2.1, B.2.2.1, j) := by
  obtain ⟨⟨a1, a2, a3, a4, a5, a6⟩, o1, o2, o3, o4, o5, o6⟩ := hb
  exact ⟨⟨a1, a2, a3, a4, a5, by dsimp only; omega⟩, o1, o2, o3, rfl, o5, o6⟩
theorem ml_cap {w : Nat → Int32} {B : Bk} (hw : rM w B) {j : Nat} (hj : j ≤ 99) : rM (upd w 0 (nI j)) (B.1, B.2.1, j, B.2.2.2) := by
  obtain ⟨⟨a1, a2, a3, a4, a5, a6⟩, o1, o2, o3, o4, o5, o6⟩ := hw
  refine ⟨⟨a1, a2, a3, a4, by dsimp only; omega, a6⟩, rfl, o2, o3, o4, fun i f hf => ?_, fun k c hk => ?_⟩
  · rw [u_at, u_at, if_neg (by omega), if_neg (by omega)]; exact o5 i f hf
  · rw [u_at, u_at, u_at, if_neg (by omega), if_neg (by omega), if_neg (by omega)]; exact o6 k c hk
theorem ml_steady {w : Nat → Int32} {B : Bk} (hw : rM w B) {j : Nat} (hj : j ≤ 50) : rM (upd w 1 (nI j)) (B.1, B.2.1, B.2.2.1, j) := by
  obtain ⟨⟨a1, a2, a3, a4, a5, a6⟩, o1, o2, o3, o4, o5, o6⟩ := hw
  refine ⟨⟨a1, a2, a3, a4, a5, by dsimp only; omega⟩, o1, rfl, o3, o4, fun i f hf => ?_, fun k c hk => ?_⟩
  · rw [u_at, u_at, if_neg (by omega), if_neg (by omega)]; exact o5 i f hf
  · rw [u_at, u_at, u_at, if_neg (by omega), if_neg (by omega), if_neg (by omega)]; exact o6 k c hk
section ON
variable {q : S8} {T : List Nat} {r : Nat → Int32} {a : Nat} {b : S0} {B : Bk} {t : S6} {v : Int32}
/-- the class's word -/
theorem k_word (h : OKT t T a) (hb : rC b B) : (isW T a 0 → ∃ t', f_X6_readWord t b = some (0, t') ∧ WD t' T (sk T isLt a)) ∧ (¬ isW T a 0 → isW T a 1 → ∃ t', f_X6_readWord t b = some (1, t') ∧ WD t' T (sk T isLt a)) ∧ (¬ isW T a 0 → ¬ isW T a 1 → isW T a 2 → B.1.length < 8 → ∃ t', f_X6_readWord t b = some (2, t') ∧ WD t' T (sk T isLt a)) ∧ (¬ isW T a 0 → ¬ isW T a 1 → ¬ isW T a 2 → isW T a 3 → B.2.1.length < 40 → ∃ t', f_X6_readWord t b = some (3, t') ∧ WD t' T (sk T isLt a)) ∧ (¬ isW T a 0 → ¬ isW T a 1 → (isW T a 2 → ¬ B.1.length < 8) → (isW T a 3 → ¬ B.2.1.length < 40) → ∃ t', f_X6_readWord t b = some (-1, t') ∧ FT t' T a) := by
  obtain ⟨h1, h2, h3, h4⟩ := id h
  have w8 := hb.1.1
  have w40 := hb.1.2.1
  have s := sk_le T isLt (T.length - a) a (by omega)
  have hO : OKT (u6_at t (nI (sk T isLt a))) T (sk T isLt a) := ⟨h1, s.2.1, rfl, h4⟩
  obtain ⟨p1, p2⟩ := c_isWord (t := u6_at t (nI (sk T isLt a))) (w := 0) (n := 5) h1 h2 rfl (by decide) b_wd.2.2.2.2.2.1 (by decide) (by decide)
  obtain ⟨q1, q2⟩ := c_isWord (t := u6_at t (nI (sk T isLt a))) (w := 1) (n := 6) h1 h2 rfl (by decide) b_wd.2.2.2.2.2.2.1 (by decide) (by decide)
  obtain ⟨r1, r2⟩ := c_isWord (t := u6_at t (nI (sk T isLt a))) (w := 2) (n := 0) h1 h2 rfl (by decide) b_wd.1 (by decide) (by decide)
  obtain ⟨u1, u2⟩ := c_isWord (t := u6_at t (nI (sk T isLt a))) (w := 3) (n := 7) h1 h2 rfl (by decide) b_wd.2.2.2.2.2.2.2 (by decide) (by decide)
  unfold f_X6_readWord
  rw [c_letters h1 h3 h2, p_bind, h3]
  refine ⟨fun z0 => ?_, fun z0 z1 => ?_, fun z0 z1 z2 z5 => ?_, fun z0 z1 z2 z3 z5 => ?_, fun z0 z1 z2 z3 => ?_⟩
  · rw [p1 z0, p_bind, if_neg (by decide)]
    exact k_86 hO b (nI a) (by decide)
  · rw [p2 z0, p_bind, if_pos rfl, q1 z1, p_bind, if_neg (by decide)]
    exact k_86 hO b (nI a) (by decide)
  · rw [p2 z0, p_bind, if_pos rfl, q2 z1, p_bind, if_pos rfl, r1 z2, p_bind, if_neg (by decide), hb.2.1, if_neg (by rw [show (8 : Int32) = nI 8 from rfl, p_le (by omega) (by omega)]; omega)]
    exact k_86 hO b (nI a) (by decide)
  · rw [p2 z0, p_bind, if_pos rfl, q2 z1, p_bind, if_pos rfl, r2 z2, p_bind, if_pos rfl]
    unfold f_X6_readWord_p65
    rw [u1 z3, p_bind, if_neg (by decide), hb.2.2.1, if_neg (by rw [show (40 : Int32) = nI 40 from rfl, p_le (by omega) (by omega)]; omega)]
    exact k_86 hO b (nI a) (by decide)
  · have h65 : ∃ t', f_X6_readWord_p65 (u6_at t (nI (sk T isLt a))) b (nI a) (-1) = some (-1, t') ∧ FT t' T a := by
      unfold f_X6_readWord_p65
      by_cases y3 : isW T a 3
      · rw [u1 y3, p_bind, if_neg (by decide), hb.2.2.1, if_pos (by rw [show (40 : Int32) = nI 40 from rfl, p_le (by omega) (by omega)]; have := z3 y3; omega)]
        exact k_86n hO b h2
      · rw [u2 y3, p_bind, if_pos rfl]
        exact k_86n hO b h2
    rw [p2 z0, p_bind, if_pos rfl, q2 z1, p_bind, if_pos rfl]
    by_cases y2 : isW T a 2
    · rw [r1 y2, p_bind, if_neg (by decide), hb.2.1, if_pos (by rw [show (8 : Int32) = nI 8 from rfl, p_le (by omega) (by omega)]; have := z2 y2; omega)]
      exact h65
    · rw [r2 y2, p_bind, if_pos rfl]
      exact h65
/-- a sentence -/
theorem J_one (hu : rU (g8_tape q) (g8_taped q) T) (hw : g8_words q = x_words) (h : OKT t T a) (ha : nb T a = a) (hb : rC b B) (ok : okB B) (hr : rM r B) : ∃ t' b' q', f_X6_readSentence t b = some (t', b') ∧ f_X8_readsOne (AT q r T a false v) = some q' ∧ OUT T a q t' b' q' := by
  obtain ⟨h1, h2, h3, h4⟩ := id h
  have h700 := hu.1
  obtain ⟨k0, k1, k2, k3, k4⟩ := k_word h hb
  have s := sk_le T isLt (T.length - a) a (by omega)
  have T0 := m_takesWord (q := q) (r := r) (v := v) hu hw h2 ha (w := 0) (by decide)
  have T1 := m_takesWord (q := q) (r := r) (v := v) hu hw h2 ha (w := 1) (by decide)
  have T2 := m_takesWord (q := q) (r := r) (v := v) hu hw h2 ha (w := 2) (by decide)
  have T3 := m_takesWord (q := q) (r := r) (v := v) hu hw h2 ha (w := 3) (by decide)
  have hbg : g8_begun (AT q r T a false v) = nI a := congrArg nI ha
  unfold f_X6_readSentence f_X8_readsOne
  by_cases z0 : isW T a 0
  · obtain ⟨t1, e1, e2⟩ := k0 z0
    obtain ⟨v1, d1, d2⟩ := T0.1 z0
    have he := W_le e2
    rw [e1, p_bind, if_pos rfl, show f_X8_takesWord (AT q r T a false v) 0 = _ from d1, p_bind, if_neg (show ¬ (1 : Int32) = 0 by decide)]
    have key := J_num (q := q) (r := r) (v := v1) (g := true) hu (W_hyp e2) he d2 (lo := 1) (by decide) 99
    rcases key with ⟨t2, v2, i1, i2, -, i4, i5, i6⟩ | ⟨t2, f, n, v2, e', k, i1, i2, i3, i4⟩
    · have c99 : nv T (sk T isLt a) ≤ 99 := nv_le (k := 99) he (by decide) i6
      have n1 := nb_le he
      have n2 := ne_le he
      obtain ⟨t3, q3, l1, l2, l3⟩ := J_fin (q := q) (g := true) (v := v2) (a := a) hu i2 (by omega) (cl_cap hb c99) (ok_cap ok i6.2.1 c99) (ml_cap hr c99)
      refine ⟨t3, _, q3, ?_, ?_, l3⟩
      · rw [show f_X6_readNumber (0, t1).2 1 99 = _ from i1, p_bind]
        exact l1
      · rw [show f_X8_needsNumber (1, AT q r T (sk T isLt a) true v1).2 1 99 = _ from i4, p_bind, show ∀ w : Nat → Int32, ∀ y, x_wr 140 w 0 y = some (upd w 0 y) from fun w y => p_wr (i := 0) (by decide) (by decide), p_bind]
        exact l2
    · obtain ⟨t3, q3, l1, l2, l3⟩ := J_finF (q := q) (r := upd r 0 0) (a := a) i2 (u0_cap b (nI n)) v2 e' k
      refine ⟨t3, _, q3, ?_, ?_, l3⟩
      · rw [show f_X6_readNumber (0, t1).2 1 99 = _ from i1, p_bind]
        exact l1
      · rw [show f_X8_needsNumber (1, AT q r T (sk T isLt a) true v1).2 1 99 = _ from i4, p_bind, show ∀ w : Nat → Int32, ∀ y, x_wr 140 w 0 y = some (upd w 0 y) from fun w y => p_wr (i := 0) (by decide) (by decide), p_bind]
        exact l2
  · rw [show f_X8_takesWord (AT q r T a false v) 0 = _ from T0.2 z0, p_bind, if_pos rfl]
    by_cases z1 : isW T a 1
    · obtain ⟨t1, e1, e2⟩ := k1 z0 z1
      obtain ⟨v1, d1, d2⟩ := T1.1 z1
      have he := W_le e2
      rw [e1, p_bind, if_neg (show ¬ (1 : Int32) = 0 by decide), if_pos rfl, show f_X8_takesWord (0, AT q r T a false v).2 1 = _ from d1, p_bind, if_neg (show ¬ (1 : Int32) = 0 by decide)]
      have key := J_num (q := q) (r := r) (v := v1) (g := true) hu (W_hyp e2) he d2 (lo := 0) (by decide) 50
      rcases key with ⟨t2, v2, i1, i2, -, i4, i5, i6⟩ | ⟨t2, f, n, v2, e', k, i1, i2, i3, i4⟩
      · have c50 : nv T (sk T isLt a) ≤ 50 := nv_le (k := 50) he (by decide) i6
        have n1 := nb_le he
        have n2 := ne_le he
        have ok1 : okB (B.1, B.2.1, B.2.2.1, nv T (sk T isLt a)) := by
          obtain ⟨⟨a1, a2, a3, a4, a5, a6⟩, o1, o2, o3⟩ := ok
          exact ⟨⟨a1, a2, a3, a4, a5, by dsimp only; omega⟩, o1, o2, o3⟩
        obtain ⟨t3, q3, l1, l2, l3⟩ := J_fin (q := q) (g := true) (v := v2) (a := a) hu i2 (by omega) (cl_steady hb c50) ok1 (ml_steady hr c50)
        refine ⟨t3, _, q3, ?_, ?_, l3⟩
        · rw [show f_X6_readNumber (1, t1).2 0 50 = _ from i1, p_bind]
          exact l1
        · rw [show f_X8_needsNumber (1, AT q r T (sk T isLt a) true v1).2 0 50 = _ from i4, p_bind, show ∀ w : Nat → Int32, ∀ y, x_wr 140 w 1 y = some (upd w 1 y) from fun w y => p_wr (i := 1) (by decide) (by decide), p_bind]
          exact l2
      · obtain ⟨t3, q3, l1, l2, l3⟩ := J_finF (q := q) (r := upd r 1 0) (a := a) i2 (u0_steady b (nI n)) v2 e' k
        refine ⟨t3, _, q3, ?_, ?_, l3⟩
        · rw [show f_X6_readNumber (1, t1).2 0 50 = _ from i1, p_bind]
          exact l1
        · rw [show f_X8_needsNumber (1, AT q r T (sk T isLt a) true v1).2 0 50 = _ from i4, p_bind, show ∀ w : Nat → Int32, ∀ y, x_wr 140 w 1 y = some (upd w 1 y) from fun w y => p_wr (i := 1) (by decide) (by decide), p_bind]
          exact l2
    · rw [show f_X8_takesWord (0, AT q r T a false v).2 1 = _ from T1.2 z1, p_bind, if_pos rfl]
      by_cases z2 : isW T a 2
      · obtain ⟨v1, d1, d2⟩ := T2.1 z2
        rw [show f_X8_takesWord (0, AT q r T a false v).2 2 = _ from d1, p_bind, if_neg (show ¬ (1 : Int32) = 0 by decide), hbg]
        by_cases w8 : B.1.length < 8
        · obtain ⟨t1, e1, e2⟩ := k2 z0 z1 z2 w8
          obtain ⟨t2, b2, q2, t3, q3, l1, l2, l3, l4, l5⟩ := J_fleet (q := q) (a := a) hu e2 d2 s.1 hb ok hr w8 (nI a)
          refine ⟨t3, b2, q3, ?_, ?_, l5⟩
          · rw [e1, p_bind, if_neg (show ¬ (2 : Int32) = 0 by decide), if_neg (show ¬ (2 : Int32) = 1 by decide), if_pos rfl, show f_X6_readFleet (2, t1).2 b = _ from l1, p_bind]
            exact l3
          · rw [show f_X8_readsFleet (1, AT q r T (sk T isLt a) true v1).2 (nI a) = _ from l2, p_bind]
            exact l4
        · obtain ⟨t1, e1, e2⟩ := k4 z0 z1 (fun _ => w8) (fun y => absurd y (isW_23 z2))
          obtain ⟨t3, q3, l1, l2, l3⟩ := J_finF (q := q) (r := r) (a := a) e2 b v1 (nI (kd T (sk T isLt a) true).2) (nI (kd T (sk T isLt a) true).1)
          refine ⟨t3, b, q3, ?_, ?_, l3⟩
          · rw [e1, p_bind, if_neg (show ¬ (-1 : Int32) = 0 by decide), if_neg (show ¬ (-1 : Int32) = 1 by decide), if_neg (show ¬ (-1 : Int32) = 2 by decide), if_neg (show ¬ (-1 : Int32) = 3 by decide)]
            exact l1
          · unfold f_X8_readsFleet
            rw [show f_X8_isRoom (1, AT q r T (sk T isLt a) true v1).2 2 8 (nI a) = _ from m_room0 hr w8 (nI a), p_bind, if_pos rfl, p_bind]
            exact l2
      · rw [show f_X8_takesWord (0, AT q r T a false v).2 2 = _ from T2.2 z2, p_bind, if_pos rfl]
        by_cases z3 : isW T a 3
        · obtain ⟨v1, d1, d2⟩ := T3.1 z3
          rw [show f_X8_takesWord (0, AT q r T a false v).2 3 = _ from d1, p_bind, if_neg (show ¬ (1 : Int32) = 0 by decide), hbg]
          by_cases w40 : B.2.1.length < 40
          · obtain ⟨t1, e1, e2⟩ := k3 z0 z1 z2 z3 w40
            obtain ⟨t2, b2, q2, t3, q3, l1, l2, l3, l4, l5⟩ := J_claim (q := q) (a := a) hu e2 d2 s.1 hb ok hr w40 (nI a)
            refine ⟨t3, b2, q3, ?_, ?_, l5⟩
            · rw [e1, p_bind, if_neg (show ¬ (3 : Int32) = 0 by decide), if_neg (show ¬ (3 : Int32) = 1 by decide), if_neg (show ¬ (3 : Int32) = 2 by decide), if_pos rfl, show f_X6_readClaim (3, t1).2 b = _ from l1, p_bind]
              exact l3
            · rw [show f_X8_readsClaim (1, AT q r T (sk T isLt a) true v1).2 (nI a) = _ from l2, p_bind]
              exact l4
          · obtain ⟨t1, e1, e2⟩ := k4 z0 z1 (fun y => absurd y z2) (fun _ => w40)
            obtain ⟨t3, q3, l1, l2, l3⟩ := J_finF (q := q) (r := r) (a := a) e2 b v1 (nI (kd T (sk T isLt a) true).2) (nI (kd T (sk T isLt a) true).1)
            refine ⟨t3, b, q3, ?_, ?_, l3⟩
            · rw [e1, p_bind, if_neg (show ¬ (-1 : Int32) = 0 by decide), if_neg (show ¬ (-1 : Int32) = 1 by decide), if_neg (show ¬ (-1 : Int32) = 2 by decide), if_neg (show ¬ (-1 : Int32) = 3 by decide)]
              exact l1
            · unfold f_X8_readsClaim
              rw [show f_X8_isRoom (1, AT q r T (sk T isLt a) true v1).2 3 40 (nI a) = _ from m_roomC0 hr w40 (nI a), p_bind, if_pos rfl, p_bind]
              exact l2
        · obtain ⟨t1, e1, e2⟩ := k4 z0 z1 (fun y => absurd y z2) (fun y => absurd y z3)
          obtain ⟨t3, q3, l1, l2, l3⟩ := J_finF (q := q) (r := r) (a := a) e2 b v (nI (kd T a false).2) (nI (kd T a false).1)
          refine ⟨t3, b, q3, ?_, ?_, l3⟩
          · rw [e1, p_bind, if_neg (show ¬ (-1 : Int32) = 0 by decide), if_neg (show ¬ (-1 : Int32) = 1 by decide), if_neg (show ¬ (-1 : Int32) = 2 by decide), if_neg (show ¬ (-1 : Int32) = 3 by decide)]
            exact l1
          · rw [show f_X8_takesWord (0, AT q r T a false v).2 3 = _ from T3.2 z3, p_bind, if_pos rfl]
            rw [← l2]
            congr 1
            unfold AT
            rw [ha]
            rfl
end ON
