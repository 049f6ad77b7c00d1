/-! PURE: a sentence, in both -/
section SE
variable {q : S8} {T : List Nat} {r : Nat → Int32} {a e : Nat} {b : S0} {B : Bk} {t : S6} {v : Int32}
theorem W_hyp (h : WD t T e) : (OKT t T e ∧ (true = true → nb T e = e → ¬ numOK T e)) ∨ (FT t T e ∧ dgAt T e ∧ true = true) := by
  rcases h with ⟨h1, h2⟩ | ⟨h1, h2⟩
  · exact Or.inl ⟨h1, fun _ => ng_gen (fun x hx hd => h2 ⟨x, hx, hd⟩)⟩
  · exact Or.inr ⟨h1, h2, rfl⟩
theorem W_le (h : WD t T e) : e ≤ T.length := by
  rcases h with ⟨h1, -⟩ | ⟨h1, -⟩
  · exact h1.2.1
  · exact h1.2.1
theorem m_room (hr : rM r B) (hn : B.1.length < 8) (x : Int32) : f_X8_isRoom (AT q r T e true v) 2 8 x = some (1, AT q r T e true v) := by
  unfold f_X8_isRoom
  rw [show x_rd 140 (g8_read (AT q r T e true v)) 2 = some (nI B.1.length) from (p_rd (i := 2) (by decide) (by decide)).trans (congrArg some hr.2.2.2.1), p_bind, if_neg (by rw [show (8 : Int32) = nI 8 from rfl, p_le (by omega) (by omega)]; omega)]
theorem m_room0 (hr : rM r B) (hn : ¬ B.1.length < 8) (x : Int32) : f_X8_isRoom (AT q r T e true v) 2 8 x = some (0, Z q r x v (nI (kd T e true).2) (nI (kd T e true).1) 1) := by
  have := hr.1.1
  unfold f_X8_isRoom
  rw [show x_rd 140 (g8_read (AT q r T e true v)) 2 = some (nI B.1.length) from (p_rd (i := 2) (by decide) (by decide)).trans (congrArg some hr.2.2.2.1), p_bind, if_pos (by rw [show (8 : Int32) = nI 8 from rfl, p_le (by omega) (by omega)]; omega)]
  rfl
theorem m_roomC (hr : rM r B) (hn : B.2.1.length < 40) (x : Int32) : f_X8_isRoom (AT q r T e true v) 3 40 x = some (1, AT q r T e true v) := by
  unfold f_X8_isRoom
  rw [show x_rd 140 (g8_read (AT q r T e true v)) 3 = some (nI B.2.1.length) from (p_rd (i := 3) (by decide) (by decide)).trans (congrArg some hr.2.2.2.2.1), p_bind, if_neg (by rw [show (40 : Int32) = nI 40 from rfl, p_le (by omega) (by omega)]; omega)]
theorem m_roomC0 (hr : rM r B) (hn : ¬ B.2.1.length < 40) (x : Int32) : f_X8_isRoom (AT q r T e true v) 3 40 x = some (0, Z q r x v (nI (kd T e true).2) (nI (kd T e true).1) 1) := by
  have := hr.1.2.1
  unfold f_X8_isRoom
  rw [show x_rd 140 (g8_read (AT q r T e true v)) 3 = some (nI B.2.1.length) from (p_rd (i := 3) (by decide) (by decide)).trans (congrArg some hr.2.2.2.2.1), p_bind, if_pos (by rw [show (40 : Int32) = nI 40 from rfl, p_le (by omega) (by omega)]; omega)]
  rfl
/-- a fleet's sentence behind its word -/
theorem J_fleet (hu : rU (g8_tape q) (g8_taped q) T) (h : WD t T e) (hv : NV T e true v) (hae : a ≤ e) (hb : rC b B) (ok : okB B) (hr : rM r B) (hn : B.1.length < 8) (x : Int32) : ∃ t1 b1 q1 t2 q2, f_X6_readFleet t b = some (t1, b1) ∧ f_X8_readsFleet (AT q r T e true v) x = some q1 ∧ f_X6_readSentence_p80 t1 b1 = some (t2, b1) ∧ f_X8_readsOne_p90 q1 = some q2 ∧ OUT T a q t2 b1 q2 := by
  have he := W_le h
  have h700 := hu.1
  have key := J_num (q := q) (r := r) (v := v) (g := true) hu (W_hyp h) he hv (lo := 0) (by decide) 2
  have h8 : ∀ (z : Int32 × S8), f_X8_needsNumber (AT q r T e true v) 0 2 = some z → f_X8_readsFleet (AT q r T e true v) x = Option.bind (x_wr 140 (g8_read z.2) (nI (4 + 2 * B.1.length)) z.1) (fun w9 => lp_X8_readsFleet_p37 (u8_read z.2 w9) (nI (4 + 2 * B.1.length)) 0) := by
    intro z hz
    unfold f_X8_readsFleet
    rw [m_room hr hn x, p_bind, if_neg (show ¬ (1 : Int32) = 0 by decide), show x_rd 140 (g8_read (AT q r T e true v)) 2 = some (nI B.1.length) from (p_rd (i := 2) (by decide) (by decide)).trans (congrArg some hr.2.2.2.1), p_bind, hz, p_bind, e4]
  have h6 : ∀ (z : Int32 × S6), f_X6_readNumber t 0 2 = some z → f_X6_readFleet t b = x_loop bC FU (z.2, b, z.1, 0, 0) := by
    intro z hz
    unfold f_X6_readFleet
    rw [hz, p_bind]
    rfl
  rcases key with ⟨t1, v1, e1, e2, -, e4, e5, e6⟩ | ⟨t1, f, n, v1, e', k, e1, e2, e3, e4⟩
  · have c2 : nv T e ≤ 2 := nv_le (k := 2) he (by decide) e6
    have hne := ne_le he
    have hnb := nb_le he
    obtain ⟨t2, b2, q2, t3, q3, f1, f2, f3⟩ := fl_loop (q := q) (a := a) hu hb ok hr hn (c := nv T e) (by omega) (T.length - ne T e + 1) (ne T e) 0 0 t1 v1 FU FU (by omega) (by omega) (by omega) (by omega) e2 e5 (ng_num he) (by have := FU_ge; omega) (by have := FU_ge; omega)
    refine ⟨t2, b2, q2, t3, q3, (h6 _ e1).trans f1, ?_, f3⟩
    rw [h8 _ e4, p_wr (by omega) (by decide), p_bind]
    exact f2
  · obtain ⟨b2, q2, t3, q3, f1, f2, f3⟩ := fl_bad (q := q) (a := a) (r := upd r (4 + 2 * B.1.length) 0) e2 hb hn (by rw [u_at, if_neg (by omega)]; exact hr.2.2.2.1) (nI n) 0 0 v1 e' k
    refine ⟨t1, b2, q2, t3, q3, ?_, ?_, f3⟩
    · rw [h6 _ e1]
      obtain ⟨m, hm⟩ : ∃ m, FU = m + 1 := ⟨FU - 1, by have := FU_ge; omega⟩
      rw [hm, l_C, k_12F e2]
      exact f1
    · rw [h8 _ e4, p_wr (by omega) (by decide), p_bind]
      show x_loop bM FU (_, _, _) = _
      obtain ⟨m, hm⟩ : ∃ m, FU = m + 1 := ⟨FU - 1, by have := FU_ge; omega⟩
      rw [hm, l_M]
      unfold f_X8_readsFleet_p37
      rw [if_neg (show ¬ g8_wrong (u8_read (0, Z q r (nI f) v1 e' k 1).2 (upd (g8_read (0, Z q r (nI f) v1 e' k 1).2) (4 + 2 * B.1.length) (0, Z q r (nI f) v1 e' k 1).1)) = 0 from (by show ¬ (1 : Int32) = 0; decide))]
      exact f2
/-- a claim's sentence behind its word -/
theorem J_claim (hu : rU (g8_tape q) (g8_taped q) T) (h : WD t T e) (hv : NV T e true v) (hae : a ≤ e) (hb : rC b B) (ok : okB B) (hr : rM r B) (hn : B.2.1.length < 40) (x : Int32) : ∃ t1 b1 q1 t2 q2, f_X6_readClaim t b = some (t1, b1) ∧ f_X8_readsClaim (AT q r T e true v) x = some q1 ∧ f_X6_readSentence_p80 t1 b1 = some (t2, b1) ∧ f_X8_readsOne_p90 q1 = some q2 ∧ OUT T a q t2 b1 q2 := by
  have he := W_le h
  have h700 := hu.1
  have w8 := hr.1.1
  have key := J_num (q := q) (r := r) (v := v) (g := true) hu (W_hyp h) he hv (lo := 0) (by decide) (nI B.1.length - 1)
  have hfl : g0_fleets b - (1 : Int32) = nI B.1.length - 1 := by rw [hb.2.1]
  -- the reference behind the first number
  let R8 : S8 → (Nat → Int32) → Option S8 := fun s w11 => (if (g8_wrong s) = 0 then (if (g8_token s) = 2 then Option.bind (x_rd 140 w11 ((20 : Int32) + ((3 : Int32) * nI B.2.1.length))) (fun v15 => Option.bind (f_X8_mayBeIn (u8_read s w11) v15 (g8_number s)) (fun v16 => (if v16 = 0 then some (u8_wrong (u8_read s w11) 1) else Option.bind (f_X8_needsNumber (u8_read s w11) 0 4) (fun v19 => Option.bind (x_wr 140 (g8_read v19.2) (((20 : Int32) + ((3 : Int32) * nI B.2.1.length)) + (1 : Int32)) v19.1) (fun w22 => Option.bind (f_X8_needsNumber (u8_read v19.2 w22) 1 99) (fun v23 => Option.bind (x_wr 140 (g8_read v23.2) (((20 : Int32) + ((3 : Int32) * nI B.2.1.length)) + (2 : Int32)) v23.1) (fun w26 => Option.bind (x_rd 140 w26 3) (fun v28 => Option.bind (x_wr 140 w26 3 (v28 + (1 : Int32))) (fun w30 => some (u8_read v23.2 w30)))))))))) else some (u8_wrong (u8_read s w11) 1)) else some (u8_wrong (u8_read s w11) 1))
  have h8 : ∀ (z : Int32 × S8), f_X8_needsNumber (AT q r T e true v) 0 (nI B.1.length - 1) = some z → f_X8_readsClaim (AT q r T e true v) x = R8 z.2 (upd (g8_read z.2) (20 + 3 * B.2.1.length) z.1) := by
    intro z hz
    unfold f_X8_readsClaim
    rw [m_roomC hr hn x, p_bind, if_neg (show ¬ (1 : Int32) = 0 by decide), show x_rd 140 (g8_read (AT q r T e true v)) 3 = some (nI B.2.1.length) from (p_rd (i := 3) (by decide) (by decide)).trans (congrArg some hr.2.2.2.2.1), p_bind, show x_rd 140 (g8_read (AT q r T e true v)) 2 = some (nI B.1.length) from (p_rd (i := 2) (by decide) (by decide)).trans (congrArg some hr.2.2.2.1), p_bind, hz, p_bind]
    rw [show x_wr 140 (g8_read z.2) ((20 : Int32) + ((3 : Int32) * nI B.2.1.length)) z.1 = some (upd (g8_read z.2) (20 + 3 * B.2.1.length) z.1) from (by rw [e20]; exact p_wr (by omega) (by decide)), p_bind]
  have h6 : ∀ (z y : Int32 × S6), f_X6_readNumber t 0 (nI B.1.length - 1) = some z → f_X6_readNumber z.2 0 4 = some y → f_X6_readClaim t b = Option.bind (f_X0_canClaim b z.1 y.1) (fun v5 => (if v5 = 0 then Option.bind (f_X6_failAt y.2 (g6_begin y.2)) (fun v8 => f_X6_readClaim_p36 v8 b z.1 y.1) else f_X6_readClaim_p36 y.2 b z.1 y.1)) := by
    intro z y hz hy
    unfold f_X6_readClaim
    rw [hfl, hz, p_bind, hy, p_bind]
  -- behind a fault
  have h6F : ∀ (z : Int32 × S6) (y : Int32 × S6) (f : Nat), f_X6_readNumber t 0 (nI B.1.length - 1) = some z → f_X6_readNumber z.2 0 4 = some y → FT y.2 T f → ∃ t1 b1, f_X6_readClaim t b = some (t1, b1) ∧ FT t1 T f := by
    intro z y f hz hy hF
    obtain ⟨u, hu⟩ := c_canT hb z.1 y.1
    obtain ⟨t1, b1, g1, g2⟩ := k_claimF hF hb hn z.1 y.1
    rw [h6 z y hz hy, hu, p_bind]
    refine ⟨t1, b1, ?_, g2⟩
    split
    · rw [k_failF hF, p_bind]; exact g1
    · exact g1
  have hJF : ∀ (t1 : S6) (b1 : S0) (f : Nat) (r' : Nat → Int32) (v' e' k' : Int32), f_X6_readClaim t b = some (t1, b1) → FT t1 T f → f_X8_readsClaim (AT q r T e true v) x = some (Z q r' (nI f) v' e' k' 1) → ∃ t1 b1 q1 t2 q2, f_X6_readClaim t b = some (t1, b1) ∧ f_X8_readsClaim (AT q r T e true v) x = some q1 ∧ f_X6_readSentence_p80 t1 b1 = some (t2, b1) ∧ f_X8_readsOne_p90 q1 = some q2 ∧ OUT T a q t2 b1 q2 := by
    intro t1 b1 f r' v' e' k' g1 g2 g3
    obtain ⟨t2, q2, i1, i2, i3⟩ := J_finF (q := q) (r := r') (a := a) g2 b1 v' e' k'
    exact ⟨t1, b1, _, t2, q2, g1, g3, i1, i2, i3⟩
  rcases key with ⟨t1, v1, e1, e2, -, e4, e5, e6⟩ | ⟨t1, f, n, v1, e', k, e1, e2, e3, e4⟩
  · -- the fleet is there
    have i99 := nv_lt he e6.1
    have hi : nv T e < B.1.length := by
      have h2 := e6.2.2
      by_cases z : B.1.length = 0
      · rw [z] at h2
        exact absurd h2 (fun hh => nI_pos (n := nv T e) (by omega) (Int32.lt_of_le_of_lt hh (by decide)))
      · rw [show nI B.1.length - 1 = nI (B.1.length - 1) from pk_sub (b := 1) (by omega), p_le (by omega) (by omega)] at h2
        omega
    obtain ⟨fl, hf, -⟩ := p_at hi
    have hne := ne_le he
    have hnb := nb_le he
    have hp1 : ne T e ≤ T.length := hne.2
    have hng := ng_num he
    obtain ⟨u1, u2⟩ := k_num e2 (lo := 0) (by decide) 4
    obtain ⟨c1, c2⟩ := kd_num (g := true) (fun _ => hng) hp1
    have k3 := (kd_le true hp1).2.2
    have hr1 : rM (upd r (20 + 3 * B.2.1.length) (nI (nv T e))) B := r_past hr (Nat.le_refl _) _
    have hwr : g8_wrong (AT q r T (ne T e) true v1) = 0 := rfl
    by_cases w3 : rnOK T (ne T e) 0 4
    · obtain ⟨t2, f1, f2, f3⟩ := u1 w3
      have y4 : nv T (ne T e) ≤ 4 := nv_le (k := 4) hp1 (by decide) w3
      have htk : g8_token (AT q r T (ne T e) true v1) = 2 := congrArg nI (c1.mpr w3.1)
      have hnum : g8_number (AT q r T (ne T e) true v1) = nI (nv T (ne T e)) := e5 (c1.mpr w3.1)
      have hmb := m_mayBe (s := u8_read (AT q r T (ne T e) true v1) (upd r (20 + 3 * B.2.1.length) (nI (nv T e)))) hr1 hf (y := nv T (ne T e)) (by omega)
      have hcc := c_canClaim hb hf (y := nv T (ne T e)) (by omega)
      have hrd : x_rd 140 (upd r (20 + 3 * B.2.1.length) (nI (nv T e))) ((20 : Int32) + ((3 : Int32) * nI B.2.1.length)) = some (nI (nv T e)) := by
        rw [e20, p_rd (by omega) (by decide), u_at, if_pos rfl]
      by_cases w4 : fl.2 / 2 ^ nv T (ne T e) % 2 = 1 ∧ cnt (ofFY (nv T e) (nv T (ne T e))) B.2.1 < 4
      · rw [if_pos w4] at hmb
        rw [if_pos ⟨hn, w4.1, w4.2⟩] at hcc
        obtain ⟨v2, g1, g2⟩ := (m_numb (q := q) (r := upd r (20 + 3 * B.2.1.length) (nI (nv T e))) (v := v1) hu hp1 e5 (fun _ => hng) (lo := 0) (by decide) 4).1 w3
        have hp2 := (ne_le hp1).2
        have key2 := J_num (q := q) (r := upd (upd r (20 + 3 * B.2.1.length) (nI (nv T e))) (21 + 3 * B.2.1.length) (nI (nv T (ne T e)))) (v := v2) (g := true) hu (Or.inl ⟨f2, fun _ => ng_num hp1⟩) hp2 g2 (lo := 1) (by decide) 99
        have h8' : ∀ z : Int32 × S8, f_X8_needsNumber (AT q (upd (upd r (20 + 3 * B.2.1.length) (nI (nv T e))) (21 + 3 * B.2.1.length) (nI (nv T (ne T e)))) T (ne T (ne T e)) true v2) 1 99 = some z → g8_read z.2 = upd (upd r (20 + 3 * B.2.1.length) (nI (nv T e))) (21 + 3 * B.2.1.length) (nI (nv T (ne T e))) → f_X8_readsClaim (AT q r T e true v) x = some (u8_read z.2 (upd (upd (upd (upd r (20 + 3 * B.2.1.length) (nI (nv T e))) (21 + 3 * B.2.1.length) (nI (nv T (ne T e)))) (22 + 3 * B.2.1.length) z.1) 3 (nI (B.2.1.length + 1)))) := by
          intro z hz hzr
          rw [h8 _ e4]
          show R8 (AT q r T (ne T e) true v1) (upd r (20 + 3 * B.2.1.length) (nI (nv T e))) = _
          dsimp only [R8]
          rw [if_pos hwr, if_pos htk, hrd, p_bind, hnum, hmb, p_bind, if_neg (by decide)]
          rw [show f_X8_needsNumber (u8_read (AT q r T (ne T e) true v1) (upd r (20 + 3 * B.2.1.length) (nI (nv T e)))) 0 4 = _ from g1, p_bind, e21, show x_wr 140 (g8_read (nI (nv T (ne T e)), AT q (upd r (20 + 3 * B.2.1.length) (nI (nv T e))) T (ne T (ne T e)) true v2).2) (nI (21 + 3 * B.2.1.length)) (nI (nv T (ne T e)), AT q (upd r (20 + 3 * B.2.1.length) (nI (nv T e))) T (ne T (ne T e)) true v2).1 = _ from p_wr (by omega) (by decide), p_bind]
          rw [show f_X8_needsNumber (u8_read (nI (nv T (ne T e)), AT q (upd r (20 + 3 * B.2.1.length) (nI (nv T e))) T (ne T (ne T e)) true v2).2 (upd (g8_read (nI (nv T (ne T e)), AT q (upd r (20 + 3 * B.2.1.length) (nI (nv T e))) T (ne T (ne T e)) true v2).2) (21 + 3 * B.2.1.length) (nI (nv T (ne T e)), AT q (upd r (20 + 3 * B.2.1.length) (nI (nv T e))) T (ne T (ne T e)) true v2).1)) 1 99 = some z from hz, p_bind, e22, hzr, p_wr (by omega) (by decide), p_bind]
          rw [show x_rd 140 (upd (upd (upd r (20 + 3 * B.2.1.length) (nI (nv T e))) (21 + 3 * B.2.1.length) (nI (nv T (ne T e)))) (22 + 3 * B.2.1.length) z.1) 3 = some (nI B.2.1.length) from (p_rd (i := 3) (by decide) (by decide)).trans (congrArg some (by rw [u_at, if_neg (by omega), u_at, if_neg (by omega), u_at, if_neg (by omega)]; exact hr.2.2.2.2.1)), p_bind, nI_1, show ∀ w : Nat → Int32, ∀ y, x_wr 140 w 3 y = some (upd w 3 y) from fun w y => p_wr (i := 3) (by decide) (by decide), p_bind]
        have h6' : f_X6_readClaim t b = f_X6_readClaim_p36 t2 b (nI (nv T e)) (nI (nv T (ne T e))) := by
          rw [h6 _ _ e1 f1, hcc, p_bind, if_neg (by decide)]
        rcases key2 with ⟨t3, v3, i1, i2, -, i4, i5, i6⟩ | ⟨t3, f, n, v3, e', k, i1, i2, i3, i4⟩
        · have a99 := nv_lt hp2 i6.1
          have a1 := i6.2.1
          have hwc : wfc (nv T e, nv T (ne T e), nv T (ne T (ne T e))) := ⟨by show nv T e < 8; omega, by show nv T (ne T e) < 5; omega, by show nv T (ne T (ne T e)) < 128; omega⟩
          obtain ⟨b1, j1, j2⟩ := c_addClaim hb hn hwc
          have ok1 := ok_addC ok hn hf (y := nv T (ne T e)) (by omega) w4.1 w4.2 (a := nv T (ne T (ne T e))) a1 (by omega)
          have hn1 := (nb_le hp1)
          have hn2 := (ne_le hp1)
          have hn3 := (nb_le hp2)
          have hn4 := (ne_le hp2)
          obtain ⟨t4, q4, l1, l2, l3⟩ := J_fin (q := q) (g := true) (v := v3) (a := a) hu i2 (by omega) j2 ok1 (r_addC hr hn hwc)
          refine ⟨t3, b1, _, t4, q4, ?_, h8' _ i4 rfl, l1, l2, l3⟩
          rw [h6']
          unfold f_X6_readClaim_p36
          rw [show f_X6_readNumber t2 1 99 = _ from i1, p_bind, j1, p_bind]
        · obtain ⟨w, b1, j1⟩ := c_addCT hb hn (nI (nv T e)) (nI (nv T (ne T e))) (nI n)
          refine hJF t3 b1 f _ v3 e' k ?_ i2 (h8' _ i4 rfl)
          rw [h6']
          unfold f_X6_readClaim_p36
          rw [show f_X6_readNumber t2 1 99 = _ from i1, p_bind, j1, p_bind]
      · rw [if_neg w4] at hmb
        rw [if_neg (fun hh => w4 hh.2)] at hcc
        have hn1 := (nb_le hp1)
        obtain ⟨t3, g1, g2, -⟩ := k_fail f2 (p := nb T (ne T e)) hn1.2
        obtain ⟨t4, b4, g3, g4⟩ := k_claimF g2 hb hn (nI (nv T e)) (nI (nv T (ne T e)))
        refine hJF t4 b4 (nb T (ne T e)) (upd r (20 + 3 * B.2.1.length) (nI (nv T e))) v1 (nI (kd T (ne T e) true).2) (nI (kd T (ne T e) true).1) ?_ g4 ?_
        · rw [h6 _ _ e1 f1, hcc, p_bind, if_pos rfl]
          dsimp only
          rw [f3, g1, p_bind]
          exact g3
        · rw [h8 _ e4]
          show R8 (AT q r T (ne T e) true v1) (upd r (20 + 3 * B.2.1.length) (nI (nv T e))) = _
          dsimp only [R8]
          rw [if_pos hwr, if_pos htk, hrd, p_bind, hnum, hmb, p_bind, if_pos rfl]
          rfl
    · obtain ⟨t2, f1, f2, f3⟩ := u2 w3
      obtain ⟨t3, b3, g1, g2⟩ := h6F _ _ _ e1 f1 f2
      refine hJF t3 b3 _ (upd r (20 + 3 * B.2.1.length) (nI (nv T e))) v1 (nI (kd T (ne T e) true).2) (nI (kd T (ne T e) true).1) g1 g2 ((h8 _ e4).trans ?_)
      show R8 (AT q r T (ne T e) true v1) (upd r (20 + 3 * B.2.1.length) (nI (nv T e))) = _
      dsimp only [R8]
      rw [if_pos hwr]
      by_cases w5 : (kd T (ne T e) true).1 = 2
      · have htk : g8_token (AT q r T (ne T e) true v1) = 2 := congrArg nI w5
        have hnum : g8_number (AT q r T (ne T e) true v1) = nI (nv T (ne T e)) := e5 w5
        have hN := c1.mp w5
        have hN1 := nv_lt hp1 hN
        have hgt : ¬ nv T (ne T e) ≤ 4 := fun hh => w3 ⟨hN, Nat.zero_le _, by rw [show (4 : Int32) = nI 4 from rfl, p_le (by omega) (by omega)]; exact hh⟩
        rw [if_pos htk, show x_rd 140 (upd r (20 + 3 * B.2.1.length) (nI (nv T e))) ((20 : Int32) + ((3 : Int32) * nI B.2.1.length)) = some (nI (nv T e)) by rw [e20, p_rd (by omega) (by decide), u_at, if_pos rfl], p_bind, hnum]
        unfold f_X8_mayBeIn
        rw [m_isYear0 (x := nI (nv T (ne T e))) (Or.inr ⟨nI_pos (by omega), by rw [p_le (by omega) (by omega)]; omega⟩), p_bind, if_pos rfl, p_bind, if_pos rfl]
        rfl
      · rw [if_neg (show ¬ g8_token (AT q r T (ne T e) true v1) = 2 by
          show ¬ nI (kd T (ne T e) true).1 = nI 2
          rw [p_eq (by omega) (by omega)]
          exact w5)]
        rfl
  · obtain ⟨y, t2, f1, f2, -⟩ := k_numF e2 (lo := 0) (by decide) 4
    obtain ⟨t3, b3, g1, g2⟩ := h6F _ _ _ e1 f1 f2
    refine hJF t3 b3 f (upd r (20 + 3 * B.2.1.length) 0) v1 e' k g1 g2 ((h8 _ e4).trans ?_)
    show R8 (Z q r (nI f) v1 e' k 1) (upd r (20 + 3 * B.2.1.length) 0) = _
    dsimp only [R8]
    rw [if_neg (show ¬ g8_wrong (Z q r (nI f) v1 e' k 1) = 0 from (by show ¬ (1 : Int32) = 0; decide))]
    rfl
end SE
