/-! PURE: a fleet's sentence, in both -/
theorem nb_nb {T : List Nat} {a : Nat} (hl : a ≤ T.length) : nb T (nb T a) = nb T a := by
  have h := sk_le T isGp (T.length - a) a (by omega)
  by_cases z : T.length ≤ nb T a
  · exact sk_end z
  · obtain ⟨x, hx, -⟩ := p_at (l := T) (i := nb T a) (by omega)
    exact sk_no hx (h.2.2.1 x hx)
theorem ne_nb {T : List Nat} {a : Nat} (hl : a ≤ T.length) : ne T (nb T a) = ne T a := by unfold ne; rw [nb_nb hl]
theorem nv_nb {T : List Nat} {a : Nat} (hl : a ≤ T.length) : nv T (nb T a) = nv T a := by unfold nv; rw [nb_nb hl, ne_nb hl]
theorem rn_nb {T : List Nat} {a lo : Nat} {x2 : Int32} (hl : a ≤ T.length) : rnOK T (nb T a) lo x2 ↔ rnOK T a lo x2 := by unfold rnOK numOK; rw [nb_nb hl, ne_nb hl, nv_nb hl]
theorem nv_lt {T : List Nat} {a : Nat} (hl : a ≤ T.length) (h : numOK T a) : nv T a < 100 := by
  have n2 := (nb_le hl).2
  have h0 := sk_le T isDg (T.length - nb T a) (nb T a) (by omega)
  have h1 := dv_lt (b := nb T a) (e := ne T a) h0.2.2.2 h0.2.1 (ne T a - nb T a) (by have := h.1; omega)
  have h2 : 10 ^ (ne T a - nb T a) ≤ 10 ^ 2 := Nat.pow_le_pow_right (by decide) h.2
  exact Nat.lt_of_lt_of_le h1 h2
theorem nv_le {T : List Nat} {a lo k : Nat} (hl : a ≤ T.length) (hk : k < 100) (h : rnOK T a lo (nI k)) : nv T a ≤ k := by
  have h1 := nv_lt hl h.1
  have h2 := h.2.2
  rw [p_le (by omega) (by omega)] at h2
  exact h2
theorem c_addFT {b : S0} {B : Bk} (h : rC b B) (hn : B.1.length < 8) (x y : Int32) : ∃ z b', f_X0_addFleet b x y = some (z, b') := by
  have h1 := h.2.1
  unfold f_X0_addFleet
  rw [h1, if_pos (by rw [show (8 : Int32) = nI 8 from rfl, p_lt (by omega) (by omega)]; exact hn), nI_1, nI_pred]
  have hh : ∀ t : S0, g0_fleets t = nI (B.1.length + 1) → f_X0_hasFleet t (nI B.1.length) = some 1 := fun t ht => by
    unfold f_X0_hasFleet
    rw [if_neg (nI_pos (by omega)), ht, if_neg (by rw [p_le (by omega) (by omega)]; omega), if_neg (by rw [show (8 : Int32) = nI 8 from rfl, p_le (by omega) (by omega)]; omega)]
  unfold f_X0_putClass f_X0_putYears
  rw [hh (u0_fleets b (nI (B.1.length + 1))) rfl, p_bind, if_neg (by decide), p_wr (by omega) (by decide), p_bind, p_bind]
  rw [show ∀ w, g0_fleets (u0_classes (u0_fleets b (nI (B.1.length + 1))) w) - (1 : Int32) = nI B.1.length from fun w => nI_pred _, hh _ rfl, p_bind, if_neg (by decide), p_wr (by omega) (by decide), p_bind, p_bind]
  exact ⟨_, _, rfl⟩
noncomputable abbrev bC : (S6 × S0 × Int32 × Int32 × Int32 → Option (S6 × S0)) → S6 × S0 × Int32 × Int32 × Int32 → Option (S6 × S0) := fun k z => f_X6_readFleet_p12 (fun s q x2 x3 x4 => k (s, q, x2, x3, x4)) z.1 z.2.1 z.2.2.1 z.2.2.2.1 z.2.2.2.2
noncomputable abbrev bM : (S8 × Int32 × Int32 → Option S8) → S8 × Int32 × Int32 → Option S8 := fun k z => f_X8_readsFleet_p37 (fun s x2 x3 => k (s, x2, x3)) z.1 z.2.1 z.2.2
theorem l_C (m : Nat) (t : S6) (b : S0) (x y w : Int32) : x_loop bC (m + 1) (t, b, x, y, w) = f_X6_readFleet_p12 (fun s q x2 x3 x4 => x_loop bC m (s, q, x2, x3, x4)) t b x y w := rfl
theorem l_M (m : Nat) (s : S8) (x y : Int32) : x_loop bM (m + 1) (s, x, y) = f_X8_readsFleet_p37 (fun s x2 x3 => x_loop bM m (s, x2, x3)) s x y := rfl
theorem k_12F {t : S6} {T : List Nat} {f : Nat} (h : FT t T f) (k : S6 → S0 → Int32 → Int32 → Int32 → Option (S6 × S0)) (b : S0) (x y w : Int32) : f_X6_readFleet_p12 k t b x y w = f_X6_readFleet_p53 t b x y := by
  have h700 := h.1.1
  have hf := h.2.1
  unfold f_X6_readFleet_p12
  rw [if_neg (show ¬ g6_fault t = -1 by rw [h.2.2.2]; exact nI_m1 (by omega))]
  split <;> rfl
section FL
variable {q : S8} {T : List Nat} {r : Nat → Int32} {a : Nat} {b : S0} {B : Bk}
theorem m_66 (s : S8) {n : Nat} (hn : n < 8) (h2 : g8_read s 2 = nI n) (x3 : Int32) : f_X8_readsFleet_p66 s (nI (4 + 2 * n)) x3 = some (u8_read s (upd (upd (g8_read s) (5 + 2 * n) x3) 2 (nI (n + 1)))) := by
  unfold f_X8_readsFleet_p66
  rw [nI_1, show 4 + 2 * n + 1 = 5 + 2 * n by omega, p_wr (by omega) (by decide), p_bind, show x_rd 140 (upd (g8_read s) (5 + 2 * n) x3) 2 = some (nI n) from (p_rd (i := 2) (by decide) (by decide)).trans (congrArg some (by rw [u_at, if_neg (by omega)]; exact h2)), p_bind, nI_1, show x_wr 140 (upd (g8_read s) (5 + 2 * n) x3) 2 (nI (n + 1)) = _ from p_wr (i := 2) (by decide) (by decide), p_bind]
theorem fl_bad {t : S6} {f : Nat} (h : FT t T f) (hb : rC b B) (hn : B.1.length < 8) (h2 : r 2 = nI B.1.length) (x y x3 v e k : Int32) : ∃ b1 q1 t2 q2, f_X6_readFleet_p53 t b x y = some (t, b1) ∧ f_X8_readsFleet_p66 (Z q r (nI f) v e k 1) (nI (4 + 2 * B.1.length)) x3 = some q1 ∧ f_X6_readSentence_p80 t b1 = some (t2, b1) ∧ f_X8_readsOne_p90 q1 = some q2 ∧ OUT T a q t2 b1 q2 := by
  obtain ⟨z, b1, e1⟩ := c_addFT hb hn x y
  obtain ⟨t2, q2, e2, e3, e4⟩ := J_finF (q := q) (r := upd (upd r (5 + 2 * B.1.length) x3) 2 (nI (B.1.length + 1))) (a := a) h b1 v e k
  refine ⟨b1, _, t2, q2, ?_, m_66 (Z q r (nI f) v e k 1) hn h2 x3, e2, e3, e4⟩
  unfold f_X6_readFleet_p53
  rw [e1, p_bind]
theorem fl_good (hu : rU (g8_tape q) (g8_taped q) T) {t : S6} {p : Nat} (h : OKT t T p) (hap : a ≤ p) (hb : rC b B) (ok : okB B) (hr : rM r B) (hn : B.1.length < 8) {c set : Nat} (hc : c < 3) (hs : set < 32) (v : Int32) : ∃ b1 q1 t2 q2, f_X6_readFleet_p53 t b (nI c) (nI set) = some (t, b1) ∧ f_X8_readsFleet_p66 (AT q (upd r (4 + 2 * B.1.length) (nI c)) T p true v) (nI (4 + 2 * B.1.length)) (nI set) = some q1 ∧ f_X6_readSentence_p80 t b1 = some (t2, b1) ∧ f_X8_readsOne_p90 q1 = some q2 ∧ OUT T a q t2 b1 q2 := by
  obtain ⟨b1, e1, hb1⟩ := c_addFleet hb hn hc hs
  obtain ⟨t2, q2, e2, e3, e4⟩ := J_fin (q := q) (g := true) (v := v) hu h hap hb1 (ok_addF ok hn hc hs) (r_addF hr hn hc hs)
  refine ⟨b1, _, t2, q2, ?_, m_66 (AT q (upd r (4 + 2 * B.1.length) (nI c)) T p true v) hn ?_ (nI set), e2, e3, e4⟩
  · unfold f_X6_readFleet_p53
    rw [e1, p_bind]
  · show upd r (4 + 2 * B.1.length) (nI c) 2 = _
    rw [u_at, if_neg (by omega)]
    exact hr.2.2.2.1
theorem fl_loop (hu : rU (g8_tape q) (g8_taped q) T) (hb : rC b B) (ok : okB B) (hr : rM r B) (hn : B.1.length < 8) {c : Nat} (hc : c < 3) : ∀ (d p told set : Nat) (t : S6) (v : Int32) (m n : Nat), T.length < p + d → told ≤ p → a ≤ p → set < 32 → OKT t T p → NV T p true v → (nb T p = p → ¬ numOK T p) → d + 1 ≤ m → d + 1 ≤ n → ∃ t1 b1 q1 t2 q2, x_loop bC m (t, b, nI c, nI set, nI told) = some (t1, b1) ∧ x_loop bM n (AT q (upd r (4 + 2 * B.1.length) (nI c)) T p true v, nI (4 + 2 * B.1.length), nI set) = some q1 ∧ f_X6_readSentence_p80 t1 b1 = some (t2, b1) ∧ f_X8_readsOne_p90 q1 = some q2 ∧ OUT T a q t2 b1 q2 := by
  intro d
  induction d with
  | zero =>
    intro p told set t v m n h1 h2 h3 h4 h5
    have := h5.2.1
    omega
  | succ d ih =>
    intro p told set t v m n h1 h2 h3 h4 h5 h6 h7 h8 h9
    obtain ⟨m, rfl⟩ : ∃ m', m = m' + 1 + 1 := ⟨m - 2, by omega⟩
    obtain ⟨n, rfl⟩ : ∃ n', n = n' + 1 + 1 := ⟨n - 2, by omega⟩
    obtain ⟨o1, o2, o3, o4⟩ := id h5
    have h700 := o1.1
    have n1 := nb_le o2
    have n2 := ne_le o2
    have k3 := (kd_le true o2).2.2
    obtain ⟨d1, d2⟩ := kd_end (g := true) o2
    obtain ⟨c1, c2⟩ := kd_num (g := true) (fun _ => h7) o2
    rw [l_C, l_M]
    have hst : ∀ k : S8 → Int32 → Int32 → Option S8, ¬ (kd T p true).1 = 2 → f_X8_readsFleet_p37 k (AT q (upd r (4 + 2 * B.1.length) (nI c)) T p true v) (nI (4 + 2 * B.1.length)) (nI set) = f_X8_readsFleet_p66 (AT q (upd r (4 + 2 * B.1.length) (nI c)) T p true v) (nI (4 + 2 * B.1.length)) (nI set) := by
      intro k hk
      unfold f_X8_readsFleet_p37
      rw [if_pos (show g8_wrong (AT q (upd r (4 + 2 * B.1.length) (nI c)) T p true v) = 0 from rfl), if_neg (show ¬ g8_token (AT q (upd r (4 + 2 * B.1.length) (nI c)) T p true v) = 2 by
        show ¬ nI (kd T p true).1 = nI 2
        rw [p_eq (by omega) (by omega)]
        exact hk)]
    by_cases w1 : T.length ≤ told
    · -- the tape is out
      obtain ⟨b1, q1, t2, q2, e1, e2, e3⟩ := fl_good (a := a) hu h5 h3 hb ok hr hn hc h4 v
      refine ⟨t, b1, q1, t2, q2, ?_, ?_, e3⟩
      · unfold f_X6_readFleet_p12
        rw [o1.2.2.1, if_pos (by rw [p_le (by omega) (by omega)]; exact w1)]
        exact e1
      · rw [hst _ (fun e => ?_)]
        · exact e2
        · have := (c1.mp e).1
          omega
    · by_cases w2 : T[nb T p]? = some 59
      · have hO : OKT (u6_at t (nI (nb T p))) T (nb T p) := ⟨o1, n1.2, rfl, o4⟩
        -- the class has gone over the gaps
        have hA : AT q (upd r (4 + 2 * B.1.length) (nI c)) T p true v = AT q (upd r (4 + 2 * B.1.length) (nI c)) T (nb T p) true v := by
          unfold AT
          rw [(kd_end (g := true) n1.2).1 (by rw [nb_nb o2]; exact w2), d1 w2, nb_nb o2]
        obtain ⟨b1, q1, t2, q2, e1, e2, e3⟩ := fl_good (a := a) hu hO (by omega) hb ok hr hn hc h4 v
        refine ⟨u6_at t (nI (nb T p)), b1, q1, t2, q2, ?_, ?_, e3⟩
        · unfold f_X6_readFleet_p12
          rw [o1.2.2.1, if_neg (by rw [p_le (by omega) (by omega)]; exact w1), if_pos o4, (c_isEnd o1 o3 o2).1 w2, p_bind, if_neg (show ¬ (1 : Int32) = 0 by decide)]
          exact e1
        · rw [hst _ (fun e => ?_), hA]
          · exact e2
          · rw [d1 w2] at e; cases e
      · have hO : OKT (u6_at t (nI (nb T p))) T (nb T p) := ⟨o1, n1.2, rfl, o4⟩
        obtain ⟨u1, u2⟩ := k_num hO (lo := 0) (by decide) 4
        have hC : ∀ k : S6 → S0 → Int32 → Int32 → Int32 → Option (S6 × S0), f_X6_readFleet_p12 k t b (nI c) (nI set) (nI told) = Option.bind (f_X6_readNumber (u6_at t (nI (nb T p))) (nI 0) 4) (fun v6 => k v6.2 b (nI c) (nI set ||| ((1 : Int32) <<< (v6.1 &&& 31))) (nI told + 1)) := by
          intro k
          unfold f_X6_readFleet_p12
          rw [o1.2.2.1, if_neg (by rw [p_le (by omega) (by omega)]; exact w1), if_pos o4, (c_isEnd o1 o3 o2).2 w2, p_bind, if_pos rfl]
          rfl
        rw [hC]
        by_cases w3 : rnOK T p 0 4
        · obtain ⟨t', f1, f2, -⟩ := u1 ((rn_nb o2).mpr w3)
          rw [nv_nb o2] at f1
          rw [ne_nb o2] at f2
          obtain ⟨v', g1, g2⟩ := (m_numb (q := q) (r := upd r (4 + 2 * B.1.length) (nI c)) (v := v) hu o2 h6 (fun _ => h7) (lo := 0) (by decide) 4).1 w3
          have y4 : nv T p ≤ 4 := nv_le (k := 4) o2 (by decide) w3
          have hne : p < ne T p := by have := w3.1.1; omega
          obtain ⟨t1, b1, q1, t2, q2, e1, e2, e3⟩ := ih (ne T p) (told + 1) (set ||| 2 ^ nv T p) t' v' (m + 1) (n + 1) (by omega) (by omega) (by omega) (p_orY set h4 _ (by omega)).1 f2 g2 (ng_num o2) (by omega) (by omega)
          have hor : nI set ||| ((1 : Int32) <<< (nI (nv T p) &&& 31)) = nI (set ||| 2 ^ nv T p) := by
            have hp := (p_pow5 (nv T p) (by omega)).1
            rw [p_1sh (by omega), p_or (by omega) (by omega)]
          refine ⟨t1, b1, q1, t2, q2, ?_, ?_, e3⟩
          · rw [f1, p_bind, hor, nI_1]
            exact e1
          · unfold f_X8_readsFleet_p37
            rw [if_pos (show g8_wrong (AT q (upd r (4 + 2 * B.1.length) (nI c)) T p true v) = 0 from rfl), if_pos (show g8_token (AT q (upd r (4 + 2 * B.1.length) (nI c)) T p true v) = 2 from congrArg nI (c1.mpr w3.1)), show f_X8_needsNumber (AT q (upd r (4 + 2 * B.1.length) (nI c)) T p true v) 0 4 = _ from g1, p_bind, hor]
            exact e2
        · obtain ⟨t', f1, f2, -⟩ := u2 (fun e => w3 ((rn_nb o2).mp e))
          rw [nb_nb o2] at f2
          rw [f1, p_bind]
          dsimp only
          rw [l_C, k_12F f2]
          have hr2 : upd r (4 + 2 * B.1.length) (nI c) 2 = nI B.1.length := by rw [u_at, if_neg (by omega)]; exact hr.2.2.2.1
          by_cases w4 : (kd T p true).1 = 2
          · obtain ⟨b1, q1, t2, q2, e1, e2, e3⟩ := fl_bad (q := q) (a := a) (r := upd r (4 + 2 * B.1.length) (nI c)) f2 hb hn hr2 (nI c) (nI set ||| ((1 : Int32) <<< (nI 0 &&& 31))) (nI set ||| ((1 : Int32) <<< ((0 : Int32) &&& 31))) v (nI (kd T p true).2) (nI (kd T p true).1)
            refine ⟨t', b1, q1, t2, q2, e1, ?_, e3⟩
            have g1 := (m_numb (q := q) (r := upd r (4 + 2 * B.1.length) (nI c)) (v := v) hu o2 h6 (fun _ => h7) (lo := 0) (by decide) 4).2 w3
            unfold f_X8_readsFleet_p37
            rw [if_pos (show g8_wrong (AT q (upd r (4 + 2 * B.1.length) (nI c)) T p true v) = 0 from rfl), if_pos (show g8_token (AT q (upd r (4 + 2 * B.1.length) (nI c)) T p true v) = 2 from congrArg nI w4), show f_X8_needsNumber (AT q (upd r (4 + 2 * B.1.length) (nI c)) T p true v) 0 4 = _ from g1, p_bind]
            dsimp only
            rw [l_M]
            unfold f_X8_readsFleet_p37
            rw [if_neg (show ¬ g8_wrong (u8_wrong (AT q (upd r (4 + 2 * B.1.length) (nI c)) T p true v) 1) = 0 from (by show ¬ (1 : Int32) = 0; decide))]
            exact e2
          · obtain ⟨z, b1, e1⟩ := c_addFT hb hn (nI c) (nI set ||| ((1 : Int32) <<< (nI 0 &&& 31)))
            obtain ⟨t2, x1, x2⟩ := k_endF f2
            refine ⟨t', b1, _, t2, u8_wrong (AT q (upd (upd (upd r (4 + 2 * B.1.length) (nI c)) (5 + 2 * B.1.length) (nI set)) 2 (nI (B.1.length + 1))) T p true v) 1, ?_, (hst _ w4).trans (m_66 (AT q (upd r (4 + 2 * B.1.length) (nI c)) T p true v) hn hr2 (nI set)), ?_, ?_, ?_⟩
            · unfold f_X6_readFleet_p53
              rw [e1, p_bind]
            · unfold f_X6_readSentence_p80
              rw [x1, p_bind]
            · unfold f_X8_readsOne_p90
              rw [if_pos (show g8_wrong (u8_read (AT q (upd r (4 + 2 * B.1.length) (nI c)) T p true v) (upd (upd (g8_read (AT q (upd r (4 + 2 * B.1.length) (nI c)) T p true v)) (5 + 2 * B.1.length) (nI set)) 2 (nI (B.1.length + 1)))) = 0 from rfl), if_neg (show ¬ g8_token (u8_read (AT q (upd r (4 + 2 * B.1.length) (nI c)) T p true v) (upd (upd (g8_read (AT q (upd r (4 + 2 * B.1.length) (nI c)) T p true v)) (5 + 2 * B.1.length) (nI set)) 2 (nI (B.1.length + 1)))) = 3 by
                show ¬ nI (kd T p true).1 = nI 3
                rw [p_eq (by omega) (by omega)]
                exact d2 w2)]
              rfl
            · exact Or.inl ⟨nb T p, _, v, nI (kd T p true).2, nI (kd T p true).1, x2, rfl⟩
end FL
