/-! PURE: a sentence's pieces, in both -/
def OKT (t : S6) (T : List Nat) (a : Nat) : Prop := rT t T ∧ a ≤ T.length ∧ g6_at t = nI a ∧ g6_fault t = -1
def FT (t : S6) (T : List Nat) (f : Nat) : Prop := rT t T ∧ f ≤ T.length ∧ (∃ a, a ≤ T.length ∧ g6_at t = nI a) ∧ g6_fault t = nI f
def dgAt (T : List Nat) (e : Nat) : Prop := ∃ x, T[e]? = some x ∧ isDg x = true
theorem c_isWord {t : S6} {T : List Nat} (h : rT t T) {a w n : Nat} (hl : a ≤ T.length) (ha : g6_at t = nI (sk T isLt a)) (hn : n < 8) (hb : x_byt.getD n [] = wdL w) (hx : x_len.getD n 0 = (wdL w).length) (w8 : (wdL w).length ≤ 6) : (isW T a w → f_X6_isWord t n (nI a) = some 1) ∧ (¬ isW T a w → f_X6_isWord t n (nI a) = some 0) := by
  have hl7 := h.1
  obtain ⟨s1, s2, s3, s4⟩ := sk_le T isLt (T.length - a) a (by omega)
  have e0 : x_slen n = some (nI (wdL w).length) := by unfold x_slen; rw [if_pos hn, hx]
  unfold f_X6_isWord
  rw [e0, p_bind, ha, pk_sub s1]
  by_cases c : sk T isLt a - a = (wdL w).length
  · rw [if_pos (by rw [c])]
    have key := p_forI (body := fun (k : S6 × Int32 × Int32 → Option (Int32)) (z : S6 × Int32 × Int32) => f_X6_isWord_p17 (fun s n2 x1 x3 => k (s, x1, x3)) z.1 n z.2.1 z.2.2) (wdL w).length (fun i s => s = (t, nI a, nI i) ∧ ∀ j, j < i → nI (T.getD (a + j) 0) = (wdL w).getD j 0) (fun z => (isW T a w → z = 1) ∧ (¬ isW T a w → z = 0)) (by omega) (fun i k s hi hI ih => ?_) (fun k s hI => ?_) 0 (t, nI a, nI 0) (Nat.zero_le _) ⟨rfl, fun j hj => by omega⟩
    · obtain ⟨z, ez, z1, z2⟩ := key
      refine ⟨fun e => ?_, fun e => ?_⟩
      · exact ez.trans (congrArg some (z1 e))
      · exact ez.trans (congrArg some (z2 e))
    · obtain ⟨rfl, hj⟩ := hI
      obtain ⟨x, hx1, hxm⟩ := p_at (l := T) (i := a + i) (by omega)
      have hg : T.getD (a + i) 0 = x := by rw [List.getD_eq_getElem?_getD, hx1]; rfl
      have hch : x_schr n (nI i) = some ((wdL w).getD i 0) := by
        unfold x_schr
        rw [hb, hx, if_pos ⟨hn, p_ok hi (by omega)⟩, nI_clamp (by omega)]
      dsimp only
      unfold f_X6_isWord_p17
      rw [e0, p_bind, if_neg (by rw [p_le (by omega) (by omega)]; omega), nI_add, c_byteAt h (by omega) hx1, p_bind, hch, p_bind]
      by_cases cc : nI x = (wdL w).getD i 0
      · rw [if_pos cc, nI_1]
        refine ih _ ⟨rfl, fun j hj2 => ?_⟩
        by_cases cj : j = i
        · rw [cj, hg]; exact cc
        · exact hj j (by omega)
      · rw [if_neg cc]
        refine ⟨0, rfl, fun e => absurd (e.2 i hi) (by rw [hg]; exact cc), fun _ => rfl⟩
    · obtain ⟨rfl, hj⟩ := hI
      dsimp only
      unfold f_X6_isWord_p17
      rw [e0, p_bind, if_pos (by rw [p_le (by omega) (by omega)]; omega)]
      exact ⟨1, rfl, fun _ => rfl, fun e => absurd ⟨c, hj⟩ e⟩
  · rw [if_neg (by rw [p_eq (by omega) (by omega)]; exact c)]
    exact ⟨fun e => absurd e.1 c, fun _ => rfl⟩
theorem flt0 {F : Int32} (h : F = -1) (p : Nat) : flt F p = nI p := by unfold flt; rw [if_pos h]
theorem flt1 {F : Int32} {f : Nat} (h : F = nI f) (hf : f < 2 ^ 31) (p : Nat) : flt F p = nI f := by unfold flt; rw [h, if_neg (nI_m1 hf)]
section KN
variable {t : S6} {T : List Nat} {a f : Nat}
theorem k_num (h : OKT t T a) {lo : Nat} (hlo : lo < 100) (x2 : Int32) : (rnOK T a lo x2 → ∃ t', f_X6_readNumber t (nI lo) x2 = some (nI (nv T a), t') ∧ OKT t' T (ne T a) ∧ g6_begin t' = nI (nb T a)) ∧ (¬ rnOK T a lo x2 → ∃ t', f_X6_readNumber t (nI lo) x2 = some (nI lo, t') ∧ FT t' T (nb T a) ∧ g6_begin t' = nI (nb T a)) := by
  obtain ⟨h1, h2, h3, h4⟩ := h
  obtain ⟨e1, e2⟩ := c_readN h1 h3 h2 hlo x2
  have n1 := nb_le h2
  have n2 := ne_le h2
  refine ⟨fun e => ⟨_, e1 e, ⟨h1, n2.2, rfl, h4⟩, rfl⟩, fun e => ⟨_, e2 e, ⟨h1, n1.2, ⟨ne T a, n2.2, rfl⟩, flt0 h4 _⟩, rfl⟩⟩
theorem k_numF (h : FT t T f) {lo : Nat} (hlo : lo < 100) (x2 : Int32) : ∃ v t', f_X6_readNumber t (nI lo) x2 = some (nI v, t') ∧ FT t' T f ∧ lo ≤ v ∧ (v = lo ∨ nI v ≤ x2) := by
  obtain ⟨h1, h2, ⟨a, h3, h5⟩, h4⟩ := h
  have h700 := h1.1
  obtain ⟨e1, e2⟩ := c_readN h1 h5 h3 hlo x2
  have n2 := ne_le h3
  by_cases q : rnOK T a lo x2
  · exact ⟨_, _, e1 q, ⟨h1, h2, ⟨_, n2.2, rfl⟩, h4⟩, q.2.1, Or.inr q.2.2⟩
  · exact ⟨_, _, e2 q, ⟨h1, h2, ⟨_, n2.2, rfl⟩, flt1 h4 (by omega) _⟩, Nat.le_refl _, Or.inl rfl⟩
theorem c_isEnd (h : rT t T) (ha : g6_at t = nI a) (hl : a ≤ T.length) : (T[nb T a]? = some 59 → f_X6_isEndNext t = some (1, u6_at t (nI (nb T a)))) ∧ (¬ T[nb T a]? = some 59 → f_X6_isEndNext t = some (0, u6_at t (nI (nb T a)))) := by
  have h700 := h.1
  have n1 := nb_le hl
  unfold f_X6_isEndNext
  rw [c_gaps h ha hl, p_bind, show g6_at (u6_at t (nI (nb T a))) = nI (nb T a) from rfl]
  by_cases z : T.length ≤ nb T a
  · rw [c_byteAt0 (t := u6_at t (nI (nb T a))) h z (by omega), p_bind, if_neg (by decide)]
    refine ⟨fun e => ?_, fun _ => rfl⟩
    rw [List.getElem?_eq_none z] at e
    cases e
  · obtain ⟨x, hx, hxm⟩ := p_at (l := T) (i := nb T a) (by omega)
    have hx256 := h.2.1 x hxm
    rw [c_byteAt (t := u6_at t (nI (nb T a))) h (by omega) hx, p_bind, hx]
    by_cases q : x = 59
    · rw [if_pos (by rw [q]; rfl)]
      exact ⟨fun _ => rfl, fun e => absurd (congrArg some q) e⟩
    · rw [if_neg (by rw [show (59 : Int32) = nI 59 from rfl, p_eq (by omega) (by omega)]; exact q)]
      exact ⟨fun e => absurd (Option.some.inj e) q, fun _ => rfl⟩
theorem k_end (h : OKT t T a) : (T[nb T a]? = some 59 → ∃ t', f_X6_readEnd t = some t' ∧ OKT t' T (nb T a + 1)) ∧ (¬ T[nb T a]? = some 59 → ∃ t', f_X6_readEnd t = some t' ∧ FT t' T (nb T a)) := by
  obtain ⟨h1, h2, h3, h4⟩ := h
  obtain ⟨e1, e2⟩ := c_isEnd h1 h3 h2
  have n1 := nb_le h2
  unfold f_X6_readEnd
  refine ⟨fun e => ?_, fun e => ?_⟩
  · have := (List.getElem?_eq_some_iff.mp e).1
    rw [e1 e, p_bind, if_neg (show ¬ (1 : Int32) = 0 by decide)]
    exact ⟨_, rfl, h1, by omega, nI_1 _, h4⟩
  · rw [e2 e, p_bind, if_pos rfl, show f_X6_failAt (0, u6_at t (nI (nb T a))).2 (g6_at (0, u6_at t (nI (nb T a))).2) = _ from c_failAt (t := u6_at t (nI (nb T a))) (nb T a), p_bind]
    exact ⟨_, rfl, h1, n1.2, ⟨_, n1.2, rfl⟩, flt0 h4 _⟩
theorem k_endF (h : FT t T f) : ∃ t', f_X6_readEnd t = some t' ∧ FT t' T f := by
  obtain ⟨h1, h2, ⟨a, h3, h5⟩, h4⟩ := h
  have h700 := h1.1
  obtain ⟨e1, e2⟩ := c_isEnd h1 h5 h3
  have n1 := nb_le h3
  unfold f_X6_readEnd
  by_cases e : T[nb T a]? = some 59
  · have := (List.getElem?_eq_some_iff.mp e).1
    rw [e1 e, p_bind, if_neg (show ¬ (1 : Int32) = 0 by decide)]
    exact ⟨_, rfl, h1, h2, ⟨nb T a + 1, by omega, nI_1 _⟩, h4⟩
  · rw [e2 e, p_bind, if_pos rfl, show f_X6_failAt (0, u6_at t (nI (nb T a))).2 (g6_at (0, u6_at t (nI (nb T a))).2) = _ from c_failAt (t := u6_at t (nI (nb T a))) (nb T a), p_bind]
    exact ⟨_, rfl, h1, h2, ⟨_, n1.2, rfl⟩, flt1 h4 (by omega) _⟩
theorem k_fail (h : OKT t T a) {p : Nat} (hp : p ≤ T.length) : ∃ t', f_X6_failAt t (nI p) = some t' ∧ FT t' T p ∧ g6_begin t' = g6_begin t := by
  obtain ⟨h1, h2, h3, h4⟩ := h
  exact ⟨_, c_failAt p, ⟨h1, hp, ⟨a, h2, h3⟩, flt0 h4 _⟩, rfl⟩
theorem k_failF (h : FT t T f) (x : Int32) : f_X6_failAt t x = some t := by
  obtain ⟨h1, h2, h3, h4⟩ := h
  have h700 := h1.1
  unfold f_X6_failAt
  rw [if_neg (by rw [h4]; exact nI_m1 (by omega))]
/-- behind a word -/
def WD (t : S6) (T : List Nat) (e : Nat) : Prop := (OKT t T e ∧ ¬ dgAt T e) ∨ (FT t T e ∧ dgAt T e)
theorem k_86 (h : OKT t T a) (b : S0) (x2 : Int32) {w : Int32} (hw : ¬ w = -1) : ∃ t', f_X6_readWord_p86 t b x2 w = some (w, t') ∧ WD t' T a := by
  obtain ⟨h1, h2, h3, h4⟩ := id h
  have h700 := h1.1
  unfold f_X6_readWord_p86
  rw [if_neg hw, h3]
  by_cases z : T.length ≤ a
  · rw [c_byteAt0 h1 z (by omega), p_bind, show f_X6_isDigit (-1) = some 0 from rfl, p_bind, if_pos rfl]
    refine ⟨t, rfl, Or.inl ⟨h, fun ⟨x, hx, _⟩ => ?_⟩⟩
    rw [List.getElem?_eq_none z] at hx
    cases hx
  · obtain ⟨x, hx, hxm⟩ := p_at (l := T) (i := a) (by omega)
    rw [c_byteAt h1 (by omega) hx, p_bind, c_isDigit (h1.2.1 x hxm)]
    by_cases q : isDg x = true
    · rw [if_pos q, p_bind, if_neg (by decide)]
      obtain ⟨t', e1, e2, -⟩ := k_fail h (p := a) h2
      rw [e1, p_bind]
      exact ⟨t', rfl, Or.inr ⟨e2, x, hx, q⟩⟩
    · rw [if_neg q, p_bind, if_pos rfl]
      refine ⟨t, rfl, Or.inl ⟨h, fun ⟨y, hy, hq⟩ => ?_⟩⟩
      rw [hx] at hy
      rw [← Option.some.inj hy] at hq
      exact q hq
theorem k_86n (h : OKT t T a) (b : S0) {p : Nat} (hp : p ≤ T.length) : ∃ t', f_X6_readWord_p86 t b (nI p) (-1) = some (-1, t') ∧ FT t' T p := by
  unfold f_X6_readWord_p86
  obtain ⟨t', e1, e2, -⟩ := k_fail h hp
  rw [if_pos rfl, e1, p_bind]
  exact ⟨t', rfl, e2⟩
end KN
/-- what a sentence comes to, in both -/
def OUT (T : List Nat) (a : Nat) (q : S8) (t : S6) (b : S0) (z : S8) : Prop := (∃ (f : Nat) (r : Nat → Int32) (v e k : Int32), FT t T f ∧ z = Z q r (nI f) v e k 1) ∨ ∃ (a' : Nat) (B : Bk) (r : Nat → Int32) (v : Int32), a < a' ∧ OKT t T a' ∧ rC b B ∧ okB B ∧ rM r B ∧ z = AT q r T a' false v ∧ NV T a' false v
section JF
variable {q : S8} {T : List Nat} {r : Nat → Int32} {t : S6} {a p f : Nat} {b : S0} {g : Bool} {v : Int32}
theorem kd_end (hl : p ≤ T.length) : (T[nb T p]? = some 59 → kd T p g = (3, nb T p + 1)) ∧ (¬ T[nb T p]? = some 59 → ¬ (kd T p g).1 = 3) := by
  have n1 := nb_le hl
  unfold kd kd0
  refine ⟨fun e => ?_, fun e => ?_⟩
  · rw [e]
    dsimp only
    rw [if_neg (by decide), if_neg (by decide), if_pos rfl]
  · by_cases z : T.length ≤ nb T p
    · rw [List.getElem?_eq_none z]
      intro h; cases h
    · obtain ⟨x, hx, -⟩ := p_at (l := T) (i := nb T p) (by omega)
      rw [hx] at e ⊢
      dsimp only
      split
      · dsimp only; split <;> omega
      · split
        · dsimp only
          split
          · omega
          · split <;> omega
        · rw [if_neg (fun c => e (congrArg some c))]
          show ¬ 4 = 3
          decide
theorem J_fin (hu : rU (g8_tape q) (g8_taped q) T) (h : OKT t T p) (hap : a ≤ p) {B : Bk} (hb : rC b B) (ok : okB B) (hr : rM r B) : ∃ t' q', f_X6_readSentence_p80 t b = some (t', b) ∧ f_X8_readsOne_p90 (AT q r T p g v) = some q' ∧ OUT T a q t' b q' := by
  have hl := h.2.1
  have n1 := nb_le hl
  obtain ⟨e1, e2⟩ := k_end h
  obtain ⟨d1, d2⟩ := kd_end (g := g) hl
  have k3 := (kd_le g hl).2.2
  unfold f_X6_readSentence_p80 f_X8_readsOne_p90
  rw [show g8_wrong (AT q r T p g v) = 0 from rfl, if_pos rfl, show g8_token (AT q r T p g v) = nI (kd T p g).1 from rfl]
  simp only [show (nI (kd T p g).1 = 3) = ((kd T p g).1 = 3) from p_eq (b := 3) (by omega) (by omega)]
  by_cases c : T[nb T p]? = some 59
  · obtain ⟨t', f1, f2⟩ := e1 c
    obtain ⟨v', f3, f4⟩ := m_next (q := q) (r := r) (g := g) (v := v) hu hl
    rw [d1 c] at f3 f4
    rw [f1, p_bind, if_pos (by rw [d1 c]), f3, p_bind]
    exact ⟨_, _, rfl, rfl, Or.inr ⟨nb T p + 1, B, r, v', by omega, f2, hb, ok, hr, rfl, f4⟩⟩
  · obtain ⟨t', f1, f2⟩ := e2 c
    rw [f1, p_bind, if_neg (d2 c)]
    exact ⟨_, _, rfl, rfl, Or.inl ⟨nb T p, r, v, nI (kd T p g).2, nI (kd T p g).1, f2, rfl⟩⟩
theorem J_finF (h : FT t T f) (b : S0) (v e k : Int32) : ∃ t' q', f_X6_readSentence_p80 t b = some (t', b) ∧ f_X8_readsOne_p90 (Z q r (nI f) v e k 1) = some q' ∧ OUT T a q t' b q' := by
  obtain ⟨t', f1, f2⟩ := k_endF h
  unfold f_X6_readSentence_p80 f_X8_readsOne_p90
  rw [f1, p_bind, show g8_wrong (Z q r (nI f) v e k 1) = 1 from rfl, if_neg (by decide)]
  exact ⟨_, _, rfl, rfl, Or.inl ⟨f, r, v, e, k, f2, rfl⟩⟩
theorem m_glued (h : dgAt T p) (hl : p ≤ T.length) (x1 x2 : Int32) : nb T p = p ∧ f_X8_needsNumber (AT q r T p true v) x1 x2 = some (0, u8_wrong (AT q r T p true v) 1) := by
  obtain ⟨x, hx, hd⟩ := h
  have hd' := hd
  simp [isDg] at hd'
  have e : nb T p = p := sk_no hx (by simp [isGp]; omega)
  have hk : (kd T p true).1 = 4 := by
    unfold kd kd0
    rw [e, hx]
    dsimp only
    rw [if_neg (by simp [isLt]; omega), if_pos hd]
    simp
  refine ⟨e, ?_⟩
  unfold f_X8_needsNumber
  rw [show g8_wrong (AT q r T p true v) = 0 from rfl, if_pos rfl, show g8_token (AT q r T p true v) = nI (kd T p true).1 from rfl, hk, if_neg (by decide)]
/-- a number, in both -/
theorem J_num (hu : rU (g8_tape q) (g8_taped q) T) (h : (OKT t T p ∧ (g = true → nb T p = p → ¬ numOK T p)) ∨ (FT t T p ∧ dgAt T p ∧ g = true)) (hl : p ≤ T.length) (hv : NV T p g v) {lo : Nat} (hlo : lo < 100) (x2 : Int32) : (∃ t' v', f_X6_readNumber t (nI lo) x2 = some (nI (nv T p), t') ∧ OKT t' T (ne T p) ∧ g6_begin t' = nI (nb T p) ∧ f_X8_needsNumber (AT q r T p g v) (nI lo) x2 = some (nI (nv T p), AT q r T (ne T p) true v') ∧ NV T (ne T p) true v' ∧ rnOK T p lo x2) ∨ (∃ t' f n v' e k, f_X6_readNumber t (nI lo) x2 = some (nI n, t') ∧ FT t' T f ∧ (lo ≤ n ∧ (n = lo ∨ nI n ≤ x2)) ∧ f_X8_needsNumber (AT q r T p g v) (nI lo) x2 = some (0, Z q r (nI f) v' e k 1)) := by
  rcases h with ⟨h, hg⟩ | ⟨h, hd, rfl⟩
  · obtain ⟨e1, e2⟩ := k_num h hlo x2
    obtain ⟨d1, d2⟩ := m_numb (q := q) (r := r) hu hl hv hg hlo x2
    by_cases c : rnOK T p lo x2
    · obtain ⟨t', f1, f2, f3⟩ := e1 c
      obtain ⟨v', g1, g2⟩ := d1 c
      exact Or.inl ⟨t', v', f1, f2, f3, g1, g2, c⟩
    · obtain ⟨t', f1, f2, f3⟩ := e2 c
      exact Or.inr ⟨t', nb T p, lo, v, nI (kd T p g).2, nI (kd T p g).1, f1, f2, ⟨Nat.le_refl _, Or.inl rfl⟩, d2 c⟩
  · obtain ⟨e, e2⟩ := m_glued (q := q) (r := r) (v := v) hd hl (nI lo) x2
    obtain ⟨n, t', f1, f2, f3⟩ := k_numF h hlo x2
    refine Or.inr ⟨t', p, n, v, nI (kd T p true).2, nI (kd T p true).1, f1, f2, f3, ?_⟩
    rw [e2, show nI p = nI (nb T p) from congrArg nI e.symm]
    rfl
end JF
