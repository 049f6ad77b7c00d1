/-! PURE: how a tape is read: places -/
def skp (T : List Nat) (P : Nat → Bool) : Nat → Nat → Nat
  | 0, p => p
  | d + 1, p => match T[p]? with | some x => if P x = true then skp T P d (p + 1) else p | none => p
def sk (T : List Nat) (P : Nat → Bool) (p : Nat) : Nat := skp T P (T.length - p) p
theorem sk_yes {T : List Nat} {P : Nat → Bool} {p x : Nat} (h : T[p]? = some x) (hp : P x = true) : sk T P p = sk T P (p + 1) := by
  have hl := (List.getElem?_eq_some_iff.mp h).1
  unfold sk
  rw [show T.length - p = (T.length - (p + 1)) + 1 by omega, skp, h]
  dsimp only
  rw [if_pos hp]
theorem sk_no {T : List Nat} {P : Nat → Bool} {p x : Nat} (h : T[p]? = some x) (hp : ¬ P x = true) : sk T P p = p := by
  have hl := (List.getElem?_eq_some_iff.mp h).1
  unfold sk
  rw [show T.length - p = (T.length - (p + 1)) + 1 by omega, skp, h]
  dsimp only
  rw [if_neg hp]
theorem sk_end {T : List Nat} {P : Nat → Bool} {p : Nat} (h : T.length ≤ p) : sk T P p = p := by
  unfold sk
  rw [show T.length - p = 0 by omega, skp]
theorem sk_le (T : List Nat) (P : Nat → Bool) : ∀ (d p : Nat), p + d = T.length → (p ≤ sk T P p ∧ sk T P p ≤ T.length ∧ (∀ x, T[sk T P p]? = some x → ¬ P x = true) ∧ ∀ i x, p ≤ i → i < sk T P p → T[i]? = some x → P x = true)
  | 0, p, h => by
    rw [sk_end (by omega)]
    refine ⟨Nat.le_refl _, by omega, ?_, ?_⟩
    · intro x hx
      rw [List.getElem?_eq_none (by omega)] at hx
      cases hx
    · intro i x h1 h2
      omega
  | d + 1, p, h => by
    obtain ⟨a, ha, -⟩ := p_at (l := T) (i := p) (by omega)
    by_cases q : P a = true
    · rw [sk_yes ha q]
      obtain ⟨h1, h2, h3, h4⟩ := sk_le T P d (p + 1) (by omega)
      refine ⟨by omega, h2, h3, fun i x i1 i2 i3 => ?_⟩
      by_cases z : i = p
      · rw [z, ha] at i3
        rw [← Option.some.inj i3]; exact q
      · exact h4 i x (by omega) i2 i3
    · rw [sk_no ha q]
      refine ⟨Nat.le_refl _, by omega, ?_, ?_⟩
      · intro x hx
        rw [ha] at hx
        rw [← Option.some.inj hx]
        exact q
      · intro i x h1 h2
        omega
def isGp (x : Nat) : Bool := decide (x = 32) || decide (x = 10)
def isLt (x : Nat) : Bool := decide (97 ≤ x) && decide (x ≤ 122)
def isDg (x : Nat) : Bool := decide (48 ≤ x) && decide (x ≤ 57)
def nb (T : List Nat) (a : Nat) : Nat := sk T isGp a
def ne (T : List Nat) (a : Nat) : Nat := sk T isDg (nb T a)
def numOK (T : List Nat) (a : Nat) : Prop := 1 ≤ ne T a - nb T a ∧ ne T a - nb T a ≤ 2
/-- a number so far: the digits from a place on -/
def dv (T : List Nat) (b : Nat) : Nat → Nat
  | 0 => 0
  | i + 1 => dv T b i * 10 + (T.getD (b + i) 48 - 48)
def nv (T : List Nat) (a : Nat) : Nat := dv T (nb T a) (ne T a - nb T a)
theorem nb_le {T : List Nat} {a : Nat} (h : a ≤ T.length) : a ≤ nb T a ∧ nb T a ≤ T.length := by
  have := sk_le T isGp (T.length - a) a (by omega)
  exact ⟨this.1, this.2.1⟩
theorem ne_le {T : List Nat} {a : Nat} (h : a ≤ T.length) : nb T a ≤ ne T a ∧ ne T a ≤ T.length := by
  have h1 := (nb_le h).2
  have := sk_le T isDg (T.length - nb T a) (nb T a) (by omega)
  exact ⟨this.1, this.2.1⟩
theorem dv_lt {T : List Nat} {b e : Nat} (h : ∀ i x, b ≤ i → i < e → T[i]? = some x → isDg x = true) (he : e ≤ T.length) : ∀ i, b + i ≤ e → dv T b i < 10 ^ i
  | 0, _ => by show 0 < 10 ^ 0; decide
  | i + 1, hi => by
    have ih := dv_lt h he i (by omega)
    obtain ⟨x, hx, -⟩ := p_at (l := T) (i := b + i) (by omega)
    have hd := h (b + i) x (by omega) (by omega) hx
    unfold isDg at hd
    simp at hd
    unfold dv
    rw [List.getD_eq_getElem?_getD, hx]
    show dv T b i * 10 + (x - 48) < _
    rw [Nat.pow_succ]
    omega
/-! the class -/
section CT
variable {t : S6} {T : List Nat}
theorem c_byteAt (h : rT t T) {p : Nat} (hp : p < T.length) {x : Nat} (hx : T[p]? = some x) : f_X6_byteAt t (nI p) = some (nI x) := by
  have hl := h.1
  unfold f_X6_byteAt
  rw [if_neg (nI_pos (by omega)), h.2.2.1, if_neg (by rw [p_le (by omega) (by omega)]; omega), p_rd (by omega) (by decide), p_bind, h.2.2.2 p x hx]
theorem c_byteAt0 (h : rT t T) {p : Nat} (hp : T.length ≤ p) (h31 : p < 2 ^ 31) : f_X6_byteAt t (nI p) = some (-1) := by
  have hl := h.1
  unfold f_X6_byteAt
  rw [if_neg (nI_pos h31), h.2.2.1, if_pos (by rw [p_le (by omega) h31]; exact hp)]
theorem rT_at (h : rT t T) (a : Int32) : rT (u6_at t a) T := h
theorem c_gaps (h : rT t T) {a : Nat} (ha : g6_at t = nI a) (hl : a ≤ T.length) : f_X6_skipGaps t = some (u6_at t (nI (nb T a))) := by
  have hl7 := h.1
  unfold f_X6_skipGaps lp_X6_skipGaps_p5
  rw [ha]
  have key := p_forI (body := fun (k : S6 × Int32 → Option (S6)) (z : S6 × Int32) => f_X6_skipGaps_p5 (fun s x1 => k (s, x1)) z.1 z.2) (T.length - a) (fun i s => s = (u6_at t (nI (a + i)), nI (a + i)) ∧ nb T a = nb T (a + i)) (fun r => r = u6_at t (nI (nb T a))) (by omega) (fun i k s hi hI ih => ?_) (fun k s hI => ?_) 0 (t, nI a) (Nat.zero_le _) ⟨by rw [Nat.add_zero, ← ha]; rfl, rfl⟩
  · obtain ⟨r, e, rfl⟩ := key
    exact e
  · obtain ⟨rfl, hn⟩ := hI
    obtain ⟨x, hx, hxm⟩ := p_at (l := T) (i := a + i) (by omega)
    have hx256 := h.2.1 x hxm
    dsimp only
    unfold f_X6_skipGaps_p5
    rw [show g6_size (u6_at t (nI (a + i))) = nI T.length from h.2.2.1, if_neg (by rw [p_le (by omega) (by omega)]; omega), c_byteAt (t := u6_at t (nI (a + i))) h (by omega) hx, p_bind, p_bind]
    by_cases q1 : x = 32
    · rw [if_pos (by rw [q1]; rfl), nI_1]
      exact ih _ ⟨rfl, hn.trans (sk_yes hx (by simp [isGp, q1]))⟩
    · rw [if_neg (by rw [show (32 : Int32) = nI 32 from rfl, p_eq (by omega) (by omega)]; exact q1)]
      by_cases q2 : x = 10
      · rw [if_pos (by rw [q2]; rfl), nI_1]
        exact ih _ ⟨rfl, hn.trans (sk_yes hx (by simp [isGp, q2]))⟩
      · rw [if_neg (by rw [show (10 : Int32) = nI 10 from rfl, p_eq (by omega) (by omega)]; exact q2)]
        refine ⟨_, rfl, ?_⟩
        rw [hn, show nb T (a + i) = a + i from sk_no hx (by simp [isGp, q1, q2])]
  · obtain ⟨rfl, hn⟩ := hI
    rw [show a + (T.length - a) = T.length by omega] at hn ⊢
    dsimp only
    unfold f_X6_skipGaps_p5
    rw [show g6_size (u6_at t (nI T.length)) = nI T.length from h.2.2.1, if_pos (by rw [p_le (by omega) (by omega)]; omega)]
    refine ⟨_, rfl, ?_⟩
    rw [hn, show nb T T.length = T.length from sk_end (Nat.le_refl _)]
theorem c_letters (h : rT t T) {a : Nat} (ha : g6_at t = nI a) (hl : a ≤ T.length) : f_X6_skipLetters t = some (u6_at t (nI (sk T isLt a))) := by
  have hl7 := h.1
  unfold f_X6_skipLetters lp_X6_skipLetters_p5
  rw [ha]
  have key := p_forI (body := fun (k : S6 × Int32 → Option (S6)) (z : S6 × Int32) => f_X6_skipLetters_p5 (fun s x1 => k (s, x1)) z.1 z.2) (T.length - a) (fun i s => s = (u6_at t (nI (a + i)), nI (a + i)) ∧ sk T isLt a = sk T isLt (a + i)) (fun r => r = u6_at t (nI (sk T isLt a))) (by omega) (fun i k s hi hI ih => ?_) (fun k s hI => ?_) 0 (t, nI a) (Nat.zero_le _) ⟨by rw [Nat.add_zero, ← ha]; rfl, rfl⟩
  · obtain ⟨r, e, rfl⟩ := key
    exact e
  · obtain ⟨rfl, hn⟩ := hI
    obtain ⟨x, hx, hxm⟩ := p_at (l := T) (i := a + i) (by omega)
    have hx256 := h.2.1 x hxm
    dsimp only
    unfold f_X6_skipLetters_p5
    rw [show g6_size (u6_at t (nI (a + i))) = nI T.length from h.2.2.1, if_neg (by rw [p_le (by omega) (by omega)]; omega), c_byteAt (t := u6_at t (nI (a + i))) h (by omega) hx, p_bind, p_bind]
    by_cases q1 : x < 97
    · rw [if_pos (by rw [show (97 : Int32) = nI 97 from rfl, p_lt (by omega) (by omega)]; exact q1)]
      refine ⟨_, rfl, ?_⟩
      rw [hn, sk_no hx (by simp [isLt]; omega)]
    · rw [if_neg (by rw [show (97 : Int32) = nI 97 from rfl, p_lt (by omega) (by omega)]; exact q1)]
      by_cases q2 : 122 < x
      · rw [if_pos (by rw [show (122 : Int32) = nI 122 from rfl, p_lt (by omega) (by omega)]; exact q2)]
        refine ⟨_, rfl, ?_⟩
        rw [hn, sk_no hx (by simp [isLt]; omega)]
      · rw [if_neg (by rw [show (122 : Int32) = nI 122 from rfl, p_lt (by omega) (by omega)]; exact q2), nI_1]
        exact ih _ ⟨rfl, hn.trans (sk_yes hx (by simp [isLt]; omega))⟩
  · obtain ⟨rfl, hn⟩ := hI
    rw [show a + (T.length - a) = T.length by omega] at hn ⊢
    dsimp only
    unfold f_X6_skipLetters_p5
    rw [show g6_size (u6_at t (nI T.length)) = nI T.length from h.2.2.1, if_pos (by rw [p_le (by omega) (by omega)]; omega)]
    refine ⟨_, rfl, ?_⟩
    rw [hn, sk_end (Nat.le_refl _)]
theorem c_isDigit {x : Nat} (hx : x < 256) : f_X6_isDigit (nI x) = some (if isDg x = true then 1 else 0) := by
  unfold f_X6_isDigit isDg
  by_cases q1 : x < 48
  · rw [if_pos (by rw [show (48 : Int32) = nI 48 from rfl, p_lt (by omega) (by omega)]; exact q1), if_neg (by simp; omega)]
  · rw [if_neg (by rw [show (48 : Int32) = nI 48 from rfl, p_lt (by omega) (by omega)]; exact q1)]
    by_cases q2 : 57 < x
    · rw [if_pos (by rw [show (57 : Int32) = nI 57 from rfl, p_lt (by omega) (by omega)]; exact q2), if_neg (by simp; omega)]
    · rw [if_neg (by rw [show (57 : Int32) = nI 57 from rfl, p_lt (by omega) (by omega)]; exact q2), if_pos (by simp; omega)]
/-- the first fault holds -/
def flt (F : Int32) (p : Nat) : Int32 := if F = -1 then nI p else F
theorem c_failAt (p : Nat) : f_X6_failAt t (nI p) = some (u6_fault t (flt (g6_fault t) p)) := by
  unfold f_X6_failAt flt
  by_cases q : g6_fault t = -1
  · rw [if_pos q, if_pos q]
  · rw [if_neg q, if_neg q]; rfl
def rnOK (T : List Nat) (a lo : Nat) (x2 : Int32) : Prop := numOK T a ∧ lo ≤ nv T a ∧ nI (nv T a) ≤ x2
theorem c_readN (h : rT t T) {a : Nat} (ha : g6_at t = nI a) (hl : a ≤ T.length) {lo : Nat} (hlo : lo < 100) (x2 : Int32) : (rnOK T a lo x2 → f_X6_readNumber t (nI lo) x2 = some (nI (nv T a), u6_at (u6_begin t (nI (nb T a))) (nI (ne T a)))) ∧ (¬ rnOK T a lo x2 → f_X6_readNumber t (nI lo) x2 = some (nI lo, u6_fault (u6_at (u6_begin t (nI (nb T a))) (nI (ne T a))) (flt (g6_fault t) (nb T a)))) := by
  have hl7 := h.1
  obtain ⟨n1, n2⟩ := nb_le hl
  obtain ⟨n3, n4⟩ := ne_le hl
  have hsk := sk_le T isDg (T.length - nb T a) (nb T a) (by omega)
  have hdig : ∀ i x, nb T a ≤ i → i < ne T a → T[i]? = some x → isDg x = true := hsk.2.2.2
  have hstop : ∀ x, T[ne T a]? = some x → ¬ isDg x = true := hsk.2.2.1
  -- what comes behind the digits
  have hend : ∀ v : Int32, (ne T a - nb T a ≤ 2 → v = nI (nv T a)) → (rnOK T a lo x2 → f_X6_readNumber_p76 (u6_at (u6_begin t (nI (nb T a))) (nI (ne T a))) (nI lo) x2 v = some (nI (nv T a), u6_at (u6_begin t (nI (nb T a))) (nI (ne T a)))) ∧ (¬ rnOK T a lo x2 → f_X6_readNumber_p76 (u6_at (u6_begin t (nI (nb T a))) (nI (ne T a))) (nI lo) x2 v = some (nI lo, u6_fault (u6_at (u6_begin t (nI (nb T a))) (nI (ne T a))) (flt (g6_fault t) (nb T a)))) := by
    intro v hv
    have hfail : f_X6_readNumber_p109 (u6_at (u6_begin t (nI (nb T a))) (nI (ne T a))) (nI lo) = some (nI lo, u6_fault (u6_at (u6_begin t (nI (nb T a))) (nI (ne T a))) (flt (g6_fault t) (nb T a))) := by
      unfold f_X6_readNumber_p109
      rw [show f_X6_failAt (u6_at (u6_begin t (nI (nb T a))) (nI (ne T a))) (g6_begin (u6_at (u6_begin t (nI (nb T a))) (nI (ne T a)))) = _ from c_failAt (nb T a), p_bind]
      rfl
    unfold f_X6_readNumber_p76
    rw [show g6_at (u6_at (u6_begin t (nI (nb T a))) (nI (ne T a))) - g6_begin (u6_at (u6_begin t (nI (nb T a))) (nI (ne T a))) = nI (ne T a - nb T a) from pk_sub n3]
    by_cases q1 : ne T a - nb T a < 1
    · rw [if_pos (by rw [show (1 : Int32) = nI 1 from rfl, p_lt (by omega) (by omega)]; exact q1)]
      exact ⟨fun hh => absurd hh.1.1 (by omega), fun _ => hfail⟩
    · rw [if_neg (by rw [show (1 : Int32) = nI 1 from rfl, p_lt (by omega) (by omega)]; exact q1)]
      by_cases q2 : 2 < ne T a - nb T a
      · rw [if_pos (by rw [show (2 : Int32) = nI 2 from rfl, p_lt (by omega) (by omega)]; exact q2)]
        exact ⟨fun hh => absurd hh.1.2 (by omega), fun _ => hfail⟩
      · rw [if_neg (by rw [show (2 : Int32) = nI 2 from rfl, p_lt (by omega) (by omega)]; exact q2), hv (by omega)]
        have hvl : nv T a < 100 := by
          have h1 := dv_lt hdig n4 (ne T a - nb T a) (by omega)
          have h2 : 10 ^ (ne T a - nb T a) ≤ 10 ^ 2 := Nat.pow_le_pow_right (by decide) (by omega)
          exact Nat.lt_of_lt_of_le h1 h2
        by_cases q3 : nv T a < lo
        · rw [if_pos (by rw [p_lt (by omega) (by omega)]; exact q3)]
          exact ⟨fun hh => absurd hh.2.1 (by omega), fun _ => hfail⟩
        · rw [if_neg (by rw [p_lt (by omega) (by omega)]; exact q3)]
          by_cases q4 : nI (nv T a) ≤ x2
          · rw [if_pos q4]
            exact ⟨fun _ => rfl, fun hh => absurd ⟨⟨by omega, by omega⟩, by omega, q4⟩ hh⟩
          · rw [if_neg q4]
            exact ⟨fun hh => absurd hh.2.2 q4, fun _ => hfail⟩
  have hloop : ∃ v : Int32, (ne T a - nb T a ≤ 2 → v = nI (nv T a)) ∧ f_X6_readNumber t (nI lo) x2 = f_X6_readNumber_p76 (u6_at (u6_begin t (nI (nb T a))) (nI (ne T a))) (nI lo) x2 v := by
    unfold f_X6_readNumber
    rw [c_gaps h ha hl, p_bind]
    show ∃ v : Int32, _ ∧ lp_X6_readNumber_p20 (u6_begin (u6_at t (nI (nb T a))) (nI (nb T a))) (nI lo) x2 0 (nI (nb T a)) = _
    -- the value that the loop holds
    let W : Nat → Int32 := fun i => Nat.rec (0 : Int32) (fun j v => if 1000 < (((v * (10 : Int32)) + nI (T.getD (nb T a + j) 48)) - (48 : Int32)) then 1000 else (((v * (10 : Int32)) + nI (T.getD (nb T a + j) 48)) - (48 : Int32))) i
    have hW : ∀ i, i ≤ 2 → nb T a + i ≤ ne T a → W i = nI (dv T (nb T a) i) := by
      intro i
      induction i with
      | zero => intro _ _; rfl
      | succ j ihj =>
        intro hj hj2
        have hj3 := ihj (by omega) (by omega)
        have h1 := dv_lt hdig n4 j (by omega)
        have h2 : 10 ^ j ≤ 10 ^ 1 := Nat.pow_le_pow_right (by decide) (by omega)
        obtain ⟨x, hx, -⟩ := p_at (l := T) (i := nb T a + j) (by omega)
        have hd := hdig (nb T a + j) x (by omega) (by omega) hx
        unfold isDg at hd
        simp at hd
        have hg : T.getD (nb T a + j) 48 = x := by rw [List.getD_eq_getElem?_getD, hx]; rfl
        show (if 1000 < (((W j * (10 : Int32)) + nI (T.getD (nb T a + j) 48)) - (48 : Int32)) then 1000 else (((W j * (10 : Int32)) + nI (T.getD (nb T a + j) 48)) - (48 : Int32))) = _
        have e1 : ((W j * (10 : Int32)) + nI (T.getD (nb T a + j) 48)) - (48 : Int32) = nI (dv T (nb T a) (j + 1)) := by
          rw [hj3, hg, show nI (dv T (nb T a) j) * (10 : Int32) = nI (dv T (nb T a) j * 10) from pk_mul _ 10, nI_add, show (48 : Int32) = nI 48 from rfl, pk_sub (by omega)]
          congr 1
          rw [dv, hg]
          omega
        rw [e1, if_neg (by
          have h3 := dv_lt hdig n4 (j + 1) (by omega)
          have h4 : 10 ^ (j + 1) ≤ 10 ^ 2 := Nat.pow_le_pow_right (by decide) (by omega)
          rw [show (1000 : Int32) = nI 1000 from rfl, p_lt (by omega) (by omega)]
          omega)]
    refine ⟨W (ne T a - nb T a), fun h2 => hW _ h2 (by omega), ?_⟩
    unfold lp_X6_readNumber_p20
    refine p_forE (body := fun (k : S6 × Int32 × Int32 × Int32 × Int32 → Option (Int32 × S6)) (z : S6 × Int32 × Int32 × Int32 × Int32) => f_X6_readNumber_p20 (fun s x1 x2 x3 x4 => k (s, x1, x2, x3, x4)) z.1 z.2.1 z.2.2.1 z.2.2.2.1 z.2.2.2.2) (ne T a - nb T a) (fun i => (u6_at (u6_begin t (nI (nb T a))) (nI (nb T a + i)), nI lo, x2, W i, nI (nb T a + i))) _ (by omega) (fun i k hi ih => ?_) (fun k => ?_) 0 (Nat.zero_le _)
    · obtain ⟨x, hx, hxm⟩ := p_at (l := T) (i := nb T a + i) (by omega)
      have hx256 := h.2.1 x hxm
      have hd := hdig (nb T a + i) x (by omega) (by omega) hx
      have hg : T.getD (nb T a + i) 48 = x := by rw [List.getD_eq_getElem?_getD, hx]; rfl
      dsimp only
      unfold f_X6_readNumber_p20
      rw [show g6_size (u6_at (u6_begin t (nI (nb T a))) (nI (nb T a + i))) = nI T.length from h.2.2.1, if_neg (by rw [p_le (by omega) (by omega)]; omega), c_byteAt (t := u6_at (u6_begin t (nI (nb T a))) (nI (nb T a + i))) h (by omega) hx, p_bind, c_isDigit hx256, if_pos hd, p_bind, if_neg (by decide), p_bind, nI_1]
      rw [← hg]
      exact ih
    · rw [show nb T a + (ne T a - nb T a) = ne T a by omega]
      dsimp only
      unfold f_X6_readNumber_p20
      rw [show g6_size (u6_at (u6_begin t (nI (nb T a))) (nI (ne T a))) = nI T.length from h.2.2.1]
      by_cases q : T.length ≤ ne T a
      · rw [if_pos (by rw [p_le (by omega) (by omega)]; exact q)]
      · obtain ⟨x, hx, hxm⟩ := p_at (l := T) (i := ne T a) (by omega)
        rw [if_neg (by rw [p_le (by omega) (by omega)]; exact q), c_byteAt (t := u6_at (u6_begin t (nI (nb T a))) (nI (ne T a))) h (by omega) hx, p_bind, c_isDigit (h.2.1 x hxm), if_neg (hstop x hx), p_bind, if_pos rfl]
  obtain ⟨v, hv, e⟩ := hloop
  rw [e]
  exact hend v hv
end CT
