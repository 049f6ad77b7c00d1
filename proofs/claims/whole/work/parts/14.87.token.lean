/-! PURE: the reference's words, numbers and ends -/
def kd0 (T : List Nat) (b : Nat) (gl : Bool) : Nat × Nat :=
  match T[b]? with
  | none => (0, b)
  | some x => if isLt x = true then (if gl = true then 4 else 1, sk T isLt b) else if isDg x = true then (if gl = true then 4 else if sk T isDg b - b ≤ 2 then 2 else 4, sk T isDg b) else if x = 59 then (3, b + 1) else (4, b + 1)
def kd (T : List Nat) (a : Nat) (g : Bool) : Nat × Nat := kd0 T (nb T a) (g && decide (nb T a = a))
section MT
variable {q : S8} {T : List Nat}
theorem m_here (h : rU (g8_tape q) (g8_taped q) T) {p x : Nat} (hp : g8_spot q = nI p) (hx : T[p]? = some x) : f_X8_here q = some (nI x) := by
  have hl := h.1
  have := (List.getElem?_eq_some_iff.mp hx).1
  unfold f_X8_here
  rw [h.2.2.1, hp, if_neg (by rw [p_le (by omega) (by omega)]; omega), p_rd (by omega) (by decide), p_bind, h.2.2.2 p x hx]
theorem m_here0 (h : rU (g8_tape q) (g8_taped q) T) {p : Nat} (hp : g8_spot q = nI p) (hx : T.length ≤ p) (h31 : p < 2 ^ 31) : f_X8_here q = some (-1) := by
  have hl := h.1
  unfold f_X8_here
  rw [h.2.2.1, hp, if_pos (by rw [p_le (by omega) (by omega)]; omega)]
theorem m_inL {x : Nat} (hx : x < 256) : f_X8_in (nI x) 97 122 = some (if isLt x = true then 1 else 0) := by
  by_cases q : isLt x = true
  · rw [if_pos q]
    simp [isLt] at q
    exact p_in1 (by rw [show (97 : Int32) = nI 97 from rfl, p_lt (by omega) (by omega)]; omega) (by rw [show (122 : Int32) = nI 122 from rfl, p_lt (by omega) (by omega)]; omega)
  · rw [if_neg q]
    simp [isLt] at q
    refine p_in0 ?_
    rw [show (97 : Int32) = nI 97 from rfl, show (122 : Int32) = nI 122 from rfl, p_lt (by omega) (by omega), p_lt (by omega) (by omega)]; omega
theorem m_inD {x : Nat} (hx : x < 256) : f_X8_in (nI x) 48 57 = some (if isDg x = true then 1 else 0) := by
  by_cases q : isDg x = true
  · rw [if_pos q]
    simp [isDg] at q
    exact p_in1 (by rw [show (48 : Int32) = nI 48 from rfl, p_lt (by omega) (by omega)]; omega) (by rw [show (57 : Int32) = nI 57 from rfl, p_lt (by omega) (by omega)]; omega)
  · rw [if_neg q]
    simp [isDg] at q
    refine p_in0 ?_
    rw [show (48 : Int32) = nI 48 from rfl, show (57 : Int32) = nI 57 from rfl, p_lt (by omega) (by omega), p_lt (by omega) (by omega)]; omega
abbrev bI (g : Bool) : Int32 := if g = true then 1 else 0
theorem m_lets (h : rU (g8_tape q) (g8_taped q) T) {b : Nat} (hb : g8_spot q = nI b) (hl : b ≤ T.length) (g : Bool) : lp_X8_goesOn_p105 q (bI g) = some (u8_token (u8_spot q (nI (sk T isLt b))) (nI (if g = true then 4 else 1))) := by
  have hl7 := h.1
  obtain ⟨n1, n2, n3, n4⟩ := sk_le T isLt (T.length - b) b (by omega)
  unfold lp_X8_goesOn_p105
  have e0 : q = u8_spot q (nI (b + 0)) := by rw [Nat.add_zero, ← hb]; rfl
  rw [show (q, bI g) = (fun i => (u8_spot q (nI (b + i)), bI g)) 0 from congrArg (fun z => (z, bI g)) e0]
  refine p_for (body := fun (k : S8 × Int32 → Option (S8)) (z : S8 × Int32) => f_X8_goesOn_p105 (fun s x3 => k (s, x3)) z.1 z.2) (sk T isLt b - b) (fun i => (u8_spot q (nI (b + i)), bI g)) _ (by omega) (fun i k hi ih => ?_) (fun k => ?_) 0 (Nat.zero_le _)
  · obtain ⟨x, hx, hxm⟩ := p_at (l := T) (i := b + i) (by omega)
    dsimp only
    unfold f_X8_goesOn_p105
    rw [m_here (q := u8_spot q (nI (b + i))) h rfl hx, p_bind, m_inL (h.2.1 x hxm), if_pos (n4 _ x (by omega) (by omega) hx), p_bind, if_neg (by decide), show g8_spot (u8_spot q (nI (b + i))) = nI (b + i) from rfl, nI_1]
    exact ih
  · dsimp only
    rw [show b + (sk T isLt b - b) = sk T isLt b by omega]
    unfold f_X8_goesOn_p105
    have hz : Option.bind (f_X8_here (u8_spot q (nI (sk T isLt b)))) (fun v1 => f_X8_in v1 97 122) = some 0 := by
      by_cases z : T.length ≤ sk T isLt b
      · rw [m_here0 (q := u8_spot q (nI (sk T isLt b))) h rfl z (by omega), p_bind]
        exact p_in0 (Or.inl (by decide))
      · obtain ⟨x, hx, hxm⟩ := p_at (l := T) (i := sk T isLt b) (by omega)
        rw [m_here (q := u8_spot q (nI (sk T isLt b))) h rfl hx, p_bind, m_inL (h.2.1 x hxm), if_neg (n3 x hx)]
    rw [← Option.bind_assoc, hz, p_bind, if_pos rfl]
    cases g
    · rfl
    · rfl
theorem m_digs (h : rU (g8_tape q) (g8_taped q) T) {b : Nat} (hb : g8_spot q = nI b) (hbb : g8_begun q = nI b) (hl : b ≤ T.length) (g : Bool) : ∃ v, lp_X8_goesOn_p165 (u8_number q 0) (bI g) = some (u8_token (u8_spot (u8_number q v) (nI (sk T isDg b))) (nI (if g = true then 4 else if sk T isDg b - b ≤ 2 then 2 else 4))) ∧ (sk T isDg b - b ≤ 2 → v = nI (dv T b (sk T isDg b - b))) := by
  have hl7 := h.1
  obtain ⟨n1, n2, n3, n4⟩ := sk_le T isDg (T.length - b) b (by omega)
  refine ⟨nI (dv T b (min (sk T isDg b - b) 2)), ?_, fun hh => by rw [Nat.min_eq_left hh]⟩
  unfold lp_X8_goesOn_p165
  have e0 : u8_number q 0 = u8_spot (u8_number q (nI (dv T b (min 0 2)))) (nI (b + 0)) := by rw [Nat.add_zero, ← hb]; rfl
  rw [show (u8_number q 0, bI g) = (fun i => (u8_spot (u8_number q (nI (dv T b (min i 2)))) (nI (b + i)), bI g)) 0 from congrArg (fun z => (z, bI g)) e0]
  refine p_for (body := fun (k : S8 × Int32 → Option (S8)) (z : S8 × Int32) => f_X8_goesOn_p165 (fun s x3 => k (s, x3)) z.1 z.2) (sk T isDg b - b) (fun i => (u8_spot (u8_number q (nI (dv T b (min i 2)))) (nI (b + i)), bI g)) _ (by omega) (fun i k hi ih => ?_) (fun k => ?_) 0 (Nat.zero_le _)
  · obtain ⟨x, hx, hxm⟩ := p_at (l := T) (i := b + i) (by omega)
    have hd := n4 _ x (by omega) (by omega) hx
    dsimp only
    unfold f_X8_goesOn_p165
    rw [m_here (q := u8_spot (u8_number q (nI (dv T b (min i 2)))) (nI (b + i))) h rfl hx, p_bind, m_inD (h.2.1 x hxm), if_pos hd, p_bind, if_neg (by decide)]
    rw [show g8_spot (u8_spot (u8_number q (nI (dv T b (min i 2)))) (nI (b + i))) = nI (b + i) from rfl, show g8_begun (u8_spot (u8_number q (nI (dv T b (min i 2)))) (nI (b + i))) = nI b from hbb, show nI (b + i) - nI b = nI i from (pk_sub (by omega)).trans (congrArg nI (by omega)), nI_1]
    by_cases q2 : 2 ≤ i
    · rw [if_pos (by rw [show (2 : Int32) = nI 2 from rfl, p_le (by omega) (by omega)]; exact q2)]
      rw [show min (i + 1) 2 = min i 2 by omega] at ih
      exact ih
    · rw [if_neg (by rw [show (2 : Int32) = nI 2 from rfl, p_le (by omega) (by omega)]; exact q2), p_bind]
      simp [isDg] at hd
      rw [show min (i + 1) 2 = i + 1 by omega, dv, List.getD_eq_getElem?_getD, hx] at ih
      rw [show g8_number (u8_spot (u8_number q (nI (dv T b (min i 2)))) (nI (b + i))) = nI (dv T b i) from (congrArg (fun z => nI (dv T b z)) (show min i 2 = i by omega)), show (10 : Int32) * nI (dv T b i) = nI (10 * dv T b i) from pk_mul 10 _, nI_add, show (48 : Int32) = nI 48 from rfl, pk_sub (by omega)]
      rw [show 10 * dv T b i + x - 48 = dv T b i * 10 + ((some x).getD 48 - 48) by simp; omega]
      exact ih
  · dsimp only
    rw [show b + (sk T isDg b - b) = sk T isDg b by omega]
    unfold f_X8_goesOn_p165
    have hz : Option.bind (f_X8_here (u8_spot (u8_number q (nI (dv T b (min (sk T isDg b - b) 2)))) (nI (sk T isDg b)))) (fun v1 => f_X8_in v1 48 57) = some 0 := by
      by_cases z : T.length ≤ sk T isDg b
      · rw [m_here0 (q := u8_spot (u8_number q (nI (dv T b (min (sk T isDg b - b) 2)))) (nI (sk T isDg b))) h rfl z (by omega), p_bind]
        exact p_in0 (Or.inl (by decide))
      · obtain ⟨x, hx, hxm⟩ := p_at (l := T) (i := sk T isDg b) (by omega)
        rw [m_here (q := u8_spot (u8_number q (nI (dv T b (min (sk T isDg b - b) 2)))) (nI (sk T isDg b))) h rfl hx, p_bind, m_inD (h.2.1 x hxm), if_neg (n3 x hx)]
    rw [← Option.bind_assoc, hz, p_bind, if_pos rfl]
    rw [show g8_spot (u8_spot (u8_number q (nI (dv T b (min (sk T isDg b - b) 2)))) (nI (sk T isDg b))) = nI (sk T isDg b) from rfl, show g8_begun (u8_spot (u8_number q (nI (dv T b (min (sk T isDg b - b) 2)))) (nI (sk T isDg b))) = nI b from hbb, pk_sub n1]
    cases g
    · rw [if_pos (show bI false = 0 from rfl), if_neg (show ¬ false = true by decide)]
      by_cases z : sk T isDg b - b ≤ 2
      · rw [if_pos (by rw [show (2 : Int32) = nI 2 from rfl, p_le (by omega) (by omega)]; exact z), if_pos z]
        rfl
      · rw [if_neg (by rw [show (2 : Int32) = nI 2 from rfl, p_le (by omega) (by omega)]; exact z), if_neg z]
        rfl
    · rfl
theorem m_token (h : rU (g8_tape q) (g8_taped q) T) {b : Nat} (hb : g8_spot q = nI b) (hbb : g8_begun q = nI b) (hl : b ≤ T.length) (g : Bool) : ∃ v, f_X8_goesOn_p72 q (bI g) = some (u8_token (u8_spot (u8_number q v) (nI (kd0 T b g).2)) (nI (kd0 T b g).1)) ∧ ((kd0 T b g).1 = 2 → v = nI (dv T b (sk T isDg b - b))) := by
  have hl7 := h.1
  unfold f_X8_goesOn_p72
  by_cases z : T.length ≤ b
  · rw [m_here0 h hb z (by omega), p_bind, if_pos rfl]
    have hk : kd0 T b g = (0, b) := by unfold kd0; rw [List.getElem?_eq_none z]
    rw [hk]
    exact ⟨g8_number q, by rw [← hb]; rfl, fun e => by cases e⟩
  · obtain ⟨x, hx, hxm⟩ := p_at (l := T) (i := b) (by omega)
    have hx256 := h.2.1 x hxm
    rw [m_here h hb hx, p_bind, if_neg (nI_m1 (by omega)), m_inL hx256, p_bind]
    by_cases q1 : isLt x = true
    · have hk : kd0 T b g = (if g = true then 4 else 1, sk T isLt b) := by unfold kd0; rw [hx]; dsimp only; rw [if_pos q1]
      rw [if_pos q1, if_neg (by decide), hk, m_lets h hb hl g]
      exact ⟨g8_number q, rfl, fun e => by cases g <;> cases e⟩
    · rw [if_neg q1, if_pos rfl, m_inD hx256, p_bind]
      by_cases q2 : isDg x = true
      · have hk : kd0 T b g = (if g = true then 4 else if sk T isDg b - b ≤ 2 then 2 else 4, sk T isDg b) := by unfold kd0; rw [hx]; dsimp only; rw [if_neg q1, if_pos q2]
        rw [if_pos q2, if_neg (by decide), hk]
        obtain ⟨v, e1, e2⟩ := m_digs h hb hbb hl g
        refine ⟨v, e1, fun e => e2 ?_⟩
        by_cases q3 : sk T isDg b - b ≤ 2
        · exact q3
        · cases g
          · dsimp only at e
            rw [if_neg (by decide), if_neg q3] at e; cases e
          · cases e
      · rw [if_neg q2, if_pos rfl, hb, nI_1]
        by_cases q3 : x = 59
        · have hk : kd0 T b g = (3, b + 1) := by unfold kd0; rw [hx]; dsimp only; rw [if_neg q1, if_neg q2, if_pos q3]
          rw [if_pos (by rw [q3]; rfl), hk]
          exact ⟨g8_number q, rfl, fun e => by cases e⟩
        · have hk : kd0 T b g = (4, b + 1) := by unfold kd0; rw [hx]; dsimp only; rw [if_neg q1, if_neg q2, if_neg q3]
          rw [if_neg (by rw [show (59 : Int32) = nI 59 from rfl, p_eq (by omega) (by omega)]; exact q3), hk]
          exact ⟨g8_number q, rfl, fun e => by cases e⟩
/-- the token behind a place -/
theorem m_goesOn (h : rU (g8_tape q) (g8_taped q) T) {a k0 : Nat} (ha : g8_spot q = nI a) (hk0 : g8_token q = nI k0) (h5 : k0 < 5) (hl : a ≤ T.length) : ∃ v, f_X8_goesOn q = some (u8_token (u8_spot (u8_number (u8_begun q (nI (nb T a))) v) (nI (kd T a (decide (k0 = 1) || decide (k0 = 2))).2)) (nI (kd T a (decide (k0 = 1) || decide (k0 = 2))).1)) ∧ ((kd T a (decide (k0 = 1) || decide (k0 = 2))).1 = 2 → v = nI (nv T a)) := by
  have hl7 := h.1
  obtain ⟨n1, n2, n3, n4⟩ := sk_le T isGp (T.length - a) a (by omega)
  change a ≤ nb T a at n1
  change nb T a ≤ T.length at n2
  change ∀ x, T[nb T a]? = some x → _ at n3
  change ∀ i x, a ≤ i → i < nb T a → _ at n4
  obtain ⟨v, e1, e2⟩ := m_token (q := u8_begun (u8_spot q (nI (nb T a))) (nI (nb T a))) h rfl rfl n2 ((decide (k0 = 1) || decide (k0 = 2)) && decide (nb T a = a))
  refine ⟨v, ?_, e2⟩
  refine Eq.trans ?_ e1
  unfold f_X8_goesOn lp_X8_goesOn_p10
  have e0 : q = u8_spot q (nI (a + 0)) := by rw [Nat.add_zero, ← ha]; rfl
  rw [ha, hk0, show (q, nI k0, nI a) = (fun i => (u8_spot q (nI (a + i)), nI k0, nI a)) 0 from congrArg (fun z => (z, nI k0, nI a)) e0]
  refine p_forE (body := fun (k : S8 × Int32 × Int32 → Option (S8)) (z : S8 × Int32 × Int32) => f_X8_goesOn_p10 (fun s x1 x2 => k (s, x1, x2)) z.1 z.2.1 z.2.2) (nb T a - a) (fun i => (u8_spot q (nI (a + i)), nI k0, nI a)) _ (by omega) (fun i k hi ih => ?_) (fun k => ?_) 0 (Nat.zero_le _)
  · obtain ⟨x, hx, hxm⟩ := p_at (l := T) (i := a + i) (by omega)
    have hx256 := h.2.1 x hxm
    have hg := n4 _ x (by omega) (by omega) hx
    dsimp only
    unfold f_X8_goesOn_p10
    rw [m_here (q := u8_spot q (nI (a + i))) h rfl hx, p_bind, p_bind, show g8_spot (u8_spot q (nI (a + i))) = nI (a + i) from rfl, nI_1]
    by_cases q1 : x = 32
    · rw [if_pos (by rw [q1]; rfl)]
      exact ih
    · rw [if_neg (by rw [show (32 : Int32) = nI 32 from rfl, p_eq (by omega) (by omega)]; exact q1), if_pos (by simp [isGp, q1] at hg; rw [hg]; rfl)]
      exact ih
  · dsimp only
    rw [show a + (nb T a - a) = nb T a by omega]
    unfold f_X8_goesOn_p10
    have hz : ∃ y, f_X8_here (u8_spot q (nI (nb T a))) = some y ∧ ¬ y = 32 ∧ ¬ y = 10 := by
      by_cases z : T.length ≤ nb T a
      · exact ⟨-1, m_here0 (q := u8_spot q (nI (nb T a))) h rfl z (by omega), by decide, by decide⟩
      · obtain ⟨x, hx, hxm⟩ := p_at (l := T) (i := nb T a) (by omega)
        have hx256 := h.2.1 x hxm
        have hg := n3 x hx
        simp [isGp] at hg
        exact ⟨nI x, m_here (q := u8_spot q (nI (nb T a))) h rfl hx, by rw [show (32 : Int32) = nI 32 from rfl, p_eq (by omega) (by omega)]; exact hg.1, by rw [show (10 : Int32) = nI 10 from rfl, p_eq (by omega) (by omega)]; exact hg.2⟩
    obtain ⟨y, y1, y2, y3⟩ := hz
    rw [y1, p_bind, if_neg y2, p_bind, if_neg y3, show g8_spot (u8_spot q (nI (nb T a))) = nI (nb T a) from rfl]
    unfold f_X8_goesOn_p67 f_X8_goesOn_p71
    simp only [show (nI (nb T a) = nI a) = (nb T a = a) from p_eq (by omega) (by omega), show (nI k0 = 1) = (k0 = 1) from p_eq (a := k0) (b := 1) (by omega) (by omega), show (nI k0 = 2) = (k0 = 2) from p_eq (a := k0) (b := 2) (by omega) (by omega)]
    by_cases z1 : nb T a = a
    · rw [if_pos z1]
      by_cases z2 : k0 = 1
      · rw [if_pos z2, show ((decide (k0 = 1) || decide (k0 = 2)) && decide (nb T a = a)) = true by simp [z1, z2]]; rfl
      · rw [if_neg z2]
        by_cases z3 : k0 = 2
        · rw [if_pos z3, show ((decide (k0 = 1) || decide (k0 = 2)) && decide (nb T a = a)) = true by simp [z1, z3]]; rfl
        · rw [if_neg z3, show ((decide (k0 = 1) || decide (k0 = 2)) && decide (nb T a = a)) = false by simp [z2, z3]]; rfl
    · rw [if_neg z1, show ((decide (k0 = 1) || decide (k0 = 2)) && decide (nb T a = a)) = false by simp [z1]]; rfl
end MT
