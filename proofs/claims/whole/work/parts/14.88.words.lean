/-! PURE: words and numbers, in both -/
def isW (T : List Nat) (a w : Nat) : Prop := sk T isLt a - a = (wdL w).length ∧ ∀ i, i < (wdL w).length → nI (T.getD (a + i) 0) = (wdL w).getD i 0
def isWN (k : Nat) : Bool := decide (k = 1) || decide (k = 2)
theorem kd_le {T : List Nat} {a : Nat} (g : Bool) (hl : a ≤ T.length) : nb T a ≤ (kd T a g).2 ∧ (kd T a g).2 ≤ T.length ∧ (kd T a g).1 < 5 := by
  obtain ⟨n1, n2⟩ := nb_le hl
  have s1 := sk_le T isLt (T.length - nb T a) (nb T a) (by omega)
  have s2 := sk_le T isDg (T.length - nb T a) (nb T a) (by omega)
  unfold kd kd0
  by_cases z : T.length ≤ nb T a
  · rw [List.getElem?_eq_none z]
    exact ⟨Nat.le_refl _, n2, by show 0 < 5; omega⟩
  · obtain ⟨x, hx, -⟩ := p_at (l := T) (i := nb T a) (by omega)
    rw [hx]
    dsimp only
    by_cases q1 : isLt x = true
    · rw [if_pos q1]
      exact ⟨s1.1, s1.2.1, by dsimp only; split <;> omega⟩
    · rw [if_neg q1]
      by_cases q2 : isDg x = true
      · rw [if_pos q2]
        refine ⟨s2.1, s2.2.1, ?_⟩
        dsimp only
        split
        · omega
        · split <;> omega
      · rw [if_neg q2]
        split
        · exact ⟨by dsimp only; omega, by dsimp only; omega, by show 3 < 5; omega⟩
        · exact ⟨by dsimp only; omega, by dsimp only; omega, by show 4 < 5; omega⟩
theorem sk_pos {T : List Nat} {P : Nat → Bool} {p x : Nat} (h : T[p]? = some x) (hp : P x = true) : p + 1 ≤ sk T P p := by
  have hl := (List.getElem?_eq_some_iff.mp h).1
  rw [sk_yes h hp]
  exact (sk_le T P (T.length - (p + 1)) (p + 1) (by omega)).1
theorem kd_num {T : List Nat} {a : Nat} {g : Bool} (hg : g = true → nb T a = a → ¬ numOK T a) (hl : a ≤ T.length) : ((kd T a g).1 = 2 ↔ numOK T a) ∧ ((kd T a g).1 = 2 → (kd T a g).2 = ne T a) := by
  obtain ⟨n1, n2⟩ := nb_le hl
  by_cases z : T.length ≤ nb T a
  · have h1 : ne T a = nb T a := sk_end z
    have h2 : kd T a g = (0, nb T a) := by unfold kd kd0; rw [List.getElem?_eq_none z]
    rw [h2]
    refine ⟨⟨fun e => (by cases e), fun e => ?_⟩, fun e => by cases e⟩
    have := e.1
    omega
  · obtain ⟨x, hx, -⟩ := p_at (l := T) (i := nb T a) (by omega)
    by_cases q2 : isDg x = true
    · have q1 : ¬ isLt x = true := by simp [isDg] at q2; simp [isLt]; omega
      have h3 : nb T a + 1 ≤ ne T a := sk_pos hx q2
      have h2 : kd T a g = (if (g && decide (nb T a = a)) = true then 4 else if sk T isDg (nb T a) - nb T a ≤ 2 then 2 else 4, sk T isDg (nb T a)) := by
        unfold kd kd0; rw [hx]; dsimp only; rw [if_neg q1, if_pos q2]
      rw [h2]
      dsimp only
      by_cases q3 : (g && decide (nb T a = a)) = true
      · rw [if_pos q3]
        simp at q3
        exact ⟨⟨fun e => (by cases e), fun e => absurd e (hg q3.1 q3.2)⟩, fun e => by cases e⟩
      · rw [if_neg q3]
        change ((if ne T a - nb T a ≤ 2 then 2 else 4) = 2 ↔ _) ∧ _
        by_cases q4 : ne T a - nb T a ≤ 2
        · rw [if_pos q4]
          exact ⟨⟨fun _ => ⟨by omega, q4⟩, fun _ => rfl⟩, fun _ => rfl⟩
        · rw [if_neg q4]
          exact ⟨⟨fun e => (by cases e), fun e => absurd e.2 q4⟩, fun _ => rfl⟩
    · have h1 : ne T a = nb T a := sk_no hx q2
      have h2 : ¬ (kd T a g).1 = 2 := by
        unfold kd kd0
        rw [hx]
        dsimp only
        split
        · dsimp only; split <;> omega
        · split <;> (dsimp only; omega)
      exact ⟨⟨fun e => absurd e h2, fun e => by have := e.1; omega⟩, fun e => absurd e h2⟩
theorem ng_gen {T : List Nat} {a : Nat} (h : ∀ x, T[a]? = some x → ¬ isDg x = true) : nb T a = a → ¬ numOK T a := by
  intro e hn
  have h1 := hn.1
  unfold ne at h1
  rw [e] at h1
  by_cases z : T.length ≤ a
  · rw [sk_end z] at h1; omega
  · obtain ⟨x, hx, -⟩ := p_at (l := T) (i := a) (by omega)
    rw [sk_no hx (h x hx)] at h1; omega
theorem ng_num {T : List Nat} {a : Nat} (hl : a ≤ T.length) : nb T (ne T a) = ne T a → ¬ numOK T (ne T a) := by
  have n2 := (nb_le hl).2
  exact ng_gen (sk_le T isDg (T.length - nb T a) (nb T a) (by omega)).2.2.1
/-! the reference's states while it reads -/
def Z (q : S8) (r : Nat → Int32) (b v e k w : Int32) : S8 := u8_wrong (u8_token (u8_spot (u8_number (u8_begun (u8_read q r) b) v) e) k) w
def AT (q : S8) (r : Nat → Int32) (T : List Nat) (a : Nat) (g : Bool) (v : Int32) : S8 := Z q r (nI (nb T a)) v (nI (kd T a g).2) (nI (kd T a g).1) 0
def NV (T : List Nat) (a : Nat) (g : Bool) (v : Int32) : Prop := (kd T a g).1 = 2 → v = nI (nv T a)
section MW
variable {q : S8} {T : List Nat} {r : Nat → Int32}
theorem Z_on {b v e k w b' v' e' k' : Int32} : u8_token (u8_spot (u8_number (u8_begun (Z q r b v e k w) b') v') e') k' = Z q r b' v' e' k' w := rfl
theorem Z_tp {b v e k w : Int32} (h : rU (g8_tape q) (g8_taped q) T) : rU (g8_tape (Z q r b v e k w)) (g8_taped (Z q r b v e k w)) T := h
theorem m_nextZ (h : rU (g8_tape q) (g8_taped q) T) {a k0 : Nat} {b v : Int32} (h5 : k0 < 5) (hl : a ≤ T.length) : ∃ v', f_X8_goesOn (Z q r b v (nI a) (nI k0) 0) = some (AT q r T a (isWN k0) v') ∧ NV T a (isWN k0) v' := by
  obtain ⟨v', e1, e2⟩ := m_goesOn (q := Z q r b v (nI a) (nI k0) 0) (a := a) (k0 := k0) (Z_tp h) rfl rfl h5 hl
  rw [Z_on] at e1
  exact ⟨v', e1, e2⟩
theorem m_next (h : rU (g8_tape q) (g8_taped q) T) {a : Nat} {g : Bool} {v : Int32} (hl : a ≤ T.length) : ∃ v', f_X8_goesOn (AT q r T a g v) = some (AT q r T (kd T a g).2 (isWN (kd T a g).1) v') ∧ NV T (kd T a g).2 (isWN (kd T a g).1) v' := by
  obtain ⟨k1, k2, k3⟩ := kd_le g hl
  exact m_nextZ h k3 k2
theorem m_numb (h : rU (g8_tape q) (g8_taped q) T) {a : Nat} {g : Bool} {v : Int32} (hl : a ≤ T.length) (hv : NV T a g v) (hg : g = true → nb T a = a → ¬ numOK T a) {lo : Nat} (hlo : lo < 100) (x2 : Int32) : (rnOK T a lo x2 → ∃ v', f_X8_needsNumber (AT q r T a g v) (nI lo) x2 = some (nI (nv T a), AT q r T (ne T a) true v') ∧ NV T (ne T a) true v') ∧ (¬ rnOK T a lo x2 → f_X8_needsNumber (AT q r T a g v) (nI lo) x2 = some (0, u8_wrong (AT q r T a g v) 1)) := by
  obtain ⟨k1, k2⟩ := kd_num hg hl
  obtain ⟨l1, l2, l3⟩ := kd_le g hl
  have n2 := (nb_le hl).2
  unfold f_X8_needsNumber
  rw [show g8_wrong (AT q r T a g v) = 0 from rfl, if_pos rfl, show g8_token (AT q r T a g v) = nI (kd T a g).1 from rfl]
  simp only [show (nI (kd T a g).1 = 2) = ((kd T a g).1 = 2) from p_eq (b := 2) (by omega) (by omega)]
  by_cases q1 : (kd T a g).1 = 2
  · have q1' := k1.mp q1
    rw [if_pos q1, show g8_number (AT q r T a g v) = nI (nv T a) from hv q1]
    have hvl : nv T a < 100 := by
      have h0 := sk_le T isDg (T.length - nb T a) (nb T a) (by omega)
      have h1 := dv_lt (b := nb T a) (e := ne T a) h0.2.2.2 h0.2.1 (ne T a - nb T a) (by have := q1'.1; omega)
      have h2 : 10 ^ (ne T a - nb T a) ≤ 10 ^ 2 := Nat.pow_le_pow_right (by decide) q1'.2
      exact Nat.lt_of_lt_of_le h1 h2
    by_cases q2 : nv T a < lo
    · refine ⟨fun e => absurd e.2.1 (by omega), fun _ => ?_⟩
      rw [p_in0 (Or.inl (by rw [p_lt (by omega) (by omega)]; exact q2)), p_bind, if_pos rfl]
    · by_cases q3 : nI (nv T a) ≤ x2
      · refine ⟨fun _ => ?_, fun e => absurd ⟨q1', by omega, q3⟩ e⟩
        obtain ⟨v', e1, e2⟩ := m_next (q := q) (r := r) (g := g) (v := v) h hl
        rw [q1, k2 q1] at e1 e2
        rw [p_in1 (by rw [p_lt (by omega) (by omega)]; exact q2) (Int32.not_lt.mpr q3), p_bind, if_neg (by decide), e1, p_bind]
        exact ⟨v', rfl, e2⟩
      · refine ⟨fun e => absurd e.2.2 q3, fun _ => ?_⟩
        rw [p_in0 (Or.inr (Int32.not_le.mp q3)), p_bind, if_pos rfl]
  · rw [if_neg q1]
    exact ⟨fun e => absurd (k1.mpr e.1) q1, fun _ => rfl⟩
theorem kd_word {a : Nat} (hn : nb T a = a) (hl : a ≤ T.length) : ((kd T a false).1 = 1 → (kd T a false).2 = sk T isLt a) ∧ (¬ (kd T a false).1 = 1 → sk T isLt a = a) := by
  unfold kd kd0
  rw [hn]
  by_cases z : T.length ≤ a
  · rw [List.getElem?_eq_none z]
    exact ⟨fun e => (by cases e), fun _ => sk_end z⟩
  · obtain ⟨x, hx, -⟩ := p_at (l := T) (i := a) (by omega)
    rw [hx]
    dsimp only
    by_cases q1 : isLt x = true
    · rw [if_pos q1]
      exact ⟨fun _ => rfl, fun e => absurd rfl e⟩
    · refine ⟨fun e => ?_, fun _ => sk_no hx q1⟩
      rw [if_neg q1] at e
      by_cases q2 : isDg x = true
      · rw [if_pos q2, if_neg (by simp)] at e
        dsimp only at e
        split at e <;> cases e
      · rw [if_neg q2] at e
        split at e <;> cases e
theorem m_takesWord (h : rU (g8_tape q) (g8_taped q) T) (hw : g8_words q = x_words) {a : Nat} {v : Int32} (hl : a ≤ T.length) (hn : nb T a = a) {w : Nat} (w4 : w < 4) : (isW T a w → ∃ v', f_X8_takesWord (AT q r T a false v) (nI w) = some (1, AT q r T (sk T isLt a) true v') ∧ NV T (sk T isLt a) true v') ∧ (¬ isW T a w → f_X8_takesWord (AT q r T a false v) (nI w) = some (0, AT q r T a false v)) := by
  have hl7 := h.1
  obtain ⟨l1, l2, l3⟩ := kd_le false hl
  obtain ⟨k1, k2⟩ := kd_word hn hl
  obtain ⟨w1, w2, w3, w5⟩ := wd_l w (by omega)
  have w6 : 3 ≤ (wdL w).length := by
    have : ∀ w, w < 4 → 3 ≤ (wdL w).length := by decide
    exact this w w4
  unfold f_X8_takesWord
  rw [show g8_wrong (AT q r T a false v) = 0 from rfl, if_pos rfl, show g8_token (AT q r T a false v) = nI (kd T a false).1 from rfl]
  simp only [show (nI (kd T a false).1 = 1) = ((kd T a false).1 = 1) from p_eq (b := 1) (by omega) (by omega)]
  by_cases q1 : (kd T a false).1 = 1
  · rw [if_pos q1, m_wordFrom (s := AT q r T a false v) hw (by omega), p_bind]
    obtain ⟨v', e1, e2⟩ := m_next (q := q) (r := r) (g := false) (v := v) h hl
    rw [q1, k1 q1] at e1 e2
    have hs := sk_le T isLt (T.length - a) a (by omega)
    have hsp : g8_spot (AT q r T a false v) = nI (sk T isLt a) := congrArg nI (k1 q1)
    have hbg : g8_begun (AT q r T a false v) = nI a := congrArg nI hn
    have htp : ∀ i, a + i < sk T isLt a → x_rd 700 (g8_tape (AT q r T a false v)) (nI (a + i)) = some (nI (T.getD (a + i) 0)) ∧ ¬ nI (T.getD (a + i) 0) = 0 ∧ T.getD (a + i) 0 < 256 := by
      intro i hi
      obtain ⟨x, hx, hxm⟩ := p_at (l := T) (i := a + i) (by omega)
      have hx256 := h.2.1 x hxm
      have hL := hs.2.2.2 (a + i) x (by omega) hi hx
      simp [isLt] at hL
      have hg : T.getD (a + i) 0 = x := by rw [List.getD_eq_getElem?_getD, hx]; rfl
      rw [hg, p_rd (by omega) (by decide)]
      exact ⟨congrArg some (h.2.2.2 _ x hx), by rw [show (0 : Int32) = nI 0 from rfl, p_eq (by omega) (by omega)]; omega, hx256⟩
    have hwd : ∀ i, wdO w + i < 46 → x_rd 46 (g8_words (AT q r T a false v)) (nI (wdO w + i)) = some (x_words (wdO w + i)) := by
      intro i hi
      rw [p_rd hi (by decide)]
      exact congrArg some (congrFun hw _)
    -- how it ends
    have hend : ∀ i, a + i ≤ sk T isLt a → i ≤ (wdL w).length → ((sk T isLt a - a = i ∧ i = (wdL w).length) → f_X8_takesWord_p66 (AT q r T a false v) (nI (wdO w)) (nI i) = some (1, AT q r T (sk T isLt a) true v')) ∧ (¬ (sk T isLt a - a = i ∧ i = (wdL w).length) → f_X8_takesWord_p66 (AT q r T a false v) (nI (wdO w)) (nI i) = some (0, AT q r T a false v)) := by
      intro i hi hi2
      unfold f_X8_takesWord_p66
      rw [hsp, hbg, nI_add, nI_add, hwd i (by omega), p_bind]
      by_cases c1 : a + i = sk T isLt a
      · rw [if_pos (by rw [c1])]
        by_cases c2 : i = (wdL w).length
        · rw [c2, w3, if_pos rfl, e1, p_bind]
          exact ⟨fun _ => rfl, fun e => absurd ⟨by omega, rfl⟩ e⟩
        · rw [if_neg (w5 i (by omega)).2]
          exact ⟨fun e => absurd e.2 c2, fun _ => rfl⟩
      · rw [if_neg (by rw [p_eq (by omega) (by omega)]; exact c1)]
        exact ⟨fun e => absurd e.1 (by omega), fun _ => rfl⟩
    have key := p_forI (body := fun (k : S8 × Int32 × Int32 → Option (Int32 × S8)) (z : S8 × Int32 × Int32) => f_X8_takesWord_p25 (fun s x2 x3 => k (s, x2, x3)) z.1 z.2.1 z.2.2) (min (sk T isLt a - a) (wdL w).length) (fun i s => s = (AT q r T a false v, nI (wdO w), nI i) ∧ ∀ j, j < i → nI (T.getD (a + j) 0) = (wdL w).getD j 0) (fun z => (isW T a w → z = (1, AT q r T (sk T isLt a) true v')) ∧ (¬ isW T a w → z = (0, AT q r T a false v))) (by omega) (fun i k s hi hI ih => ?_) (fun k s hI => ?_) 0 (AT q r T a false v, nI (wdO w), nI 0) (Nat.zero_le _) ⟨rfl, fun j hj => by omega⟩
    · obtain ⟨z, ez, z1, z2⟩ := key
      refine ⟨fun e => ⟨v', ?_, e2⟩, fun e => ?_⟩
      · rw [← z1 e]; exact ez
      · rw [← z2 e]; exact ez
    · obtain ⟨rfl, hj⟩ := hI
      obtain ⟨t1, t2, t3⟩ := htp i (by omega)
      dsimp only
      unfold f_X8_takesWord_p25
      rw [hsp, hbg, nI_add, if_neg (by rw [p_le (by omega) (by omega)]; omega), nI_add, hwd i (by omega), p_bind, t1, p_bind, (w5 i (by omega)).1]
      by_cases c : (wdL w).getD i 0 = nI (T.getD (a + i) 0)
      · rw [if_pos c, nI_1]
        refine ih _ ⟨rfl, fun j hj2 => ?_⟩
        by_cases cj : j = i
        · rw [cj]; exact c.symm
        · exact hj j (by omega)
      · rw [if_neg c, (hend i (by omega) (by omega)).2 (by omega)]
        exact ⟨_, rfl, fun e => absurd (e.2 i (by omega)).symm c, fun _ => rfl⟩
    · obtain ⟨rfl, hj⟩ := hI
      dsimp only
      by_cases c : sk T isLt a - a = (wdL w).length
      · have hW : isW T a w := ⟨c, fun i hi => hj i (by omega)⟩
        unfold f_X8_takesWord_p25
        rw [hsp, hbg, nI_add, if_pos (by rw [p_le (by omega) (by omega)]; omega), (hend (min (sk T isLt a - a) (wdL w).length) (by omega) (by omega)).1 (by omega)]
        exact ⟨_, rfl, fun _ => rfl, fun e => absurd hW e⟩
      · have hW : ¬ isW T a w := fun e => c e.1
        refine ⟨(0, AT q r T a false v), ?_, fun e => absurd e hW, fun _ => rfl⟩
        by_cases c2 : sk T isLt a - a ≤ (wdL w).length
        · unfold f_X8_takesWord_p25
          rw [hsp, hbg, nI_add, if_pos (by rw [p_le (by omega) (by omega)]; omega)]
          exact (hend (min (sk T isLt a - a) (wdL w).length) (by omega) (by omega)).2 (by omega)
        · rw [show min (sk T isLt a - a) (wdL w).length = (wdL w).length by omega]
          obtain ⟨t1, t2, t3⟩ := htp (wdL w).length (by omega)
          unfold f_X8_takesWord_p25
          rw [hsp, hbg, nI_add, if_neg (by rw [p_le (by omega) (by omega)]; omega), nI_add, hwd (wdL w).length (by omega), p_bind, t1, p_bind, w3, if_neg (fun e => t2 e.symm)]
          exact (hend (wdL w).length (by omega) (by omega)).2 (by omega)
  · rw [if_neg q1]
    have := k2 q1
    exact ⟨fun e => absurd e.1 (by omega), fun _ => rfl⟩
end MW
