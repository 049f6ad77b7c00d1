/-! PURE: what is written -/
/-- digits: begun, or zeros ahead left out -/
def ds (n : Nat) : Bool → Nat → List Int32
  | _, 0 => []
  | true, d + 1 => nI (48 + n / 10 ^ d % 10) :: ds n true d
  | false, d + 1 => if n / 10 ^ d % 10 = 0 ∧ d ≠ 0 then ds n false d else nI (48 + n / 10 ^ d % 10) :: ds n true d
theorem ds_t (n d : Nat) : ds n true (d + 1) = nI (48 + n / 10 ^ d % 10) :: ds n true d := rfl
theorem ds_f (n d : Nat) : ds n false (d + 1) = if n / 10 ^ d % 10 = 0 ∧ d ≠ 0 then ds n false d else nI (48 + n / 10 ^ d % 10) :: ds n true d := rfl
abbrev num (n : Nat) : List Int32 := ds n false 10
theorem ds_len (n : Nat) : ∀ d, (ds n true d).length = d
  | 0 => rfl
  | d + 1 => by rw [ds_t, List.length_cons, ds_len n d]
theorem ds_cut {n p : Nat} (h1 : n < 10 ^ (p + 1)) (h2 : p = 0 ∨ 10 ^ p ≤ n) : ∀ e, ds n false (p + 1 + e) = ds n true (p + 1)
  | 0 => by
    rw [Nat.add_zero, ds_f, ds_t]
    by_cases q : n / 10 ^ p % 10 = 0 ∧ p ≠ 0
    · exfalso
      have h3 : 10 ^ p ≤ n := h2.resolve_left q.2
      have h4 : 0 < n / 10 ^ p := Nat.div_pos h3 (Nat.pow_pos (by decide))
      have h5 : n / 10 ^ p < 10 := by
        rw [Nat.div_lt_iff_lt_mul (Nat.pow_pos (by decide))]
        rw [Nat.pow_succ] at h1
        omega
      omega
    · rw [if_neg q]
  | e + 1 => by
    rw [show p + 1 + (e + 1) = (p + 1 + e) + 1 by omega, ds_f, if_pos]
    · exact ds_cut h1 h2 e
    · refine ⟨?_, by omega⟩
      rw [Nat.div_eq_of_lt (Nat.lt_of_lt_of_le h1 (Nat.pow_le_pow_right (by decide) (by omega)))]
theorem top_ex : ∀ (k n : Nat), n < 10 ^ (k + 1) → ∃ p, p ≤ k ∧ n < 10 ^ (p + 1) ∧ (p = 0 ∨ 10 ^ p ≤ n)
  | 0, n, h => ⟨0, by omega, h, Or.inl rfl⟩
  | k + 1, n, h => by
    by_cases q : n < 10 ^ (k + 1)
    · obtain ⟨p, h1, h2, h3⟩ := top_ex k n q
      exact ⟨p, by omega, h2, h3⟩
    · exact ⟨k + 1, by omega, h, Or.inr (by omega)⟩
theorem num_len {n k : Nat} (hk : k ≤ 9) (h : n < 10 ^ (k + 1)) : (num n).length ≤ k + 1 := by
  obtain ⟨p, h1, h2, h3⟩ := top_ex k n h
  have e := ds_cut h2 h3 (9 - p)
  rw [show p + 1 + (9 - p) = 10 by omega] at e
  show (ds n false 10).length ≤ _
  rw [e, ds_len]
  omega
/-! the pen -/
def lookT (T : List Int32) (x : Int32) : Int32 := if x < 0 then -2 else (T[x.toNatClampNeg]?).getD (-2)
def rPen (p : S3) (x : Int32) (T : List Int32) : Prop := g3_wanted p = x ∧ g3_written p = nI T.length ∧ g3_found p = lookT T x
theorem c_byte {p : S3} {x : Int32} {T : List Int32} (h : rPen p x T) (hl : T.length < 1000) (b : Int32) : ∃ p', f_X3_writeByte p b = some p' ∧ rPen p' x (T ++ [b]) := by
  obtain ⟨h1, h2, h3⟩ := h
  unfold f_X3_writeByte
  rw [h1, h2]
  by_cases q : nI T.length = x
  · rw [if_pos q]
    refine ⟨_, rfl, h1, ?_, ?_⟩
    · show nI T.length + 1 = _
      rw [nI_1, List.length_append]; rfl
    · show b = _
      unfold lookT
      rw [← q, if_neg (nI_pos (by omega)), nI_clamp (by omega), List.getElem?_append_right (Nat.le_refl _), Nat.sub_self]
      rfl
  · rw [if_neg q]
    refine ⟨_, rfl, h1, ?_, ?_⟩
    · show nI T.length + 1 = _
      rw [nI_1, List.length_append]; rfl
    · show g3_found p = _
      rw [h3]
      unfold lookT
      by_cases z : x < 0
      · rw [if_pos z, if_pos z]
      · rw [if_neg z, if_neg z]
        have hx : x = nI x.toNatClampNeg := by
          apply Int32.toInt_inj.mp
          have h0 : 0 ≤ x.toInt := by
            rw [i_lt] at z
            have : (0 : Int32).toInt = 0 := rfl
            omega
          have hl2 := x.toInt_lt
          rw [nI_toInt (by show x.toInt.toNat < 2 ^ 31; omega)]
          show x.toInt = ((x.toInt.toNat : Nat) : Int)
          omega
        have hne : x.toNatClampNeg ≠ T.length := fun e => q (by rw [← e]; exact hx.symm)
        by_cases z2 : x.toNatClampNeg < T.length
        · rw [List.getElem?_append_left z2]
        · rw [List.getElem?_eq_none (by omega), List.getElem?_eq_none (by rw [List.length_append]; show T.length + 1 ≤ _; omega)]
theorem plc_div : ∀ d, d < 10 → (nI (10 ^ d) / 10 = nI (if d = 0 then 0 else 10 ^ (d - 1)) ∧ 10 ^ d < 2 ^ 31) := by decide +kernel
abbrev plc (d : Nat) : Nat := if d = 0 then 0 else 10 ^ (d - 1)
theorem dig_eq {n d : Nat} (hn : n < 2 ^ 31) (hd : d < 10) : (nI n / nI (10 ^ d)) - (nI n / nI (10 ^ d)) / 10 * 10 = nI (n / 10 ^ d % 10) := by
  have h1 := (plc_div d hd).2
  have h2 : n / 10 ^ d ≤ n := Nat.div_le_self _ _
  rw [pk_div hn (Nat.pow_pos (by decide)) h1]
  exact pk_rem (a := n / 10 ^ d) (d := 10) (by omega) (by decide) (by decide)
theorem c_digits {p : S3} {x : Int32} {T : List Int32} (h : rPen p x T) (hl : T.length < 900) {n : Nat} (hn : n < 2 ^ 31) : ∃ p', lp_X3_writeBehind_p11 p (nI n) 0 1000000000 = some p' ∧ rPen p' x (T ++ num n) := by
  unfold lp_X3_writeBehind_p11
  refine p_loop (body := fun (k : S3 × Int32 × Int32 × Int32 → Option (S3)) (z : S3 × Int32 × Int32 × Int32) => f_X3_writeBehind_p11 (fun s x1 x2 x3 => k (s, x1, x2, x3)) z.1 z.2.1 z.2.2.1 z.2.2.2)
    (fun d t => ∃ p' V b, t = (p', nI n, (if b = true then 1 else 0), nI (plc d)) ∧ rPen p' x V ∧ V.length + d < 920 ∧ d ≤ 10 ∧ V ++ ds n b d = T ++ num n)
    (fun p' => rPen p' x (T ++ num n)) (fun d k t hI ih => ?_) 10 (p, nI n, 0, 1000000000) (by omega) ⟨p, T, false, rfl, h, by omega, by omega, rfl⟩
  obtain ⟨p', V, b, rfl, hp, hV, hd, hE⟩ := hI
  dsimp only
  unfold f_X3_writeBehind_p11
  cases d with
  | zero =>
    rw [if_pos (by decide)]
    refine ⟨_, rfl, ?_⟩
    rw [show ds n b 0 = [] by cases b <;> rfl, List.append_nil] at hE
    rw [← hE]; exact hp
  | succ d =>
    have hpl := plc_div d (by omega)
    have e1 : plc (d + 1) = 10 ^ d := by unfold plc; rw [if_neg (by omega), Nat.add_sub_cancel]
    have hp10 : 0 < 10 ^ d := Nat.pow_pos (by decide)
    have hdg : n / 10 ^ d % 10 < 10 := Nat.mod_lt _ (by decide)
    rw [e1, if_neg (by rw [show (0 : Int32) = nI 0 from rfl, p_le (by omega) (by omega)]; omega), p_nz (by rw [show (0 : Int32) = nI 0 from rfl, p_eq (by omega) (by omega)]; omega), p_bind, dig_eq hn (by omega)]
    have hw : V ++ (nI (48 + n / 10 ^ d % 10) :: ds n true d) = T ++ num n → ∃ r, f_X3_writeBehind_p37 (fun s x1 x2 x3 => k (s, x1, x2, x3)) p' (nI n) (nI (10 ^ d)) (nI (n / 10 ^ d % 10)) = some r ∧ rPen r x (T ++ num n) := by
      intro hE2
      unfold f_X3_writeBehind_p37 f_X3_writeBehind_p42
      obtain ⟨p2, e2, h2⟩ := c_byte hp (by omega) ((48 : Int32) + nI (n / 10 ^ d % 10))
      rw [if_neg (by decide), e2, p_bind, hpl.1]
      refine ih d _ (by omega) ⟨p2, V ++ [(48 : Int32) + nI (n / 10 ^ d % 10)], true, rfl, h2, by rw [List.length_append]; show V.length + 1 + d < 920; omega, by omega, ?_⟩
      rw [show (48 : Int32) + nI (n / 10 ^ d % 10) = nI (48 + n / 10 ^ d % 10) from nI_add 48 _, List.append_assoc]
      exact hE2
    cases b with
    | true =>
      rw [if_pos rfl, if_neg (by decide)]
      exact hw hE
    | false =>
      rw [if_pos (by decide)]
      rw [ds_f] at hE
      by_cases q : n / 10 ^ d % 10 = 0 ∧ d ≠ 0
      · rw [if_pos q] at hE
        rw [q.1, if_neg (by decide), if_neg (by
          intro e
          rw [show (1 : Int32) = nI 1 from rfl, p_eq (by omega) (by omega)] at e
          have := Nat.pow_le_pow_right (n := 10) (by decide) (show 1 ≤ d by omega)
          omega)]
        unfold f_X3_writeBehind_p42
        rw [if_pos rfl, hpl.1]
        exact ih d _ (by omega) ⟨p', V, false, rfl, hp, by omega, by omega, hE⟩
      · rw [if_neg q] at hE
        by_cases q2 : n / 10 ^ d % 10 = 0
        · have d0 : d = 0 := by
            rcases Nat.eq_zero_or_pos d with z | z
            · exact z
            · exact absurd ⟨q2, by omega⟩ q
          rw [if_neg (by rw [q2]; decide), if_pos (by rw [d0]; rfl)]
          exact hw hE
        · rw [if_pos (by rw [show (0 : Int32) = nI 0 from rfl, p_lt (by omega) (by omega)]; omega)]
          exact hw hE
theorem c_behind {p : S3} {x : Int32} {T : List Int32} (h : rPen p x T) (hl : T.length < 890) {n : Nat} (hn : n < 2 ^ 31) : ∃ p', f_X3_writeBehind p (nI n) = some p' ∧ rPen p' x (T ++ 32 :: num n) := by
  obtain ⟨p1, e1, h1⟩ := c_byte h (by omega) 32
  obtain ⟨p2, e2, h2⟩ := c_digits h1 (by rw [List.length_append]; show T.length + 1 < 900; omega) hn
  refine ⟨p2, ?_, ?_⟩
  · unfold f_X3_writeBehind
    rw [e1, p_bind, e2]
  · rw [List.append_assoc] at h2; exact h2
theorem take_D {l : List Int32} {i : Nat} (h : i < l.length) : l.take (i + 1) = l.take i ++ [l.getD i 0] := by
  rw [List.take_succ, List.getD_eq_getElem?_getD, List.getElem?_eq_getElem h]; rfl
theorem x_lens : ∀ w, w < 8 → ((x_byt.getD w []).length = x_len.getD w 0 ∧ x_len.getD w 0 ≤ 6) := by decide
theorem c_named {p : S3} {x : Int32} {T : List Int32} (h : rPen p x T) (hl : T.length < 880) {w n : Nat} (hw : w < 8) (hn : n < 2 ^ 31) : ∃ p', f_X3_writeNamed p w (nI n) = some p' ∧ rPen p' x (T ++ (x_byt.getD w [] ++ 32 :: num n)) := by
  obtain ⟨hlen, h6⟩ := x_lens w hw
  have e0 : x_slen w = some (nI (x_len.getD w 0)) := by unfold x_slen; rw [if_pos hw]
  unfold f_X3_writeNamed lp_X3_writeNamed_p2
  refine p_forI (body := fun (k : S3 × Int32 × Int32 → Option (S3)) (z : S3 × Int32 × Int32) => f_X3_writeNamed_p2 (fun s n1 x2 x3 => k (s, x2, x3)) z.1 w z.2.1 z.2.2) (x_len.getD w 0) (fun i t => ∃ p', t = (p', nI n, nI i) ∧ rPen p' x (T ++ (x_byt.getD w []).take i)) (fun p' => rPen p' x (T ++ (x_byt.getD w [] ++ 32 :: num n))) (by omega) (fun i k t hi hI ih => ?_) (fun k t hI => ?_) 0 (p, nI n, 0) (Nat.zero_le _) ⟨p, rfl, by rw [List.take_zero, List.append_nil]; exact h⟩
  · obtain ⟨p', rfl, hp⟩ := hI
    have hcl : (nI i).toNatClampNeg = i := nI_clamp (by omega)
    have hch : x_schr w (nI i) = some ((x_byt.getD w []).getD i 0) := by
      unfold x_schr
      rw [if_pos ⟨hw, p_ok hi (by omega)⟩, hcl]
    obtain ⟨p2, e2, h2⟩ := c_byte hp (by rw [List.length_append, List.length_take]; omega) ((x_byt.getD w []).getD i 0)
    dsimp only
    unfold f_X3_writeNamed_p2
    rw [e0, p_bind, if_neg (by rw [p_le (by omega) (by omega)]; omega), hch, p_bind, e2, p_bind, nI_1]
    refine ih _ ⟨p2, rfl, ?_⟩
    have hi2 : i < (x_byt.getD w []).length := by omega
    have e3 : (x_byt.getD w []).take (i + 1) = (x_byt.getD w []).take i ++ [(x_byt.getD w []).getD i 0] := take_D hi2
    rw [e3, ← List.append_assoc]
    exact h2
  · obtain ⟨p', rfl, hp⟩ := hI
    rw [← hlen, List.take_length] at hp
    obtain ⟨p2, e2, h2⟩ := c_behind hp (by rw [List.length_append]; omega) hn
    dsimp only
    unfold f_X3_writeNamed_p2
    rw [e0, p_bind, if_pos (by rw [p_le (by omega) (by omega)]; omega), e2, p_bind]
    rw [List.append_assoc] at h2
    exact ⟨_, rfl, h2⟩
theorem c_end {p : S3} {x : Int32} {T : List Int32} (h : rPen p x T) (hl : T.length < 1000) : ∃ p', f_X3_writeEnd p = some p' ∧ rPen p' x (T ++ [59]) := by
  obtain ⟨p1, e1, h1⟩ := c_byte h hl 59
  exact ⟨p1, by unfold f_X3_writeEnd; rw [e1, p_bind], h1⟩
/-! the reference's text -/
abbrev tx (s : S8) (f : Nat → Int32) (n : Nat) : S8 := u8_textMany (u8_text s f) (nI n)
def isT (f : Nat → Int32) (T : List Int32) : Prop := ∀ i x, T[i]? = some x → f i = x
theorem m_writes {s : S8} {f : Nat → Int32} {T : List Int32} (h : isT f T) (hl : T.length < 800) (b : Int32) : ∃ f', f_X8_writes (tx s f T.length) b = some (tx s f' (T ++ [b]).length) ∧ isT f' (T ++ [b]) := by
  refine ⟨upd f T.length b, ?_, fun i x hi => ?_⟩
  · unfold f_X8_writes
    rw [show g8_textMany (tx s f T.length) = nI T.length from rfl, p_wr hl (by decide), p_bind, nI_1, List.length_append]
    rfl
  · by_cases q : i < T.length
    · rw [List.getElem?_append_left q] at hi
      rw [upd_ne (by omega)]; exact h i x hi
    · have hi2 := (List.getElem?_eq_some_iff.mp hi).1
      rw [List.length_append] at hi2
      have : i = T.length := by
        have : i < T.length + 1 := hi2
        omega
      subst this
      rw [List.getElem?_append_right (Nat.le_refl _), Nat.sub_self] at hi
      rw [upd_same]
      exact (Option.some.inj hi)
theorem m_digits {s : S8} {f : Nat → Int32} {T : List Int32} (h : isT f T) {n k : Nat} (hk : k ≤ 8) (hn : n < 10 ^ (k + 1)) (hl : T.length + k + 1 ≤ 800) : ∃ f', lp_X8_writesNumber_p8 (tx s f T.length) (nI n) 1 = some (tx s f' (T ++ num n).length) ∧ isT f' (T ++ num n) := by
  obtain ⟨p, p1, p2, p3⟩ := top_ex k n hn
  have hn31 : n < 2 ^ 31 := by
    have : 10 ^ (k + 1) ≤ 10 ^ 9 := Nat.pow_le_pow_right (by decide) (by omega)
    omega
  have ec := ds_cut p2 p3 (9 - p)
  rw [show p + 1 + (9 - p) = 10 by omega] at ec
  have hA : ∃ f', lp_X8_writesNumber_p24 (tx s f T.length) (nI n) (nI (10 ^ p)) = some (tx s f' (T ++ num n).length) ∧ isT f' (T ++ num n) := by
    unfold lp_X8_writesNumber_p24
    have key := p_loop (body := fun (k : S8 × Int32 × Int32 → Option (S8)) (z : S8 × Int32 × Int32) => f_X8_writesNumber_p24 (fun s x1 x2 => k (s, x1, x2)) z.1 z.2.1 z.2.2)
      (fun d t => ∃ f' V, t = (tx s f' V.length, nI n, nI (plc d)) ∧ isT f' V ∧ V.length + d ≤ 800 ∧ d ≤ 10 ∧ V ++ ds n true d = T ++ num n)
      (fun r => ∃ f', r = tx s f' (T ++ num n).length ∧ isT f' (T ++ num n)) (fun d k t hI ih => ?_) (p + 1) (tx s f T.length, nI n, nI (10 ^ p)) (by omega) ⟨f, T, by unfold plc; rw [if_neg (by omega), Nat.add_sub_cancel], h, by omega, by omega, by rw [← ec]⟩
    · obtain ⟨r, e, f', rfl, hf⟩ := key
      exact ⟨f', e, hf⟩
    · obtain ⟨f', V, rfl, hp, hV, hd, hE⟩ := hI
      dsimp only
      unfold f_X8_writesNumber_p24
      cases d with
      | zero =>
        rw [if_pos (by decide)]
        rw [show ds n true 0 = [] from rfl, List.append_nil] at hE
        rw [hE] at hp ⊢
        exact ⟨_, rfl, f', rfl, hp⟩
      | succ d =>
        have hpl := plc_div d (by omega)
        have e1 : plc (d + 1) = 10 ^ d := by unfold plc; rw [if_neg (by omega), Nat.add_sub_cancel]
        have hp10 : 0 < 10 ^ d := Nat.pow_pos (by decide)
        obtain ⟨f2, e2, h2⟩ := m_writes (s := s) hp (by omega) ((48 : Int32) + nI (n / 10 ^ d % 10))
        rw [e1, if_neg (by rw [show (0 : Int32) = nI 0 from rfl, p_le (by omega) (by omega)]; omega), p_nz (by rw [show (0 : Int32) = nI 0 from rfl, p_eq (by omega) (by omega)]; omega), p_bind, dig_eq hn31 (by omega), e2, p_bind, hpl.1]
        refine ih d _ (by omega) ⟨f2, V ++ [(48 : Int32) + nI (n / 10 ^ d % 10)], rfl, h2, by rw [List.length_append]; show V.length + 1 + d ≤ 800; omega, by omega, ?_⟩
        rw [show (48 : Int32) + nI (n / 10 ^ d % 10) = nI (48 + n / 10 ^ d % 10) from nI_add 48 _, List.append_assoc]
        exact hE
  unfold lp_X8_writesNumber_p8
  have key := p_forI (body := fun (k : S8 × Int32 × Int32 → Option (S8)) (z : S8 × Int32 × Int32) => f_X8_writesNumber_p8 (fun s x1 x2 => k (s, x1, x2)) z.1 z.2.1 z.2.2) p
    (fun i t => t = (tx s f T.length, nI n, nI (10 ^ i)))
    (fun r => ∃ f', r = tx s f' (T ++ num n).length ∧ isT f' (T ++ num n)) (by omega) (fun i k2 t hi hI ih => ?_) (fun k2 t hI => ?_) 0 (tx s f T.length, nI n, 1) (Nat.zero_le _) rfl
  · obtain ⟨r, e, f', rfl, hf⟩ := key
    exact ⟨f', e, hf⟩
  · subst hI
    have hpl := plc_div i (by omega)
    have hp10 : 0 < 10 ^ i := Nat.pow_pos (by decide)
    have h10p : 10 ^ p ≤ n := p3.resolve_left (by omega)
    have hge : 10 ≤ n / 10 ^ i := by
      rw [Nat.le_div_iff_mul_le hp10]
      have : 10 ^ (i + 1) ≤ 10 ^ p := Nat.pow_le_pow_right (by decide) (by omega)
      rw [Nat.pow_succ] at this
      omega
    have hdl : n / 10 ^ i ≤ n := Nat.div_le_self _ _
    dsimp only
    unfold f_X8_writesNumber_p8
    rw [p_nz (by rw [show (0 : Int32) = nI 0 from rfl, p_eq (by omega) (by omega)]; omega), p_bind, pk_div hn31 hp10 hpl.2, if_neg (by rw [show (9 : Int32) = nI 9 from rfl, p_le (by omega) (by omega)]; omega), show nI (10 ^ i) * (10 : Int32) = nI (10 ^ i * 10) from pk_mul _ 10, ← Nat.pow_succ]
    exact ih _ rfl
  · subst hI
    have hpl := plc_div p (by omega)
    have hp10 : 0 < 10 ^ p := Nat.pow_pos (by decide)
    have hlt : n / 10 ^ p < 10 := by
      rw [Nat.div_lt_iff_lt_mul hp10]
      rw [Nat.pow_succ] at p2
      omega
    dsimp only
    unfold f_X8_writesNumber_p8
    rw [p_nz (by rw [show (0 : Int32) = nI 0 from rfl, p_eq (by omega) (by omega)]; omega), p_bind, pk_div hn31 hp10 hpl.2, if_pos (by rw [show (9 : Int32) = nI 9 from rfl, p_le (by omega) (by omega)]; omega)]
    obtain ⟨f', e, hf⟩ := hA
    exact ⟨_, e, f', rfl, hf⟩
theorem m_number {s : S8} {f : Nat → Int32} {T : List Int32} (h : isT f T) {n k : Nat} (hk : k ≤ 8) (hn : n < 10 ^ (k + 1)) (hl : T.length + k + 2 ≤ 800) : ∃ f', f_X8_writesNumber (tx s f T.length) (nI n) = some (tx s f' (T ++ 32 :: num n).length) ∧ isT f' (T ++ 32 :: num n) := by
  obtain ⟨f1, e1, h1⟩ := m_writes (s := s) h (by omega) 32
  obtain ⟨f2, e2, h2⟩ := m_digits (s := s) h1 hk hn (by rw [List.length_append]; show T.length + 1 + k + 1 ≤ 800; omega)
  rw [List.append_assoc] at e2 h2
  refine ⟨f2, ?_, h2⟩
  unfold f_X8_writesNumber
  rw [e1, p_bind, e2]
  rfl
def wdO (w : Nat) : Nat := ([0, 4, 11, 17, 23, 29, 35, 41] : List Nat).getD w 0
def wdL (w : Nat) : List Int32 := ([[99, 97, 112], [115, 116, 101, 97, 100, 121], [102, 108, 101, 101, 116], [99, 108, 97, 105, 109], [99, 108, 97, 115, 115], [121, 101, 97, 114, 115], [115, 104, 97, 114, 101], [114, 97, 116, 101]] : List (List Int32)).getD w []
def wdZ : Nat → Nat
  | 0 => 0
  | j + 1 => wdZ j + (if x_words j = 0 then 1 else 0)
theorem wd_z : ∀ w, w < 8 → (wdO w ≤ 46 ∧ wdZ (wdO w) = w ∧ ∀ j, j < wdO w → wdZ j < w) := by
  decide +kernel
theorem wd_l : ∀ w, w < 8 → (wdO w + (wdL w).length < 46 ∧ (wdL w).length ≤ 6 ∧ x_words (wdO w + (wdL w).length) = 0 ∧ ∀ i, i < (wdL w).length → (x_words (wdO w + i) = (wdL w).getD i 0 ∧ ¬ x_words (wdO w + i) = 0)) := by
  decide +kernel
theorem m_wordFrom {s : S8} (h : g8_words s = x_words) {w : Nat} (hw : w < 8) : f_X8_wordFrom s (nI w) = some (nI (wdO w)) := by
  obtain ⟨o1, o2, o3⟩ := wd_z w hw
  unfold f_X8_wordFrom lp_X8_wordFrom_p4
  refine p_for (wdO w) (fun j => (s, nI j, nI (w - wdZ j))) _ (by omega) (fun j k hj ih => ?_) (fun k => ?_) 0 (Nat.zero_le _)
  · have hz := o3 j hj
    dsimp only
    unfold f_X8_wordFrom_p4
    rw [if_neg (by rw [show (0 : Int32) = nI 0 from rfl, p_le (by omega) (by omega)]; omega), h, p_rd (by omega) (by decide), p_bind, nI_1]
    rw [wdZ] at ih
    by_cases q : x_words j = 0
    · rw [if_pos q] at ih ⊢
      rw [show nI (w - wdZ j) + (-1 : Int32) = nI (w - (wdZ j + 1)) from by
        rw [← Int32.sub_eq_add_neg, m1 (by omega)]; congr 1]
      exact ih
    · rw [if_neg q] at ih ⊢
      exact ih
  · dsimp only
    unfold f_X8_wordFrom_p4
    rw [o2, Nat.sub_self, if_pos (by decide)]
theorem m_word {s : S8} (hs : g8_words s = x_words) {f : Nat → Int32} {T : List Int32} (h : isT f T) {w : Nat} (hw : w < 8) (hl : T.length + 6 ≤ 800) : ∃ f', f_X8_writesWord (tx s f T.length) (nI w) = some (tx s f' (T ++ wdL w).length) ∧ isT f' (T ++ wdL w) := by
  obtain ⟨l1, l2, l3, l4⟩ := wd_l w hw
  unfold f_X8_writesWord
  rw [m_wordFrom (s := tx s f T.length) hs hw, p_bind]
  unfold lp_X8_writesWord_p6
  have key := p_forI (body := fun (k : S8 × Int32 → Option (S8)) (z : S8 × Int32) => f_X8_writesWord_p6 (fun s x2 => k (s, x2)) z.1 z.2) (wdL w).length
    (fun i t => ∃ f', t = (tx s f' (T ++ (wdL w).take i).length, nI (wdO w + i)) ∧ isT f' (T ++ (wdL w).take i))
    (fun r => ∃ f', r = tx s f' (T ++ wdL w).length ∧ isT f' (T ++ wdL w)) (by omega) (fun i k t hi hI ih => ?_) (fun k t hI => ?_) 0 (tx s f T.length, nI (wdO w)) (Nat.zero_le _) ⟨f, by rw [List.take_zero, List.append_nil]; rfl, by rw [List.take_zero, List.append_nil]; exact h⟩
  · obtain ⟨r, e, f', rfl, hf⟩ := key
    exact ⟨f', e, hf⟩
  · obtain ⟨f', rfl, hf⟩ := hI
    obtain ⟨a1, a2⟩ := l4 i hi
    have r1 : x_rd 46 (g8_words (tx s f' (T ++ (wdL w).take i).length)) (nI (wdO w + i)) = some ((wdL w).getD i 0) := by
      show x_rd 46 (g8_words s) _ = _
      rw [hs]
      exact (p_rd (by omega) (by decide)).trans (congrArg some a1)
    obtain ⟨f2, e2, h2⟩ := m_writes (s := s) hf (by rw [List.length_append, List.length_take]; omega) ((wdL w).getD i 0)
    have e3 : (wdL w).take (i + 1) = (wdL w).take i ++ [(wdL w).getD i 0] := take_D hi
    dsimp only
    unfold f_X8_writesWord_p6
    rw [r1, p_bind, if_neg (by rw [← a1]; exact a2), p_bind, e2, p_bind, nI_1]
    refine ih _ ⟨f2, ?_, ?_⟩
    · rw [e3, ← List.append_assoc]; rfl
    · rw [e3, ← List.append_assoc]; exact h2
  · obtain ⟨f', rfl, hf⟩ := hI
    rw [List.take_length] at hf ⊢
    have r1 : x_rd 46 (g8_words (tx s f' (T ++ wdL w).length)) (nI (wdO w + (wdL w).length)) = some 0 := by
      show x_rd 46 (g8_words s) _ = _
      rw [hs]
      exact (p_rd (by omega) (by decide)).trans (congrArg some l3)
    dsimp only
    unfold f_X8_writesWord_p6
    rw [r1, p_bind, if_pos rfl]
    exact ⟨_, rfl, f', rfl, hf⟩
theorem m_one {s : S8} (hs : g8_words s = x_words) {f : Nat → Int32} {T : List Int32} (h : isT f T) {w n k : Nat} (hw : w < 8) (hk : k ≤ 8) (hn : n < 10 ^ (k + 1)) (hl : T.length + k + 8 ≤ 800) {x : Int32} (hx : x = nI w) : ∃ f', f_X8_writesOne (tx s f T.length) x (nI n) = some (tx s f' (T ++ (wdL w ++ 32 :: num n)).length) ∧ isT f' (T ++ (wdL w ++ 32 :: num n)) := by
  subst hx
  have l2 := (wd_l w hw).2.1
  obtain ⟨f1, e1, h1⟩ := m_word (s := s) hs h hw (by omega)
  obtain ⟨f2, e2, h2⟩ := m_number (s := s) h1 hk hn (by rw [List.length_append]; omega)
  rw [List.append_assoc] at e2 h2
  refine ⟨f2, ?_, h2⟩
  unfold f_X8_writesOne
  rw [e1, p_bind, e2, p_bind]
theorem m_told {s : S8} {f : Nat → Int32} {T : List Int32} (h : isT f T) (hl : T.length ≤ 800) {x : Int32} (hx : (-1 : Int32) ≤ x) : f_X8_toldText (tx s f T.length) x = some (if x = -1 then nI T.length else lookT T x) := by
  unfold f_X8_toldText
  rw [show g8_textMany (tx s f T.length) = nI T.length from rfl, show g8_text (tx s f T.length) = f from rfl]
  by_cases q : x = -1
  · rw [if_pos q, if_pos q]
  · rw [if_neg q, if_neg q]
    have hx0 : ¬ x < 0 := by
      intro z
      apply q
      apply Int32.toInt_inj.mp
      rw [i_lt] at z
      rw [i_le] at hx
      have h1 : (0 : Int32).toInt = 0 := rfl
      have h2 : (-1 : Int32).toInt = -1 := rfl
      omega
    rcases p_ix x (n := T.length) (by omega) with ⟨j, hj, rfl⟩ | hz
    · obtain ⟨a, ha, -⟩ := p_at hj
      rw [if_neg (by rw [p_le (by omega) (by omega)]; omega), p_rd (by omega) (by decide), p_bind, h j a ha]
      unfold lookT
      rw [if_neg hx0, nI_clamp (by omega), ha]
      rfl
    · have hle : nI T.length ≤ x := by
        rcases hz with z | ⟨-, z⟩
        · exact absurd z hx0
        · exact z
      rw [if_pos hle]
      unfold lookT
      rw [if_neg hx0, List.getElem?_eq_none (by
        rw [i_le, nI_toInt (by omega)] at hle
        show T.length ≤ x.toInt.toNat
        omega)]
      rfl
theorem c_answer {p : S3} {x : Int32} {T : List Int32} (h : rPen p x T) : f_X3_answer p = some (if x = -1 then nI T.length else lookT T x) := by
  unfold f_X3_answer
  rw [h.1, h.2.1, h.2.2]
  split <;> rfl
