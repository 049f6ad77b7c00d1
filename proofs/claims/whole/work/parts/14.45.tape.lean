/-! PURE: the tape, in both; the reference's undo -/
def byN (x : Int32) (k : Nat) : Nat := x.toBitVec.toNat / 2 ^ k % 256
def four (x : Int32) : List Nat := [byN x 24, byN x 16, byN x 8, byN x 0]
theorem byN_lt (x : Int32) (k : Nat) : byN x k < 256 := Nat.mod_lt _ (by omega)
theorem t_int (z : Int32) : z.toInt = (z.toBitVec.toNat : Int) ∨ z.toInt = (z.toBitVec.toNat : Int) - 2 ^ 32 := by
  have h : z.toInt = z.toBitVec.toInt := rfl
  rw [h, BitVec.toInt_eq_toNat_cond]
  split
  · exact Or.inl rfl
  · exact Or.inr rfl
theorem t_low (z : Int32) : z &&& 255 = nI (z.toInt % 256).toNat := by
  rw [pk_and z 8 (by decide)]
  congr 1
  have hl := z.toBitVec.isLt
  rcases t_int z with h | h <;> rw [h] <;> omega
theorem t_byte (x : Int32) : (vp_nar .byte (Int8.toInt32 (Int32.toInt8 x))) &&& 255 = nI (x.toBitVec.toNat % 256) := by
  rw [pk_vb, t_low]
  congr 1
  rw [Int8.toInt_toInt32, Int32.toInt_toInt8]
  have h1 : (x.toInt.bmod (2 ^ 8)) % 256 = x.toInt % 256 := Int.bmod_emod
  rw [h1]
  have hl := x.toBitVec.isLt
  rcases t_int x with h | h <;> rw [h] <;> omega
theorem t_ushr (x : Int32) {k : Nat} (s : Int32) (hs : ((s.toUInt32 &&& Int32.toUInt32 31).toBitVec % 32).toNat = k) : ((((Int32.toUInt32 x) >>> ((Int32.toUInt32 s) &&& Int32.toUInt32 31)).toInt32).toBitVec.toNat) % 256 = byN x k := by
  rw [pk_ushr x s k hs]; rfl
theorem t_shr (x : Int32) {k : Nat} (hk : k = 0 ∨ k = 8 ∨ k = 16 ∨ k = 24) : (x >>> (nI k &&& 31)) &&& (255 : Int32) = nI (byN x k) := by
  have e : nI k &&& 31 = nI k := by rcases hk with rfl | rfl | rfl | rfl <;> decide
  rw [e, t_low, pk_shr x (nI k) k (by rcases hk with rfl | rfl | rfl | rfl <;> decide), Int.shiftRight_eq_div_pow]
  congr 1
  unfold byN
  have hl := x.toBitVec.isLt
  rcases t_int x with h | h <;> rw [h] <;> rcases hk with rfl | rfl | rfl | rfl <;> omega
def rT (t : S6) (T : List Nat) : Prop := T.length ≤ 700 ∧ (∀ x ∈ T, x < 256) ∧ g6_size t = nI T.length ∧ ∀ (i x : Nat), T[i]? = some x → g6_bytes t i &&& (255 : Int32) = nI x
def rU (tp : Nat → Int32) (n : Int32) (T : List Nat) : Prop := T.length ≤ 700 ∧ (∀ x ∈ T, x < 256) ∧ n = nI T.length ∧ ∀ (i x : Nat), T[i]? = some x → tp i = nI x
theorem p_push {T : List Nat} {v i x : Nat} (h : (T ++ [v])[i]? = some x) : (i < T.length ∧ T[i]? = some x) ∨ (i = T.length ∧ x = v) := by
  by_cases hi : i < T.length
  · rw [List.getElem?_append_left hi] at h
    exact Or.inl ⟨hi, h⟩
  · rw [List.getElem?_append_right (by omega)] at h
    have h0 : i - T.length < 1 := by simpa using (List.getElem?_eq_some_iff.mp h).1
    rw [show i - T.length = 0 by omega] at h
    cases h
    exact Or.inr ⟨by omega, rfl⟩
theorem c_addByte {t : S6} {T : List Nat} (h : rT t T) (hn : T.length < 700) (x : Int32) {v : Nat} (hv : x.toBitVec.toNat % 256 = v) : ∃ t', f_X6_addByte t x = some t' ∧ rT t' (T ++ [v]) := by
  obtain ⟨h1, h2, h3, h4⟩ := h
  unfold f_X6_addByte
  rw [h3, if_neg (by rw [show (700 : Int32) = nI 700 from rfl, p_le (by omega) (by omega)]; omega), p_wrb (by omega) (by omega), p_bind, nI_1]
  refine ⟨_, rfl, by simp; omega, fun y hy => ?_, by simp; rfl, fun i y hi => ?_⟩
  · rcases List.mem_append.mp hy with hy | hy
    · exact h2 y hy
    · rw [List.mem_singleton.mp hy, ← hv]; exact Nat.mod_lt _ (by omega)
  · show upd (g6_bytes t) T.length _ i &&& (255 : Int32) = nI y
    rw [u_at]
    rcases p_push hi with ⟨q1, q2⟩ | ⟨q1, q2⟩
    · rw [if_neg (by omega)]
      exact h4 i y q2
    · rw [if_pos q1, t_byte, hv, q2]
theorem c_addFour {t : S6} {T : List Nat} (h : rT t T) (hn : T.length + 4 ≤ 700) (x : Int32) : ∃ t', f_X6_addFour t x = some t' ∧ rT t' (T ++ four x) := by
  unfold f_X6_addFour
  obtain ⟨t1, e1, h1⟩ := c_addByte h (by omega) _ (t_ushr x (k := 24) 24 (by decide))
  rw [e1, p_bind]
  obtain ⟨t2, e2, h2⟩ := c_addByte h1 (by simp; omega) _ (t_ushr x (k := 16) 16 (by decide))
  rw [e2, p_bind]
  obtain ⟨t3, e3, h3⟩ := c_addByte h2 (by simp; omega) _ (t_ushr x (k := 8) 8 (by decide))
  rw [e3, p_bind]
  obtain ⟨t4, e4, h4⟩ := c_addByte (v := byN x 0) h3 (by simp; omega) x (by unfold byN; rw [Nat.pow_zero, Nat.div_one])
  rw [e4, p_bind]
  refine ⟨t4, rfl, ?_⟩
  have e : ((T ++ [byN x 24]) ++ [byN x 16] ++ [byN x 8]) ++ [byN x 0] = T ++ four x := by simp [four]
  rw [e] at h4
  exact h4
theorem c_feed {t : S6} {T : List Nat} (h : rT t T) (hn : T.length + 20 ≤ 700) (a b c d e : Int32) : ∃ t', (Option.bind (f_X6_addFour t a) (fun v4 => Option.bind (f_X6_addFour v4 b) (fun v6 => Option.bind (f_X6_addFour v6 c) (fun v8 => Option.bind (f_X6_addFour v8 d) (fun v10 => f_X6_addFour v10 e))))) = some t' ∧ rT t' (T ++ (four a ++ four b ++ four c ++ four d ++ four e)) := by
  have l4 : ∀ x, (four x).length = 4 := fun _ => rfl
  obtain ⟨t1, e1, h1⟩ := c_addFour h (by omega) a
  obtain ⟨t2, e2, h2⟩ := c_addFour h1 (by rw [List.length_append, l4]; omega) b
  obtain ⟨t3, e3, h3⟩ := c_addFour h2 (by rw [List.length_append, List.length_append, l4, l4]; omega) c
  obtain ⟨t4, e4, h4⟩ := c_addFour h3 (by rw [List.length_append, List.length_append, List.length_append, l4, l4, l4]; omega) d
  obtain ⟨t5, e5, h5⟩ := c_addFour h4 (by rw [List.length_append, List.length_append, List.length_append, List.length_append, l4, l4, l4, l4]; omega) e
  refine ⟨t5, by rw [e1, p_bind, e2, p_bind, e3, p_bind, e4, p_bind, e5], ?_⟩
  simp only [List.append_assoc] at h5 ⊢
  exact h5
