/-! PURE: the reference's row, loops that write -/
/-- a row whose places from a on, below k, hold what stood d places further -/
def shf (d a k : Nat) (w : Nat → Int32) : Nat → Int32 := fun j => if a ≤ j ∧ j < k then w (j + d) else w j
theorem shf_0 (d a : Nat) (w : Nat → Int32) : shf d a a w = w := by funext j; unfold shf; rw [if_neg (by omega)]
theorem shf_s (d a k : Nat) (w : Nat → Int32) (h : a ≤ k) (hd : 0 < d) : upd (shf d a k w) k (shf d a k w (k + d)) = shf d a (k + 1) w := by
  funext j
  rw [u_at]
  unfold shf
  by_cases hj : j = k
  · subst hj
    rw [if_pos rfl, if_neg (by omega), if_pos (by omega)]
  · rw [if_neg hj]
    by_cases h2 : a ≤ j ∧ j < k
    · rw [if_pos h2, if_pos (by omega)]
    · rw [if_neg h2, if_neg (by omega)]
theorem m1 {n : Nat} (h : 1 ≤ n) : nI n - (1 : Int32) = nI (n - 1) := by rw [show n = (n - 1) + 1 by omega, nI_pred]; rfl
section ML
variable {s : S8} {B : Bk}
theorem m_drops (h : rM (g8_now s) B) {c : Nat} (hc : c < B.2.1.length) : ∃ w, f_X8_drops s (nI c) = some (u8_now s w) ∧ rM w (B.1, B.2.1.eraseIdx c, B.2.2) := by
  obtain ⟨⟨a1, a2, a3, a4, a5⟩, h0, h1, h2, h3, h4, h5⟩ := id h
  have hk3 : ∀ k, shf 3 (20 + 3 * c) k (g8_now s) 3 = nI B.2.1.length := fun k => by unfold shf; rw [if_neg (by omega)]; exact h3
  refine ⟨upd (shf 3 (20 + 3 * c) (20 + 3 * (B.2.1.length - 1)) (g8_now s)) 3 (nI (B.2.1.length - 1)), ?_, ?_⟩
  · unfold f_X8_drops
    rw [e20]
    unfold lp_X8_drops_p7
    have key := p_for (body := fun (k : S8 × Int32 → Option S8) (z : S8 × Int32) => f_X8_drops_p7 (fun s x2 => k (s, x2)) z.1 z.2) (3 * (B.2.1.length - 1 - c)) (fun i => (u8_now s (shf 3 (20 + 3 * c) (20 + 3 * c + i) (g8_now s)), nI (20 + 3 * c + i))) (u8_now s (upd (shf 3 (20 + 3 * c) (20 + 3 * (B.2.1.length - 1)) (g8_now s)) 3 (nI (B.2.1.length - 1)))) (by omega) (fun i k hi ih => ?_) (fun k => ?_) 0 (Nat.zero_le _)
    · rw [Nat.add_zero, shf_0] at key
      exact key
    · dsimp only
      unfold f_X8_drops_p7 f_X8_claims
      rw [show (3 : Int32) = nI 3 from rfl, p_rd (by omega) (by omega), p_bind, p_bind]
      rw [show g8_now (u8_now s (shf 3 (20 + 3 * c) (20 + 3 * c + i) (g8_now s))) = shf 3 (20 + 3 * c) (20 + 3 * c + i) (g8_now s) from rfl, hk3]
      rw [pk_mul, show (20 : Int32) = nI 20 from rfl, nI_add, pk_sub (by omega), if_neg (by rw [p_le (by omega) (by omega)]; omega), nI_add, p_rd (by omega) (by omega), p_bind, p_wr (by omega) (by omega), p_bind, shf_s _ _ _ _ (by omega) (by omega), nI_1]
      rw [show 20 + 3 * c + i + 1 = 20 + 3 * c + (i + 1) by omega]
      exact ih
    · dsimp only
      unfold f_X8_drops_p7 f_X8_claims
      rw [show (3 : Int32) = nI 3 from rfl, p_rd (by omega) (by omega), p_bind, p_bind]
      rw [show g8_now (u8_now s (shf 3 (20 + 3 * c) (20 + 3 * c + 3 * (B.2.1.length - 1 - c)) (g8_now s))) = shf 3 (20 + 3 * c) (20 + 3 * c + 3 * (B.2.1.length - 1 - c)) (g8_now s) from rfl, hk3]
      rw [pk_mul, show (20 : Int32) = nI 20 from rfl, nI_add, pk_sub (by omega), if_pos (by rw [p_le (by omega) (by omega)]; omega), p_bind, m1 (by omega), p_wr (by omega) (by omega), p_bind]
      rw [show 20 + 3 * c + 3 * (B.2.1.length - 1 - c) = 20 + 3 * (B.2.1.length - 1) by omega]
      rfl
  · have hl : (B.2.1.eraseIdx c).length = B.2.1.length - 1 := List.length_eraseIdx_of_lt hc
    refine ⟨⟨a1, by dsimp only; omega, a3, fun x hx => a4 x (List.mem_of_mem_eraseIdx hx), a5⟩, ?_, ?_, ?_, ?_, fun i g hg => ?_, fun k d hk => ?_⟩
    · rw [u_at, if_neg (by omega)]; unfold shf; rw [if_neg (by omega)]; exact h0
    · rw [u_at, if_neg (by omega)]; unfold shf; rw [if_neg (by omega)]; exact h1
    · rw [u_at, if_neg (by omega)]; unfold shf; rw [if_neg (by omega)]; exact h2
    · rw [u_at, if_pos rfl]; dsimp only; rw [hl]
    · have hi := (List.getElem?_eq_some_iff.mp hg).1
      dsimp only at hi
      rw [u_at, if_neg (by omega), u_at, if_neg (by omega)]
      unfold shf
      rw [if_neg (by omega), if_neg (by omega)]
      exact h4 i g hg
    · dsimp only at hk
      have hk1 := (List.getElem?_eq_some_iff.mp hk).1
      rw [List.getElem?_eraseIdx] at hk
      rw [u_at, if_neg (by omega), u_at, if_neg (by omega), u_at, if_neg (by omega)]
      unfold shf
      by_cases q : k < c
      · rw [if_pos q] at hk
        rw [if_neg (by omega), if_neg (by omega), if_neg (by omega)]
        exact h5 k d hk
      · rw [if_neg q] at hk
        rw [if_pos (by omega), if_pos (by omega), if_pos (by omega)]
        have := h5 (k + 1) d hk
        rw [show 20 + 3 * k + 3 = 20 + 3 * (k + 1) by omega, show 21 + 3 * k + 3 = 21 + 3 * (k + 1) by omega, show 22 + 3 * k + 3 = 22 + 3 * (k + 1) by omega]
        exact this
theorem m_goesF (h : rM (g8_now s) B) {f : Nat} (hf : f < B.1.length) : ∃ w, lp_X8_goes_p46 s (nI (4 + 2 * f)) = some (u8_now s w) ∧ rM w (B.1.eraseIdx f, B.2) := by
  obtain ⟨⟨a1, a2, a3, a4, a5⟩, h0, h1, h2, h3, h4, h5⟩ := id h
  have hk2 : ∀ k, shf 2 (4 + 2 * f) k (g8_now s) 2 = nI B.1.length := fun k => by unfold shf; rw [if_neg (by omega)]; exact h2
  refine ⟨upd (shf 2 (4 + 2 * f) (4 + 2 * (B.1.length - 1)) (g8_now s)) 2 (nI (B.1.length - 1)), ?_, ?_⟩
  · unfold lp_X8_goes_p46
    have key := p_for (body := fun (k : S8 × Int32 → Option S8) (z : S8 × Int32) => f_X8_goes_p46 (fun s x2 => k (s, x2)) z.1 z.2) (2 * (B.1.length - 1 - f)) (fun i => (u8_now s (shf 2 (4 + 2 * f) (4 + 2 * f + i) (g8_now s)), nI (4 + 2 * f + i))) (u8_now s (upd (shf 2 (4 + 2 * f) (4 + 2 * (B.1.length - 1)) (g8_now s)) 2 (nI (B.1.length - 1)))) (by omega) (fun i k hi ih => ?_) (fun k => ?_) 0 (Nat.zero_le _)
    · rw [Nat.add_zero, shf_0] at key
      exact key
    · dsimp only
      unfold f_X8_goes_p46 f_X8_many
      rw [show (2 : Int32) = nI 2 from rfl, p_rd (by omega) (by omega), p_bind, p_bind]
      rw [show g8_now (u8_now s (shf 2 (4 + 2 * f) (4 + 2 * f + i) (g8_now s))) = shf 2 (4 + 2 * f) (4 + 2 * f + i) (g8_now s) from rfl, hk2]
      rw [pk_mul, show (4 : Int32) = nI 4 from rfl, nI_add, pk_sub (by omega), if_neg (by rw [p_le (by omega) (by omega)]; omega), nI_add, p_rd (by omega) (by omega), p_bind, p_wr (by omega) (by omega), p_bind, shf_s _ _ _ _ (by omega) (by omega), nI_1]
      rw [show 4 + 2 * f + i + 1 = 4 + 2 * f + (i + 1) by omega]
      exact ih
    · dsimp only
      unfold f_X8_goes_p46 f_X8_many
      rw [show (2 : Int32) = nI 2 from rfl, p_rd (by omega) (by omega), p_bind, p_bind]
      rw [show g8_now (u8_now s (shf 2 (4 + 2 * f) (4 + 2 * f + 2 * (B.1.length - 1 - f)) (g8_now s))) = shf 2 (4 + 2 * f) (4 + 2 * f + 2 * (B.1.length - 1 - f)) (g8_now s) from rfl, hk2]
      rw [pk_mul, show (4 : Int32) = nI 4 from rfl, nI_add, pk_sub (by omega), if_pos (by rw [p_le (by omega) (by omega)]; omega), p_bind, m1 (by omega), p_wr (by omega) (by omega), p_bind]
      rw [show 4 + 2 * f + 2 * (B.1.length - 1 - f) = 4 + 2 * (B.1.length - 1) by omega]
      rfl
  · have hl : (B.1.eraseIdx f).length = B.1.length - 1 := List.length_eraseIdx_of_lt hf
    refine ⟨⟨by dsimp only; omega, a2, fun x hx => a3 x (List.mem_of_mem_eraseIdx hx), a4, a5⟩, ?_, ?_, ?_, ?_, fun k g hk => ?_, fun j c hc => ?_⟩
    · rw [u_at, if_neg (by omega)]; unfold shf; rw [if_neg (by omega)]; exact h0
    · rw [u_at, if_neg (by omega)]; unfold shf; rw [if_neg (by omega)]; exact h1
    · rw [u_at, if_pos rfl]; dsimp only; rw [hl]
    · rw [u_at, if_neg (by omega)]; unfold shf; rw [if_neg (by omega)]; exact h3
    · dsimp only at hk
      have hk1 := (List.getElem?_eq_some_iff.mp hk).1
      rw [List.getElem?_eraseIdx] at hk
      rw [u_at, if_neg (by omega), u_at, if_neg (by omega)]
      unfold shf
      by_cases q : k < f
      · rw [if_pos q] at hk
        rw [if_neg (by omega), if_neg (by omega)]
        exact h4 k g hk
      · rw [if_neg q] at hk
        rw [if_pos (by omega), if_pos (by omega)]
        have := h4 (k + 1) g hk
        rw [show 4 + 2 * k + 2 = 4 + 2 * (k + 1) by omega, show 5 + 2 * k + 2 = 5 + 2 * (k + 1) by omega]
        exact this
    · have hj := (List.getElem?_eq_some_iff.mp hc).1
      rw [u_at, if_neg (by omega), u_at, if_neg (by omega), u_at, if_neg (by omega)]
      unfold shf
      rw [if_neg (by omega), if_neg (by omega), if_neg (by omega)]
      exact h5 j c hc
theorem m_goes (h : rM (g8_now s) B) {f : Nat} (hf : f < B.1.length) : ∃ w, f_X8_goes s (nI f) = some (u8_now s w) ∧ rM w (B.1.eraseIdx f, B.2.1.map (gapC f), B.2.2) := by
  have w0 := h.1.1
  have w1 := h.1.2.1
  unfold f_X8_goes lp_X8_goes_p2
  have key := p_forI (body := fun (k : S8 × Int32 × Int32 → Option S8) (z : S8 × Int32 × Int32) => f_X8_goes_p2 (fun s x1 x2 => k (s, x1, x2)) z.1 z.2.1 z.2.2) B.2.1.length (fun i t => ∃ w, t = (u8_now s w, nI f, nI i) ∧ rM w (B.1, mapTo (gapC f) i B.2.1, B.2.2)) (fun r => ∃ w, r = u8_now s w ∧ rM w (B.1.eraseIdx f, B.2.1.map (gapC f), B.2.2)) (by omega) (fun i k t hi hI ih => ?_) (fun k t hI => ?_) 0 (s, nI f, 0) (Nat.zero_le _) ⟨g8_now s, rfl, by rw [mapTo_0]; exact h⟩
  · obtain ⟨r, e1, w, rfl, hw⟩ := key
    exact ⟨w, e1, hw⟩
  · obtain ⟨w, rfl, hb⟩ := hI
    obtain ⟨c, hc, hcm⟩ := p_at hi
    have hc' : (mapTo (gapC f) i B.2.1)[i]? = some c := by rw [mapTo_get, if_neg (by omega)]; exact hc
    have wc := h.1.2.2.2.1 c hcm
    have wc1 := wc.1
    dsimp only
    unfold f_X8_goes_p2
    have hb' : rM (g8_now (u8_now s w)) (B.1, mapTo (gapC f) i B.2.1, B.2.2) := hb
    rw [m_claims hb', p_bind, if_neg (by rw [p_le (by simp [mapTo_len]; omega) (by omega)]; simp [mapTo_len]; omega), m_fleetOf hb' hc', p_bind]
    by_cases q : f < c.1
    · rw [if_neg (by rw [p_le (by omega) (by omega)]; omega), e20, p_rd (by omega) (by omega), p_bind, show g8_now (u8_now s w) = w from rfl, (hb.2.2.2.2.2.2 i c hc').1, m1 (by omega), p_wr (by omega) (by omega), p_bind]
      refine ih _ ⟨_, by rw [nI_1]; rfl, ?_⟩
      rw [mapTo_step (gapC f) hc]
      unfold gapC
      rw [if_pos q]
      exact r_cf (v := c.1 - 1) hb hc' (by omega)
    · rw [if_pos (by rw [p_le (by omega) (by omega)]; omega)]
      refine ih _ ⟨w, by rw [nI_1], ?_⟩
      rw [mapTo_id (gapC f) hc (by unfold gapC; rw [if_neg q])]
      exact hb
  · obtain ⟨w, rfl, hb⟩ := hI
    rw [mapTo_all] at hb
    have hb' : rM (g8_now (u8_now s w)) (B.1, B.2.1.map (gapC f), B.2.2) := hb
    dsimp only
    unfold f_X8_goes_p2
    rw [m_claims hb', p_bind, if_pos (by rw [p_le (by simp; omega) (by omega)]; simp), e4]
    obtain ⟨w2, e2, h2⟩ := m_goesF (f := f) hb' hf
    exact ⟨_, e2, w2, rfl, h2⟩
end ML
