/-! PURE: all the reference's work -/
def clsOK (s : S8) (B : Bk) (c : Nat) : Prop := if qK B c = 0 then g8_steadied s c = -2 ∧ ∀ k, k < 5 → g8_low s (5 * c + k) = 0 else g8_steadied s c = nI (yy B c) ∧ E0 (g8_up s) (g8_low s) B c ∧ E1 (g8_up s) (g8_low s) B c ∧ tl (g8_up s) (g8_low s) (5 * c + 2) (cu B c) (cl B c) ∧ tl (g8_up s) (g8_low s) (5 * c + 3) (bu B c) (bl B c) ∧ tl (g8_up s) (g8_low s) (5 * c + 4) (offA B c) (1000 * bl B c : Nat)
def fltOK (s : S8) (B : Bk) (i : Nat) : Prop := g8_share s i = nI (sh B i) ∧ rate8 (g8_rateUp s) (g8_rateLow s) B i
def rW (s : S8) (B : Bk) : Prop := rW0 s B ∧ (∀ c, c < 3 → clsOK s B c) ∧ ∀ i, i < len B → 0 < nf B i → fltOK s B i
theorem tl_of {f g f' g' : Nat → Int64} {k : Nat} {A M : Int} (h : tl f g k A M) (e : f' k = f k ∧ g' k = g k) : tl f' g' k A M := by
  unfold tl at h ⊢
  rw [e.1, e.2]
  exact h
theorem E0_of {f g f' g' : Nat → Int64} {B : Bk} {c : Nat} (h : E0 f g B c) (e : f' (5 * c) = f (5 * c) ∧ g' (5 * c) = g (5 * c)) : E0 f' g' B c := by
  unfold E0 tl at h ⊢
  rw [e.1, e.2]
  exact h
theorem E1_of {f g f' g' : Nat → Int64} {B : Bk} {c : Nat} (h : E1 f g B c) (e : f' (5 * c + 1) = f (5 * c + 1) ∧ g' (5 * c + 1) = g (5 * c + 1)) : E1 f' g' B c := by
  unfold E1 tl at h ⊢
  rw [e.1, e.2]
  exact h
theorem clsOK_of {s s' : S8} {B : Bk} {c : Nat} (h : clsOK s B c) (e1 : g8_steadied s' c = g8_steadied s c) (e2 : ∀ k, k < 5 → g8_up s' (5 * c + k) = g8_up s (5 * c + k) ∧ g8_low s' (5 * c + k) = g8_low s (5 * c + k)) : clsOK s' B c := by
  unfold clsOK at h ⊢
  by_cases q : qK B c = 0
  · rw [if_pos q] at h ⊢
    exact ⟨e1.trans h.1, fun k hk => (e2 k hk).2.trans (h.2 k hk)⟩
  · rw [if_neg q] at h ⊢
    obtain ⟨h1, h2, h3, h4, h5, h6⟩ := h
    exact ⟨e1.trans h1, E0_of h2 (e2 0 (by omega)), E1_of h3 (e2 1 (by omega)), tl_of h4 (e2 2 (by omega)), tl_of h5 (e2 3 (by omega)), tl_of h6 (e2 4 (by omega))⟩
theorem fltOK_of {s s' : S8} {B : Bk} {i : Nat} (h : fltOK s B i) (e1 : g8_share s' i = g8_share s i) (e2 : g8_rateUp s' i = g8_rateUp s i ∧ g8_rateLow s' i = g8_rateLow s i) : fltOK s' B i := by
  unfold fltOK rate8 at h ⊢
  rw [e1, e2.1, e2.2]
  exact h
theorem kK_0 {B : Bk} {c : Nat} : ∀ {j : Nat}, kS B c (fun _ => 1) j = 0 → ∀ i, i < j → ¬ inK B c i = true
  | 0, _, i, hi => by omega
  | j + 1, h, i, hi => by
    by_cases q : inK B c j = true
    · rw [kS_T q] at h; omega
    · rw [kS_F q] at h
      by_cases q2 : i = j
      · rw [q2]; exact q
      · exact kK_0 h i (by omega)
def wInv (s : S8) (B : Bk) (c : Nat) : Prop := rW0 s B ∧ (∀ d, d < c → clsOK s B d) ∧ ∀ i, i < len B → 0 < nf B i → cf B i < c → fltOK s B i
theorem m_works38 {s : S8} {B : Bk} (h : rM (g8_now s) B) (ok : okB B) {c : Nat} (hc : c < 3) (k0 : qK B c ≠ 0) (hI : wInv s B c) (h0 : E0 (g8_up s) (g8_low s) B c) (h1 : E1 (g8_up s) (g8_low s) B c) {k6 : S8 → Int32 → Option S8} {Q : S8 → Prop} (hk : ∀ s', keep8 s s' → wInv s' B (c + 1) → ∃ r, k6 s' (nI (c + 1)) = some r ∧ Q r) : ∃ r, lp_X8_works_p38 k6 s (nI c) 0 = some r ∧ Q r := by
  have w := ok.1.1
  change len B ≤ 8 at w
  obtain ⟨⟨hr, hcl, hwh⟩, hcs, hfl⟩ := hI
  unfold lp_X8_works_p38
  refine p_forI (body := fun (k : S8 × Int32 × Int32 → Option (S8)) (z : S8 × Int32 × Int32) => f_X8_works_p38 k6 (fun s x1 x2 => k (s, x1, x2)) z.1 z.2.1 z.2.2) (len B) (fun i t => ∃ U L f, t = (ul (u8_share s f) U L, nI c, nI i) ∧ (∀ j, ¬ inK B c j = true → f j = g8_share s j) ∧ ∀ j, j < i → inK B c j = true → f j = nI (sh B j)) Q (by omega) (fun i k t hi hI ih => ?_) (fun k t hI => ?_) 0 (s, nI c, 0) (Nat.zero_le _) ⟨g8_upper s, g8_lower s, g8_share s, rfl, fun _ _ => rfl, fun j hj => by omega⟩
  · obtain ⟨U, L, f, rfl, hF, hS⟩ := hI
    have n5 := nf_le ok i
    have ei := m_isIn (s := ul (u8_share s f) U L) h ok hr hi hc
    have em : f_X8_many (ul (u8_share s f) U L) = some (nI (len B)) := m_manyL h
    have el : ¬ nI (len B) ≤ nI i := by rw [p_le (by omega) (by omega)]; omega
    dsimp only
    by_cases qk : inK B c i = true
    · obtain ⟨m0, ecf⟩ := inK_n qk
      rw [if_pos qk] at ei
      have r2 : x_rd 8 (g8_n s) (nI i) = some (nI (nf B i)) := (p_rd (by omega) (by decide)).trans (congrArg some (hr i hi).1)
      obtain ⟨U2, L2, es⟩ := m_shareOf (s := ul (u8_share s f) U L) ok hc m0 (by omega) h0 h1
      have esh : shr B c (nf B i) = sh B i := by unfold sh; rw [ecf]
      rw [esh] at es
      have w1 : x_wr 8 f (nI i) (nI (sh B i)) = some (upd f i (nI (sh B i))) := p_wr (by omega) (by decide)
      obtain ⟨r, e1, e2⟩ := ih (ul (u8_share s (upd f i (nI (sh B i)))) U2 L2, nI c, nI (i + 1)) ⟨U2, L2, upd f i (nI (sh B i)), rfl, fun j hj => by
        rw [upd_ne (fun e => hj (by rw [e]; exact qk))]; exact hF j hj, fun j hj hjk => by
        by_cases qj : j = i
        · rw [qj, upd_same]
        · rw [upd_ne qj]; exact hS j (by omega) hjk⟩
      refine ⟨r, ?_, e2⟩
      rw [← nI_1 i] at e1
      unfold f_X8_works_p38
      exact (p_bE em).trans ((if_neg el).trans ((p_bE ei).trans ((if_neg (by decide)).trans ((p_bE r2).trans ((p_bE es).trans ((p_bE w1).trans e1))))))
    · rw [if_neg qk] at ei
      obtain ⟨r, e1, e2⟩ := ih (ul (u8_share s f) U L, nI c, nI (i + 1)) ⟨U, L, f, rfl, hF, fun j hj hjk => by
        by_cases qj : j = i
        · rw [qj] at hjk; exact absurd hjk qk
        · exact hS j (by omega) hjk⟩
      refine ⟨r, ?_, e2⟩
      rw [← nI_1 i] at e1
      unfold f_X8_works_p38
      exact (p_bE em).trans ((if_neg el).trans ((p_bE ei).trans ((if_pos rfl).trans e1)))
  · obtain ⟨U, L, f, rfl, hF, hS⟩ := hI
    have em : f_X8_many (ul (u8_share s f) U L) = some (nI (len B)) := m_manyL h
    have el : nI (len B) ≤ nI (len B) := by rw [p_le (by omega) (by omega)]; omega
    have n0 : 0 < qN B c := by have : qK B c ≤ qN B c := qKN c (len B); omega
    obtain ⟨U2, L2, f2, g2, e1, e2, e3, e4⟩ := m_centres (s := ul (u8_share s f) U L) h ok hr hcl hwh hc n0 hS
    obtain ⟨U3, L3, f3, g3, a3, b3, e5, e6, e7, e8, e9⟩ := m_rates (s := ul (u8_steadied (u8_low (u8_up (ul (u8_share s f) U L) f2) g2) (upd (g8_steadied s) c (nI (yy B c)))) U2 L2) h ok hr hcl hc n0 hS e4
    have key := hk (ul (u8_low (u8_up (u8_rateLow (u8_rateUp (ul (u8_steadied (u8_low (u8_up (ul (u8_share s f) U L) f2) g2) (upd (g8_steadied s) c (nI (yy B c)))) U2 L2) a3) b3) f3) g3) U3 L3) ⟨rfl, rfl, rfl, rfl, rfl, rfl, rfl⟩ ⟨⟨hr, hcl, hwh⟩, fun d hd => ?_, fun i hi hn hcf => ?_⟩
    · obtain ⟨r, e10, e11⟩ := key
      refine ⟨r, ?_, e11⟩
      dsimp only
      unfold f_X8_works_p38
      refine (p_bE em).trans ((if_pos el).trans ((p_bE e1).trans ((p_bE e5).trans ?_)))
      rw [nI_1]
      exact e10
    · have hfr : ∀ k, k ≠ 5 * c + 2 → k ≠ 5 * c + 3 → k ≠ 5 * c + 4 → f3 k = g8_up s k ∧ g3 k = g8_low s k := by
        intro k k1 k2 k3
        obtain ⟨x1, x2⟩ := e6 k k3
        obtain ⟨y1, y2⟩ := e2 k k1 k2
        exact ⟨x1.trans y1, x2.trans y2⟩
      by_cases q : d = c
      · subst q
        unfold clsOK
        rw [if_neg k0]
        refine ⟨upd_same _ _ _, E0_of h0 (hfr _ (by omega) (by omega) (by omega)), E1_of h1 (hfr _ (by omega) (by omega) (by omega)), tl_of e3 (e6 _ (by omega)), tl_of e4 (e6 _ (by omega)), e7⟩
      · exact clsOK_of (hcs d (by omega)) (upd_ne q) (fun k hk => hfr _ (by omega) (by omega) (by omega))
    · by_cases q : cf B i = c
      · have qk := inK_yes q hn
        exact ⟨hS i hi qk, e9 i hi qk⟩
      · have qk := inK_no (B := B) (c := c) (i := i) q
        exact fltOK_of (hfl i hi hn (by omega)) (hF i qk) (e8 i qk)
theorem m_works {s : S8} {B : Bk} (h : rM (g8_now s) B) (ok : okB B) : ∃ s', f_X8_works s = some s' ∧ keep8 s s' ∧ rW s' B := by
  obtain ⟨s1, e1, k1, w1⟩ := m_sums h ok
  unfold f_X8_works
  rw [e1, p_bind]
  unfold lp_X8_works_p6
  refine p_forI (body := fun (k : S8 × Int32 → Option (S8)) (z : S8 × Int32) => f_X8_works_p6 (fun s x1 => k (s, x1)) z.1 z.2) 3 (fun c t => ∃ s', t = (s', nI c) ∧ keep8 s s' ∧ wInv s' B c) (fun s' => keep8 s s' ∧ rW s' B) (by omega) (fun c k t hc hI ih => ?_) (fun k t hI => ?_) 0 (s1, 0) (Nat.zero_le _) ⟨s1, rfl, k1, w1, fun d hd => by omega, fun i _ _ hc => by omega⟩
  · obtain ⟨s', rfl, hk, ⟨hr, hcl, hwh⟩, hcs, hfl⟩ := hI
    have hm : rM (g8_now s') B := by rw [hk.1]; exact h
    have k8 := qK_le ok c
    obtain ⟨v1, v2, v3⟩ := hcl c hc
    change g8_have s' c = nI (qK B c) at v1
    obtain ⟨U, L, f, g, e2, e3, e4, e5, e6⟩ := m_spreads hm ok hr hcl hc
    have el : ¬ (3 : Int32) ≤ nI c := by rw [show (3 : Int32) = nI 3 from rfl, p_le (by omega) (by omega)]; omega
    have w2 : x_wr 3 (g8_steadied s') (nI c) (-2) = some (upd (g8_steadied s') c (-2)) := p_wr hc (by decide)
    have r2 : x_rd 3 (g8_have s') (nI c) = some (nI (qK B c)) := (p_rd hc (by decide)).trans (congrArg some v1)
    have hI2 : wInv (u8_steadied (ul (u8_low (u8_up s' f) g) U L) (upd (g8_steadied s') c (-2))) B c := by
      refine ⟨⟨hr, hcl, hwh⟩, fun d hd => clsOK_of (hcs d hd) (upd_ne (by omega)) (fun k hk => e3 _ (by omega)), fun i hi hn hcf => fltOK_of (hfl i hi hn hcf) rfl ⟨rfl, rfl⟩⟩
    dsimp only
    unfold f_X8_works_p6
    by_cases q : qK B c = 0
    · have key := ih (u8_steadied (ul (u8_low (u8_up s' f) g) U L) (upd (g8_steadied s') c (-2)), nI (c + 1)) ⟨_, rfl, hk, hI2.1, fun d hd => ?_, fun i hi hn hcf => ?_⟩
      · obtain ⟨r, e10, e11⟩ := key
        refine ⟨r, (if_neg el).trans ((p_bE e2).trans ((p_bE w2).trans ((p_bE r2).trans ((if_pos ?_).trans ?_)))), e11⟩
        · rw [q]; rfl
        · rw [← nI_1 c] at e10; exact e10
      · by_cases qd : d = c
        · subst qd
          unfold clsOK
          rw [if_pos q]
          have kn : kS B d (nf B) (len B) ≤ 5 * kS B d (fun _ => 1) (len B) := kN_5 ok d (len B)
          have n0 : fr B d = 0 := by
            change qN B d ≤ 5 * qK B d at kn
            unfold fr; omega
          refine ⟨upd_same _ _ _, fun k hk5 => ?_⟩
          unfold E0 at e4
          unfold E1 at e5
          rw [if_pos n0] at e4
          rw [if_neg (by omega)] at e5
          rcases (show k = 0 ∨ k = 1 ∨ 2 ≤ k by omega) with rfl | rfl | k2
          · exact e4
          · exact e5
          · exact e6 k k2 hk5
        · exact hI2.2.1 d (by omega)
      · have qk := kK_0 q i hi
        have : cf B i ≠ c := fun e => qk (inK_yes e hn)
        exact hI2.2.2 i hi hn (by omega)
    · obtain ⟨r, e10, e11⟩ := m_works38 (s := u8_steadied (ul (u8_low (u8_up s' f) g) U L) (upd (g8_steadied s') c (-2))) hm ok hc q hI2 e4 e5 (k6 := fun s x1 => k (s, x1)) (Q := fun s' => keep8 s s' ∧ rW s' B) (fun s2 k2 i2 => ih _ ⟨s2, rfl, keep8_t hk k2, i2⟩)
      refine ⟨r, (if_neg el).trans ((p_bE e2).trans ((p_bE w2).trans ((p_bE r2).trans ((if_neg ?_).trans e10)))), e11⟩
      rw [show (0 : Int32) = nI 0 from rfl, p_eq (by omega) (by omega)]; exact q
  · obtain ⟨s', rfl, hk, h1, h2, h3⟩ := hI
    dsimp only
    unfold f_X8_works_p6
    exact ⟨s', if_pos (by decide), hk, h1, h2, fun i hi hn => h3 i hi hn (cf_lt ok hi)⟩
