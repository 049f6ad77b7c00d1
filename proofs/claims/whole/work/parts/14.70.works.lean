/-! PURE: the reference's rates, and all its work -/
def offI (B : Bk) (c j : Nat) : Int := -((qT B c : Int) * ((1000 * bl B c : Nat) : Int)) + ((kS B c (ru B) j : Nat) : Int)
theorem kS_rl {B : Bk} (c : Nat) : ∀ j, kS B c (rl B) j = 1000 * bl B c * kS B c (nf B) j
  | 0 => rfl
  | j + 1 => by
    have ih := kS_rl (B := B) c j
    by_cases q : inK B c j = true
    · rw [kS_T q, kS_T q, ih, Nat.mul_add]
      unfold rl
      rw [(inK_n q).2]
      congr 1
      ac_rfl
    · rw [kS_F q, kS_F q, ih]
theorem kS_ru {B : Bk} (c : Nat) : ∀ j, kS B c (ru B) j = kS B c (fun i => sS B i * sh B i) j * bl B c + kS B c (fun i => nf B i * (1000 - sh B i)) j * bu B c
  | 0 => by rw [kS_0, kS_0, kS_0, Nat.zero_mul, Nat.zero_mul]
  | j + 1 => by
    have ih := kS_ru (B := B) c j
    by_cases q : inK B c j = true
    · rw [kS_T q, kS_T q, kS_T q, ih, Nat.add_mul, Nat.add_mul]
      unfold ru
      rw [(inK_n q).2, Nat.mul_comm (sS B j) (sh B j), show nf B j * (1000 - sh B j) * bu B c = (1000 - sh B j) * bu B c * nf B j by ac_rfl]
      omega
    · rw [kS_F q, kS_F q, kS_F q, ih]
theorem off_in {B : Bk} (ok : okB B) (c : Nat) {j : Nat} (hj : j ≤ len B) : inL (offI B c j) := by
  have h1 : kS B c (ru B) j ≤ 396 * kS B c (rl B) j := kS_le 396 (fun i _ _ => ru_le ok i)
  have h2 : kS B c (nf B) j ≤ qN B c := kS_mono hj
  have h3 := qN_le ok c
  have h4 := bl_le ok c
  have h5 := qT_le ok c
  rw [kS_rl] at h1
  have h6 : 1000 * bl B c * kS B c (nf B) j ≤ 1000 * 19200000000 * 40 := Nat.mul_le_mul (Nat.mul_le_mul_left 1000 h4) (by omega)
  have h7 : qT B c * (1000 * bl B c) ≤ 15840 * (1000 * 19200000000) := Nat.mul_le_mul (by omega) (Nat.mul_le_mul_left 1000 h4)
  unfold offI
  rw [← Int.natCast_mul]
  constructor <;> omega
def offA (B : Bk) (c : Nat) : Int := ((qOL B c : Int) - (1000 : Int) * (qT B c : Int)) * (bl B c : Int) + (qRS B c : Int) * (bu B c : Int)
theorem off_eq (B : Bk) (c : Nat) : offI B c (len B) = offA B c := by
  unfold offI offA
  rw [kS_ru, show kS B c (fun i => sS B i * sh B i) (len B) = qOL B c from rfl, show kS B c (fun i => nf B i * (1000 - sh B i)) (len B) = qRS B c from rfl, Int.natCast_add, Int.natCast_mul, Int.natCast_mul, Int.natCast_mul, Int.sub_mul]
  have e : (qT B c : Int) * (((1000 : Nat) : Int) * (bl B c : Int)) = 1000 * (qT B c : Int) * (bl B c : Int) := by
    rw [show ((1000 : Nat) : Int) = 1000 from rfl]; ac_rfl
  rw [e]
  omega
def rate8 (f g : Nat → Int64) (B : Bk) (i : Nat) : Prop := ∃ u l : Int, f i = lI u ∧ g i = lI l ∧ Lt u l (ru B i) (rl B i)
theorem m_rates {s : S8} {B : Bk} (h : rM (g8_now s) B) (ok : okB B) (hn : rows8 s B (len B)) (hcl : cls8 s B (len B)) {c : Nat} (hc : c < 3) (n0 : 0 < qN B c) (hs : ∀ i, i < len B → inK B c i = true → g8_share s i = nI (sh B i)) (hb : tl (g8_up s) (g8_low s) (5 * c + 3) (bu B c) (bl B c)) : ∃ U L f g a b, f_X8_rates s (nI c) = some (ul (u8_low (u8_up (u8_rateLow (u8_rateUp s a) b) f) g) U L) ∧ (∀ k, k ≠ 5 * c + 4 → f k = g8_up s k ∧ g k = g8_low s k) ∧ tl f g (5 * c + 4) (offA B c) (1000 * bl B c : Nat) ∧ (∀ i, ¬ inK B c i = true → a i = g8_rateUp s i ∧ b i = g8_rateLow s i) ∧ ∀ i, i < len B → inK B c i = true → rate8 a b B i := by
  have w := ok.1.1
  change len B ≤ 8 at w
  obtain ⟨v1, v2, v3⟩ := hcl c hc
  change g8_totals s c = nI (qT B c) at v3
  have n40 := qN_le ok c
  have t1 := qT_le ok c
  have bl1 := bl_le ok c
  have bu1 := bu_le ok c
  have a0 : 0 < aN B (len B) := Nat.lt_of_lt_of_le n0 (qN_aN c (len B))
  have cp := cl_pos n0
  have bp : 0 < bl B c := Nat.mul_pos (Nat.mul_pos (by omega) cp) a0
  have e_tt : x_rd 3 (g8_totals s) (nI c) = some (nI (qT B c)) := (p_rd hc (by decide)).trans (congrArg some v3)
  have e_neg : Int32.toInt64 (-(nI (qT B c))) = lI (-(qT B c : Int)) := by
    apply Int64.toInt_inj.mp
    rw [Int32.toInt_toInt64, show -(nI (qT B c)) = Int32.ofInt (-(qT B c : Int)) from Int32.neg_ofNat, Int32.toInt_ofInt_of_le (by omega) (by omega), lI_t ⟨by omega, by omega⟩]
  obtain ⟨u3, l3, eu3, el3, hL3⟩ := hb
  have e53 : (5 : Int32) * nI c + (3 : Int32) = nI (5 * c + 3) := by rw [e5c]; exact nI_add _ 3
  have r18 : x_rd 15 (g8_up s) ((5 : Int32) * nI c + (3 : Int32)) = some (lI u3) := by rw [e53]; exact (p_rd (by omega) (by decide)).trans (congrArg some eu3)
  have r20 : x_rd 15 (g8_low s) ((5 : Int32) * nI c + (3 : Int32)) = some (lI l3) := by rw [e53]; exact (p_rd (by omega) (by decide)).trans (congrArg some el3)
  unfold f_X8_rates
  rw [e_tt, p_bind, e_neg]
  unfold lp_X8_rates_p15
  have key := p_forI (body := fun (k : S8 × Int32 × Int64 × Int64 × Int32 → Option (S8)) (z : S8 × Int32 × Int64 × Int64 × Int32) => f_X8_rates_p15 (fun s x1 x2 x4 x6 => k (s, x1, x2, x4, x6)) z.1 z.2.1 z.2.2.1 z.2.2.2.1 z.2.2.2.2) (len B)
    (fun i t => ∃ (x y : Int) (U L : Int64) (a b : Nat → Int64), t = (ul (u8_rateLow (u8_rateUp s a) b) U L, nI c, lI x, lI y, nI i) ∧ Lt x y (offI B c i) (1000 * bl B c : Nat) ∧ (∀ i, ¬ inK B c i = true → a i = g8_rateUp s i ∧ b i = g8_rateLow s i) ∧ ∀ j, j < i → inK B c j = true → rate8 a b B j)
    (fun r => ∃ U L f g a b, r = ul (u8_low (u8_up (u8_rateLow (u8_rateUp s a) b) f) g) U L ∧ (∀ k, k ≠ 5 * c + 4 → f k = g8_up s k ∧ g k = g8_low s k) ∧ tl f g (5 * c + 4) (offA B c) (1000 * bl B c : Nat) ∧ (∀ i, ¬ inK B c i = true → a i = g8_rateUp s i ∧ b i = g8_rateLow s i) ∧ ∀ i, i < len B → inK B c i = true → rate8 a b B i) (by omega) (fun i k t hi hI ih => ?_) (fun k t hI => ?_) 0 (s, nI c, lI (-(qT B c : Int)), 1, 0) (Nat.zero_le _) ⟨-(qT B c : Int), 1, g8_upper s, g8_lower s, g8_rateUp s, g8_rateLow s, rfl, ?_, fun _ _ => ⟨rfl, rfl⟩, fun j hj => by omega⟩
  · obtain ⟨r, e1, U, L, f, g, a, b, rfl, h1⟩ := key
    exact ⟨U, L, f, g, a, b, e1, h1⟩
  · obtain ⟨x, y, U, L, a, b, rfl, hS, hF, hR⟩ := hI
    have n5 := nf_le ok i
    have s1 := sS_le ok i
    have sh1 : sh B i ≤ 1000 := sh_le _ _ _
    have rl1 := rl_le ok i
    have ru1 := ru_le ok i
    have ei := m_isIn (s := ul (u8_rateLow (u8_rateUp s a) b) U L) h ok hn hi hc
    have em : f_X8_many (ul (u8_rateLow (u8_rateUp s a) b) U L) = some (nI (len B)) := m_manyL h
    have el : ¬ nI (len B) ≤ nI i := by rw [p_le (by omega) (by omega)]; omega
    dsimp only
    by_cases qk : inK B c i = true
    · obtain ⟨m0, ecf⟩ := inK_n qk
      rw [if_pos qk] at ei
      have r1 : x_rd 8 (g8_losses s) (nI i) = some (nI (sS B i)) := (p_rd (by omega) (by decide)).trans (congrArg some (hn i hi).2.1)
      have r2 : x_rd 8 (g8_n s) (nI i) = some (nI (nf B i)) := (p_rd (by omega) (by decide)).trans (congrArg some (hn i hi).1)
      have r3 : x_rd 8 (g8_share s) (nI i) = some (nI (sh B i)) := (p_rd (by omega) (by decide)).trans (congrArg some (hs i hi qk))
      have eru : ru B i = sh B i * sS B i * bl B c + (1000 - sh B i) * bu B c * nf B i := by unfold ru; rw [ecf]
      have erl : rl B i = 1000 * nf B i * bl B c := by unfold rl; rw [ecf]
      obtain ⟨u, l, ex, Lx⟩ := m_mixes (ul (u8_rateLow (u8_rateUp s a) b) U L) (a := (sS B i : Int)) (b := (nf B i : Int)) (p := sh B i) sh1 (Fr_self (by omega)) hL3.1 (by omega) (by omega) (by omega) (by omega) (by omega) (by omega)
      rw [← eru, ← erl] at Lx
      have ex' : f_X8_mixes (ul (u8_rateLow (u8_rateUp s a) b) U L) (nI (sh B i)) (Int32.toInt64 (nI (sS B i))) (Int32.toInt64 (nI (nf B i))) (lI u3) (lI l3) = some (ul (u8_rateLow (u8_rateUp s a) b) (lI u) (lI l)) := by
        rw [lI_i (by omega), lI_i (by omega)]; exact ex
      have w1 : x_wrl 8 a (nI i) (lI u) = some (vp_updL a i (lI u)) := p_wrl (by omega) (by decide)
      have w2 : x_wrl 8 b (nI i) (lI l) = some (vp_updL b i (lI l)) := p_wrl (by omega) (by decide)
      have nr : ru B i * nf B i ≤ 396 * 96000000000000 * 5 := Nat.mul_le_mul (by omega) n5
      obtain ⟨z, t, ez, Lz⟩ := m_mults (ul (u8_rateLow (u8_rateUp s (vp_updL a i (lI u))) (vp_updL b i (lI l))) (lI u) (lI l)) Lx.1 (Fr_self (a := (nf B i : Int)) (b := 1) (by omega)) (inL_n (by omega)) (inL_n (by omega)) (inL_n (by omega)) inL_1 (by rw [← Int.natCast_mul]; exact inL_n (by omega)) (by rw [Int.mul_one]; exact inL_n (by omega))
      have ez' : f_X8_multiplies (ul (u8_rateLow (u8_rateUp s (vp_updL a i (lI u))) (vp_updL b i (lI l))) (lI u) (lI l)) (lI u) (lI l) (Int32.toInt64 (nI (nf B i))) 1 = some (ul (u8_rateLow (u8_rateUp s (vp_updL a i (lI u))) (vp_updL b i (lI l))) (lI z) (lI t)) := by
        rw [lI_i (by omega)]; exact ez
      have Lz' : Lt z t (ru B i : Int) ((1000 * bl B c : Nat) : Int) := by
        refine Lt_cross Lz (by omega) ?_
        rw [Int.mul_one, ← Int.natCast_mul, ← Int.natCast_mul, ← Int.natCast_mul, erl]
        congr 1
        ac_rfl
      have hoff : offI B c i + (ru B i : Int) = offI B c (i + 1) := by
        unfold offI
        rw [kS_T qk, Int.natCast_add]; omega
      obtain ⟨x2, y2, ea, La⟩ := m_adds (ul (u8_rateLow (u8_rateUp s (vp_updL a i (lI u))) (vp_updL b i (lI l))) (lI z) (lI t)) hS.1 Lz'.1 (by rw [hoff]; exact off_in ok c hi) (inL_n (by omega))
      rw [hoff] at La
      obtain ⟨r, e1, e2⟩ := ih (ul (u8_rateLow (u8_rateUp s (vp_updL a i (lI u))) (vp_updL b i (lI l))) (lI x2) (lI y2), nI c, lI x2, lI y2, nI (i + 1)) ⟨x2, y2, lI x2, lI y2, vp_updL a i (lI u), vp_updL b i (lI l), rfl, La, fun j hj => by
        rw [vl_ne (fun e => hj (by rw [e]; exact qk)), vl_ne (fun e => hj (by rw [e]; exact qk))]; exact hF j hj, fun j hj hjk => by
        by_cases qj : j = i
        · rw [qj]; exact ⟨u, l, vl_same _ _ _, vl_same _ _ _, Lx⟩
        · unfold rate8; rw [vl_ne qj, vl_ne qj]; exact hR j (by omega) hjk⟩
      refine ⟨r, ?_, e2⟩
      rw [← nI_1 i] at e1
      unfold f_X8_rates_p15
      exact (p_bE em).trans ((if_neg el).trans ((p_bE ei).trans ((if_neg (by decide)).trans ((p_bE r3).trans ((p_bE r1).trans ((p_bE r2).trans ((p_bE r18).trans ((p_bE r20).trans ((p_bE ex').trans ((p_bE w1).trans ((p_bE w2).trans ((p_bE r2).trans ((p_bE ez').trans ((p_bE ea).trans e1))))))))))))))
    · rw [if_neg qk] at ei
      have hoff : offI B c (i + 1) = offI B c i := by unfold offI; rw [kS_F qk]
      obtain ⟨r, e1, e2⟩ := ih (ul (u8_rateLow (u8_rateUp s a) b) U L, nI c, lI x, lI y, nI (i + 1)) ⟨x, y, U, L, a, b, rfl, by rw [hoff]; exact hS, hF, fun j hj hjk => by
        by_cases qj : j = i
        · rw [qj] at hjk; exact absurd hjk qk
        · exact hR j (by omega) hjk⟩
      refine ⟨r, ?_, e2⟩
      rw [← nI_1 i] at e1
      unfold f_X8_rates_p15
      exact (p_bE em).trans ((if_neg el).trans ((p_bE ei).trans ((if_pos rfl).trans e1)))
  · obtain ⟨x, y, U, L, a, b, rfl, hS, hF, hR⟩ := hI
    have em : f_X8_many (ul (u8_rateLow (u8_rateUp s a) b) U L) = some (nI (len B)) := m_manyL h
    have el : nI (len B) ≤ nI (len B) := by rw [p_le (by omega) (by omega)]; omega
    have ixy := Fr_in hS.1 (off_in ok c (Nat.le_refl _)) (inL_n (by omega))
    obtain ⟨u, l, e1, L1⟩ := m_is (ul (u8_rateLow (u8_rateUp s a) b) U L) ixy.1 ixy.2 hS.1.1
    obtain ⟨rfl, rfl⟩ := Lt_uniq L1 ⟨Fr_self hS.1.1, hS.2⟩
    have ep := m_puts (ul (u8_rateLow (u8_rateUp s a) b) (lI u) (lI l)) hc (k := 4) (by omega) (x := 4) rfl
    rw [off_eq] at hS
    refine ⟨_, ?_, lI u, lI l, vp_updL (g8_up s) (5 * c + 4) (lI u), vp_updL (g8_low s) (5 * c + 4) (lI l), a, b, rfl, fun k hk => ?_, ⟨u, l, vl_same _ _ _, vl_same _ _ _, hS⟩, hF, hR⟩
    · dsimp only
      unfold f_X8_rates_p15
      exact (p_bE em).trans ((if_pos el).trans ((p_bE e1).trans ((p_bE ep).trans rfl)))
    · rw [vl_ne hk, vl_ne hk]; exact ⟨rfl, rfl⟩
  · refine ⟨⟨by omega, ((1000 * bl B c : Nat) : Int), by omega, ?_, by omega⟩, Int.gcd_one_right _⟩
    unfold offI
    rw [kS_0, Int.neg_mul]
    simp
