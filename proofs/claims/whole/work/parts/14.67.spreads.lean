/-! PURE: the reference's spreads -/
theorem p_bE {α β : Type} {m : Option α} {a : α} {k : α → Option β} (h : m = some a) : Option.bind m k = k a := by rw [h]; rfl
theorem vl_at (f : Nat → Int64) (k j : Nat) (x : Int64) : vp_updL f k x j = if j = k then x else f j := rfl
theorem vl_same (f : Nat → Int64) (k : Nat) (x : Int64) : vp_updL f k x k = x := by rw [vl_at, if_pos rfl]
theorem vl_ne {f : Nat → Int64} {k j : Nat} {x : Int64} (h : j ≠ k) : vp_updL f k x j = f j := by rw [vl_at, if_neg h]
theorem m_subs (s : S8) {a b c d A C M : Int} (h : Fr a b A M) (k : Fr c d C M) (hS : inL (A - C)) (hM : inL M) : ∃ u l, f_X8_adds s (lI a) (lI b) (-(lI c)) (lI d) = some (ul s (lI u) (lI l)) ∧ Lt u l (A - C) M := by
  rw [lI_neg]
  have := m_adds s h (Fr_neg k) (by rw [← Int.sub_eq_add_neg]; exact hS) hM
  rw [← Int.sub_eq_add_neg] at this
  exact this
def tl (f g : Nat → Int64) (k : Nat) (A M : Int) : Prop := ∃ u l : Int, f k = lI u ∧ g k = lI l ∧ Lt u l A M
def E0 (f g : Nat → Int64) (B : Bk) (c : Nat) : Prop := if fr B c = 0 then g (5 * c) = 0 else tl f g (5 * c) (wi B c) (60 * fr B c : Nat)
def E1 (f g : Nat → Int64) (B : Bk) (c : Nat) : Prop := if 2 ≤ qK B c ∧ 0 < fr B c then tl f g (5 * c + 1) (bt B c) (60 * fr B c * un B c : Nat) else g (5 * c + 1) = 0
theorem m_isIn {s : S8} {B : Bk} (h : rM (g8_now s) B) (ok : okB B) (hn : rows8 s B (len B)) {i c : Nat} (hi : i < len B) (hc : c < 3) : f_X8_isIn s (nI i) (nI c) = some (if inK B c i = true then 1 else 0) := by
  have w := ok.1.1
  change len B ≤ 8 at w
  obtain ⟨f, hf, hfm⟩ := p_at (l := B.1) hi
  have c3 := cf_lt ok hi
  have n5 := nf_le ok i
  unfold f_X8_isIn
  rw [m_classOf h hf, p_bind, ← cf_at hf, show x_rd 8 (g8_n s) (nI i) = some (nI (nf B i)) from (p_rd (by omega) (by decide)).trans (congrArg some (hn i hi).1), p_bind]
  unfold inK
  by_cases q : cf B i = c
  · rw [if_pos (by rw [q])]
    by_cases q2 : nf B i = 0
    · rw [q2, if_pos (by decide), if_neg (by simp)]
    · rw [if_neg (by rw [show (0 : Int32) = nI 0 from rfl, p_le (by omega) (by omega)]; omega), if_pos (by simp [q]; omega)]
  · rw [if_neg (by rw [p_eq (by omega) (by omega)]; exact q), if_neg (by simp [q])]
theorem e5c (c : Nat) : (5 : Int32) * nI c = nI (5 * c) := pk_mul 5 c
theorem m_puts (s : S8) {c k : Nat} (hc : c < 3) (hk : k < 5) {x : Int32} (hx : x = nI k) : f_X8_puts s (nI c) x = some (u8_low (u8_up s (vp_updL (g8_up s) (5 * c + k) (g8_upper s))) (vp_updL (g8_low s) (5 * c + k) (g8_lower s))) := by
  unfold f_X8_puts
  rw [hx, e5c, nI_add, p_wrl (by omega) (by decide), p_bind, p_wrl (by omega) (by decide), p_bind]
theorem Fr_one (a : Int) {k : Int} (hk : 0 < k) : Fr a 1 (a * k) k := ⟨by omega, k, hk, rfl, by omega⟩
theorem Fr_div {a : Nat} {n k : Nat} (h : 0 < n) (hk : k * n = 60) : Fr (a : Int) (n : Int) ((a * k : Nat) : Int) (60 : Int) := by
  have k0 : 0 < k := by
    rcases Nat.eq_zero_or_pos k with q | q
    · rw [q] at hk; omega
    · exact q
  refine ⟨by omega, (k : Int), by omega, by rw [Int.natCast_mul], ?_⟩
  rw [← Int.natCast_mul, Nat.mul_comm, hk]; rfl
/-- what stands of a class when its sums are in -/
theorem m_spreadsEnd {s : S8} {B : Bk} (ok : okB B) (hw : cls8 s B (len B)) {c : Nat} (hc : c < 3) {su sl : Int} (hS : Lt su sl (qMS B c) 60) (hz : ∀ k, k < 5 → g8_low s (5 * c + k) = 0) (hm : rM (g8_now s) B) (k49 : S8 → Int32 → Int32 → Int64 → Int64 → Int32 → Int32 → Int32 → Option S8) : ∃ U L f g, f_X8_spreads_p49 k49 s (nI c) (nI (5 * c)) (lI su) (lI sl) (nI (qLQ B c)) (nI (qSP B c)) (nI (len B)) = some (ul (u8_low (u8_up s f) g) U L) ∧ (∀ k, k ≠ 5 * c → k ≠ 5 * c + 1 → f k = g8_up s k ∧ g k = g8_low s k) ∧ E0 f g B c ∧ E1 f g B c := by
  have w := ok.1.1
  change len B ≤ 8 at w
  obtain ⟨v1, v2, v3⟩ := hw c hc
  change g8_have s c = nI (qK B c) at v1
  change g8_spans s c = nI (qN B c) at v2
  change g8_totals s c = nI (qT B c) at v3
  have k8 := qK_le ok c
  have n40 := qN_le ok c
  have kn : qK B c ≤ qN B c := qKN c (len B)
  have t1 := qT_le ok c
  have l1 := qLQ_le ok c
  have ms1 := qMS_le ok c
  have w1 := wi_le ok c
  have u1 := un_le ok c
  have b1 := bt_le ok c
  have f1 := fr_le ok c
  have sp : qSP B c ≤ qN B c * qN B c := (kSP c (len B)).1
  have nn := Nat.mul_le_mul n40 n40
  have e_many : f_X8_many s = some (nI (len B)) := m_manyL hm
  have e_sp : x_rd 3 (g8_spans s) (nI c) = some (nI (qN B c)) := (p_rd hc (by decide)).trans (congrArg some v2)
  have e_hv : x_rd 3 (g8_have s) (nI c) = some (nI (qK B c)) := (p_rd hc (by decide)).trans (congrArg some v1)
  have e_tt : x_rd 3 (g8_totals s) (nI c) = some (nI (qT B c)) := (p_rd hc (by decide)).trans (congrArg some v3)
  have e_fr : nI (qN B c) - nI (qK B c) = nI (fr B c) := pk_sub kn
  have e_le : nI (len B) ≤ nI (len B) := by rw [p_le (by omega) (by omega)]; omega
  by_cases q0 : fr B c = 0
  · refine ⟨g8_upper s, g8_lower s, g8_up s, g8_low s, ?_, fun k _ _ => ⟨rfl, rfl⟩, ?_, ?_⟩
    · unfold f_X8_spreads_p49
      refine (p_bE e_many).trans ((if_pos e_le).trans ((p_bE e_sp).trans ((p_bE e_hv).trans ((if_pos ?_).trans rfl))))
      show nI (qN B c) - nI (qK B c) = 0
      rw [e_fr, q0]; rfl
    · unfold E0; rw [if_pos q0]; have := hz 0 (by omega); exact this
    · unfold E1; rw [if_neg (by omega)]; exact hz 1 (by omega)
  · have f0 : 0 < fr B c := by omega
    have hne : ¬ nI (qN B c) - nI (qK B c) = 0 := by
      rw [e_fr, show (0 : Int32) = nI 0 from rfl, p_eq (by omega) (by omega)]; omega
    -- WITHIN
    obtain ⟨a1, a2, ea, La⟩ := m_subs s (Fr_one (qLQ B c : Int) (k := 60) (by omega)) hS.1 (by constructor <;> omega) (by constructor <;> omega)
    have ea' : f_X8_adds s (Int32.toInt64 (nI (qLQ B c))) 1 (-(lI su)) (lI sl) = some (ul s (lI a1) (lI a2)) := by rw [lI_i (by omega)]; exact ea
    have La' : Lt a1 a2 (wi B c : Int) 60 := by
      have e : (qLQ B c : Int) * 60 - (qMS B c : Int) = (wi B c : Int) := by unfold wi; omega
      rw [e] at La; exact La
    obtain ⟨c1, c2, ec, Lc⟩ := m_mults (ul s (lI a1) (lI a2)) La'.1 (Fr_self (a := 1) (b := (fr B c : Int)) (by omega)) (inL_n (by omega)) ⟨by omega, by omega⟩ inL_1 (inL_n (by omega)) (by constructor <;> omega) (by constructor <;> omega)
    have ec' : f_X8_multiplies (ul s (lI a1) (lI a2)) (lI a1) (lI a2) 1 (Int32.toInt64 (nI (qN B c) - nI (qK B c))) = some (ul s (lI c1) (lI c2)) := by rw [e_fr, lI_i (by omega)]; exact ec
    have Lc' : Lt c1 c2 (wi B c : Int) ((60 * fr B c : Nat) : Int) := by
      rw [Int.mul_one] at Lc
      rw [Int.natCast_mul]; exact Lc
    have ep := m_puts (ul s (lI c1) (lI c2)) hc (k := 0) (by omega) (x := 0) rfl
    have hS13 : ∀ s13 : S8, g8_have s13 = g8_have s → x_rd 3 (g8_have s13) (nI c) = some (nI (qK B c)) := fun s13 e => by rw [e]; exact e_hv
    by_cases q2 : 2 ≤ qK B c
    · have u0 : 0 < un B c := un_pos q2
      have n0 : 0 < qN B c := by omega
      have hge : (2 : Int32) ≤ nI (qK B c) := by rw [show (2 : Int32) = nI 2 from rfl, p_le (by omega) (by omega)]; exact q2
      have bKw := Kw_le ok c
      have bMS := MSf_le ok c
      have bTT := TTf_le ok c
      have mf : qMS B c * fr B c ≤ 376358400 * 40 := Nat.mul_le_mul (by omega) f1
      have wk : wi B c * (qK B c - 1) ≤ 376358400 * 8 := Nat.mul_le_mul w1 (by omega)
      have tt : qT B c * qT B c ≤ 15840 * 15840 := Nat.mul_le_mul (by omega) (by omega)
      generalize hs13 : u8_low (u8_up (ul s (lI c1) (lI c2)) (vp_updL (g8_up (ul s (lI c1) (lI c2))) (5 * c + 0) (g8_upper (ul s (lI c1) (lI c2))))) (vp_updL (g8_low (ul s (lI c1) (lI c2))) (5 * c + 0) (g8_lower (ul s (lI c1) (lI c2)))) = s13 at ep
      have g1 : g8_have s13 = g8_have s := by rw [← hs13]; rfl
      have g2 : g8_totals s13 = g8_totals s := by rw [← hs13]; rfl
      have g3 : g8_spans s13 = g8_spans s := by rw [← hs13]; rfl
      have g4 : g8_up s13 = vp_updL (g8_up s) (5 * c) (lI c1) := by rw [← hs13]; rfl
      have g5 : g8_low s13 = vp_updL (g8_low s) (5 * c) (lI c2) := by rw [← hs13]; rfl
      have er1 : x_rd 15 (g8_up s13) (nI (5 * c)) = some (lI c1) := (p_rd (by omega) (by decide)).trans (congrArg some (by rw [g4, vl_same]))
      have er2 : x_rd 15 (g8_low s13) (nI (5 * c)) = some (lI c2) := (p_rd (by omega) (by decide)).trans (congrArg some (by rw [g5, vl_same]))
      -- WITHIN times k - 1
      obtain ⟨d1, d2, ed, Ld⟩ := m_mults s13 Lc'.1 (Fr_self (a := ((qK B c - 1 : Nat) : Int)) (b := 1) (by omega)) (inL_n (by omega)) (inL_n (by omega)) (inL_n (by omega)) inL_1 (by rw [← Int.natCast_mul]; exact inL_n (by omega)) (by rw [Int.mul_one]; exact inL_n (by omega))
      have ed' : f_X8_multiplies s13 (lI c1) (lI c2) (Int32.toInt64 (nI (qK B c)) - (1 : Int64)) 1 = some (ul s13 (lI d1) (lI d2)) := by
        rw [lI_i (by omega), show lI (qK B c : Int) - (1 : Int64) = lU (qK B c - 1) from lU_sub (a := qK B c) (b := 1) (by omega)]; exact ed
      rw [Int.mul_one, ← Int.natCast_mul] at Ld
      -- S S by n less that
      have hSs := Fr_scale hS.1 (k := (fr B c : Int)) (by omega)
      rw [← Int.natCast_mul, show (60 : Int) * (fr B c : Int) = ((60 * fr B c : Nat) : Int) by rw [Int.natCast_mul]; rfl] at hSs
      obtain ⟨f1', f2', ef, Lf⟩ := m_subs (ul s13 (lI d1) (lI d2)) hSs Ld.1 (by constructor <;> omega) (inL_n (by omega))
      -- T T by N
      obtain ⟨h1, h2, eh, Lh⟩ := m_is (ul s13 (lI f1') (lI f2')) (a := ((qT B c * qT B c : Nat) : Int)) (b := (qN B c : Int)) (inL_n (by omega)) (inL_n (by omega)) (by omega)
      have eh' : f_X8_is (ul s13 (lI f1') (lI f2')) (Int32.toInt64 (nI (qT B c)) * Int32.toInt64 (nI (qT B c))) (Int32.toInt64 (nI (qN B c))) = some (ul s13 (lI h1) (lI h2)) := by
        rw [lI_i (by omega), lI_i (by omega), lU_mul]; exact eh
      -- all less that
      have hx := Fr_scale Lf.1 (k := (qN B c : Int)) (by omega)
      have hy := Fr_scale Lh.1 (k := ((60 * fr B c : Nat) : Int)) (by omega)
      rw [Int.mul_comm (qN B c : Int) ((60 * fr B c : Nat) : Int)] at hy
      have eD : ((qMS B c * fr B c : Nat) - (wi B c * (qK B c - 1) : Nat) : Int) * (qN B c : Int) - ((qT B c * qT B c : Nat) : Int) * ((60 * fr B c : Nat) : Int) = ((qMS B c * qN B c * fr B c : Nat) : Int) - ((60 * qT B c * qT B c * fr B c + (qK B c - 1) * wi B c * qN B c : Nat) : Int) := by
        rw [Int.sub_mul, ← Int.natCast_mul, ← Int.natCast_mul, ← Int.natCast_mul, Int.natCast_add]
        rw [show qMS B c * fr B c * qN B c = qMS B c * qN B c * fr B c by ac_rfl, show wi B c * (qK B c - 1) * qN B c = (qK B c - 1) * wi B c * qN B c by ac_rfl, show qT B c * qT B c * (60 * fr B c) = 60 * qT B c * qT B c * fr B c by ac_rfl]
        omega
      have fn : 60 * fr B c * qN B c ≤ 60 * 40 * 40 := Nat.mul_le_mul (Nat.mul_le_mul_left 60 f1) n40
      obtain ⟨j1, j2, ej, Lj⟩ := m_subs (ul s13 (lI h1) (lI h2)) hx hy (by rw [eD]; constructor <;> omega) (by rw [← Int.natCast_mul]; exact inL_n (by omega))
      rw [eD, ← Int.natCast_mul] at Lj
      have ebt : bt B c = qMS B c * qN B c * fr B c - (60 * qT B c * qT B c * fr B c + (qK B c - 1) * wi B c * qN B c) := by unfold bt; rw [if_pos ⟨q2, f0⟩]
      have ij := Fr_in Lj.1 (by constructor <;> omega) (inL_n (by omega))
      -- 0 if it is below
      have hend : ∃ m1 m2 : Int, ∃ V : S8 → Option S8, (if (0 : Int32) < lg_cmp (lI j1) 0 then f_X8_spreads_p330 (ul s13 (lI j1) (lI j2)) (nI c) (nI (qSP B c)) else Option.bind (f_X8_is (ul s13 (lI j1) (lI j2)) 0 1) (fun v39 => f_X8_spreads_p330 v39 (nI c) (nI (qSP B c)))) = f_X8_spreads_p330 (ul s13 (lI m1) (lI m2)) (nI c) (nI (qSP B c)) ∧ Lt m1 m2 (bt B c : Int) ((60 * fr B c * qN B c : Nat) : Int) := by
        by_cases qj : 0 < j1
        · refine ⟨j1, j2, fun _ => none, if_pos (by rw [c0_gt ij.1]; exact qj), ?_⟩
          obtain ⟨⟨z1, m, z2, z3, z4⟩, z5⟩ := id Lj
          have : 0 < j1 * m := Int.mul_pos qj z2
          rw [show (bt B c : Int) = ((qMS B c * qN B c * fr B c : Nat) : Int) - ((60 * qT B c * qT B c * fr B c + (qK B c - 1) * wi B c * qN B c : Nat) : Int) by rw [ebt]; omega]
          exact Lj
        · obtain ⟨z1, z2, ez, Lz⟩ := m_is (ul s13 (lI j1) (lI j2)) inL_0 inL_1 (by omega)
          obtain ⟨rfl, rfl⟩ := Lt_uniq Lz ⟨Fr_self (by omega), by decide⟩
          refine ⟨0, 1, fun _ => none, (if_neg (by rw [c0_gt ij.1]; exact qj)).trans (p_bE ez), ?_⟩
          obtain ⟨⟨z1, m, z2, z3, z4⟩, z5⟩ := id Lj
          have : j1 * m ≤ 0 := Int.mul_nonpos_of_nonpos_of_nonneg (by omega) (by omega)
          rw [show bt B c = 0 by rw [ebt]; omega]
          exact Lt_zero (by have := Nat.mul_pos (show 0 < 60 * fr B c by omega) n0; omega)
      obtain ⟨m1, m2, -, em, Lm⟩ := hend
      -- by N less (n n by N)
      have bn : bt B c * qN B c ≤ 602173440000 * 40 := Nat.mul_le_mul b1 n40
      have fnu : 60 * fr B c * qN B c * un B c ≤ 60 * 40 * 40 * 1600 := Nat.mul_le_mul fn u1
      obtain ⟨o1, o2, eo, Lo⟩ := m_mults (ul s13 (lI m1) (lI m2)) Lm.1 (Fr_self (a := (qN B c : Int)) (b := (un B c : Int)) (by omega)) (inL_n (by omega)) (inL_n (by omega)) (inL_n (by omega)) (inL_n (by omega)) (by rw [← Int.natCast_mul]; exact inL_n (by omega)) (by rw [← Int.natCast_mul]; exact inL_n (by omega))
      have eo' : f_X8_multiplies (ul s13 (lI m1) (lI m2)) (lI m1) (lI m2) (Int32.toInt64 (nI (qN B c))) (Int32.toInt64 (nI (qN B c)) * Int32.toInt64 (nI (qN B c)) - Int32.toInt64 (nI (qSP B c))) = some (ul s13 (lI o1) (lI o2)) := by
        rw [lI_i (by omega), lI_i (by omega), lU_mul, lU_sub sp]; exact eo
      have Lo' : Lt o1 o2 (bt B c : Int) ((60 * fr B c * un B c : Nat) : Int) := by
        refine Lt_cross Lo ?_ ?_
        · have := Nat.mul_pos (show 0 < 60 * fr B c by omega) u0; omega
        · rw [← Int.natCast_mul, ← Int.natCast_mul, ← Int.natCast_mul, ← Int.natCast_mul]
          congr 1
          ac_rfl
      have ep2 := m_puts (ul s13 (lI o1) (lI o2)) hc (k := 1) (by omega) (x := 1) rfl
      refine ⟨lI o1, lI o2, vp_updL (vp_updL (g8_up s) (5 * c) (lI c1)) (5 * c + 1) (lI o1), vp_updL (vp_updL (g8_low s) (5 * c) (lI c2)) (5 * c + 1) (lI o2), ?_, fun k k1 k2 => ?_, ?_, ?_⟩
      · unfold f_X8_spreads_p49
        refine (p_bE e_many).trans ((if_pos e_le).trans ((p_bE e_sp).trans ((p_bE e_hv).trans ((if_neg hne).trans ((p_bE ea').trans ((p_bE ec').trans ((p_bE ep).trans ((p_bE (hS13 s13 g1)).trans ((if_pos hge).trans ((p_bE er1).trans ((p_bE er2).trans ((p_bE (hS13 s13 g1)).trans ((p_bE ed').trans ((p_bE ef).trans ?_))))))))))))))
        have et13 : x_rd 3 (g8_totals (ul s13 (lI f1') (lI f2'))) (nI c) = some (nI (qT B c)) := by
          show x_rd 3 (g8_totals s13) (nI c) = _
          rw [g2]; exact e_tt
        have es13 : ∀ z : S8, g8_spans z = g8_spans s13 → x_rd 3 (g8_spans z) (nI c) = some (nI (qN B c)) := fun z ez => by rw [ez, g3]; exact e_sp
        refine (p_bE et13).trans ((p_bE et13).trans ((p_bE (es13 _ rfl)).trans ((p_bE eh').trans ((p_bE ej).trans (em.trans ?_)))))
        unfold f_X8_spreads_p330
        refine (p_bE (es13 _ rfl)).trans ((p_bE (es13 _ rfl)).trans ((p_bE (es13 _ rfl)).trans ((p_bE eo').trans ((p_bE ep2).trans ?_))))
        rw [← hs13]
        rfl
      · rw [vl_ne k2, vl_ne k1, vl_ne k2, vl_ne k1]; exact ⟨rfl, rfl⟩
      · unfold E0
        rw [if_neg q0]
        refine ⟨c1, c2, ?_, ?_, Lc'⟩
        · rw [vl_ne (by omega), vl_same]
        · rw [vl_ne (by omega), vl_same]
      · unfold E1
        rw [if_pos ⟨q2, f0⟩]
        exact ⟨o1, o2, vl_same _ _ _, vl_same _ _ _, Lo'⟩
    · have hlt : ¬ (2 : Int32) ≤ nI (qK B c) := by rw [show (2 : Int32) = nI 2 from rfl, p_le (by omega) (by omega)]; exact q2
      refine ⟨lI c1, lI c2, vp_updL (g8_up s) (5 * c) (lI c1), vp_updL (g8_low s) (5 * c) (lI c2), ?_, fun k k1 k2 => ?_, ?_, ?_⟩
      · unfold f_X8_spreads_p49
        exact (p_bE e_many).trans ((if_pos e_le).trans ((p_bE e_sp).trans ((p_bE e_hv).trans ((if_neg hne).trans ((p_bE ea').trans ((p_bE ec').trans ((p_bE ep).trans ((p_bE (hS13 _ rfl)).trans ((if_neg hlt).trans rfl)))))))))
      · rw [vl_ne k1, vl_ne k1]; exact ⟨rfl, rfl⟩
      · unfold E0
        rw [if_neg q0]
        exact ⟨c1, c2, vl_same _ _ _, vl_same _ _ _, Lc'⟩
      · unfold E1
        rw [if_neg (by omega), vl_ne (by omega)]
        exact hz 1 (by omega)
