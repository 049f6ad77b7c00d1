set_option maxHeartbeats 8000000 in
set_option maxRecDepth 100000 in
/-- from the entry to the loop; what is left is said of functions alone -/
theorem x_start {p : Program} {e : Env} {s : State} {m : MethodId} {below : List Frame} {meth : Method} {c : Code} (l : Launch) {b L : Nat} {xs : Nat → Int32} (C0 : lw_At p s m meth c b L xs) (z : Nat → Int32) (hz : f_X8_starts (fun _ => 0) = some z) (hpure : lp_law_p18 L xs i7 (i8 z) 0 = some 1) : W p l e room_1 s m #[Value.ref b] below meth c s.heap [] 0 0 (lw_Z below #[Value.ref b] s) (entryFrame m ([Value.ref b] : List Value).toArray 4) := by
  obtain ⟨hx, hb, hr, hml, hown, hts, hX, hbl, hlocks, hgv⟩ := id C0
  have hA : ∀ q : Nat, s.heap.size ≤ q → (fun q : Nat => s.heap.size ≤ q) q := fun _ h => h
  have hA2 : ∀ a : Nat, a < s.heap.size → ¬ (fun q : Nat => s.heap.size ≤ q) a := fun a h => Nat.not_le.mpr h
  have hfl := flat_of_before _ hgv
  have htx : ∀ w ∈ x_tbl, w.before #[Value.ref b] s = true := fun w h => hts w (List.mem_filter.mp h).1
  obtain ⟨c0, iS0, hKn0⟩ := u_known (C := RX0) (T := TX0) (N := 7) (n := 7) htx inX0 (htx _ wq_144)
  obtain ⟨c1, iS1, hKn1⟩ := u_known (C := RX1) (T := TX1) (N := 14) (n := 14) htx inX1 (htx _ wq_200)
  obtain ⟨c2, iS2, hKn2⟩ := u_known (C := RX2) (T := TX2) (N := 3) (n := 3) htx inX2 (htx _ wq_184)
  obtain ⟨c3, iS3, hKn3⟩ := u_known (C := RX3) (T := TX3) (N := 3) (n := 3) htx inX3 (htx _ wq_325)
  obtain ⟨c4, iS4, hKn4⟩ := u_known (C := RX4) (T := TX4) (N := 15) (n := 15) htx inX4 (htx _ wq_206)
  obtain ⟨c5, iS5, hKn5⟩ := u_known (C := RX5) (T := TX5) (N := 2) (n := 2) htx inX5 (htx _ wq_212)
  obtain ⟨c6, iS6, hKn6⟩ := u_known (C := RX6) (T := TX6) (N := 5) (n := 5) htx inX6 (htx _ wq_121)
  obtain ⟨c7, iS7, hKn7⟩ := u_known (C := RX7) (T := TX7) (N := 8) (n := 8) htx inX7 (htx _ wq_113)
  obtain ⟨c8, iS8, hKn8⟩ := u_known (C := RX8) (T := TX8) (N := 32) (n := 32) htx inX8 (htx _ wq_1173)
  obtain ⟨cAint, kAint, coint, fint1, fint2, fint3⟩ := Cond.arrayClass_spec (args := #[Value.ref b]) (first := s) (o := none) (s := s) (idx := []) (type := .int) (htx _ wq_182)
  obtain ⟨cAlong, kAlong, colong, flong1, flong2, flong3⟩ := Cond.arrayClass_spec (args := #[Value.ref b]) (first := s) (o := none) (s := s) (idx := []) (type := .long) (htx _ wq_1277)
  obtain ⟨cAbyte, kAbyte, cobyte, fbyte1, fbyte2, fbyte3⟩ := Cond.arrayClass_spec (args := #[Value.ref b]) (first := s) (o := none) (s := s) (idx := []) (type := .byte) (htx _ wq_142)
  obtain ⟨sk, sv, hvS, hev⟩ := vk_Sof (args := #[Value.ref b]) (s := s) (N := 8) (tm := x_tm0) (len := x_len) (byt := x_byt) (A := fun q => s.heap.size ≤ q) (by decide) (fun i hi => hfl _ (x_f1 i hi)) (fun i hi => hfl _ (x_f2 i hi)) (fun i hi => hfl _ (x_f3 i hi)) (fun i hi => hfl _ (x_f4 i hi)) (fun i hi j hj => hfl _ (x_f5 i hi j hj)) (fun i j hi hj hij => (x_f6 i hi j hj hij).elim (fun h => Or.inl (hfl _ h)) (fun h => Or.inr (hfl _ h))) hA2
  obtain ⟨G, hG⟩ : ∃ G : xG, G = ((fun k => [c0, c1, c2, c3, c4, c5, c6, c7, c8].getD k 0, fun k => [iS0, iS1, iS2, iS3, iS4, iS5, iS6, iS7, iS8].getD k (fun _ => 0)), (cAint, cAlong, cAbyte), (sk, sv)) := ⟨_, rfl⟩
  have hK : va_K G.1 vwCl (x_tys G) s := by
    subst hG
    refine ⟨fun k q hq => ?_, fun k q hq => ?_⟩
    · match k, hq with
      | 0, hq => cases hq; exact hKn0
      | 1, hq => cases hq; exact hKn1
      | 2, hq => cases hq; exact hKn2
      | 3, hq => cases hq; exact hKn3
      | 4, hq => cases hq; exact hKn4
      | 5, hq => cases hq; exact hKn5
      | 6, hq => cases hq; exact hKn6
      | 7, hq => cases hq; exact hKn7
      | 8, hq => cases hq; exact hKn8
      | k + 9, hq => simp [vwCl] at hq
    · match k, hq with
      | 0, hq => cases hq; exact ⟨fun n z => ⟨fun k h => (by cases h), kAint, fint2, coint, fint3⟩, fint1⟩
      | 1, hq => cases hq; exact ⟨fun n z => ⟨fun k h => (by cases h), kAlong, flong2, colong, flong3⟩, flong1⟩
      | 2, hq => cases hq; exact ⟨fun n z => ⟨fun k h => (by cases h), kAbyte, fbyte2, cobyte, fbyte3⟩, fbyte1⟩
      | k + 3, hq => simp at hq
  have hxS : xS G (fun q => s.heap.size ≤ q) s s.heap := by
    subst hG
    exact ⟨hvS, ⟨vk_R.of (hts _ x_h1) (va_eqR (hfl _ x_g0) (hev 0 (by decide))), vk_R.of (hts _ x_h2) (hev 1 (by decide)), vk_R.of (hts _ x_h3) (hev 2 (by decide)), vk_R.of (hts _ x_h4) (hev 3 (by decide)), vk_R.of (hts _ x_h5) (hev 4 (by decide)), vk_R.of (hts _ x_h6) (va_eqR (hfl _ x_g1) (hev 5 (by decide))), vk_R.of (hts _ x_h7) (va_eqR (hfl _ x_g2) (hev 6 (by decide))), vk_R.of (hts _ x_h8) (va_eqR (hfl _ x_g3) (hev 7 (by decide))), vk_R.of (hts _ x_h9) (hev 5 (by decide)), vk_R.of (hts _ x_h10) (hev 6 (by decide)), vk_R.of (hts _ x_h11) (hev 0 (by decide)), vk_R.of (hts _ x_h12) (hev 7 (by decide))⟩, va_Zof (hts _ x_h13) (hts _ x_h15) (va_eqt (hfl _ x_f7)) hA2, va_Zqof (hts _ x_h14) (hts _ x_h16) (hfl _ x_f8) hA2, va_Nw.of rfl (hts _ x_h17), va_Nw.of rfl (hts _ x_h18), va_Nw.of rfl (hts _ x_h19), va_Nw.of rfl (hts _ x_h20), va_Nw.of rfl (hts _ x_h21), va_Nw.of rfl (hts _ x_h22)⟩
  have E : xE p s m #[Value.ref b] c cL_law 4 RL G (fun q => s.heap.size ≤ q) := ⟨hx, hb, hml, hown, htx, hK, hxS⟩
  have hl := lv_entry ([.ref b]) (n := 4) (Nat.le_of_ble_eq_true rfl)
  rw [lg_entry_eq]
  generalize (lg_sl ([.ref b]) ++ List.replicate (4 - (lg_sl ([.ref b])).length) Slot.unset).toArray = ls at hl ⊢
  have hl : lv_has ls 4 [(0, .ref b)] := hl
  have hw : xW G (fun q => s.heap.size ≤ q) s.heap [] s.heap [] := ⟨x_P_nil, x_D_nil, va_S.rf⟩
  obtain ⟨locs, hlocs⟩ : ∃ lo : List Loc, lo = [] := ⟨_, rfl⟩
  rw [← hlocs] at hw ⊢
  refine va_new (pc := 0) (ci := 7) (C := RX7) (T := TX7) (N := 8) (fs := [.null, .null, .null, .null, .null, .null, .null, .null]) E.1 E.2.1 E.2.2.2.2.1 inX7 tyX7 tyX7_ok E.2.2.2.1 (E.2.2.2.2.1 _ wq_112) (E.2.2.2.2.1 _ wq_113) (E.2.2.2.2.1 _ wq_95) E.2.2.2.2.2.1 hw.1 hw.2.1 hw.2.2 hA rfl (by decide) (Nat.le_of_ble_eq_true rfl) (Nat.le_of_ble_eq_true rfl) dL_law_0 (fun q1 H hP hD hS => ?_)
  have hw : xW G (fun q => s.heap.size ≤ q) s.heap (([] : va_W) ++ [(q1, .inr (7, [.null, .null, .null, .null, .null, .null, .null, .null]))]) H locs := ⟨hP, hD, hS⟩
  refine lv_dup (pc := 3) E.1 E.2.1 dL_law_3 rfl ?_
  refine y_callI (pc := 4) (mk := fun ad => cells7 G ad i7) E hw hl hA (n_X7_init l G _ _) wq_116 wq_95 wq_114 wq_115 rfl xe_X7_init rfl rfl ⟨Nat.le_of_ble_eq_true rfl, Nat.le_of_ble_eq_true rfl⟩ (Nat.le_of_ble_eq_true rfl) dL_law_4 ⟨Nat.le_of_ble_eq_true rfl, Nat.le_of_ble_eq_true rfl⟩ (fun a1 H locs ea1 hw => ?_)
  rw [← ea1]
  refine lv_astore_n (lv' := [(1, .ref (a1 0)), (0, .ref b)]) (pc := 7) E.1 E.2.1 dL_law_7 rfl hl (by decide) rfl (fun ls hl => ?_)
  refine va_new (pc := 8) (ci := 8) (C := RX8) (T := TX8) (N := 32) (fs := [.int 0, .null, .null, .null, .null, .int 0, .long 0, .long 0, .null, .null, .null, .null, .null, .null, .null, .null, .null, .null, .null, .null, .long 0, .long 0, .null, .int 0, .null, .int 0, .null, .int 0, .int 0, .int 0, .int 0, .int 0]) E.1 E.2.1 E.2.2.2.2.1 inX8 tyX8 tyX8_ok E.2.2.2.1 (E.2.2.2.2.1 _ wq_1172) (E.2.2.2.2.1 _ wq_1173) (E.2.2.2.2.1 _ wq_103) E.2.2.2.2.2.1 hw.1 hw.2.1 hw.2.2 hA rfl (by decide) (Nat.le_of_ble_eq_true rfl) (Nat.le_of_ble_eq_true rfl) dL_law_8 (fun q2 H hP hD hS => ?_)
  have hw : xW G (fun q => s.heap.size ≤ q) s.heap (([] ++ cells7 G a1 i7) ++ [(q2, .inr (8, [.int 0, .null, .null, .null, .null, .int 0, .long 0, .long 0, .null, .null, .null, .null, .null, .null, .null, .null, .null, .null, .null, .null, .long 0, .long 0, .null, .int 0, .null, .int 0, .null, .int 0, .int 0, .int 0, .int 0, .int 0]))]) H locs := ⟨hP, hD, hS⟩
  refine lv_dup (pc := 11) E.1 E.2.1 dL_law_11 rfl ?_
  refine y_callI (pc := 12) (mk := fun ad => cells8 G ad (i8 z)) E hw hl hA (n_X8_init l G _ _ z hz) wq_1176 wq_103 wq_1174 wq_1175 rfl xe_X8_init rfl rfl ⟨Nat.le_of_ble_eq_true rfl, Nat.le_of_ble_eq_true rfl⟩ (Nat.le_of_ble_eq_true rfl) dL_law_12 ⟨Nat.le_of_ble_eq_true rfl, Nat.le_of_ble_eq_true rfl⟩ (fun a2 H locs ea2 hw => ?_)
  rw [← ea2]
  refine lv_astore_n (lv' := [(2, .ref (a2 0)), (1, .ref (a1 0)), (0, .ref b)]) (pc := 15) E.1 E.2.1 dL_law_15 rfl hl (by decide) rfl (fun ls hl => ?_)
  refine lv_iconst (v := 0) (pc := 16) E.1 E.2.1 dL_law_16 (by decide) ?_
  refine lv_istore_n (lv' := [(3, .int 0), (2, .ref (a2 0)), (1, .ref (a1 0)), (0, .ref b)]) (pc := 17) E.1 E.2.1 dL_law_17 rfl hl (by decide) rfl (fun ls hl => ?_)
  exact wl_law_p18 (ad := a1) (ae := a2) E hX hbl hr hlocks i7 (i8 z) 0 hw (lv_sub hl [3, 2, 1, 0] rfl) hpure
