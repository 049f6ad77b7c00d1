abbrev rm_X5_init : Room := { frames := 1, cells := 0, slots := 0, locals := 12 }
set_option maxHeartbeats 8000000 in
set_option maxRecDepth 100000 in
theorem n_X5_init (l : Launch) (G : xG) (h sz : Nat) : xI l yX5_init cX5_init 1 (rm_X5_init) G h sz (.inr (5, [.long 0, .long 0])) 0 0 (fun ad => cells5 G ad i5) := by
  refine y_met (by decide) (Nat.le_of_ble_eq_true rfl) (fun p e s m below meth c hsz E hin hr hk ls hl hA hw => ?_)
  obtain ⟨locs, hlocs⟩ : ∃ lo : List Loc, lo = [] := ⟨_, rfl⟩
  rw [← hlocs] at hw ⊢
  refine lv_aload_n (pc := 0) E.1 E.2.1 dX5_init_0 rfl (lv_at hl 0 rfl) ?_
  refine y_objInit (pc := 1) E hl wq_216 wq_118 wq_119 (Nat.le_of_ble_eq_true rfl) (Nat.le_of_ble_eq_true rfl) dX5_init_1 ?_
  exact y_ret (pc := 4) (mk := fun ad => cells5 G ad i5) E hr hk hw (fun k => ([h] : List Nat).getD k 0) rfl [0] (by decide) rfl rfl (Nat.le_of_ble_eq_true rfl) (Nat.le_of_ble_eq_true rfl) dX5_init_4
abbrev rm_X4_init : Room := { frames := 2, cells := 1, slots := 2, locals := 32 }
set_option maxHeartbeats 8000000 in
set_option maxRecDepth 100000 in
theorem n_X4_init (l : Launch) (G : xG) (h sz : Nat) : xI l yX4_init cX4_init 1 (rm_X4_init) G h sz (.inr (4, [.int 0, .int 0, .int 0, .int 0, .null, .long 0, .long 0, .long 0, .long 0, .long 0, .long 0, .long 0, .long 0, .long 0, .long 0])) 1 2 (fun ad => cells4 G ad i4) := by
  refine y_met (by decide) (Nat.le_of_ble_eq_true rfl) (fun p e s m below meth c hsz E hin hr hk ls hl hA hw => ?_)
  obtain ⟨locs, hlocs⟩ : ∃ lo : List Loc, lo = [] := ⟨_, rfl⟩
  rw [← hlocs] at hw ⊢
  refine lv_aload_n (pc := 0) E.1 E.2.1 dX4_init_0 rfl (lv_at hl 0 rfl) ?_
  refine y_objInit (pc := 1) E hl wq_210 wq_118 wq_119 (Nat.le_of_ble_eq_true rfl) (Nat.le_of_ble_eq_true rfl) dX4_init_1 ?_
  refine lv_aload_n (pc := 4) E.1 E.2.1 dX4_init_4 rfl (lv_at hl 0 rfl) ?_
  refine va_new (pc := 5) (ci := 5) (C := RX5) (T := TX5) (N := 2) (fs := [.long 0, .long 0]) E.1 E.2.1 E.2.2.2.2.1 inX5 tyX5 tyX5_ok E.2.2.2.1 (E.2.2.2.2.1 _ wq_211) (E.2.2.2.2.1 _ wq_212) (E.2.2.2.2.1 _ wq_101) E.2.2.2.2.2.1 hw.1 hw.2.1 hw.2.2 hA rfl (by decide) (Nat.le_of_ble_eq_true rfl) (Nat.le_of_ble_eq_true rfl) dX4_init_5 (fun q1 H hP hD hS => ?_)
  have hw : xW G (y_A h sz) s.heap (([(h, .inr (4, [.int 0, .int 0, .int 0, .int 0, .null, .long 0, .long 0, .long 0, .long 0, .long 0, .long 0, .long 0, .long 0, .long 0, .long 0]))]) ++ [(q1, .inr (5, [.long 0, .long 0]))]) H locs := ⟨hP, hD, hS⟩
  refine lv_dup (pc := 8) E.1 E.2.1 dX4_init_8 rfl ?_
  refine y_callIN (pc := 9) (mk := fun ad => cells5 G ad i5) E hw hl hA (n_X5_init l G _ _) wq_215 wq_101 E.2.2.2.2.2.2.2.2.2.2.2.2.1 wq_214 rfl xe_X5_init rfl rfl ⟨Nat.le_of_ble_eq_true rfl, Nat.le_of_ble_eq_true rfl⟩ (Nat.le_of_ble_eq_true rfl) dX4_init_9 ⟨Nat.le_of_ble_eq_true rfl, Nat.le_of_ble_eq_true rfl⟩ (fun a2 H locs ea2 hw => ?_)
  rw [← ea2]
  refine yp_X4_12 (pc := 12) (v := .ref (a2 0)) (ws' := ([(h, .inr (4, [.int 0, .int 0, .int 0, .int 0, .ref (a2 0), .long 0, .long 0, .long 0, .long 0, .long 0, .long 0, .long 0, .long 0, .long 0, .long 0]))] ++ cells5 G a2 i5)) E hin hw 0 rfl rfl rfl (Nat.le_of_ble_eq_true rfl) rfl dX4_init_12 (fun H locs hw => ?_)
  exact y_ret (pc := 15) (mk := fun ad => cells4 G ad i4) E hr hk hw (fun k => ([h, a2 0] : List Nat).getD k 0) rfl [0, 1] (by decide) rfl rfl (Nat.le_of_ble_eq_true rfl) (Nat.le_of_ble_eq_true rfl) dX4_init_15
abbrev rm_X0_init : Room := { frames := 1, cells := 3, slots := 56, locals := 12 }
set_option maxHeartbeats 8000000 in
set_option maxRecDepth 100000 in
theorem n_X0_init (l : Launch) (G : xG) (h sz : Nat) : xI l yX0_init cX0_init 1 (rm_X0_init) G h sz (.inr (0, [.int 0, .int 0, .int 0, .int 0, .null, .null, .null])) 3 56 (fun ad => cells0 G ad i0) := by
  refine y_met (by decide) (Nat.le_of_ble_eq_true rfl) (fun p e s m below meth c hsz E hin hr hk ls hl hA hw => ?_)
  obtain ⟨locs, hlocs⟩ : ∃ lo : List Loc, lo = [] := ⟨_, rfl⟩
  rw [← hlocs] at hw ⊢
  refine lv_aload_n (pc := 0) E.1 E.2.1 dX0_init_0 rfl (lv_at hl 0 rfl) ?_
  refine y_objInit (pc := 1) E hl wq_148 wq_118 wq_119 (Nat.le_of_ble_eq_true rfl) (Nat.le_of_ble_eq_true rfl) dX0_init_1 ?_
  refine lv_aload_n (pc := 4) E.1 E.2.1 dX0_init_4 rfl (lv_at hl 0 rfl) ?_
  refine lv_bipush (v := 99) (pc := 5) E.1 E.2.1 dX0_init_5 (by decide) ?_
  refine yp_X0_9 (pc := 7) (v := .int 99) (ws' := ([(h, .inr (0, [.int 0, .int 0, .int 99, .int 0, .null, .null, .null]))])) E hin hw 0 rfl rfl rfl (Nat.le_of_ble_eq_true rfl) rfl dX0_init_7 (fun H locs hw => ?_)
  refine lv_aload_n (pc := 10) E.1 E.2.1 dX0_init_10 rfl (lv_at hl 0 rfl) ?_
  refine lv_iconst (v := 5) (pc := 11) E.1 E.2.1 dX0_init_11 (by decide) ?_
  refine yp_X0_15 (pc := 12) (v := .int 5) (ws' := ([(h, .inr (0, [.int 0, .int 0, .int 99, .int 5, .null, .null, .null]))])) E hin hw 0 rfl rfl rfl (Nat.le_of_ble_eq_true rfl) rfl dX0_init_12 (fun H locs hw => ?_)
  refine lv_aload_n (pc := 15) E.1 E.2.1 dX0_init_15 rfl (lv_at hl 0 rfl) ?_
  refine lv_bipush (v := 8) (pc := 16) E.1 E.2.1 dX0_init_16 (by decide) ?_
  refine y_newa (pc := 18) (ty := .int) (N := 8) (a0 := (8, .inl (fun _ => 0))) 0 E hw hA wq_182 rfl rfl (fun _ h => by cases h) (fun _ => rfl) (by decide) (by decide) (by decide) (Nat.le_of_ble_eq_true rfl) (Nat.le_of_ble_eq_true rfl) dX0_init_18 (fun q1 H hw => ?_)
  refine yp_X0_18 (pc := 20) (v := .ref q1) (ws' := ([(h, .inr (0, [.int 0, .int 0, .int 99, .int 5, .ref q1, .null, .null]))] ++ [(q1, .inl (G.2.1.1, 8, .inl (fun _ => 0)))])) E hin hw 0 rfl rfl rfl (Nat.le_of_ble_eq_true rfl) rfl dX0_init_20 (fun H locs hw => ?_)
  refine lv_aload_n (pc := 23) E.1 E.2.1 dX0_init_23 rfl (lv_at hl 0 rfl) ?_
  refine lv_bipush (v := 8) (pc := 24) E.1 E.2.1 dX0_init_24 (by decide) ?_
  refine y_newa (pc := 26) (ty := .int) (N := 8) (a0 := (8, .inl (fun _ => 0))) 0 E hw hA wq_182 rfl rfl (fun _ h => by cases h) (fun _ => rfl) (by decide) (by decide) (by decide) (Nat.le_of_ble_eq_true rfl) (Nat.le_of_ble_eq_true rfl) dX0_init_26 (fun q2 H hw => ?_)
  refine yp_X0_22 (pc := 28) (v := .ref q2) (ws' := ([(h, .inr (0, [.int 0, .int 0, .int 99, .int 5, .ref q1, .ref q2, .null]))] ++ [(q1, .inl (G.2.1.1, 8, .inl (fun _ => 0)))] ++ [(q2, .inl (G.2.1.1, 8, .inl (fun _ => 0)))])) E hin hw 0 rfl rfl rfl (Nat.le_of_ble_eq_true rfl) rfl dX0_init_28 (fun H locs hw => ?_)
  refine lv_aload_n (pc := 31) E.1 E.2.1 dX0_init_31 rfl (lv_at hl 0 rfl) ?_
  refine lv_bipush (v := 40) (pc := 32) E.1 E.2.1 dX0_init_32 (by decide) ?_
  refine y_newa (pc := 34) (ty := .int) (N := 40) (a0 := (40, .inl (fun _ => 0))) 0 E hw hA wq_182 rfl rfl (fun _ h => by cases h) (fun _ => rfl) (by decide) (by decide) (by decide) (Nat.le_of_ble_eq_true rfl) (Nat.le_of_ble_eq_true rfl) dX0_init_34 (fun q3 H hw => ?_)
  refine yp_X0_25 (pc := 36) (v := .ref q3) (ws' := ([(h, .inr (0, [.int 0, .int 0, .int 99, .int 5, .ref q1, .ref q2, .ref q3]))] ++ [(q1, .inl (G.2.1.1, 8, .inl (fun _ => 0)))] ++ [(q2, .inl (G.2.1.1, 8, .inl (fun _ => 0)))] ++ [(q3, .inl (G.2.1.1, 40, .inl (fun _ => 0)))])) E hin hw 0 rfl rfl rfl (Nat.le_of_ble_eq_true rfl) rfl dX0_init_36 (fun H locs hw => ?_)
  exact y_ret (pc := 39) (mk := fun ad => cells0 G ad i0) E hr hk hw (fun k => ([h, q1, q2, q3] : List Nat).getD k 0) rfl [0, 1, 2, 3] (by decide) rfl rfl (Nat.le_of_ble_eq_true rfl) (Nat.le_of_ble_eq_true rfl) dX0_init_39
abbrev rm_X2_init : Room := { frames := 1, cells := 1, slots := 720, locals := 12 }
set_option maxHeartbeats 8000000 in
set_option maxRecDepth 100000 in
theorem n_X2_init (l : Launch) (G : xG) (h sz : Nat) : xI l yX2_init cX2_init 1 (rm_X2_init) G h sz (.inr (2, [.null, .int 0, .int 0])) 1 720 (fun ad => cells2 G ad i2) := by
  refine y_met (by decide) (Nat.le_of_ble_eq_true rfl) (fun p e s m below meth c hsz E hin hr hk ls hl hA hw => ?_)
  obtain ⟨locs, hlocs⟩ : ∃ lo : List Loc, lo = [] := ⟨_, rfl⟩
  rw [← hlocs] at hw ⊢
  refine lv_aload_n (pc := 0) E.1 E.2.1 dX2_init_0 rfl (lv_at hl 0 rfl) ?_
  refine y_objInit (pc := 1) E hl wq_188 wq_118 wq_119 (Nat.le_of_ble_eq_true rfl) (Nat.le_of_ble_eq_true rfl) dX2_init_1 ?_
  refine lv_aload_n (pc := 4) E.1 E.2.1 dX2_init_4 rfl (lv_at hl 0 rfl) ?_
  refine lv_sipush (v := 720) (pc := 5) E.1 E.2.1 dX2_init_5 (by decide) ?_
  refine y_newa (pc := 8) (ty := .int) (N := 720) (a0 := (720, .inl (fun _ => 0))) 0 E hw hA wq_182 rfl rfl (fun _ h => by cases h) (fun _ => rfl) (by decide) (by decide) (by decide) (Nat.le_of_ble_eq_true rfl) (Nat.le_of_ble_eq_true rfl) dX2_init_8 (fun q1 H hw => ?_)
  refine yp_X2_11 (pc := 10) (v := .ref q1) (ws' := ([(h, .inr (2, [.ref q1, .int 0, .int 0]))] ++ [(q1, .inl (G.2.1.1, 720, .inl (fun _ => 0)))])) E hin hw 0 rfl rfl rfl (Nat.le_of_ble_eq_true rfl) rfl dX2_init_10 (fun H locs hw => ?_)
  exact y_ret (pc := 13) (mk := fun ad => cells2 G ad i2) E hr hk hw (fun k => ([h, q1] : List Nat).getD k 0) rfl [0, 1] (by decide) rfl rfl (Nat.le_of_ble_eq_true rfl) (Nat.le_of_ble_eq_true rfl) dX2_init_13
abbrev rm_X3_init : Room := { frames := 1, cells := 0, slots := 0, locals := 12 }
set_option maxHeartbeats 8000000 in
set_option maxRecDepth 100000 in
theorem n_X3_init (l : Launch) (G : xG) (h sz : Nat) : xI l yX3_init cX3_init 1 (rm_X3_init) G h sz (.inr (3, [.int 0, .int 0, .int 0])) 0 0 (fun ad => cells3 G ad i3) := by
  refine y_met (by decide) (Nat.le_of_ble_eq_true rfl) (fun p e s m below meth c hsz E hin hr hk ls hl hA hw => ?_)
  obtain ⟨locs, hlocs⟩ : ∃ lo : List Loc, lo = [] := ⟨_, rfl⟩
  rw [← hlocs] at hw ⊢
  refine lv_aload_n (pc := 0) E.1 E.2.1 dX3_init_0 rfl (lv_at hl 0 rfl) ?_
  refine y_objInit (pc := 1) E hl wq_329 wq_118 wq_119 (Nat.le_of_ble_eq_true rfl) (Nat.le_of_ble_eq_true rfl) dX3_init_1 ?_
  exact y_ret (pc := 4) (mk := fun ad => cells3 G ad i3) E hr hk hw (fun k => ([h] : List Nat).getD k 0) rfl [0] (by decide) rfl rfl (Nat.le_of_ble_eq_true rfl) (Nat.le_of_ble_eq_true rfl) dX3_init_4
abbrev rm_X6_init : Room := { frames := 1, cells := 1, slots := 700, locals := 12 }
set_option maxHeartbeats 8000000 in
set_option maxRecDepth 100000 in
theorem n_X6_init (l : Launch) (G : xG) (h sz : Nat) : xI l yX6_init cX6_init 1 (rm_X6_init) G h sz (.inr (6, [.null, .int 0, .int 0, .int 0, .int 0])) 1 700 (fun ad => cells6 G ad i6) := by
  refine y_met (by decide) (Nat.le_of_ble_eq_true rfl) (fun p e s m below meth c hsz E hin hr hk ls hl hA hw => ?_)
  obtain ⟨locs, hlocs⟩ : ∃ lo : List Loc, lo = [] := ⟨_, rfl⟩
  rw [← hlocs] at hw ⊢
  refine lv_aload_n (pc := 0) E.1 E.2.1 dX6_init_0 rfl (lv_at hl 0 rfl) ?_
  refine y_objInit (pc := 1) E hl wq_125 wq_118 wq_119 (Nat.le_of_ble_eq_true rfl) (Nat.le_of_ble_eq_true rfl) dX6_init_1 ?_
  refine lv_aload_n (pc := 4) E.1 E.2.1 dX6_init_4 rfl (lv_at hl 0 rfl) ?_
  refine lv_sipush (v := 700) (pc := 5) E.1 E.2.1 dX6_init_5 (by decide) ?_
  refine y_newa (pc := 8) (ty := .byte) (N := 700) (a0 := (700, .inl (fun _ => 0))) 2 E hw hA wq_142 rfl rfl (fun _ h => by cases h) (fun _ => rfl) (by decide) (by decide) (by decide) (Nat.le_of_ble_eq_true rfl) (Nat.le_of_ble_eq_true rfl) dX6_init_8 (fun q1 H hw => ?_)
  refine yp_X6_9 (pc := 10) (v := .ref q1) (ws' := ([(h, .inr (6, [.ref q1, .int 0, .int 0, .int 0, .int 0]))] ++ [(q1, .inl (G.2.1.2.2, 700, .inl (fun _ => 0)))])) E hin hw 0 rfl rfl rfl (Nat.le_of_ble_eq_true rfl) rfl dX6_init_10 (fun H locs hw => ?_)
  exact y_ret (pc := 13) (mk := fun ad => cells6 G ad i6) E hr hk hw (fun k => ([h, q1] : List Nat).getD k 0) rfl [0, 1] (by decide) rfl rfl (Nat.le_of_ble_eq_true rfl) (Nat.le_of_ble_eq_true rfl) dX6_init_13
abbrev rm_X1_init : Room := { frames := 3, cells := 14, slots := 135, locals := 52 }
set_option maxHeartbeats 8000000 in
set_option maxRecDepth 100000 in
theorem n_X1_init (l : Launch) (G : xG) (h sz : Nat) : xI l yX1_init cX1_init 1 (rm_X1_init) G h sz (.inr (1, [.int 0, .int 0, .int 0, .null, .null, .null, .null, .null, .null, .null, .null, .null, .null, .null])) 14 135 (fun ad => cells1 G ad i1) := by
  refine y_met (by decide) (Nat.le_of_ble_eq_true rfl) (fun p e s m below meth c hsz E hin hr hk ls hl hA hw => ?_)
  obtain ⟨locs, hlocs⟩ : ∃ lo : List Loc, lo = [] := ⟨_, rfl⟩
  rw [← hlocs] at hw ⊢
  refine lv_aload_n (pc := 0) E.1 E.2.1 dX1_init_0 rfl (lv_at hl 0 rfl) ?_
  refine y_objInit (pc := 1) E hl wq_204 wq_118 wq_119 (Nat.le_of_ble_eq_true rfl) (Nat.le_of_ble_eq_true rfl) dX1_init_1 ?_
  refine lv_aload_n (pc := 4) E.1 E.2.1 dX1_init_4 rfl (lv_at hl 0 rfl) ?_
  refine lv_bipush (v := 8) (pc := 5) E.1 E.2.1 dX1_init_5 (by decide) ?_
  refine y_newa (pc := 7) (ty := .int) (N := 8) (a0 := (8, .inl (fun _ => 0))) 0 E hw hA wq_182 rfl rfl (fun _ h => by cases h) (fun _ => rfl) (by decide) (by decide) (by decide) (Nat.le_of_ble_eq_true rfl) (Nat.le_of_ble_eq_true rfl) dX1_init_7 (fun q1 H hw => ?_)
  refine yp_X1_9 (pc := 9) (v := .ref q1) (ws' := ([(h, .inr (1, [.int 0, .int 0, .int 0, .ref q1, .null, .null, .null, .null, .null, .null, .null, .null, .null, .null]))] ++ [(q1, .inl (G.2.1.1, 8, .inl (fun _ => 0)))])) E hin hw 0 rfl rfl rfl (Nat.le_of_ble_eq_true rfl) rfl dX1_init_9 (fun H locs hw => ?_)
  refine lv_aload_n (pc := 12) E.1 E.2.1 dX1_init_12 rfl (lv_at hl 0 rfl) ?_
  refine lv_bipush (v := 40) (pc := 13) E.1 E.2.1 dX1_init_13 (by decide) ?_
  refine y_newa (pc := 15) (ty := .int) (N := 40) (a0 := (40, .inl (fun _ => 0))) 0 E hw hA wq_182 rfl rfl (fun _ h => by cases h) (fun _ => rfl) (by decide) (by decide) (by decide) (Nat.le_of_ble_eq_true rfl) (Nat.le_of_ble_eq_true rfl) dX1_init_15 (fun q2 H hw => ?_)
  refine yp_X1_15 (pc := 17) (v := .ref q2) (ws' := ([(h, .inr (1, [.int 0, .int 0, .int 0, .ref q1, .ref q2, .null, .null, .null, .null, .null, .null, .null, .null, .null]))] ++ [(q1, .inl (G.2.1.1, 8, .inl (fun _ => 0)))] ++ [(q2, .inl (G.2.1.1, 40, .inl (fun _ => 0)))])) E hin hw 0 rfl rfl rfl (Nat.le_of_ble_eq_true rfl) rfl dX1_init_17 (fun H locs hw => ?_)
  refine lv_aload_n (pc := 20) E.1 E.2.1 dX1_init_20 rfl (lv_at hl 0 rfl) ?_
  refine lv_bipush (v := 8) (pc := 21) E.1 E.2.1 dX1_init_21 (by decide) ?_
  refine y_newa (pc := 23) (ty := .int) (N := 8) (a0 := (8, .inl (fun _ => 0))) 0 E hw hA wq_182 rfl rfl (fun _ h => by cases h) (fun _ => rfl) (by decide) (by decide) (by decide) (Nat.le_of_ble_eq_true rfl) (Nat.le_of_ble_eq_true rfl) dX1_init_23 (fun q3 H hw => ?_)
  refine yp_X1_18 (pc := 25) (v := .ref q3) (ws' := ([(h, .inr (1, [.int 0, .int 0, .int 0, .ref q1, .ref q2, .ref q3, .null, .null, .null, .null, .null, .null, .null, .null]))] ++ [(q1, .inl (G.2.1.1, 8, .inl (fun _ => 0)))] ++ [(q2, .inl (G.2.1.1, 40, .inl (fun _ => 0)))] ++ [(q3, .inl (G.2.1.1, 8, .inl (fun _ => 0)))])) E hin hw 0 rfl rfl rfl (Nat.le_of_ble_eq_true rfl) rfl dX1_init_25 (fun H locs hw => ?_)
  refine lv_aload_n (pc := 28) E.1 E.2.1 dX1_init_28 rfl (lv_at hl 0 rfl) ?_
  refine lv_bipush (v := 8) (pc := 29) E.1 E.2.1 dX1_init_29 (by decide) ?_
  refine y_newa (pc := 31) (ty := .int) (N := 8) (a0 := (8, .inl (fun _ => 0))) 0 E hw hA wq_182 rfl rfl (fun _ h => by cases h) (fun _ => rfl) (by decide) (by decide) (by decide) (Nat.le_of_ble_eq_true rfl) (Nat.le_of_ble_eq_true rfl) dX1_init_31 (fun q4 H hw => ?_)
  refine yp_X1_21 (pc := 33) (v := .ref q4) (ws' := ([(h, .inr (1, [.int 0, .int 0, .int 0, .ref q1, .ref q2, .ref q3, .ref q4, .null, .null, .null, .null, .null, .null, .null]))] ++ [(q1, .inl (G.2.1.1, 8, .inl (fun _ => 0)))] ++ [(q2, .inl (G.2.1.1, 40, .inl (fun _ => 0)))] ++ [(q3, .inl (G.2.1.1, 8, .inl (fun _ => 0)))] ++ [(q4, .inl (G.2.1.1, 8, .inl (fun _ => 0)))])) E hin hw 0 rfl rfl rfl (Nat.le_of_ble_eq_true rfl) rfl dX1_init_33 (fun H locs hw => ?_)
  refine lv_aload_n (pc := 36) E.1 E.2.1 dX1_init_36 rfl (lv_at hl 0 rfl) ?_
  refine lv_bipush (v := 8) (pc := 37) E.1 E.2.1 dX1_init_37 (by decide) ?_
  refine y_newa (pc := 39) (ty := .int) (N := 8) (a0 := (8, .inl (fun _ => 0))) 0 E hw hA wq_182 rfl rfl (fun _ h => by cases h) (fun _ => rfl) (by decide) (by decide) (by decide) (Nat.le_of_ble_eq_true rfl) (Nat.le_of_ble_eq_true rfl) dX1_init_39 (fun q5 H hw => ?_)
  refine yp_X1_24 (pc := 41) (v := .ref q5) (ws' := ([(h, .inr (1, [.int 0, .int 0, .int 0, .ref q1, .ref q2, .ref q3, .ref q4, .ref q5, .null, .null, .null, .null, .null, .null]))] ++ [(q1, .inl (G.2.1.1, 8, .inl (fun _ => 0)))] ++ [(q2, .inl (G.2.1.1, 40, .inl (fun _ => 0)))] ++ [(q3, .inl (G.2.1.1, 8, .inl (fun _ => 0)))] ++ [(q4, .inl (G.2.1.1, 8, .inl (fun _ => 0)))] ++ [(q5, .inl (G.2.1.1, 8, .inl (fun _ => 0)))])) E hin hw 0 rfl rfl rfl (Nat.le_of_ble_eq_true rfl) rfl dX1_init_41 (fun H locs hw => ?_)
  refine lv_aload_n (pc := 44) E.1 E.2.1 dX1_init_44 rfl (lv_at hl 0 rfl) ?_
  refine lv_bipush (v := 8) (pc := 45) E.1 E.2.1 dX1_init_45 (by decide) ?_
  refine y_newa (pc := 47) (ty := .int) (N := 8) (a0 := (8, .inl (fun _ => 0))) 0 E hw hA wq_182 rfl rfl (fun _ h => by cases h) (fun _ => rfl) (by decide) (by decide) (by decide) (Nat.le_of_ble_eq_true rfl) (Nat.le_of_ble_eq_true rfl) dX1_init_47 (fun q6 H hw => ?_)
  refine yp_X1_27 (pc := 49) (v := .ref q6) (ws' := ([(h, .inr (1, [.int 0, .int 0, .int 0, .ref q1, .ref q2, .ref q3, .ref q4, .ref q5, .ref q6, .null, .null, .null, .null, .null]))] ++ [(q1, .inl (G.2.1.1, 8, .inl (fun _ => 0)))] ++ [(q2, .inl (G.2.1.1, 40, .inl (fun _ => 0)))] ++ [(q3, .inl (G.2.1.1, 8, .inl (fun _ => 0)))] ++ [(q4, .inl (G.2.1.1, 8, .inl (fun _ => 0)))] ++ [(q5, .inl (G.2.1.1, 8, .inl (fun _ => 0)))] ++ [(q6, .inl (G.2.1.1, 8, .inl (fun _ => 0)))])) E hin hw 0 rfl rfl rfl (Nat.le_of_ble_eq_true rfl) rfl dX1_init_49 (fun H locs hw => ?_)
  refine lv_aload_n (pc := 52) E.1 E.2.1 dX1_init_52 rfl (lv_at hl 0 rfl) ?_
  refine va_new (pc := 53) (ci := 4) (C := RX4) (T := TX4) (N := 15) (fs := [.int 0, .int 0, .int 0, .int 0, .null, .long 0, .long 0, .long 0, .long 0, .long 0, .long 0, .long 0, .long 0, .long 0, .long 0]) E.1 E.2.1 E.2.2.2.2.1 inX4 tyX4 tyX4_ok E.2.2.2.1 (E.2.2.2.2.1 _ wq_205) (E.2.2.2.2.1 _ wq_206) (E.2.2.2.2.1 _ wq_100) E.2.2.2.2.2.1 hw.1 hw.2.1 hw.2.2 hA rfl (by decide) (Nat.le_of_ble_eq_true rfl) (Nat.le_of_ble_eq_true rfl) dX1_init_53 (fun q7 H hP hD hS => ?_)
  have hw : xW G (y_A h sz) s.heap (([(h, .inr (1, [.int 0, .int 0, .int 0, .ref q1, .ref q2, .ref q3, .ref q4, .ref q5, .ref q6, .null, .null, .null, .null, .null]))] ++ [(q1, .inl (G.2.1.1, 8, .inl (fun _ => 0)))] ++ [(q2, .inl (G.2.1.1, 40, .inl (fun _ => 0)))] ++ [(q3, .inl (G.2.1.1, 8, .inl (fun _ => 0)))] ++ [(q4, .inl (G.2.1.1, 8, .inl (fun _ => 0)))] ++ [(q5, .inl (G.2.1.1, 8, .inl (fun _ => 0)))] ++ [(q6, .inl (G.2.1.1, 8, .inl (fun _ => 0)))]) ++ [(q7, .inr (4, [.int 0, .int 0, .int 0, .int 0, .null, .long 0, .long 0, .long 0, .long 0, .long 0, .long 0, .long 0, .long 0, .long 0, .long 0]))]) H locs := ⟨hP, hD, hS⟩
  refine lv_dup (pc := 56) E.1 E.2.1 dX1_init_56 rfl ?_
  refine y_callI (pc := 57) (mk := fun ad => cells4 G ad i4) E hw hl hA (n_X4_init l G _ _) wq_209 wq_100 wq_207 wq_208 rfl xe_X4_init rfl rfl ⟨Nat.le_of_ble_eq_true rfl, Nat.le_of_ble_eq_true rfl⟩ (Nat.le_of_ble_eq_true rfl) dX1_init_57 ⟨Nat.le_of_ble_eq_true rfl, Nat.le_of_ble_eq_true rfl⟩ (fun a8 H locs ea8 hw => ?_)
  rw [← ea8]
  refine yp_X1_33 (pc := 60) (v := .ref (a8 0)) (ws' := ([(h, .inr (1, [.int 0, .int 0, .int 0, .ref q1, .ref q2, .ref q3, .ref q4, .ref q5, .ref q6, .ref (a8 0), .null, .null, .null, .null]))] ++ [(q1, .inl (G.2.1.1, 8, .inl (fun _ => 0)))] ++ [(q2, .inl (G.2.1.1, 40, .inl (fun _ => 0)))] ++ [(q3, .inl (G.2.1.1, 8, .inl (fun _ => 0)))] ++ [(q4, .inl (G.2.1.1, 8, .inl (fun _ => 0)))] ++ [(q5, .inl (G.2.1.1, 8, .inl (fun _ => 0)))] ++ [(q6, .inl (G.2.1.1, 8, .inl (fun _ => 0)))] ++ cells4 G a8 i4)) E hin hw 0 rfl rfl rfl (Nat.le_of_ble_eq_true rfl) rfl dX1_init_60 (fun H locs hw => ?_)
  refine lv_aload_n (pc := 63) E.1 E.2.1 dX1_init_63 rfl (lv_at hl 0 rfl) ?_
  refine va_new (pc := 64) (ci := 4) (C := RX4) (T := TX4) (N := 15) (fs := [.int 0, .int 0, .int 0, .int 0, .null, .long 0, .long 0, .long 0, .long 0, .long 0, .long 0, .long 0, .long 0, .long 0, .long 0]) E.1 E.2.1 E.2.2.2.2.1 inX4 tyX4 tyX4_ok E.2.2.2.1 (E.2.2.2.2.1 _ wq_205) (E.2.2.2.2.1 _ wq_206) (E.2.2.2.2.1 _ wq_100) E.2.2.2.2.2.1 hw.1 hw.2.1 hw.2.2 hA rfl (by decide) (Nat.le_of_ble_eq_true rfl) (Nat.le_of_ble_eq_true rfl) dX1_init_64 (fun q9 H hP hD hS => ?_)
  have hw : xW G (y_A h sz) s.heap (([(h, .inr (1, [.int 0, .int 0, .int 0, .ref q1, .ref q2, .ref q3, .ref q4, .ref q5, .ref q6, .ref (a8 0), .null, .null, .null, .null]))] ++ [(q1, .inl (G.2.1.1, 8, .inl (fun _ => 0)))] ++ [(q2, .inl (G.2.1.1, 40, .inl (fun _ => 0)))] ++ [(q3, .inl (G.2.1.1, 8, .inl (fun _ => 0)))] ++ [(q4, .inl (G.2.1.1, 8, .inl (fun _ => 0)))] ++ [(q5, .inl (G.2.1.1, 8, .inl (fun _ => 0)))] ++ [(q6, .inl (G.2.1.1, 8, .inl (fun _ => 0)))] ++ cells4 G a8 i4) ++ [(q9, .inr (4, [.int 0, .int 0, .int 0, .int 0, .null, .long 0, .long 0, .long 0, .long 0, .long 0, .long 0, .long 0, .long 0, .long 0, .long 0]))]) H locs := ⟨hP, hD, hS⟩
  refine lv_dup (pc := 67) E.1 E.2.1 dX1_init_67 rfl ?_
  refine y_callI (pc := 68) (mk := fun ad => cells4 G ad i4) E hw hl hA (n_X4_init l G _ _) wq_209 wq_100 wq_207 wq_208 rfl xe_X4_init rfl rfl ⟨Nat.le_of_ble_eq_true rfl, Nat.le_of_ble_eq_true rfl⟩ (Nat.le_of_ble_eq_true rfl) dX1_init_68 ⟨Nat.le_of_ble_eq_true rfl, Nat.le_of_ble_eq_true rfl⟩ (fun a10 H locs ea10 hw => ?_)
  rw [← ea10]
  refine yp_X1_37 (pc := 71) (v := .ref (a10 0)) (ws' := ([(h, .inr (1, [.int 0, .int 0, .int 0, .ref q1, .ref q2, .ref q3, .ref q4, .ref q5, .ref q6, .ref (a8 0), .ref (a10 0), .null, .null, .null]))] ++ [(q1, .inl (G.2.1.1, 8, .inl (fun _ => 0)))] ++ [(q2, .inl (G.2.1.1, 40, .inl (fun _ => 0)))] ++ [(q3, .inl (G.2.1.1, 8, .inl (fun _ => 0)))] ++ [(q4, .inl (G.2.1.1, 8, .inl (fun _ => 0)))] ++ [(q5, .inl (G.2.1.1, 8, .inl (fun _ => 0)))] ++ [(q6, .inl (G.2.1.1, 8, .inl (fun _ => 0)))] ++ cells4 G a8 i4 ++ cells4 G a10 i4)) E hin hw 0 rfl rfl rfl (Nat.le_of_ble_eq_true rfl) rfl dX1_init_71 (fun H locs hw => ?_)
  refine lv_aload_n (pc := 74) E.1 E.2.1 dX1_init_74 rfl (lv_at hl 0 rfl) ?_
  refine va_new (pc := 75) (ci := 4) (C := RX4) (T := TX4) (N := 15) (fs := [.int 0, .int 0, .int 0, .int 0, .null, .long 0, .long 0, .long 0, .long 0, .long 0, .long 0, .long 0, .long 0, .long 0, .long 0]) E.1 E.2.1 E.2.2.2.2.1 inX4 tyX4 tyX4_ok E.2.2.2.1 (E.2.2.2.2.1 _ wq_205) (E.2.2.2.2.1 _ wq_206) (E.2.2.2.2.1 _ wq_100) E.2.2.2.2.2.1 hw.1 hw.2.1 hw.2.2 hA rfl (by decide) (Nat.le_of_ble_eq_true rfl) (Nat.le_of_ble_eq_true rfl) dX1_init_75 (fun q11 H hP hD hS => ?_)
  have hw : xW G (y_A h sz) s.heap (([(h, .inr (1, [.int 0, .int 0, .int 0, .ref q1, .ref q2, .ref q3, .ref q4, .ref q5, .ref q6, .ref (a8 0), .ref (a10 0), .null, .null, .null]))] ++ [(q1, .inl (G.2.1.1, 8, .inl (fun _ => 0)))] ++ [(q2, .inl (G.2.1.1, 40, .inl (fun _ => 0)))] ++ [(q3, .inl (G.2.1.1, 8, .inl (fun _ => 0)))] ++ [(q4, .inl (G.2.1.1, 8, .inl (fun _ => 0)))] ++ [(q5, .inl (G.2.1.1, 8, .inl (fun _ => 0)))] ++ [(q6, .inl (G.2.1.1, 8, .inl (fun _ => 0)))] ++ cells4 G a8 i4 ++ cells4 G a10 i4) ++ [(q11, .inr (4, [.int 0, .int 0, .int 0, .int 0, .null, .long 0, .long 0, .long 0, .long 0, .long 0, .long 0, .long 0, .long 0, .long 0, .long 0]))]) H locs := ⟨hP, hD, hS⟩
  refine lv_dup (pc := 78) E.1 E.2.1 dX1_init_78 rfl ?_
  refine y_callI (pc := 79) (mk := fun ad => cells4 G ad i4) E hw hl hA (n_X4_init l G _ _) wq_209 wq_100 wq_207 wq_208 rfl xe_X4_init rfl rfl ⟨Nat.le_of_ble_eq_true rfl, Nat.le_of_ble_eq_true rfl⟩ (Nat.le_of_ble_eq_true rfl) dX1_init_79 ⟨Nat.le_of_ble_eq_true rfl, Nat.le_of_ble_eq_true rfl⟩ (fun a12 H locs ea12 hw => ?_)
  rw [← ea12]
  refine yp_X1_40 (pc := 82) (v := .ref (a12 0)) (ws' := ([(h, .inr (1, [.int 0, .int 0, .int 0, .ref q1, .ref q2, .ref q3, .ref q4, .ref q5, .ref q6, .ref (a8 0), .ref (a10 0), .ref (a12 0), .null, .null]))] ++ [(q1, .inl (G.2.1.1, 8, .inl (fun _ => 0)))] ++ [(q2, .inl (G.2.1.1, 40, .inl (fun _ => 0)))] ++ [(q3, .inl (G.2.1.1, 8, .inl (fun _ => 0)))] ++ [(q4, .inl (G.2.1.1, 8, .inl (fun _ => 0)))] ++ [(q5, .inl (G.2.1.1, 8, .inl (fun _ => 0)))] ++ [(q6, .inl (G.2.1.1, 8, .inl (fun _ => 0)))] ++ cells4 G a8 i4 ++ cells4 G a10 i4 ++ cells4 G a12 i4)) E hin hw 0 rfl rfl rfl (Nat.le_of_ble_eq_true rfl) rfl dX1_init_82 (fun H locs hw => ?_)
  refine lv_aload_n (pc := 85) E.1 E.2.1 dX1_init_85 rfl (lv_at hl 0 rfl) ?_
  refine va_new (pc := 86) (ci := 5) (C := RX5) (T := TX5) (N := 2) (fs := [.long 0, .long 0]) E.1 E.2.1 E.2.2.2.2.1 inX5 tyX5 tyX5_ok E.2.2.2.1 (E.2.2.2.2.1 _ wq_279) (E.2.2.2.2.1 _ wq_212) (E.2.2.2.2.1 _ wq_101) E.2.2.2.2.2.1 hw.1 hw.2.1 hw.2.2 hA rfl (by decide) (Nat.le_of_ble_eq_true rfl) (Nat.le_of_ble_eq_true rfl) dX1_init_86 (fun q13 H hP hD hS => ?_)
  have hw : xW G (y_A h sz) s.heap (([(h, .inr (1, [.int 0, .int 0, .int 0, .ref q1, .ref q2, .ref q3, .ref q4, .ref q5, .ref q6, .ref (a8 0), .ref (a10 0), .ref (a12 0), .null, .null]))] ++ [(q1, .inl (G.2.1.1, 8, .inl (fun _ => 0)))] ++ [(q2, .inl (G.2.1.1, 40, .inl (fun _ => 0)))] ++ [(q3, .inl (G.2.1.1, 8, .inl (fun _ => 0)))] ++ [(q4, .inl (G.2.1.1, 8, .inl (fun _ => 0)))] ++ [(q5, .inl (G.2.1.1, 8, .inl (fun _ => 0)))] ++ [(q6, .inl (G.2.1.1, 8, .inl (fun _ => 0)))] ++ cells4 G a8 i4 ++ cells4 G a10 i4 ++ cells4 G a12 i4) ++ [(q13, .inr (5, [.long 0, .long 0]))]) H locs := ⟨hP, hD, hS⟩
  refine lv_dup (pc := 89) E.1 E.2.1 dX1_init_89 rfl ?_
  refine y_callIN (pc := 90) (mk := fun ad => cells5 G ad i5) E hw hl hA (n_X5_init l G _ _) wq_215 wq_101 E.2.2.2.2.2.2.2.2.2.2.2.2.2.1 wq_214 rfl xe_X5_init rfl rfl ⟨Nat.le_of_ble_eq_true rfl, Nat.le_of_ble_eq_true rfl⟩ (Nat.le_of_ble_eq_true rfl) dX1_init_90 ⟨Nat.le_of_ble_eq_true rfl, Nat.le_of_ble_eq_true rfl⟩ (fun a14 H locs ea14 hw => ?_)
  rw [← ea14]
  refine yp_X1_46 (pc := 93) (v := .ref (a14 0)) (ws' := ([(h, .inr (1, [.int 0, .int 0, .int 0, .ref q1, .ref q2, .ref q3, .ref q4, .ref q5, .ref q6, .ref (a8 0), .ref (a10 0), .ref (a12 0), .ref (a14 0), .null]))] ++ [(q1, .inl (G.2.1.1, 8, .inl (fun _ => 0)))] ++ [(q2, .inl (G.2.1.1, 40, .inl (fun _ => 0)))] ++ [(q3, .inl (G.2.1.1, 8, .inl (fun _ => 0)))] ++ [(q4, .inl (G.2.1.1, 8, .inl (fun _ => 0)))] ++ [(q5, .inl (G.2.1.1, 8, .inl (fun _ => 0)))] ++ [(q6, .inl (G.2.1.1, 8, .inl (fun _ => 0)))] ++ cells4 G a8 i4 ++ cells4 G a10 i4 ++ cells4 G a12 i4 ++ cells5 G a14 i5)) E hin hw 0 rfl rfl rfl (Nat.le_of_ble_eq_true rfl) rfl dX1_init_93 (fun H locs hw => ?_)
  refine lv_aload_n (pc := 96) E.1 E.2.1 dX1_init_96 rfl (lv_at hl 0 rfl) ?_
  refine va_new (pc := 97) (ci := 5) (C := RX5) (T := TX5) (N := 2) (fs := [.long 0, .long 0]) E.1 E.2.1 E.2.2.2.2.1 inX5 tyX5 tyX5_ok E.2.2.2.1 (E.2.2.2.2.1 _ wq_279) (E.2.2.2.2.1 _ wq_212) (E.2.2.2.2.1 _ wq_101) E.2.2.2.2.2.1 hw.1 hw.2.1 hw.2.2 hA rfl (by decide) (Nat.le_of_ble_eq_true rfl) (Nat.le_of_ble_eq_true rfl) dX1_init_97 (fun q15 H hP hD hS => ?_)
  have hw : xW G (y_A h sz) s.heap (([(h, .inr (1, [.int 0, .int 0, .int 0, .ref q1, .ref q2, .ref q3, .ref q4, .ref q5, .ref q6, .ref (a8 0), .ref (a10 0), .ref (a12 0), .ref (a14 0), .null]))] ++ [(q1, .inl (G.2.1.1, 8, .inl (fun _ => 0)))] ++ [(q2, .inl (G.2.1.1, 40, .inl (fun _ => 0)))] ++ [(q3, .inl (G.2.1.1, 8, .inl (fun _ => 0)))] ++ [(q4, .inl (G.2.1.1, 8, .inl (fun _ => 0)))] ++ [(q5, .inl (G.2.1.1, 8, .inl (fun _ => 0)))] ++ [(q6, .inl (G.2.1.1, 8, .inl (fun _ => 0)))] ++ cells4 G a8 i4 ++ cells4 G a10 i4 ++ cells4 G a12 i4 ++ cells5 G a14 i5) ++ [(q15, .inr (5, [.long 0, .long 0]))]) H locs := ⟨hP, hD, hS⟩
  refine lv_dup (pc := 100) E.1 E.2.1 dX1_init_100 rfl ?_
  refine y_callIN (pc := 101) (mk := fun ad => cells5 G ad i5) E hw hl hA (n_X5_init l G _ _) wq_215 wq_101 E.2.2.2.2.2.2.2.2.2.2.2.2.2.1 wq_214 rfl xe_X5_init rfl rfl ⟨Nat.le_of_ble_eq_true rfl, Nat.le_of_ble_eq_true rfl⟩ (Nat.le_of_ble_eq_true rfl) dX1_init_101 ⟨Nat.le_of_ble_eq_true rfl, Nat.le_of_ble_eq_true rfl⟩ (fun a16 H locs ea16 hw => ?_)
  rw [← ea16]
  refine yp_X1_50 (pc := 104) (v := .ref (a16 0)) (ws' := ([(h, .inr (1, [.int 0, .int 0, .int 0, .ref q1, .ref q2, .ref q3, .ref q4, .ref q5, .ref q6, .ref (a8 0), .ref (a10 0), .ref (a12 0), .ref (a14 0), .ref (a16 0)]))] ++ [(q1, .inl (G.2.1.1, 8, .inl (fun _ => 0)))] ++ [(q2, .inl (G.2.1.1, 40, .inl (fun _ => 0)))] ++ [(q3, .inl (G.2.1.1, 8, .inl (fun _ => 0)))] ++ [(q4, .inl (G.2.1.1, 8, .inl (fun _ => 0)))] ++ [(q5, .inl (G.2.1.1, 8, .inl (fun _ => 0)))] ++ [(q6, .inl (G.2.1.1, 8, .inl (fun _ => 0)))] ++ cells4 G a8 i4 ++ cells4 G a10 i4 ++ cells4 G a12 i4 ++ cells5 G a14 i5 ++ cells5 G a16 i5)) E hin hw 0 rfl rfl rfl (Nat.le_of_ble_eq_true rfl) rfl dX1_init_104 (fun H locs hw => ?_)
  exact y_ret (pc := 107) (mk := fun ad => cells1 G ad i1) E hr hk hw (fun k => ([h, q1, q2, q3, q4, q5, q6, a8 0, a8 1, a10 0, a10 1, a12 0, a12 1, a14 0, a16 0] : List Nat).getD k 0) rfl [0, 1, 2, 3, 4, 5, 6, 7, 8, 9, 10, 11, 12, 13, 14] (by decide) rfl rfl (Nat.le_of_ble_eq_true rfl) (Nat.le_of_ble_eq_true rfl) dX1_init_107
abbrev rm_X7_init : Room := { frames := 4, cells := 30, slots := 1716, locals := 72 }
set_option maxHeartbeats 8000000 in
set_option maxRecDepth 100000 in
theorem n_X7_init (l : Launch) (G : xG) (h sz : Nat) : xI l yX7_init cX7_init 1 (rm_X7_init) G h sz (.inr (7, [.null, .null, .null, .null, .null, .null, .null, .null])) 30 1716 (fun ad => cells7 G ad i7) := by
  refine y_met (by decide) (Nat.le_of_ble_eq_true rfl) (fun p e s m below meth c hsz E hin hr hk ls hl hA hw => ?_)
  obtain ⟨locs, hlocs⟩ : ∃ lo : List Loc, lo = [] := ⟨_, rfl⟩
  rw [← hlocs] at hw ⊢
  refine lv_aload_n (pc := 0) E.1 E.2.1 dX7_init_0 rfl (lv_at hl 0 rfl) ?_
  refine y_objInit (pc := 1) E hl wq_117 wq_118 wq_119 (Nat.le_of_ble_eq_true rfl) (Nat.le_of_ble_eq_true rfl) dX7_init_1 ?_
  refine lv_aload_n (pc := 4) E.1 E.2.1 dX7_init_4 rfl (lv_at hl 0 rfl) ?_
  refine va_new (pc := 5) (ci := 6) (C := RX6) (T := TX6) (N := 5) (fs := [.null, .int 0, .int 0, .int 0, .int 0]) E.1 E.2.1 E.2.2.2.2.1 inX6 tyX6 tyX6_ok E.2.2.2.1 (E.2.2.2.2.1 _ wq_120) (E.2.2.2.2.1 _ wq_121) (E.2.2.2.2.1 _ wq_96) E.2.2.2.2.2.1 hw.1 hw.2.1 hw.2.2 hA rfl (by decide) (Nat.le_of_ble_eq_true rfl) (Nat.le_of_ble_eq_true rfl) dX7_init_5 (fun q1 H hP hD hS => ?_)
  have hw : xW G (y_A h sz) s.heap (([(h, .inr (7, [.null, .null, .null, .null, .null, .null, .null, .null]))]) ++ [(q1, .inr (6, [.null, .int 0, .int 0, .int 0, .int 0]))]) H locs := ⟨hP, hD, hS⟩
  refine lv_dup (pc := 8) E.1 E.2.1 dX7_init_8 rfl ?_
  refine y_callI (pc := 9) (mk := fun ad => cells6 G ad i6) E hw hl hA (n_X6_init l G _ _) wq_124 wq_96 wq_122 wq_123 rfl xe_X6_init rfl rfl ⟨Nat.le_of_ble_eq_true rfl, Nat.le_of_ble_eq_true rfl⟩ (Nat.le_of_ble_eq_true rfl) dX7_init_9 ⟨Nat.le_of_ble_eq_true rfl, Nat.le_of_ble_eq_true rfl⟩ (fun a2 H locs ea2 hw => ?_)
  rw [← ea2]
  refine yp_X7_10 (pc := 12) (v := .ref (a2 0)) (ws' := ([(h, .inr (7, [.ref (a2 0), .null, .null, .null, .null, .null, .null, .null]))] ++ cells6 G a2 i6)) E hin hw 0 rfl rfl rfl (Nat.le_of_ble_eq_true rfl) rfl dX7_init_12 (fun H locs hw => ?_)
  refine lv_aload_n (pc := 15) E.1 E.2.1 dX7_init_15 rfl (lv_at hl 0 rfl) ?_
  refine va_new (pc := 16) (ci := 0) (C := RX0) (T := TX0) (N := 7) (fs := [.int 0, .int 0, .int 0, .int 0, .null, .null, .null]) E.1 E.2.1 E.2.2.2.2.1 inX0 tyX0 tyX0_ok E.2.2.2.1 (E.2.2.2.2.1 _ wq_143) (E.2.2.2.2.1 _ wq_144) (E.2.2.2.2.1 _ wq_97) E.2.2.2.2.2.1 hw.1 hw.2.1 hw.2.2 hA rfl (by decide) (Nat.le_of_ble_eq_true rfl) (Nat.le_of_ble_eq_true rfl) dX7_init_16 (fun q3 H hP hD hS => ?_)
  have hw : xW G (y_A h sz) s.heap (([(h, .inr (7, [.ref (a2 0), .null, .null, .null, .null, .null, .null, .null]))] ++ cells6 G a2 i6) ++ [(q3, .inr (0, [.int 0, .int 0, .int 0, .int 0, .null, .null, .null]))]) H locs := ⟨hP, hD, hS⟩
  refine lv_dup (pc := 19) E.1 E.2.1 dX7_init_19 rfl ?_
  refine y_callI (pc := 20) (mk := fun ad => cells0 G ad i0) E hw hl hA (n_X0_init l G _ _) wq_147 wq_97 wq_145 wq_146 rfl xe_X0_init rfl rfl ⟨Nat.le_of_ble_eq_true rfl, Nat.le_of_ble_eq_true rfl⟩ (Nat.le_of_ble_eq_true rfl) dX7_init_20 ⟨Nat.le_of_ble_eq_true rfl, Nat.le_of_ble_eq_true rfl⟩ (fun a4 H locs ea4 hw => ?_)
  rw [← ea4]
  refine yp_X7_19 (pc := 23) (v := .ref (a4 0)) (ws' := ([(h, .inr (7, [.ref (a2 0), .ref (a4 0), .null, .null, .null, .null, .null, .null]))] ++ cells6 G a2 i6 ++ cells0 G a4 i0)) E hin hw 0 rfl rfl rfl (Nat.le_of_ble_eq_true rfl) rfl dX7_init_23 (fun H locs hw => ?_)
  refine lv_aload_n (pc := 26) E.1 E.2.1 dX7_init_26 rfl (lv_at hl 0 rfl) ?_
  refine va_new (pc := 27) (ci := 0) (C := RX0) (T := TX0) (N := 7) (fs := [.int 0, .int 0, .int 0, .int 0, .null, .null, .null]) E.1 E.2.1 E.2.2.2.2.1 inX0 tyX0 tyX0_ok E.2.2.2.1 (E.2.2.2.2.1 _ wq_143) (E.2.2.2.2.1 _ wq_144) (E.2.2.2.2.1 _ wq_97) E.2.2.2.2.2.1 hw.1 hw.2.1 hw.2.2 hA rfl (by decide) (Nat.le_of_ble_eq_true rfl) (Nat.le_of_ble_eq_true rfl) dX7_init_27 (fun q5 H hP hD hS => ?_)
  have hw : xW G (y_A h sz) s.heap (([(h, .inr (7, [.ref (a2 0), .ref (a4 0), .null, .null, .null, .null, .null, .null]))] ++ cells6 G a2 i6 ++ cells0 G a4 i0) ++ [(q5, .inr (0, [.int 0, .int 0, .int 0, .int 0, .null, .null, .null]))]) H locs := ⟨hP, hD, hS⟩
  refine lv_dup (pc := 30) E.1 E.2.1 dX7_init_30 rfl ?_
  refine y_callI (pc := 31) (mk := fun ad => cells0 G ad i0) E hw hl hA (n_X0_init l G _ _) wq_147 wq_97 wq_145 wq_146 rfl xe_X0_init rfl rfl ⟨Nat.le_of_ble_eq_true rfl, Nat.le_of_ble_eq_true rfl⟩ (Nat.le_of_ble_eq_true rfl) dX7_init_31 ⟨Nat.le_of_ble_eq_true rfl, Nat.le_of_ble_eq_true rfl⟩ (fun a6 H locs ea6 hw => ?_)
  rw [← ea6]
  refine yp_X7_23 (pc := 34) (v := .ref (a6 0)) (ws' := ([(h, .inr (7, [.ref (a2 0), .ref (a4 0), .ref (a6 0), .null, .null, .null, .null, .null]))] ++ cells6 G a2 i6 ++ cells0 G a4 i0 ++ cells0 G a6 i0)) E hin hw 0 rfl rfl rfl (Nat.le_of_ble_eq_true rfl) rfl dX7_init_34 (fun H locs hw => ?_)
  refine lv_aload_n (pc := 37) E.1 E.2.1 dX7_init_37 rfl (lv_at hl 0 rfl) ?_
  refine va_new (pc := 38) (ci := 2) (C := RX2) (T := TX2) (N := 3) (fs := [.null, .int 0, .int 0]) E.1 E.2.1 E.2.2.2.2.1 inX2 tyX2 tyX2_ok E.2.2.2.1 (E.2.2.2.2.1 _ wq_183) (E.2.2.2.2.1 _ wq_184) (E.2.2.2.2.1 _ wq_98) E.2.2.2.2.2.1 hw.1 hw.2.1 hw.2.2 hA rfl (by decide) (Nat.le_of_ble_eq_true rfl) (Nat.le_of_ble_eq_true rfl) dX7_init_38 (fun q7 H hP hD hS => ?_)
  have hw : xW G (y_A h sz) s.heap (([(h, .inr (7, [.ref (a2 0), .ref (a4 0), .ref (a6 0), .null, .null, .null, .null, .null]))] ++ cells6 G a2 i6 ++ cells0 G a4 i0 ++ cells0 G a6 i0) ++ [(q7, .inr (2, [.null, .int 0, .int 0]))]) H locs := ⟨hP, hD, hS⟩
  refine lv_dup (pc := 41) E.1 E.2.1 dX7_init_41 rfl ?_
  refine y_callI (pc := 42) (mk := fun ad => cells2 G ad i2) E hw hl hA (n_X2_init l G _ _) wq_187 wq_98 wq_185 wq_186 rfl xe_X2_init rfl rfl ⟨Nat.le_of_ble_eq_true rfl, Nat.le_of_ble_eq_true rfl⟩ (Nat.le_of_ble_eq_true rfl) dX7_init_42 ⟨Nat.le_of_ble_eq_true rfl, Nat.le_of_ble_eq_true rfl⟩ (fun a8 H locs ea8 hw => ?_)
  rw [← ea8]
  refine yp_X7_29 (pc := 45) (v := .ref (a8 0)) (ws' := ([(h, .inr (7, [.ref (a2 0), .ref (a4 0), .ref (a6 0), .ref (a8 0), .null, .null, .null, .null]))] ++ cells6 G a2 i6 ++ cells0 G a4 i0 ++ cells0 G a6 i0 ++ cells2 G a8 i2)) E hin hw 0 rfl rfl rfl (Nat.le_of_ble_eq_true rfl) rfl dX7_init_45 (fun H locs hw => ?_)
  refine lv_aload_n (pc := 48) E.1 E.2.1 dX7_init_48 rfl (lv_at hl 0 rfl) ?_
  refine va_new (pc := 49) (ci := 1) (C := RX1) (T := TX1) (N := 14) (fs := [.int 0, .int 0, .int 0, .null, .null, .null, .null, .null, .null, .null, .null, .null, .null, .null]) E.1 E.2.1 E.2.2.2.2.1 inX1 tyX1 tyX1_ok E.2.2.2.1 (E.2.2.2.2.1 _ wq_199) (E.2.2.2.2.1 _ wq_200) (E.2.2.2.2.1 _ wq_99) E.2.2.2.2.2.1 hw.1 hw.2.1 hw.2.2 hA rfl (by decide) (Nat.le_of_ble_eq_true rfl) (Nat.le_of_ble_eq_true rfl) dX7_init_49 (fun q9 H hP hD hS => ?_)
  have hw : xW G (y_A h sz) s.heap (([(h, .inr (7, [.ref (a2 0), .ref (a4 0), .ref (a6 0), .ref (a8 0), .null, .null, .null, .null]))] ++ cells6 G a2 i6 ++ cells0 G a4 i0 ++ cells0 G a6 i0 ++ cells2 G a8 i2) ++ [(q9, .inr (1, [.int 0, .int 0, .int 0, .null, .null, .null, .null, .null, .null, .null, .null, .null, .null, .null]))]) H locs := ⟨hP, hD, hS⟩
  refine lv_dup (pc := 52) E.1 E.2.1 dX7_init_52 rfl ?_
  refine y_callI (pc := 53) (mk := fun ad => cells1 G ad i1) E hw hl hA (n_X1_init l G _ _) wq_203 wq_99 wq_201 wq_202 rfl xe_X1_init rfl rfl ⟨Nat.le_of_ble_eq_true rfl, Nat.le_of_ble_eq_true rfl⟩ (Nat.le_of_ble_eq_true rfl) dX7_init_53 ⟨Nat.le_of_ble_eq_true rfl, Nat.le_of_ble_eq_true rfl⟩ (fun a10 H locs ea10 hw => ?_)
  rw [← ea10]
  refine yp_X7_36 (pc := 56) (v := .ref (a10 0)) (ws' := ([(h, .inr (7, [.ref (a2 0), .ref (a4 0), .ref (a6 0), .ref (a8 0), .ref (a10 0), .null, .null, .null]))] ++ cells6 G a2 i6 ++ cells0 G a4 i0 ++ cells0 G a6 i0 ++ cells2 G a8 i2 ++ cells1 G a10 i1)) E hin hw 0 rfl rfl rfl (Nat.le_of_ble_eq_true rfl) rfl dX7_init_56 (fun H locs hw => ?_)
  refine lv_aload_n (pc := 59) E.1 E.2.1 dX7_init_59 rfl (lv_at hl 0 rfl) ?_
  refine va_new (pc := 60) (ci := 3) (C := RX3) (T := TX3) (N := 3) (fs := [.int 0, .int 0, .int 0]) E.1 E.2.1 E.2.2.2.2.1 inX3 tyX3 tyX3_ok E.2.2.2.1 (E.2.2.2.2.1 _ wq_324) (E.2.2.2.2.1 _ wq_325) (E.2.2.2.2.1 _ wq_102) E.2.2.2.2.2.1 hw.1 hw.2.1 hw.2.2 hA rfl (by decide) (Nat.le_of_ble_eq_true rfl) (Nat.le_of_ble_eq_true rfl) dX7_init_60 (fun q11 H hP hD hS => ?_)
  have hw : xW G (y_A h sz) s.heap (([(h, .inr (7, [.ref (a2 0), .ref (a4 0), .ref (a6 0), .ref (a8 0), .ref (a10 0), .null, .null, .null]))] ++ cells6 G a2 i6 ++ cells0 G a4 i0 ++ cells0 G a6 i0 ++ cells2 G a8 i2 ++ cells1 G a10 i1) ++ [(q11, .inr (3, [.int 0, .int 0, .int 0]))]) H locs := ⟨hP, hD, hS⟩
  refine lv_dup (pc := 63) E.1 E.2.1 dX7_init_63 rfl ?_
  refine y_callIN (pc := 64) (mk := fun ad => cells3 G ad i3) E hw hl hA (n_X3_init l G _ _) wq_328 wq_102 E.2.2.2.2.2.2.2.2.2.2.2.2.2.2.1 wq_327 rfl xe_X3_init rfl rfl ⟨Nat.le_of_ble_eq_true rfl, Nat.le_of_ble_eq_true rfl⟩ (Nat.le_of_ble_eq_true rfl) dX7_init_64 ⟨Nat.le_of_ble_eq_true rfl, Nat.le_of_ble_eq_true rfl⟩ (fun a12 H locs ea12 hw => ?_)
  rw [← ea12]
  refine yp_X7_43 (pc := 67) (v := .ref (a12 0)) (ws' := ([(h, .inr (7, [.ref (a2 0), .ref (a4 0), .ref (a6 0), .ref (a8 0), .ref (a10 0), .ref (a12 0), .null, .null]))] ++ cells6 G a2 i6 ++ cells0 G a4 i0 ++ cells0 G a6 i0 ++ cells2 G a8 i2 ++ cells1 G a10 i1 ++ cells3 G a12 i3)) E hin hw 0 rfl rfl rfl (Nat.le_of_ble_eq_true rfl) rfl dX7_init_67 (fun H locs hw => ?_)
  refine lv_aload_n (pc := 70) E.1 E.2.1 dX7_init_70 rfl (lv_at hl 0 rfl) ?_
  refine va_new (pc := 71) (ci := 5) (C := RX5) (T := TX5) (N := 2) (fs := [.long 0, .long 0]) E.1 E.2.1 E.2.2.2.2.1 inX5 tyX5 tyX5_ok E.2.2.2.1 (E.2.2.2.2.1 _ wq_340) (E.2.2.2.2.1 _ wq_212) (E.2.2.2.2.1 _ wq_101) E.2.2.2.2.2.1 hw.1 hw.2.1 hw.2.2 hA rfl (by decide) (Nat.le_of_ble_eq_true rfl) (Nat.le_of_ble_eq_true rfl) dX7_init_71 (fun q13 H hP hD hS => ?_)
  have hw : xW G (y_A h sz) s.heap (([(h, .inr (7, [.ref (a2 0), .ref (a4 0), .ref (a6 0), .ref (a8 0), .ref (a10 0), .ref (a12 0), .null, .null]))] ++ cells6 G a2 i6 ++ cells0 G a4 i0 ++ cells0 G a6 i0 ++ cells2 G a8 i2 ++ cells1 G a10 i1 ++ cells3 G a12 i3) ++ [(q13, .inr (5, [.long 0, .long 0]))]) H locs := ⟨hP, hD, hS⟩
  refine lv_dup (pc := 74) E.1 E.2.1 dX7_init_74 rfl ?_
  refine y_callIN (pc := 75) (mk := fun ad => cells5 G ad i5) E hw hl hA (n_X5_init l G _ _) wq_215 wq_101 E.2.2.2.2.2.2.2.2.2.2.2.2.2.2.2 wq_214 rfl xe_X5_init rfl rfl ⟨Nat.le_of_ble_eq_true rfl, Nat.le_of_ble_eq_true rfl⟩ (Nat.le_of_ble_eq_true rfl) dX7_init_75 ⟨Nat.le_of_ble_eq_true rfl, Nat.le_of_ble_eq_true rfl⟩ (fun a14 H locs ea14 hw => ?_)
  rw [← ea14]
  refine yp_X7_50 (pc := 78) (v := .ref (a14 0)) (ws' := ([(h, .inr (7, [.ref (a2 0), .ref (a4 0), .ref (a6 0), .ref (a8 0), .ref (a10 0), .ref (a12 0), .ref (a14 0), .null]))] ++ cells6 G a2 i6 ++ cells0 G a4 i0 ++ cells0 G a6 i0 ++ cells2 G a8 i2 ++ cells1 G a10 i1 ++ cells3 G a12 i3 ++ cells5 G a14 i5)) E hin hw 0 rfl rfl rfl (Nat.le_of_ble_eq_true rfl) rfl dX7_init_78 (fun H locs hw => ?_)
  refine lv_aload_n (pc := 81) E.1 E.2.1 dX7_init_81 rfl (lv_at hl 0 rfl) ?_
  refine lv_bipush (v := 8) (pc := 82) E.1 E.2.1 dX7_init_82 (by decide) ?_
  refine y_newa (pc := 84) (ty := .int) (N := 8) (a0 := (8, .inl (fun _ => 0))) 0 E hw hA wq_182 rfl rfl (fun _ h => by cases h) (fun _ => rfl) (by decide) (by decide) (by decide) (Nat.le_of_ble_eq_true rfl) (Nat.le_of_ble_eq_true rfl) dX7_init_84 (fun q15 H hw => ?_)
  refine yp_X7_54 (pc := 86) (v := .ref q15) (ws' := ([(h, .inr (7, [.ref (a2 0), .ref (a4 0), .ref (a6 0), .ref (a8 0), .ref (a10 0), .ref (a12 0), .ref (a14 0), .ref q15]))] ++ cells6 G a2 i6 ++ cells0 G a4 i0 ++ cells0 G a6 i0 ++ cells2 G a8 i2 ++ cells1 G a10 i1 ++ cells3 G a12 i3 ++ cells5 G a14 i5 ++ [(q15, .inl (G.2.1.1, 8, .inl (fun _ => 0)))])) E hin hw 0 rfl rfl rfl (Nat.le_of_ble_eq_true rfl) rfl dX7_init_86 (fun H locs hw => ?_)
  exact y_ret (pc := 89) (mk := fun ad => cells7 G ad i7) E hr hk hw (fun k => ([h, a2 0, a2 1, a4 0, a4 1, a4 2, a4 3, a6 0, a6 1, a6 2, a6 3, a8 0, a8 1, a10 0, a10 1, a10 2, a10 3, a10 4, a10 5, a10 6, a10 7, a10 8, a10 9, a10 10, a10 11, a10 12, a10 13, a10 14, a12 0, a14 0, q15] : List Nat).getD k 0) rfl [0, 1, 2, 3, 4, 5, 6, 7, 8, 9, 10, 11, 12, 13, 14, 15, 16, 17, 18, 19, 20, 21, 22, 23, 24, 25, 26, 27, 28, 29, 30] (by decide) rfl rfl (Nat.le_of_ble_eq_true rfl) (Nat.le_of_ble_eq_true rfl) dX7_init_89
