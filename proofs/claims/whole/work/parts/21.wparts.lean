set_option maxHeartbeats 4000000 in
set_option maxRecDepth 100000 in
theorem w_X6_size_p0 {p : Program} {l : Launch} {e : Env} {sS : State} {m : MethodId} {args : Array Value} {below : List Frame} {meth : Method} {c : Code} {G : xG} {W0 : va_W} {ad : Nat → Nat}   (E : xE p sS m args c cX6_size 1 RX6 G (x_in W0)) (hr : meth.sig.returnType = (some .int)) (hk : meth.locks = false)  : ∀ (s' : S6) (z : Int32) {H : Heap} {locs : List Loc} {ls : Array Slot}, xW G (x_in W0) sS.heap (cells6 G ad s') H locs → lv_has ls 1 [(0, .ref (ad 0))] → f_X6_size  s' = some z → W p l e (rm_X6_size) sS m args below meth c H locs 0 0 (MQ below (xQ G W0 (cells6 G ad s') (some (.int z))) args sS 0 0 (x_in W0)) (F0 m 0 ls []) := by
  intro s z H locs ls hw hl hf
  unfold f_X6_size at hf
  refine lv_aload_n (pc := 0) E.1 E.2.1 dX6_size_0 rfl (lv_at hl 0 rfl) ?_
  refine xg_X6_15 (pc := 1) (v := .int (g6_size s)) E hw 0 rfl rfl dX6_size_1 ?_
  obtain rfl := Option.some.inj hf
  exact x_reti (pc := 4) E hr hk hw dX6_size_4
set_option maxHeartbeats 4000000 in
set_option maxRecDepth 100000 in
theorem c_X6_size (l : Launch) (G : xG) (ad : Nat → Nat) (s : S6) {z : Int32} (hf : f_X6_size s = some z) : xC l yX6_size cX6_size 1 (some .int) (rm_X6_size) G [.ref (ad 0)] (cells6 G ad s) (some (.int z)) (cells6 G ad s) :=
  x_met (by decide) rfl (Nat.le_of_ble_eq_true rfl) (fun p e sS m below meth c E hr hk ls hl hw => w_X6_size_p0 E hr hk s z hw hl hf)
set_option maxHeartbeats 4000000 in
set_option maxRecDepth 100000 in
theorem w_X6_addByte_p0 {p : Program} {l : Launch} {e : Env} {sS : State} {m : MethodId} {args : Array Value} {below : List Frame} {meth : Method} {c : Code} {G : xG} {W0 : va_W} {ad : Nat → Nat}   (E : xE p sS m args c cX6_addByte 2 RX6 G (x_in W0)) (hr : meth.sig.returnType = none) (hk : meth.locks = false)  : ∀ (s' : S6) (x1' : Int32) (z : S6) {H : Heap} {locs : List Loc} {ls : Array Slot}, xW G (x_in W0) sS.heap (cells6 G ad s') H locs → lv_has ls 2 [(0, .ref (ad 0)), (1, .int x1')] → f_X6_addByte  s' x1' = some z → W p l e (rm_X6_addByte) sS m args below meth c H locs 0 0 (MQ below (xQ G W0 (cells6 G ad z) none) args sS 0 0 (x_in W0)) (F0 m 0 ls []) := by
  intro s x1 z H locs ls hw hl hf
  unfold f_X6_addByte at hf
  refine lv_aload_n (pc := 0) E.1 E.2.1 dX6_addByte_0 rfl (lv_at hl 0 rfl) ?_
  refine xg_X6_15 (pc := 1) (v := .int (g6_size s)) E hw 0 rfl rfl dX6_addByte_1 ?_
  refine lv_aload_n (pc := 4) E.1 E.2.1 dX6_addByte_4 rfl (lv_at hl 0 rfl) ?_
  refine xg_X6_9 (pc := 5) (v := .ref (ad 1)) E hw 0 rfl rfl dX6_addByte_5 ?_
  refine x_alenb (pc := 8) (v := 700) E hw 1 rfl rfl dX6_addByte_8 ?_
  refine lv_icmp_ge (tgt := 33) (pc := 9) E.1 E.2.1 dX6_addByte_9 (by decide) (fun q1 => ?_) (fun q1 => ?_)
  · have hf := x_pos q1 hf
    obtain rfl := Option.some.inj hf
    exact x_retv (pc := 33) E hr hk hw dX6_addByte_33
  · have hf := x_neg q1 hf
    refine lv_aload_n (pc := 12) E.1 E.2.1 dX6_addByte_12 rfl (lv_at hl 0 rfl) ?_
    refine xg_X6_9 (pc := 13) (v := .ref (ad 1)) E hw 0 rfl rfl dX6_addByte_13 ?_
    refine lv_aload_n (pc := 16) E.1 E.2.1 dX6_addByte_16 rfl (lv_at hl 0 rfl) ?_
    refine xg_X6_15 (pc := 17) (v := .int (g6_size s)) E hw 0 rfl rfl dX6_addByte_17 ?_
    refine lv_iload_n (pc := 20) E.1 E.2.1 dX6_addByte_20 rfl (lv_at hl 1 rfl) ?_
    refine lv_i2b (v := (Int8.toInt32 (Int32.toInt8 x1))) (pc := 21) E.1 E.2.1 dX6_addByte_21 rfl ?_
    obtain ⟨w3, g2, hf⟩ := x_bind hf
    refine x_bast (pc := 22) (ws' := (cells6c G ad w3 (g6_size s) (g6_at s) (g6_fault s) (g6_begin s))) E hw 1 rfl g2 rfl dX6_addByte_22 (fun H locs hw => ?_)
    refine lv_aload_n (pc := 23) E.1 E.2.1 dX6_addByte_23 rfl (lv_at hl 0 rfl) ?_
    refine lv_dup (pc := 24) E.1 E.2.1 dX6_addByte_24 rfl ?_
    refine xg_X6_15 (pc := 25) (v := .int (g6_size s)) E hw 0 rfl rfl dX6_addByte_25 ?_
    refine lv_iconst (v := 1) (pc := 28) E.1 E.2.1 dX6_addByte_28 (by decide) ?_
    refine lv_iadd (pc := 29) E.1 E.2.1 dX6_addByte_29 ?_
    refine xp_X6_15 (pc := 30) (v := .int ((g6_size s) + (1 : Int32))) (ws' := (cells6c G ad w3 ((g6_size s) + (1 : Int32)) (g6_at s) (g6_fault s) (g6_begin s))) E hw 0 rfl rfl rfl (Nat.le_of_ble_eq_true rfl) rfl dX6_addByte_30 (fun H locs hw => ?_)
    obtain rfl := Option.some.inj hf
    exact x_retv (pc := 33) E hr hk hw dX6_addByte_33
set_option maxHeartbeats 4000000 in
set_option maxRecDepth 100000 in
theorem c_X6_addByte (l : Launch) (G : xG) (ad : Nat → Nat) (s : S6) (x1 : Int32) {z : S6} (hf : f_X6_addByte s x1 = some z) : xC l yX6_addByte cX6_addByte 2 none (rm_X6_addByte) G [.ref (ad 0), .int x1] (cells6 G ad s) none (cells6 G ad z) :=
  x_met (by decide) rfl (Nat.le_of_ble_eq_true rfl) (fun p e sS m below meth c E hr hk ls hl hw => w_X6_addByte_p0 E hr hk s x1 z hw hl hf)
set_option maxHeartbeats 4000000 in
set_option maxRecDepth 100000 in
theorem w_X6_addFour_p0 {p : Program} {l : Launch} {e : Env} {sS : State} {m : MethodId} {args : Array Value} {below : List Frame} {meth : Method} {c : Code} {G : xG} {W0 : va_W} {ad : Nat → Nat}   (E : xE p sS m args c cX6_addFour 2 RX6 G (x_in W0)) (hr : meth.sig.returnType = none) (hk : meth.locks = false)  : ∀ (s' : S6) (x1' : Int32) (z : S6) {H : Heap} {locs : List Loc} {ls : Array Slot}, xW G (x_in W0) sS.heap (cells6 G ad s') H locs → lv_has ls 2 [(0, .ref (ad 0)), (1, .int x1')] → f_X6_addFour  s' x1' = some z → W p l e (rm_X6_addFour) sS m args below meth c H locs 0 0 (MQ below (xQ G W0 (cells6 G ad z) none) args sS 0 0 (x_in W0)) (F0 m 0 ls []) := by
  intro s x1 z H locs ls hw hl hf
  unfold f_X6_addFour at hf
  refine lv_aload_n (pc := 0) E.1 E.2.1 dX6_addFour_0 rfl (lv_at hl 0 rfl) ?_
  refine lv_iload_n (pc := 1) E.1 E.2.1 dX6_addFour_1 rfl (lv_at hl 1 rfl) ?_
  refine lv_bipush (v := 24) (pc := 2) E.1 E.2.1 dX6_addFour_2 (by decide) ?_
  refine lv_iushr (v := ((Int32.toUInt32 x1) >>> ((Int32.toUInt32 24) &&& Int32.toUInt32 31)).toInt32) (pc := 4) E.1 E.2.1 dX6_addFour_4 rfl ?_
  obtain ⟨v1, g2, hf⟩ := x_bind hf
  refine x_callVA (pc := 5) (As := [.int (((Int32.toUInt32 x1) >>> ((Int32.toUInt32 24) &&& Int32.toUInt32 31)).toInt32)]) (rest := []) (st1 := []) (ws' := (cells6 G ad v1)) E hw hl (c_X6_addByte l G ad s (((Int32.toUInt32 x1) >>> ((Int32.toUInt32 24) &&& Int32.toUInt32 31)).toInt32) g2) xv_X6_19 xd_X6_addByte rfl rfl ⟨Nat.le_of_ble_eq_true rfl, Nat.le_of_ble_eq_true rfl⟩ (q0 := 0) rfl rfl rfl rfl (Nat.le_of_ble_eq_true rfl) rfl dX6_addFour_5 (fun H locs hw => ?_)
  refine lv_aload_n (pc := 8) E.1 E.2.1 dX6_addFour_8 rfl (lv_at hl 0 rfl) ?_
  refine lv_iload_n (pc := 9) E.1 E.2.1 dX6_addFour_9 rfl (lv_at hl 1 rfl) ?_
  refine lv_bipush (v := 16) (pc := 10) E.1 E.2.1 dX6_addFour_10 (by decide) ?_
  refine lv_iushr (v := ((Int32.toUInt32 x1) >>> ((Int32.toUInt32 16) &&& Int32.toUInt32 31)).toInt32) (pc := 12) E.1 E.2.1 dX6_addFour_12 rfl ?_
  obtain ⟨v3, g4, hf⟩ := x_bind hf
  refine x_callVA (pc := 13) (As := [.int (((Int32.toUInt32 x1) >>> ((Int32.toUInt32 16) &&& Int32.toUInt32 31)).toInt32)]) (rest := []) (st1 := []) (ws' := (cells6 G ad v3)) E hw hl (c_X6_addByte l G ad v1 (((Int32.toUInt32 x1) >>> ((Int32.toUInt32 16) &&& Int32.toUInt32 31)).toInt32) g4) xv_X6_19 xd_X6_addByte rfl rfl ⟨Nat.le_of_ble_eq_true rfl, Nat.le_of_ble_eq_true rfl⟩ (q0 := 0) rfl rfl rfl rfl (Nat.le_of_ble_eq_true rfl) rfl dX6_addFour_13 (fun H locs hw => ?_)
  refine lv_aload_n (pc := 16) E.1 E.2.1 dX6_addFour_16 rfl (lv_at hl 0 rfl) ?_
  refine lv_iload_n (pc := 17) E.1 E.2.1 dX6_addFour_17 rfl (lv_at hl 1 rfl) ?_
  refine lv_bipush (v := 8) (pc := 18) E.1 E.2.1 dX6_addFour_18 (by decide) ?_
  refine lv_iushr (v := ((Int32.toUInt32 x1) >>> ((Int32.toUInt32 8) &&& Int32.toUInt32 31)).toInt32) (pc := 20) E.1 E.2.1 dX6_addFour_20 rfl ?_
  obtain ⟨v5, g6, hf⟩ := x_bind hf
  refine x_callVA (pc := 21) (As := [.int (((Int32.toUInt32 x1) >>> ((Int32.toUInt32 8) &&& Int32.toUInt32 31)).toInt32)]) (rest := []) (st1 := []) (ws' := (cells6 G ad v5)) E hw hl (c_X6_addByte l G ad v3 (((Int32.toUInt32 x1) >>> ((Int32.toUInt32 8) &&& Int32.toUInt32 31)).toInt32) g6) xv_X6_19 xd_X6_addByte rfl rfl ⟨Nat.le_of_ble_eq_true rfl, Nat.le_of_ble_eq_true rfl⟩ (q0 := 0) rfl rfl rfl rfl (Nat.le_of_ble_eq_true rfl) rfl dX6_addFour_21 (fun H locs hw => ?_)
  refine lv_aload_n (pc := 24) E.1 E.2.1 dX6_addFour_24 rfl (lv_at hl 0 rfl) ?_
  refine lv_iload_n (pc := 25) E.1 E.2.1 dX6_addFour_25 rfl (lv_at hl 1 rfl) ?_
  obtain ⟨v7, g8, hf⟩ := x_bind hf
  refine x_callVA (pc := 26) (As := [.int x1]) (rest := []) (st1 := []) (ws' := (cells6 G ad v7)) E hw hl (c_X6_addByte l G ad v5 x1 g8) xv_X6_19 xd_X6_addByte rfl rfl ⟨Nat.le_of_ble_eq_true rfl, Nat.le_of_ble_eq_true rfl⟩ (q0 := 0) rfl rfl rfl rfl (Nat.le_of_ble_eq_true rfl) rfl dX6_addFour_26 (fun H locs hw => ?_)
  obtain rfl := Option.some.inj hf
  exact x_retv (pc := 29) E hr hk hw dX6_addFour_29
set_option maxHeartbeats 4000000 in
set_option maxRecDepth 100000 in
theorem c_X6_addFour (l : Launch) (G : xG) (ad : Nat → Nat) (s : S6) (x1 : Int32) {z : S6} (hf : f_X6_addFour s x1 = some z) : xC l yX6_addFour cX6_addFour 2 none (rm_X6_addFour) G [.ref (ad 0), .int x1] (cells6 G ad s) none (cells6 G ad z) :=
  x_met (by decide) rfl (Nat.le_of_ble_eq_true rfl) (fun p e sS m below meth c E hr hk ls hl hw => w_X6_addFour_p0 E hr hk s x1 z hw hl hf)
set_option maxHeartbeats 4000000 in
set_option maxRecDepth 100000 in
theorem w_X6_dropLast_p0 {p : Program} {l : Launch} {e : Env} {sS : State} {m : MethodId} {args : Array Value} {below : List Frame} {meth : Method} {c : Code} {G : xG} {W0 : va_W} {ad : Nat → Nat}   (E : xE p sS m args c cX6_dropLast 2 RX6 G (x_in W0)) (hr : meth.sig.returnType = none) (hk : meth.locks = false)  : ∀ (s' : S6) (x1' : Int32) (z : S6) {H : Heap} {locs : List Loc} {ls : Array Slot}, xW G (x_in W0) sS.heap (cells6 G ad s') H locs → lv_has ls 2 [(0, .ref (ad 0)), (1, .int x1')] → f_X6_dropLast  s' x1' = some z → W p l e (rm_X6_dropLast) sS m args below meth c H locs 0 0 (MQ below (xQ G W0 (cells6 G ad z) none) args sS 0 0 (x_in W0)) (F0 m 0 ls []) := by
  intro s x1 z H locs ls hw hl hf
  unfold f_X6_dropLast at hf
  refine lv_iload_n (pc := 0) E.1 E.2.1 dX6_dropLast_0 rfl (lv_at hl 1 rfl) ?_
  refine lv_if_lt (tgt := 22) (pc := 1) E.1 E.2.1 dX6_dropLast_1 (by decide) (fun q1 => ?_) (fun q1 => ?_)
  · have hf := x_pos q1 hf
    obtain rfl := Option.some.inj hf
    exact x_retv (pc := 22) E hr hk hw dX6_dropLast_22
  · have hf := x_neg q1 hf
    refine lv_iload_n (pc := 4) E.1 E.2.1 dX6_dropLast_4 rfl (lv_at hl 1 rfl) ?_
    refine lv_aload_n (pc := 5) E.1 E.2.1 dX6_dropLast_5 rfl (lv_at hl 0 rfl) ?_
    refine xg_X6_15 (pc := 6) (v := .int (g6_size s)) E hw 0 rfl rfl dX6_dropLast_6 ?_
    refine lv_icmp_gt (tgt := 22) (pc := 9) E.1 E.2.1 dX6_dropLast_9 (by decide) (fun q2 => ?_) (fun q2 => ?_)
    · have hf := x_pos q2 hf
      obtain rfl := Option.some.inj hf
      exact x_retv (pc := 22) E hr hk hw dX6_dropLast_22
    · have hf := x_neg q2 hf
      refine lv_aload_n (pc := 12) E.1 E.2.1 dX6_dropLast_12 rfl (lv_at hl 0 rfl) ?_
      refine lv_dup (pc := 13) E.1 E.2.1 dX6_dropLast_13 rfl ?_
      refine xg_X6_15 (pc := 14) (v := .int (g6_size s)) E hw 0 rfl rfl dX6_dropLast_14 ?_
      refine lv_iload_n (pc := 17) E.1 E.2.1 dX6_dropLast_17 rfl (lv_at hl 1 rfl) ?_
      refine lv_isub (pc := 18) E.1 E.2.1 dX6_dropLast_18 ?_
      refine xp_X6_15 (pc := 19) (v := .int ((g6_size s) - x1)) (ws' := (cells6c G ad (g6_bytes s) ((g6_size s) - x1) (g6_at s) (g6_fault s) (g6_begin s))) E hw 0 rfl rfl rfl (Nat.le_of_ble_eq_true rfl) rfl dX6_dropLast_19 (fun H locs hw => ?_)
      obtain rfl := Option.some.inj hf
      exact x_retv (pc := 22) E hr hk hw dX6_dropLast_22
set_option maxHeartbeats 4000000 in
set_option maxRecDepth 100000 in
theorem c_X6_dropLast (l : Launch) (G : xG) (ad : Nat → Nat) (s : S6) (x1 : Int32) {z : S6} (hf : f_X6_dropLast s x1 = some z) : xC l yX6_dropLast cX6_dropLast 2 none (rm_X6_dropLast) G [.ref (ad 0), .int x1] (cells6 G ad s) none (cells6 G ad z) :=
  x_met (by decide) rfl (Nat.le_of_ble_eq_true rfl) (fun p e sS m below meth c E hr hk ls hl hw => w_X6_dropLast_p0 E hr hk s x1 z hw hl hf)
set_option maxHeartbeats 4000000 in
set_option maxRecDepth 100000 in
theorem w_X6_byteAt_p0 {p : Program} {l : Launch} {e : Env} {sS : State} {m : MethodId} {args : Array Value} {below : List Frame} {meth : Method} {c : Code} {G : xG} {W0 : va_W} {ad : Nat → Nat}   (E : xE p sS m args c cX6_byteAt 2 RX6 G (x_in W0)) (hr : meth.sig.returnType = (some .int)) (hk : meth.locks = false)  : ∀ (s' : S6) (x1' : Int32) (z : Int32) {H : Heap} {locs : List Loc} {ls : Array Slot}, xW G (x_in W0) sS.heap (cells6 G ad s') H locs → lv_has ls 2 [(0, .ref (ad 0)), (1, .int x1')] → f_X6_byteAt  s' x1' = some z → W p l e (rm_X6_byteAt) sS m args below meth c H locs 0 0 (MQ below (xQ G W0 (cells6 G ad s') (some (.int z))) args sS 0 0 (x_in W0)) (F0 m 0 ls []) := by
  intro s x1 z H locs ls hw hl hf
  unfold f_X6_byteAt at hf
  refine lv_iload_n (pc := 0) E.1 E.2.1 dX6_byteAt_0 rfl (lv_at hl 1 rfl) ?_
  refine lv_if_lt (tgt := 25) (pc := 1) E.1 E.2.1 dX6_byteAt_1 (by decide) (fun q1 => ?_) (fun q1 => ?_)
  · have hf := x_pos q1 hf
    refine lv_iconst (v := (-1)) (pc := 25) E.1 E.2.1 dX6_byteAt_25 (by decide) ?_
    obtain rfl := Option.some.inj hf
    exact x_reti (pc := 26) E hr hk hw dX6_byteAt_26
  · have hf := x_neg q1 hf
    refine lv_iload_n (pc := 4) E.1 E.2.1 dX6_byteAt_4 rfl (lv_at hl 1 rfl) ?_
    refine lv_aload_n (pc := 5) E.1 E.2.1 dX6_byteAt_5 rfl (lv_at hl 0 rfl) ?_
    refine xg_X6_15 (pc := 6) (v := .int (g6_size s)) E hw 0 rfl rfl dX6_byteAt_6 ?_
    refine lv_icmp_ge (tgt := 25) (pc := 9) E.1 E.2.1 dX6_byteAt_9 (by decide) (fun q2 => ?_) (fun q2 => ?_)
    · have hf := x_pos q2 hf
      refine lv_iconst (v := (-1)) (pc := 25) E.1 E.2.1 dX6_byteAt_25 (by decide) ?_
      obtain rfl := Option.some.inj hf
      exact x_reti (pc := 26) E hr hk hw dX6_byteAt_26
    · have hf := x_neg q2 hf
      refine lv_aload_n (pc := 12) E.1 E.2.1 dX6_byteAt_12 rfl (lv_at hl 0 rfl) ?_
      refine xg_X6_9 (pc := 13) (v := .ref (ad 1)) E hw 0 rfl rfl dX6_byteAt_13 ?_
      refine lv_iload_n (pc := 16) E.1 E.2.1 dX6_byteAt_16 rfl (lv_at hl 1 rfl) ?_
      obtain ⟨v4, g3, hf⟩ := x_bind hf
      refine x_bald (pc := 17) E hw 1 rfl g3 dX6_byteAt_17 ?_
      refine lv_sipush (v := 255) (pc := 18) E.1 E.2.1 dX6_byteAt_18 (by decide) ?_
      refine lv_iand (pc := 21) E.1 E.2.1 dX6_byteAt_21 ?_
      refine lv_goto (tgt := 26) (pc := 22) E.1 E.2.1 dX6_byteAt_22 (by decide) ?_
      obtain rfl := Option.some.inj hf
      exact x_reti (pc := 26) E hr hk hw dX6_byteAt_26
set_option maxHeartbeats 4000000 in
set_option maxRecDepth 100000 in
theorem c_X6_byteAt (l : Launch) (G : xG) (ad : Nat → Nat) (s : S6) (x1 : Int32) {z : Int32} (hf : f_X6_byteAt s x1 = some z) : xC l yX6_byteAt cX6_byteAt 2 (some .int) (rm_X6_byteAt) G [.ref (ad 0), .int x1] (cells6 G ad s) (some (.int z)) (cells6 G ad s) :=
  x_met (by decide) rfl (Nat.le_of_ble_eq_true rfl) (fun p e sS m below meth c E hr hk ls hl hw => w_X6_byteAt_p0 E hr hk s x1 z hw hl hf)
set_option maxHeartbeats 4000000 in
set_option maxRecDepth 100000 in
theorem w_X6_skipGaps_p5 {p : Program} {l : Launch} {e : Env} {sS : State} {m : MethodId} {args : Array Value} {below : List Frame} {meth : Method} {c : Code} {G : xG} {W0 : va_W} {ad : Nat → Nat}  {k5 : S6 → Int32 → Option (S6)} (E : xE p sS m args c cX6_skipGaps 2 RX6 G (x_in W0)) (hr : meth.sig.returnType = none) (hk : meth.locks = false) (hk5 : ∀ (s' : S6) (x1' : Int32) (z : S6) {H : Heap} {locs : List Loc} {ls : Array Slot}, xW G (x_in W0) sS.heap (cells6 G ad s') H locs → lv_has ls 2 [(0, .ref (ad 0)), (1, .int x1')] → k5  s' x1' = some z → W p l e (rm_X6_skipGaps) sS m args below meth c H locs 0 0 (MQ below (xQ G W0 (cells6 G ad z) none) args sS 0 0 (x_in W0)) (F0 m 5 ls [])) : ∀ (s' : S6) (x1' : Int32) (z : S6) {H : Heap} {locs : List Loc} {ls : Array Slot}, xW G (x_in W0) sS.heap (cells6 G ad s') H locs → lv_has ls 2 [(0, .ref (ad 0)), (1, .int x1')] → f_X6_skipGaps_p5 k5 s' x1' = some z → W p l e (rm_X6_skipGaps) sS m args below meth c H locs 0 0 (MQ below (xQ G W0 (cells6 G ad z) none) args sS 0 0 (x_in W0)) (F0 m 5 ls []) := by
  intro s x1 z H locs ls hw hl hf
  unfold f_X6_skipGaps_p5 at hf
  refine lv_iload_n (pc := 5) E.1 E.2.1 dX6_skipGaps_5 rfl (lv_at hl 1 rfl) ?_
  refine lv_aload_n (pc := 6) E.1 E.2.1 dX6_skipGaps_6 rfl (lv_at hl 0 rfl) ?_
  refine xg_X6_15 (pc := 7) (v := .int (g6_size s)) E hw 0 rfl rfl dX6_skipGaps_7 ?_
  refine lv_icmp_ge (tgt := 46) (pc := 10) E.1 E.2.1 dX6_skipGaps_10 (by decide) (fun q1 => ?_) (fun q1 => ?_)
  · have hf := x_pos q1 hf
    obtain rfl := Option.some.inj hf
    exact x_retv (pc := 46) E hr hk hw dX6_skipGaps_46
  · have hf := x_neg q1 hf
    refine lv_aload_n (pc := 13) E.1 E.2.1 dX6_skipGaps_13 rfl (lv_at hl 0 rfl) ?_
    refine lv_iload_n (pc := 14) E.1 E.2.1 dX6_skipGaps_14 rfl (lv_at hl 1 rfl) ?_
    obtain ⟨v2, g3, hf⟩ := x_bind hf
    refine x_callVA (pc := 15) (As := [.int x1]) (rest := []) (st1 := [.int v2]) (ws' := (cells6 G ad s)) E hw hl (c_X6_byteAt l G ad s x1 g3) xv_X6_86 xd_X6_byteAt rfl rfl ⟨Nat.le_of_ble_eq_true rfl, Nat.le_of_ble_eq_true rfl⟩ (q0 := 0) rfl rfl rfl rfl (Nat.le_of_ble_eq_true rfl) rfl dX6_skipGaps_15 (fun H locs hw => ?_)
    refine lv_bipush (v := 32) (pc := 18) E.1 E.2.1 dX6_skipGaps_18 (by decide) ?_
    refine lv_icmp_eq (tgt := 33) (pc := 20) E.1 E.2.1 dX6_skipGaps_20 (by decide) (fun q4 => ?_) (fun q4 => ?_)
    · have hf := x_pos q4 hf
      refine lv_aload_n (pc := 33) E.1 E.2.1 dX6_skipGaps_33 rfl (lv_at hl 0 rfl) ?_
      refine lv_iload_n (pc := 34) E.1 E.2.1 dX6_skipGaps_34 rfl (lv_at hl 1 rfl) ?_
      refine lv_iconst (v := 1) (pc := 35) E.1 E.2.1 dX6_skipGaps_35 (by decide) ?_
      refine lv_iadd (pc := 36) E.1 E.2.1 dX6_skipGaps_36 ?_
      refine xp_X6_28 (pc := 37) (v := .int (x1 + (1 : Int32))) (ws' := (cells6c G ad (g6_bytes s) (g6_size s) (x1 + (1 : Int32)) (g6_fault s) (g6_begin s))) E hw 0 rfl rfl rfl (Nat.le_of_ble_eq_true rfl) rfl dX6_skipGaps_37 (fun H locs hw => ?_)
      refine lv_iinc (v := (x1 + 1)) (lv' := [(1, .int (x1 + 1)), (0, .ref (ad 0))]) (pc := 40) E.1 E.2.1 dX6_skipGaps_40 hl (k := 1) rfl rfl (by decide) rfl (fun ls hl => ?_)
      refine lv_goto (tgt := 5) (pc := 43) E.1 E.2.1 dX6_skipGaps_43 (by decide) ?_
      exact hk5 (u6_at s (x1 + (1 : Int32))) (x1 + 1) z hw (lv_sub hl [1, 0] rfl) hf
    · have hf := x_neg q4 hf
      refine lv_aload_n (pc := 23) E.1 E.2.1 dX6_skipGaps_23 rfl (lv_at hl 0 rfl) ?_
      refine lv_iload_n (pc := 24) E.1 E.2.1 dX6_skipGaps_24 rfl (lv_at hl 1 rfl) ?_
      obtain ⟨v5, g6, hf⟩ := x_bind hf
      refine x_callVA (pc := 25) (As := [.int x1]) (rest := []) (st1 := [.int v5]) (ws' := (cells6 G ad s)) E hw hl (c_X6_byteAt l G ad s x1 g6) xv_X6_86 xd_X6_byteAt rfl rfl ⟨Nat.le_of_ble_eq_true rfl, Nat.le_of_ble_eq_true rfl⟩ (q0 := 0) rfl rfl rfl rfl (Nat.le_of_ble_eq_true rfl) rfl dX6_skipGaps_25 (fun H locs hw => ?_)
      refine lv_bipush (v := 10) (pc := 28) E.1 E.2.1 dX6_skipGaps_28 (by decide) ?_
      refine lv_icmp_ne (tgt := 46) (pc := 30) E.1 E.2.1 dX6_skipGaps_30 (by decide) (fun q7 => ?_) (fun q7 => ?_)
      · have hf := x_neg q7 hf
        obtain rfl := Option.some.inj hf
        exact x_retv (pc := 46) E hr hk hw dX6_skipGaps_46
      · have hf := x_pos q7 hf
        refine lv_aload_n (pc := 33) E.1 E.2.1 dX6_skipGaps_33 rfl (lv_at hl 0 rfl) ?_
        refine lv_iload_n (pc := 34) E.1 E.2.1 dX6_skipGaps_34 rfl (lv_at hl 1 rfl) ?_
        refine lv_iconst (v := 1) (pc := 35) E.1 E.2.1 dX6_skipGaps_35 (by decide) ?_
        refine lv_iadd (pc := 36) E.1 E.2.1 dX6_skipGaps_36 ?_
        refine xp_X6_28 (pc := 37) (v := .int (x1 + (1 : Int32))) (ws' := (cells6c G ad (g6_bytes s) (g6_size s) (x1 + (1 : Int32)) (g6_fault s) (g6_begin s))) E hw 0 rfl rfl rfl (Nat.le_of_ble_eq_true rfl) rfl dX6_skipGaps_37 (fun H locs hw => ?_)
        refine lv_iinc (v := (x1 + 1)) (lv' := [(1, .int (x1 + 1)), (0, .ref (ad 0))]) (pc := 40) E.1 E.2.1 dX6_skipGaps_40 hl (k := 1) rfl rfl (by decide) rfl (fun ls hl => ?_)
        refine lv_goto (tgt := 5) (pc := 43) E.1 E.2.1 dX6_skipGaps_43 (by decide) ?_
        exact hk5 (u6_at s (x1 + (1 : Int32))) (x1 + 1) z hw (lv_sub hl [1, 0] rfl) hf
set_option maxHeartbeats 4000000 in
set_option maxRecDepth 100000 in
theorem wl_X6_skipGaps_p5 {p : Program} {l : Launch} {e : Env} {sS : State} {m : MethodId} {args : Array Value} {below : List Frame} {meth : Method} {c : Code} {G : xG} {W0 : va_W} {ad : Nat → Nat}   (E : xE p sS m args c cX6_skipGaps 2 RX6 G (x_in W0)) (hr : meth.sig.returnType = none) (hk : meth.locks = false)  : ∀ (s' : S6) (x1' : Int32) (z : S6) {H : Heap} {locs : List Loc} {ls : Array Slot}, xW G (x_in W0) sS.heap (cells6 G ad s') H locs → lv_has ls 2 [(0, .ref (ad 0)), (1, .int x1')] → lp_X6_skipGaps_p5  s' x1' = some z → W p l e (rm_X6_skipGaps) sS m args below meth c H locs 0 0 (MQ below (xQ G W0 (cells6 G ad z) none) args sS 0 0 (x_in W0)) (F0 m 5 ls []) := by
  intro s x1 z H locs ls hw hl hf
  exact x_loop_W (P := fun (q : S6 × Int32) (z : S6) => ∀ {H : Heap} {locs : List Loc} {ls : Array Slot}, xW G (x_in W0) sS.heap (cells6 G ad q.1) H locs → lv_has ls 2 [(0, .ref (ad 0)), (1, .int q.2)] → W p l e (rm_X6_skipGaps) sS m args below meth c H locs 0 0 (MQ below (xQ G W0 (cells6 G ad z) none) args sS 0 0 (x_in W0)) (F0 m 5 ls [])) (fun k hkk q z hf H locs ls hw hl => w_X6_skipGaps_p5 E hr hk  (fun s x1 z H locs ls hw hl hf => hkk (s, x1) z hf hw hl) q.1 q.2 z hw hl hf) FU (s, x1) z hf hw hl
set_option maxHeartbeats 4000000 in
set_option maxRecDepth 100000 in
theorem w_X6_skipGaps_p0 {p : Program} {l : Launch} {e : Env} {sS : State} {m : MethodId} {args : Array Value} {below : List Frame} {meth : Method} {c : Code} {G : xG} {W0 : va_W} {ad : Nat → Nat}   (E : xE p sS m args c cX6_skipGaps 2 RX6 G (x_in W0)) (hr : meth.sig.returnType = none) (hk : meth.locks = false)  : ∀ (s' : S6) (z : S6) {H : Heap} {locs : List Loc} {ls : Array Slot}, xW G (x_in W0) sS.heap (cells6 G ad s') H locs → lv_has ls 2 [(0, .ref (ad 0))] → f_X6_skipGaps  s' = some z → W p l e (rm_X6_skipGaps) sS m args below meth c H locs 0 0 (MQ below (xQ G W0 (cells6 G ad z) none) args sS 0 0 (x_in W0)) (F0 m 0 ls []) := by
  intro s z H locs ls hw hl hf
  unfold f_X6_skipGaps at hf
  refine lv_aload_n (pc := 0) E.1 E.2.1 dX6_skipGaps_0 rfl (lv_at hl 0 rfl) ?_
  refine xg_X6_28 (pc := 1) (v := .int (g6_at s)) E hw 0 rfl rfl dX6_skipGaps_1 ?_
  refine lv_istore_n (lv' := [(1, .int (g6_at s)), (0, .ref (ad 0))]) (pc := 4) E.1 E.2.1 dX6_skipGaps_4 rfl hl (by decide) rfl (fun ls hl => ?_)
  exact wl_X6_skipGaps_p5 E hr hk  s (g6_at s) z hw (lv_sub hl [1, 0] rfl) hf
set_option maxHeartbeats 4000000 in
set_option maxRecDepth 100000 in
theorem c_X6_skipGaps (l : Launch) (G : xG) (ad : Nat → Nat) (s : S6) {z : S6} (hf : f_X6_skipGaps s = some z) : xC l yX6_skipGaps cX6_skipGaps 2 none (rm_X6_skipGaps) G [.ref (ad 0)] (cells6 G ad s) none (cells6 G ad z) :=
  x_met (by decide) rfl (Nat.le_of_ble_eq_true rfl) (fun p e sS m below meth c E hr hk ls hl hw => w_X6_skipGaps_p0 E hr hk s z hw hl hf)
set_option maxHeartbeats 4000000 in
set_option maxRecDepth 100000 in
theorem w_X6_skipLetters_p5 {p : Program} {l : Launch} {e : Env} {sS : State} {m : MethodId} {args : Array Value} {below : List Frame} {meth : Method} {c : Code} {G : xG} {W0 : va_W} {ad : Nat → Nat}  {k5 : S6 → Int32 → Option (S6)} (E : xE p sS m args c cX6_skipLetters 2 RX6 G (x_in W0)) (hr : meth.sig.returnType = none) (hk : meth.locks = false) (hk5 : ∀ (s' : S6) (x1' : Int32) (z : S6) {H : Heap} {locs : List Loc} {ls : Array Slot}, xW G (x_in W0) sS.heap (cells6 G ad s') H locs → lv_has ls 2 [(0, .ref (ad 0)), (1, .int x1')] → k5  s' x1' = some z → W p l e (rm_X6_skipLetters) sS m args below meth c H locs 0 0 (MQ below (xQ G W0 (cells6 G ad z) none) args sS 0 0 (x_in W0)) (F0 m 5 ls [])) : ∀ (s' : S6) (x1' : Int32) (z : S6) {H : Heap} {locs : List Loc} {ls : Array Slot}, xW G (x_in W0) sS.heap (cells6 G ad s') H locs → lv_has ls 2 [(0, .ref (ad 0)), (1, .int x1')] → f_X6_skipLetters_p5 k5 s' x1' = some z → W p l e (rm_X6_skipLetters) sS m args below meth c H locs 0 0 (MQ below (xQ G W0 (cells6 G ad z) none) args sS 0 0 (x_in W0)) (F0 m 5 ls []) := by
  intro s x1 z H locs ls hw hl hf
  unfold f_X6_skipLetters_p5 at hf
  refine lv_iload_n (pc := 5) E.1 E.2.1 dX6_skipLetters_5 rfl (lv_at hl 1 rfl) ?_
  refine lv_aload_n (pc := 6) E.1 E.2.1 dX6_skipLetters_6 rfl (lv_at hl 0 rfl) ?_
  refine xg_X6_15 (pc := 7) (v := .int (g6_size s)) E hw 0 rfl rfl dX6_skipLetters_7 ?_
  refine lv_icmp_ge (tgt := 46) (pc := 10) E.1 E.2.1 dX6_skipLetters_10 (by decide) (fun q1 => ?_) (fun q1 => ?_)
  · have hf := x_pos q1 hf
    obtain rfl := Option.some.inj hf
    exact x_retv (pc := 46) E hr hk hw dX6_skipLetters_46
  · have hf := x_neg q1 hf
    refine lv_aload_n (pc := 13) E.1 E.2.1 dX6_skipLetters_13 rfl (lv_at hl 0 rfl) ?_
    refine lv_iload_n (pc := 14) E.1 E.2.1 dX6_skipLetters_14 rfl (lv_at hl 1 rfl) ?_
    obtain ⟨v2, g3, hf⟩ := x_bind hf
    refine x_callVA (pc := 15) (As := [.int x1]) (rest := []) (st1 := [.int v2]) (ws' := (cells6 G ad s)) E hw hl (c_X6_byteAt l G ad s x1 g3) xv_X6_86 xd_X6_byteAt rfl rfl ⟨Nat.le_of_ble_eq_true rfl, Nat.le_of_ble_eq_true rfl⟩ (q0 := 0) rfl rfl rfl rfl (Nat.le_of_ble_eq_true rfl) rfl dX6_skipLetters_15 (fun H locs hw => ?_)
    refine lv_bipush (v := 97) (pc := 18) E.1 E.2.1 dX6_skipLetters_18 (by decide) ?_
    refine lv_icmp_lt (tgt := 46) (pc := 20) E.1 E.2.1 dX6_skipLetters_20 (by decide) (fun q4 => ?_) (fun q4 => ?_)
    · have hf := x_pos q4 hf
      obtain rfl := Option.some.inj hf
      exact x_retv (pc := 46) E hr hk hw dX6_skipLetters_46
    · have hf := x_neg q4 hf
      refine lv_aload_n (pc := 23) E.1 E.2.1 dX6_skipLetters_23 rfl (lv_at hl 0 rfl) ?_
      refine lv_iload_n (pc := 24) E.1 E.2.1 dX6_skipLetters_24 rfl (lv_at hl 1 rfl) ?_
      obtain ⟨v5, g6, hf⟩ := x_bind hf
      refine x_callVA (pc := 25) (As := [.int x1]) (rest := []) (st1 := [.int v5]) (ws' := (cells6 G ad s)) E hw hl (c_X6_byteAt l G ad s x1 g6) xv_X6_86 xd_X6_byteAt rfl rfl ⟨Nat.le_of_ble_eq_true rfl, Nat.le_of_ble_eq_true rfl⟩ (q0 := 0) rfl rfl rfl rfl (Nat.le_of_ble_eq_true rfl) rfl dX6_skipLetters_25 (fun H locs hw => ?_)
      refine lv_bipush (v := 122) (pc := 28) E.1 E.2.1 dX6_skipLetters_28 (by decide) ?_
      refine lv_icmp_gt (tgt := 46) (pc := 30) E.1 E.2.1 dX6_skipLetters_30 (by decide) (fun q7 => ?_) (fun q7 => ?_)
      · have hf := x_pos q7 hf
        obtain rfl := Option.some.inj hf
        exact x_retv (pc := 46) E hr hk hw dX6_skipLetters_46
      · have hf := x_neg q7 hf
        refine lv_aload_n (pc := 33) E.1 E.2.1 dX6_skipLetters_33 rfl (lv_at hl 0 rfl) ?_
        refine lv_iload_n (pc := 34) E.1 E.2.1 dX6_skipLetters_34 rfl (lv_at hl 1 rfl) ?_
        refine lv_iconst (v := 1) (pc := 35) E.1 E.2.1 dX6_skipLetters_35 (by decide) ?_
        refine lv_iadd (pc := 36) E.1 E.2.1 dX6_skipLetters_36 ?_
        refine xp_X6_28 (pc := 37) (v := .int (x1 + (1 : Int32))) (ws' := (cells6c G ad (g6_bytes s) (g6_size s) (x1 + (1 : Int32)) (g6_fault s) (g6_begin s))) E hw 0 rfl rfl rfl (Nat.le_of_ble_eq_true rfl) rfl dX6_skipLetters_37 (fun H locs hw => ?_)
        refine lv_iinc (v := (x1 + 1)) (lv' := [(1, .int (x1 + 1)), (0, .ref (ad 0))]) (pc := 40) E.1 E.2.1 dX6_skipLetters_40 hl (k := 1) rfl rfl (by decide) rfl (fun ls hl => ?_)
        refine lv_goto (tgt := 5) (pc := 43) E.1 E.2.1 dX6_skipLetters_43 (by decide) ?_
        exact hk5 (u6_at s (x1 + (1 : Int32))) (x1 + 1) z hw (lv_sub hl [1, 0] rfl) hf
set_option maxHeartbeats 4000000 in
set_option maxRecDepth 100000 in
theorem wl_X6_skipLetters_p5 {p : Program} {l : Launch} {e : Env} {sS : State} {m : MethodId} {args : Array Value} {below : List Frame} {meth : Method} {c : Code} {G : xG} {W0 : va_W} {ad : Nat → Nat}   (E : xE p sS m args c cX6_skipLetters 2 RX6 G (x_in W0)) (hr : meth.sig.returnType = none) (hk : meth.locks = false)  : ∀ (s' : S6) (x1' : Int32) (z : S6) {H : Heap} {locs : List Loc} {ls : Array Slot}, xW G (x_in W0) sS.heap (cells6 G ad s') H locs → lv_has ls 2 [(0, .ref (ad 0)), (1, .int x1')] → lp_X6_skipLetters_p5  s' x1' = some z → W p l e (rm_X6_skipLetters) sS m args below meth c H locs 0 0 (MQ below (xQ G W0 (cells6 G ad z) none) args sS 0 0 (x_in W0)) (F0 m 5 ls []) := by
  intro s x1 z H locs ls hw hl hf
  exact x_loop_W (P := fun (q : S6 × Int32) (z : S6) => ∀ {H : Heap} {locs : List Loc} {ls : Array Slot}, xW G (x_in W0) sS.heap (cells6 G ad q.1) H locs → lv_has ls 2 [(0, .ref (ad 0)), (1, .int q.2)] → W p l e (rm_X6_skipLetters) sS m args below meth c H locs 0 0 (MQ below (xQ G W0 (cells6 G ad z) none) args sS 0 0 (x_in W0)) (F0 m 5 ls [])) (fun k hkk q z hf H locs ls hw hl => w_X6_skipLetters_p5 E hr hk  (fun s x1 z H locs ls hw hl hf => hkk (s, x1) z hf hw hl) q.1 q.2 z hw hl hf) FU (s, x1) z hf hw hl
set_option maxHeartbeats 4000000 in
set_option maxRecDepth 100000 in
theorem w_X6_skipLetters_p0 {p : Program} {l : Launch} {e : Env} {sS : State} {m : MethodId} {args : Array Value} {below : List Frame} {meth : Method} {c : Code} {G : xG} {W0 : va_W} {ad : Nat → Nat}   (E : xE p sS m args c cX6_skipLetters 2 RX6 G (x_in W0)) (hr : meth.sig.returnType = none) (hk : meth.locks = false)  : ∀ (s' : S6) (z : S6) {H : Heap} {locs : List Loc} {ls : Array Slot}, xW G (x_in W0) sS.heap (cells6 G ad s') H locs → lv_has ls 2 [(0, .ref (ad 0))] → f_X6_skipLetters  s' = some z → W p l e (rm_X6_skipLetters) sS m args below meth c H locs 0 0 (MQ below (xQ G W0 (cells6 G ad z) none) args sS 0 0 (x_in W0)) (F0 m 0 ls []) := by
  intro s z H locs ls hw hl hf
  unfold f_X6_skipLetters at hf
  refine lv_aload_n (pc := 0) E.1 E.2.1 dX6_skipLetters_0 rfl (lv_at hl 0 rfl) ?_
  refine xg_X6_28 (pc := 1) (v := .int (g6_at s)) E hw 0 rfl rfl dX6_skipLetters_1 ?_
  refine lv_istore_n (lv' := [(1, .int (g6_at s)), (0, .ref (ad 0))]) (pc := 4) E.1 E.2.1 dX6_skipLetters_4 rfl hl (by decide) rfl (fun ls hl => ?_)
  exact wl_X6_skipLetters_p5 E hr hk  s (g6_at s) z hw (lv_sub hl [1, 0] rfl) hf
set_option maxHeartbeats 4000000 in
set_option maxRecDepth 100000 in
theorem c_X6_skipLetters (l : Launch) (G : xG) (ad : Nat → Nat) (s : S6) {z : S6} (hf : f_X6_skipLetters s = some z) : xC l yX6_skipLetters cX6_skipLetters 2 none (rm_X6_skipLetters) G [.ref (ad 0)] (cells6 G ad s) none (cells6 G ad z) :=
  x_met (by decide) rfl (Nat.le_of_ble_eq_true rfl) (fun p e sS m below meth c E hr hk ls hl hw => w_X6_skipLetters_p0 E hr hk s z hw hl hf)
set_option maxHeartbeats 4000000 in
set_option maxRecDepth 100000 in
theorem w_X6_isWord_p17 {p : Program} {l : Launch} {e : Env} {sS : State} {m : MethodId} {args : Array Value} {below : List Frame} {meth : Method} {c : Code} {G : xG} {W0 : va_W} {ad : Nat → Nat} {n2 : Nat} {k17 : S6 → Nat → Int32 → Int32 → Option (Int32)} (E : xE p sS m args c cX6_isWord 4 RX6 G (x_in W0)) (hr : meth.sig.returnType = (some .boolean)) (hk : meth.locks = false) (hk17 : ∀ (s' : S6) (x1' : Int32) (x3' : Int32) (z : Int32) {H : Heap} {locs : List Loc} {ls : Array Slot}, xW G (x_in W0) sS.heap (cells6 G ad s') H locs → lv_has ls 4 [(0, .ref (ad 0)), (1, .int x1'), (2, .ref (G.2.2.1 n2)), (3, .int x3')] → k17  s' n2 x1' x3' = some z → W p l e (rm_X6_isWord) sS m args below meth c H locs 0 0 (MQ below (xQ G W0 (cells6 G ad s') (some (.int z))) args sS 0 0 (x_in W0)) (F0 m 17 ls [])) : ∀ (s' : S6) (x1' : Int32) (x3' : Int32) (z : Int32) {H : Heap} {locs : List Loc} {ls : Array Slot}, xW G (x_in W0) sS.heap (cells6 G ad s') H locs → lv_has ls 4 [(0, .ref (ad 0)), (1, .int x1'), (2, .ref (G.2.2.1 n2)), (3, .int x3')] → f_X6_isWord_p17 k17 s' n2 x1' x3' = some z → W p l e (rm_X6_isWord) sS m args below meth c H locs 0 0 (MQ below (xQ G W0 (cells6 G ad s') (some (.int z))) args sS 0 0 (x_in W0)) (F0 m 17 ls []) := by
  intro s x1 x3 z H locs ls hw hl hf
  unfold f_X6_isWord_p17 at hf
  refine lv_iload_n (pc := 17) E.1 E.2.1 dX6_isWord_17 rfl (lv_at hl 3 rfl) ?_
  refine lv_aload_n (pc := 18) E.1 E.2.1 dX6_isWord_18 rfl (lv_at hl 2 rfl) ?_
  obtain ⟨v1, g2, hf⟩ := x_bind hf
  refine x_slenR_X6 (pc := 19) E hw hl g2 (Nat.le_of_ble_eq_true rfl) (Nat.le_of_ble_eq_true rfl) (Nat.le_of_ble_eq_true rfl) dX6_isWord_19 (fun H locs hw => ?_)
  refine lv_icmp_ge (tgt := 48) (pc := 22) E.1 E.2.1 dX6_isWord_22 (by decide) (fun q3 => ?_) (fun q3 => ?_)
  · have hf := x_pos q3 hf
    refine lv_iconst (v := 1) (pc := 48) E.1 E.2.1 dX6_isWord_48 (by decide) ?_
    obtain rfl := Option.some.inj hf
    exact x_retz (pc := 49) (v := 1) (r := 1) E hr hk hw (by decide) dX6_isWord_49
  · have hf := x_neg q3 hf
    refine lv_aload_n (pc := 25) E.1 E.2.1 dX6_isWord_25 rfl (lv_at hl 0 rfl) ?_
    refine lv_iload_n (pc := 26) E.1 E.2.1 dX6_isWord_26 rfl (lv_at hl 1 rfl) ?_
    refine lv_iload_n (pc := 27) E.1 E.2.1 dX6_isWord_27 rfl (lv_at hl 3 rfl) ?_
    refine lv_iadd (pc := 28) E.1 E.2.1 dX6_isWord_28 ?_
    obtain ⟨v4, g5, hf⟩ := x_bind hf
    refine x_callVA (pc := 29) (As := [.int (x1 + x3)]) (rest := []) (st1 := [.int v4]) (ws' := (cells6 G ad s)) E hw hl (c_X6_byteAt l G ad s (x1 + x3) g5) xv_X6_86 xd_X6_byteAt rfl rfl ⟨Nat.le_of_ble_eq_true rfl, Nat.le_of_ble_eq_true rfl⟩ (q0 := 0) rfl rfl rfl rfl (Nat.le_of_ble_eq_true rfl) rfl dX6_isWord_29 (fun H locs hw => ?_)
    refine lv_aload_n (pc := 32) E.1 E.2.1 dX6_isWord_32 rfl (lv_at hl 2 rfl) ?_
    refine lv_iload_n (pc := 33) E.1 E.2.1 dX6_isWord_33 rfl (lv_at hl 3 rfl) ?_
    obtain ⟨v6, g7, hf⟩ := x_bind hf
    refine x_schrR_X6 (pc := 34) E hw hl g7 (Nat.le_of_ble_eq_true rfl) (Nat.le_of_ble_eq_true rfl) (Nat.le_of_ble_eq_true rfl) dX6_isWord_34 (fun H locs hw => ?_)
    refine lv_icmp_eq (tgt := 42) (pc := 37) E.1 E.2.1 dX6_isWord_37 (by decide) (fun q8 => ?_) (fun q8 => ?_)
    · have hf := x_pos q8 hf
      refine lv_iinc (v := (x3 + 1)) (lv' := [(3, .int (x3 + 1)), (0, .ref (ad 0)), (1, .int x1), (2, .ref (G.2.2.1 n2))]) (pc := 42) E.1 E.2.1 dX6_isWord_42 hl (k := 3) rfl rfl (by decide) rfl (fun ls hl => ?_)
      refine lv_goto (tgt := 17) (pc := 45) E.1 E.2.1 dX6_isWord_45 (by decide) ?_
      exact hk17 s x1 (x3 + 1) z hw (lv_sub hl [1, 2, 3, 0] rfl) hf
    · have hf := x_neg q8 hf
      refine lv_iconst (v := 0) (pc := 40) E.1 E.2.1 dX6_isWord_40 (by decide) ?_
      obtain rfl := Option.some.inj hf
      exact x_retz (pc := 41) (v := 0) (r := 0) E hr hk hw (by decide) dX6_isWord_41
set_option maxHeartbeats 4000000 in
set_option maxRecDepth 100000 in
theorem wl_X6_isWord_p17 {p : Program} {l : Launch} {e : Env} {sS : State} {m : MethodId} {args : Array Value} {below : List Frame} {meth : Method} {c : Code} {G : xG} {W0 : va_W} {ad : Nat → Nat} {n2 : Nat}  (E : xE p sS m args c cX6_isWord 4 RX6 G (x_in W0)) (hr : meth.sig.returnType = (some .boolean)) (hk : meth.locks = false)  : ∀ (s' : S6) (x1' : Int32) (x3' : Int32) (z : Int32) {H : Heap} {locs : List Loc} {ls : Array Slot}, xW G (x_in W0) sS.heap (cells6 G ad s') H locs → lv_has ls 4 [(0, .ref (ad 0)), (1, .int x1'), (2, .ref (G.2.2.1 n2)), (3, .int x3')] → lp_X6_isWord_p17  s' n2 x1' x3' = some z → W p l e (rm_X6_isWord) sS m args below meth c H locs 0 0 (MQ below (xQ G W0 (cells6 G ad s') (some (.int z))) args sS 0 0 (x_in W0)) (F0 m 17 ls []) := by
  intro s x1 x3 z H locs ls hw hl hf
  exact x_loop_W (P := fun (q : S6 × Int32 × Int32) (z : Int32) => ∀ {H : Heap} {locs : List Loc} {ls : Array Slot}, xW G (x_in W0) sS.heap (cells6 G ad q.1) H locs → lv_has ls 4 [(0, .ref (ad 0)), (1, .int q.2.1), (2, .ref (G.2.2.1 n2)), (3, .int q.2.2)] → W p l e (rm_X6_isWord) sS m args below meth c H locs 0 0 (MQ below (xQ G W0 (cells6 G ad q.1) (some (.int z))) args sS 0 0 (x_in W0)) (F0 m 17 ls [])) (fun k hkk q z hf H locs ls hw hl => w_X6_isWord_p17 E hr hk  (fun s x1 x3 z H locs ls hw hl hf => hkk (s, x1, x3) z hf hw hl) q.1 q.2.1 q.2.2 z hw hl hf) FU (s, x1, x3) z hf hw hl
set_option maxHeartbeats 4000000 in
set_option maxRecDepth 100000 in
theorem w_X6_isWord_p0 {p : Program} {l : Launch} {e : Env} {sS : State} {m : MethodId} {args : Array Value} {below : List Frame} {meth : Method} {c : Code} {G : xG} {W0 : va_W} {ad : Nat → Nat} {n2 : Nat}  (E : xE p sS m args c cX6_isWord 4 RX6 G (x_in W0)) (hr : meth.sig.returnType = (some .boolean)) (hk : meth.locks = false)  : ∀ (s' : S6) (x1' : Int32) (z : Int32) {H : Heap} {locs : List Loc} {ls : Array Slot}, xW G (x_in W0) sS.heap (cells6 G ad s') H locs → lv_has ls 4 [(0, .ref (ad 0)), (1, .int x1'), (2, .ref (G.2.2.1 n2))] → f_X6_isWord  s' n2 x1' = some z → W p l e (rm_X6_isWord) sS m args below meth c H locs 0 0 (MQ below (xQ G W0 (cells6 G ad s') (some (.int z))) args sS 0 0 (x_in W0)) (F0 m 0 ls []) := by
  intro s x1 z H locs ls hw hl hf
  unfold f_X6_isWord at hf
  refine lv_aload_n (pc := 0) E.1 E.2.1 dX6_isWord_0 rfl (lv_at hl 0 rfl) ?_
  refine xg_X6_28 (pc := 1) (v := .int (g6_at s)) E hw 0 rfl rfl dX6_isWord_1 ?_
  refine lv_iload_n (pc := 4) E.1 E.2.1 dX6_isWord_4 rfl (lv_at hl 1 rfl) ?_
  refine lv_isub (pc := 5) E.1 E.2.1 dX6_isWord_5 ?_
  refine lv_aload_n (pc := 6) E.1 E.2.1 dX6_isWord_6 rfl (lv_at hl 2 rfl) ?_
  obtain ⟨v1, g2, hf⟩ := x_bind hf
  refine x_slenR_X6 (pc := 7) E hw hl g2 (Nat.le_of_ble_eq_true rfl) (Nat.le_of_ble_eq_true rfl) (Nat.le_of_ble_eq_true rfl) dX6_isWord_7 (fun H locs hw => ?_)
  refine lv_icmp_eq (tgt := 15) (pc := 10) E.1 E.2.1 dX6_isWord_10 (by decide) (fun q3 => ?_) (fun q3 => ?_)
  · have hf := x_pos q3 hf
    refine lv_iconst (v := 0) (pc := 15) E.1 E.2.1 dX6_isWord_15 (by decide) ?_
    refine lv_istore_n (lv' := [(3, .int 0), (0, .ref (ad 0)), (1, .int x1), (2, .ref (G.2.2.1 n2))]) (pc := 16) E.1 E.2.1 dX6_isWord_16 rfl hl (by decide) rfl (fun ls hl => ?_)
    exact wl_X6_isWord_p17 E hr hk  s x1 0 z hw (lv_sub hl [1, 2, 3, 0] rfl) hf
  · have hf := x_neg q3 hf
    refine lv_iconst (v := 0) (pc := 13) E.1 E.2.1 dX6_isWord_13 (by decide) ?_
    obtain rfl := Option.some.inj hf
    exact x_retz (pc := 14) (v := 0) (r := 0) E hr hk hw (by decide) dX6_isWord_14
set_option maxHeartbeats 4000000 in
set_option maxRecDepth 100000 in
theorem c_X6_isWord (l : Launch) (G : xG) (ad : Nat → Nat) (s : S6) (n2 : Nat) (x1 : Int32) {z : Int32} (hf : f_X6_isWord s n2 x1 = some z) : xC l yX6_isWord cX6_isWord 4 (some .boolean) (rm_X6_isWord) G [.ref (ad 0), .int x1, .ref (G.2.2.1 n2)] (cells6 G ad s) (some (.int z)) (cells6 G ad s) :=
  x_met (by decide) rfl (Nat.le_of_ble_eq_true rfl) (fun p e sS m below meth c E hr hk ls hl hw => w_X6_isWord_p0 E hr hk s x1 z hw hl hf)
set_option maxHeartbeats 4000000 in
set_option maxRecDepth 100000 in
theorem w_X6_isDigit_p0 {p : Program} {l : Launch} {e : Env} {sS : State} {m : MethodId} {args : Array Value} {below : List Frame} {meth : Method} {c : Code} {G : xG} {W0 : va_W}    (E : xE p sS m args c cX6_isDigit 1 RX6 G (x_in W0)) (hr : meth.sig.returnType = (some .boolean)) (hk : meth.locks = false)  : ∀ (x0' : Int32) (z : Int32) {H : Heap} {locs : List Loc} {ls : Array Slot}, xW G (x_in W0) sS.heap [] H locs → lv_has ls 1 [(0, .int x0')] → f_X6_isDigit  x0' = some z → W p l e (rm_X6_isDigit) sS m args below meth c H locs 0 0 (MQ below (xQ G W0 [] (some (.int z))) args sS 0 0 (x_in W0)) (F0 m 0 ls []) := by
  intro x0 z H locs ls hw hl hf
  unfold f_X6_isDigit at hf
  refine lv_iload_n (pc := 0) E.1 E.2.1 dX6_isDigit_0 rfl (lv_at hl 0 rfl) ?_
  refine lv_bipush (v := 48) (pc := 1) E.1 E.2.1 dX6_isDigit_1 (by decide) ?_
  refine lv_icmp_lt (tgt := 16) (pc := 3) E.1 E.2.1 dX6_isDigit_3 (by decide) (fun q1 => ?_) (fun q1 => ?_)
  · have hf := x_pos q1 hf
    refine lv_iconst (v := 0) (pc := 16) E.1 E.2.1 dX6_isDigit_16 (by decide) ?_
    obtain rfl := Option.some.inj hf
    exact x_retz (pc := 17) (v := 0) (r := 0) E hr hk hw (by decide) dX6_isDigit_17
  · have hf := x_neg q1 hf
    refine lv_iload_n (pc := 6) E.1 E.2.1 dX6_isDigit_6 rfl (lv_at hl 0 rfl) ?_
    refine lv_bipush (v := 57) (pc := 7) E.1 E.2.1 dX6_isDigit_7 (by decide) ?_
    refine lv_icmp_gt (tgt := 16) (pc := 9) E.1 E.2.1 dX6_isDigit_9 (by decide) (fun q2 => ?_) (fun q2 => ?_)
    · have hf := x_pos q2 hf
      refine lv_iconst (v := 0) (pc := 16) E.1 E.2.1 dX6_isDigit_16 (by decide) ?_
      obtain rfl := Option.some.inj hf
      exact x_retz (pc := 17) (v := 0) (r := 0) E hr hk hw (by decide) dX6_isDigit_17
    · have hf := x_neg q2 hf
      refine lv_iconst (v := 1) (pc := 12) E.1 E.2.1 dX6_isDigit_12 (by decide) ?_
      refine lv_goto (tgt := 17) (pc := 13) E.1 E.2.1 dX6_isDigit_13 (by decide) ?_
      obtain rfl := Option.some.inj hf
      exact x_retz (pc := 17) (v := 1) (r := 1) E hr hk hw (by decide) dX6_isDigit_17
set_option maxHeartbeats 4000000 in
set_option maxRecDepth 100000 in
theorem c_X6_isDigit (l : Launch) (G : xG)  (x0 : Int32) {z : Int32} (hf : f_X6_isDigit x0 = some z) : xC l yX6_isDigit cX6_isDigit 1 (some .boolean) (rm_X6_isDigit) G [.int x0] [] (some (.int z)) [] :=
  x_met (by decide) rfl (Nat.le_of_ble_eq_true rfl) (fun p e sS m below meth c E hr hk ls hl hw => w_X6_isDigit_p0 E hr hk x0 z hw hl hf)
set_option maxHeartbeats 4000000 in
set_option maxRecDepth 100000 in
theorem w_X6_failAt_p0 {p : Program} {l : Launch} {e : Env} {sS : State} {m : MethodId} {args : Array Value} {below : List Frame} {meth : Method} {c : Code} {G : xG} {W0 : va_W} {ad : Nat → Nat}   (E : xE p sS m args c cX6_failAt 2 RX6 G (x_in W0)) (hr : meth.sig.returnType = none) (hk : meth.locks = false)  : ∀ (s' : S6) (x1' : Int32) (z : S6) {H : Heap} {locs : List Loc} {ls : Array Slot}, xW G (x_in W0) sS.heap (cells6 G ad s') H locs → lv_has ls 2 [(0, .ref (ad 0)), (1, .int x1')] → f_X6_failAt  s' x1' = some z → W p l e (rm_X6_failAt) sS m args below meth c H locs 0 0 (MQ below (xQ G W0 (cells6 G ad z) none) args sS 0 0 (x_in W0)) (F0 m 0 ls []) := by
  intro s x1 z H locs ls hw hl hf
  unfold f_X6_failAt at hf
  refine lv_aload_n (pc := 0) E.1 E.2.1 dX6_failAt_0 rfl (lv_at hl 0 rfl) ?_
  refine xg_X6_31 (pc := 1) (v := .int (g6_fault s)) E hw 0 rfl rfl dX6_failAt_1 ?_
  refine lv_iconst (v := (-1)) (pc := 4) E.1 E.2.1 dX6_failAt_4 (by decide) ?_
  refine lv_icmp_ne (tgt := 13) (pc := 5) E.1 E.2.1 dX6_failAt_5 (by decide) (fun q1 => ?_) (fun q1 => ?_)
  · have hf := x_neg q1 hf
    obtain rfl := Option.some.inj hf
    exact x_retv (pc := 13) E hr hk hw dX6_failAt_13
  · have hf := x_pos q1 hf
    refine lv_aload_n (pc := 8) E.1 E.2.1 dX6_failAt_8 rfl (lv_at hl 0 rfl) ?_
    refine lv_iload_n (pc := 9) E.1 E.2.1 dX6_failAt_9 rfl (lv_at hl 1 rfl) ?_
    refine xp_X6_31 (pc := 10) (v := .int x1) (ws' := (cells6c G ad (g6_bytes s) (g6_size s) (g6_at s) x1 (g6_begin s))) E hw 0 rfl rfl rfl (Nat.le_of_ble_eq_true rfl) rfl dX6_failAt_10 (fun H locs hw => ?_)
    obtain rfl := Option.some.inj hf
    exact x_retv (pc := 13) E hr hk hw dX6_failAt_13
set_option maxHeartbeats 4000000 in
set_option maxRecDepth 100000 in
theorem c_X6_failAt (l : Launch) (G : xG) (ad : Nat → Nat) (s : S6) (x1 : Int32) {z : S6} (hf : f_X6_failAt s x1 = some z) : xC l yX6_failAt cX6_failAt 2 none (rm_X6_failAt) G [.ref (ad 0), .int x1] (cells6 G ad s) none (cells6 G ad z) :=
  x_met (by decide) rfl (Nat.le_of_ble_eq_true rfl) (fun p e sS m below meth c E hr hk ls hl hw => w_X6_failAt_p0 E hr hk s x1 z hw hl hf)
set_option maxHeartbeats 4000000 in
set_option maxRecDepth 100000 in
theorem w_X6_readWord_p86 {p : Program} {l : Launch} {e : Env} {sS : State} {m : MethodId} {args : Array Value} {below : List Frame} {meth : Method} {c : Code} {G : xG} {W0 : va_W} {ad : Nat → Nat} {ae : Nat → Nat}   (E : xE p sS m args c cX6_readWord 4 RX6 G (x_in W0)) (hr : meth.sig.returnType = (some .int)) (hk : meth.locks = false)  : ∀ (s' : S6) (q' : S0) (x2' : Int32) (x3' : Int32) (z : Int32 × S6) {H : Heap} {locs : List Loc} {ls : Array Slot}, xW G (x_in W0) sS.heap (cells6 G ad s' ++ cells0 G ae q') H locs → lv_has ls 4 [(0, .ref (ad 0)), (2, .int x2'), (3, .int x3')] → f_X6_readWord_p86  s' q' x2' x3' = some z → W p l e (rm_X6_readWord) sS m args below meth c H locs 0 0 (MQ below (xQ G W0 (cells6 G ad z.2 ++ cells0 G ae q') (some (.int z.1))) args sS 0 0 (x_in W0)) (F0 m 86 ls []) := by
  intro s q x2 x3 z H locs ls hw hl hf
  unfold f_X6_readWord_p86 at hf
  refine lv_iload_n (pc := 86) E.1 E.2.1 dX6_readWord_86 rfl (lv_at hl 2 rfl) ?_
  refine lv_iconst (v := (-1)) (pc := 87) E.1 E.2.1 dX6_readWord_87 (by decide) ?_
  refine lv_icmp_ne (tgt := 99) (pc := 88) E.1 E.2.1 dX6_readWord_88 (by decide) (fun q1 => ?_) (fun q1 => ?_)
  · have hf := x_neg q1 hf
    refine lv_aload_n (pc := 99) E.1 E.2.1 dX6_readWord_99 rfl (lv_at hl 0 rfl) ?_
    refine lv_aload_n (pc := 100) E.1 E.2.1 dX6_readWord_100 rfl (lv_at hl 0 rfl) ?_
    refine xg_X6_28 (pc := 101) (v := .int (g6_at s)) E hw 0 rfl rfl dX6_readWord_101 ?_
    obtain ⟨v2, g3, hf⟩ := x_bind hf
    refine x_callV (pc := 104) (As := [.int (g6_at s)]) (rest := []) (st1 := [.int v2]) (ws' := (cells6 G ad s ++ cells0 G ae q)) E hw hl (c_X6_byteAt l G ad s (g6_at s) g3) xv_X6_86 xd_X6_byteAt rfl rfl ⟨Nat.le_of_ble_eq_true rfl, Nat.le_of_ble_eq_true rfl⟩ [0, 1] [2, 3, 4, 5] (by decide) ⟨rfl, rfl, trivial⟩ (q0 := 0) rfl rfl rfl rfl (Nat.le_of_ble_eq_true rfl) (nw := 6) ⟨rfl, rfl, trivial⟩ ⟨⟨_, rfl, rfl⟩, ⟨_, rfl, rfl⟩, ⟨_, rfl, rfl⟩, ⟨_, rfl, rfl⟩, trivial⟩ rfl rfl (by decide) (by decide) rfl dX6_readWord_104 (fun H locs hw => ?_)
    obtain ⟨v4, g5, hf⟩ := x_bind hf
    refine x_callS0 (pc := 107) (As := [.int v2]) (rest := []) (st1 := [.int v4]) E hw hl (c_X6_isDigit l G  v2 g5) xs_X6_90 xd_X6_isDigit rfl rfl ⟨Nat.le_of_ble_eq_true rfl, Nat.le_of_ble_eq_true rfl⟩ rfl rfl (Nat.le_of_ble_eq_true rfl) rfl dX6_readWord_107 (fun H locs hw => ?_)
    refine lv_if_eq (tgt := 121) (pc := 110) E.1 E.2.1 dX6_readWord_110 (by decide) (fun q6 => ?_) (fun q6 => ?_)
    · have hf := x_pos q6 hf
      refine lv_iload_n (pc := 121) E.1 E.2.1 dX6_readWord_121 rfl (lv_at hl 2 rfl) ?_
      obtain rfl := Option.some.inj hf
      exact x_reti (pc := 122) E hr hk hw dX6_readWord_122
    · have hf := x_neg q6 hf
      refine lv_aload_n (pc := 113) E.1 E.2.1 dX6_readWord_113 rfl (lv_at hl 0 rfl) ?_
      refine lv_aload_n (pc := 114) E.1 E.2.1 dX6_readWord_114 rfl (lv_at hl 0 rfl) ?_
      refine xg_X6_28 (pc := 115) (v := .int (g6_at s)) E hw 0 rfl rfl dX6_readWord_115 ?_
      obtain ⟨v7, g8, hf⟩ := x_bind hf
      refine x_callV (pc := 118) (As := [.int (g6_at s)]) (rest := []) (st1 := []) (ws' := (cells6 G ad v7 ++ cells0 G ae q)) E hw hl (c_X6_failAt l G ad s (g6_at s) g8) xv_X6_83 xd_X6_failAt rfl rfl ⟨Nat.le_of_ble_eq_true rfl, Nat.le_of_ble_eq_true rfl⟩ [0, 1] [2, 3, 4, 5] (by decide) ⟨rfl, rfl, trivial⟩ (q0 := 0) rfl rfl rfl rfl (Nat.le_of_ble_eq_true rfl) (nw := 6) ⟨rfl, rfl, trivial⟩ ⟨⟨_, rfl, rfl⟩, ⟨_, rfl, rfl⟩, ⟨_, rfl, rfl⟩, ⟨_, rfl, rfl⟩, trivial⟩ rfl rfl (by decide) (by decide) rfl dX6_readWord_118 (fun H locs hw => ?_)
      refine lv_iload_n (pc := 121) E.1 E.2.1 dX6_readWord_121 rfl (lv_at hl 2 rfl) ?_
      obtain rfl := Option.some.inj hf
      exact x_reti (pc := 122) E hr hk hw dX6_readWord_122
  · have hf := x_pos q1 hf
    refine lv_aload_n (pc := 91) E.1 E.2.1 dX6_readWord_91 rfl (lv_at hl 0 rfl) ?_
    refine lv_iload_n (pc := 92) E.1 E.2.1 dX6_readWord_92 rfl (lv_at hl 1 rfl) ?_
    obtain ⟨v9, g10, hf⟩ := x_bind hf
    refine x_callV (pc := 93) (As := [.int x2]) (rest := []) (st1 := []) (ws' := (cells6 G ad v9 ++ cells0 G ae q)) E hw hl (c_X6_failAt l G ad s x2 g10) xv_X6_83 xd_X6_failAt rfl rfl ⟨Nat.le_of_ble_eq_true rfl, Nat.le_of_ble_eq_true rfl⟩ [0, 1] [2, 3, 4, 5] (by decide) ⟨rfl, rfl, trivial⟩ (q0 := 0) rfl rfl rfl rfl (Nat.le_of_ble_eq_true rfl) (nw := 6) ⟨rfl, rfl, trivial⟩ ⟨⟨_, rfl, rfl⟩, ⟨_, rfl, rfl⟩, ⟨_, rfl, rfl⟩, ⟨_, rfl, rfl⟩, trivial⟩ rfl rfl (by decide) (by decide) rfl dX6_readWord_93 (fun H locs hw => ?_)
    refine lv_goto (tgt := 121) (pc := 96) E.1 E.2.1 dX6_readWord_96 (by decide) ?_
    refine lv_iload_n (pc := 121) E.1 E.2.1 dX6_readWord_121 rfl (lv_at hl 2 rfl) ?_
    obtain rfl := Option.some.inj hf
    exact x_reti (pc := 122) E hr hk hw dX6_readWord_122
set_option maxHeartbeats 4000000 in
set_option maxRecDepth 100000 in
theorem w_X6_readWord_p65 {p : Program} {l : Launch} {e : Env} {sS : State} {m : MethodId} {args : Array Value} {below : List Frame} {meth : Method} {c : Code} {G : xG} {W0 : va_W} {ad : Nat → Nat} {ae : Nat → Nat}   (E : xE p sS m args c cX6_readWord 4 RX6 G (x_in W0)) (hr : meth.sig.returnType = (some .int)) (hk : meth.locks = false)  : ∀ (s' : S6) (q' : S0) (x2' : Int32) (x3' : Int32) (z : Int32 × S6) {H : Heap} {locs : List Loc} {ls : Array Slot}, xW G (x_in W0) sS.heap (cells6 G ad s' ++ cells0 G ae q') H locs → lv_has ls 4 [(0, .ref (ad 0)), (1, .ref (ae 0)), (2, .int x2'), (3, .int x3')] → f_X6_readWord_p65  s' q' x2' x3' = some z → W p l e (rm_X6_readWord) sS m args below meth c H locs 0 0 (MQ below (xQ G W0 (cells6 G ad z.2 ++ cells0 G ae q') (some (.int z.1))) args sS 0 0 (x_in W0)) (F0 m 65 ls []) := by
  intro s q x2 x3 z H locs ls hw hl hf
  unfold f_X6_readWord_p65 at hf
  refine lv_aload_n (pc := 65) E.1 E.2.1 dX6_readWord_65 rfl (lv_at hl 0 rfl) ?_
  refine lv_iload_n (pc := 66) E.1 E.2.1 dX6_readWord_66 rfl (lv_at hl 2 rfl) ?_
  refine x_ldcSg (pc := 67) E E.2.2.2.2.2.2.2.1.2.2.2.2.2.2.2.2.2.2.2 dX6_readWord_67 ?_
  obtain ⟨v1, g2, hf⟩ := x_bind hf
  refine x_callV (pc := 69) (As := [.int x2, .ref (G.2.2.1 7)]) (rest := []) (st1 := [.int v1]) (ws' := (cells6 G ad s ++ cells0 G ae q)) E hw hl (c_X6_isWord l G ad s 7 x2 g2) xv_X6_68 xd_X6_isWord rfl rfl ⟨Nat.le_of_ble_eq_true rfl, Nat.le_of_ble_eq_true rfl⟩ [0, 1] [2, 3, 4, 5] (by decide) ⟨rfl, rfl, trivial⟩ (q0 := 0) rfl rfl rfl rfl (Nat.le_of_ble_eq_true rfl) (nw := 6) ⟨rfl, rfl, trivial⟩ ⟨⟨_, rfl, rfl⟩, ⟨_, rfl, rfl⟩, ⟨_, rfl, rfl⟩, ⟨_, rfl, rfl⟩, trivial⟩ rfl rfl (by decide) (by decide) rfl dX6_readWord_69 (fun H locs hw => ?_)
  refine lv_if_eq (tgt := 86) (pc := 72) E.1 E.2.1 dX6_readWord_72 (by decide) (fun q3 => ?_) (fun q3 => ?_)
  · have hf := x_pos q3 hf
    exact w_X6_readWord_p86 E hr hk  s q x2 x3 z hw (lv_sub hl [0, 2, 3] rfl) hf
  · have hf := x_neg q3 hf
    refine lv_aload_n (pc := 75) E.1 E.2.1 dX6_readWord_75 rfl (lv_at hl 1 rfl) ?_
    refine xg_X6_80 (pc := 76) (v := .int (g0_claims q)) E hw 2 rfl rfl dX6_readWord_76 ?_
    refine lv_bipush (v := 40) (pc := 79) E.1 E.2.1 dX6_readWord_79 (by decide) ?_
    refine lv_icmp_ge (tgt := 86) (pc := 81) E.1 E.2.1 dX6_readWord_81 (by decide) (fun q4 => ?_) (fun q4 => ?_)
    · have hf := x_pos q4 hf
      exact w_X6_readWord_p86 E hr hk  s q x2 x3 z hw (lv_sub hl [0, 2, 3] rfl) hf
    · have hf := x_neg q4 hf
      refine lv_iconst (v := 3) (pc := 84) E.1 E.2.1 dX6_readWord_84 (by decide) ?_
      refine lv_istore_n (lv' := [(3, .int 3), (0, .ref (ad 0)), (1, .ref (ae 0)), (2, .int x2)]) (pc := 85) E.1 E.2.1 dX6_readWord_85 rfl hl (by decide) rfl (fun ls hl => ?_)
      exact w_X6_readWord_p86 E hr hk  s q x2 3 z hw (lv_sub hl [1, 3, 0] rfl) hf
set_option maxHeartbeats 4000000 in
set_option maxRecDepth 100000 in
theorem w_X6_readWord_p0 {p : Program} {l : Launch} {e : Env} {sS : State} {m : MethodId} {args : Array Value} {below : List Frame} {meth : Method} {c : Code} {G : xG} {W0 : va_W} {ad : Nat → Nat} {ae : Nat → Nat}   (E : xE p sS m args c cX6_readWord 4 RX6 G (x_in W0)) (hr : meth.sig.returnType = (some .int)) (hk : meth.locks = false)  : ∀ (s' : S6) (q' : S0) (z : Int32 × S6) {H : Heap} {locs : List Loc} {ls : Array Slot}, xW G (x_in W0) sS.heap (cells6 G ad s' ++ cells0 G ae q') H locs → lv_has ls 4 [(0, .ref (ad 0)), (1, .ref (ae 0))] → f_X6_readWord  s' q' = some z → W p l e (rm_X6_readWord) sS m args below meth c H locs 0 0 (MQ below (xQ G W0 (cells6 G ad z.2 ++ cells0 G ae q') (some (.int z.1))) args sS 0 0 (x_in W0)) (F0 m 0 ls []) := by
  intro s q z H locs ls hw hl hf
  unfold f_X6_readWord at hf
  refine lv_aload_n (pc := 0) E.1 E.2.1 dX6_readWord_0 rfl (lv_at hl 0 rfl) ?_
  refine xg_X6_28 (pc := 1) (v := .int (g6_at s)) E hw 0 rfl rfl dX6_readWord_1 ?_
  refine lv_istore_n (lv' := [(2, .int (g6_at s)), (0, .ref (ad 0)), (1, .ref (ae 0))]) (pc := 4) E.1 E.2.1 dX6_readWord_4 rfl hl (by decide) rfl (fun ls hl => ?_)
  refine lv_aload_n (pc := 5) E.1 E.2.1 dX6_readWord_5 rfl (lv_at hl 1 rfl) ?_
  obtain ⟨v1, g2, hf⟩ := x_bind hf
  refine x_callV (pc := 6) (As := []) (rest := []) (st1 := []) (ws' := (cells6 G ad v1 ++ cells0 G ae q)) E hw hl (c_X6_skipLetters l G ad s g2) xv_X6_64 xd_X6_skipLetters rfl rfl ⟨Nat.le_of_ble_eq_true rfl, Nat.le_of_ble_eq_true rfl⟩ [0, 1] [2, 3, 4, 5] (by decide) ⟨rfl, rfl, trivial⟩ (q0 := 0) rfl rfl rfl rfl (Nat.le_of_ble_eq_true rfl) (nw := 6) ⟨rfl, rfl, trivial⟩ ⟨⟨_, rfl, rfl⟩, ⟨_, rfl, rfl⟩, ⟨_, rfl, rfl⟩, ⟨_, rfl, rfl⟩, trivial⟩ rfl rfl (by decide) (by decide) rfl dX6_readWord_6 (fun H locs hw => ?_)
  refine lv_iconst (v := (-1)) (pc := 9) E.1 E.2.1 dX6_readWord_9 (by decide) ?_
  refine lv_istore_n (lv' := [(3, .int (-1)), (2, .int (g6_at s)), (0, .ref (ad 0)), (1, .ref (ae 0))]) (pc := 10) E.1 E.2.1 dX6_readWord_10 rfl hl (by decide) rfl (fun ls hl => ?_)
  refine lv_aload_n (pc := 11) E.1 E.2.1 dX6_readWord_11 rfl (lv_at hl 2 rfl) ?_
  refine lv_iload_n (pc := 12) E.1 E.2.1 dX6_readWord_12 rfl (lv_at hl 1 rfl) ?_
  refine x_ldcSg (pc := 13) E E.2.2.2.2.2.2.2.1.2.2.2.2.2.2.2.2.1 dX6_readWord_13 ?_
  obtain ⟨v3, g4, hf⟩ := x_bind hf
  refine x_callV (pc := 15) (As := [.int (g6_at s), .ref (G.2.2.1 5)]) (rest := []) (st1 := [.int v3]) (ws' := (cells6 G ad v1 ++ cells0 G ae q)) E hw hl (c_X6_isWord l G ad v1 5 (g6_at s) g4) xv_X6_68 xd_X6_isWord rfl rfl ⟨Nat.le_of_ble_eq_true rfl, Nat.le_of_ble_eq_true rfl⟩ [0, 1] [2, 3, 4, 5] (by decide) ⟨rfl, rfl, trivial⟩ (q0 := 0) rfl rfl rfl rfl (Nat.le_of_ble_eq_true rfl) (nw := 6) ⟨rfl, rfl, trivial⟩ ⟨⟨_, rfl, rfl⟩, ⟨_, rfl, rfl⟩, ⟨_, rfl, rfl⟩, ⟨_, rfl, rfl⟩, trivial⟩ rfl rfl (by decide) (by decide) rfl dX6_readWord_15 (fun H locs hw => ?_)
  refine lv_if_eq (tgt := 26) (pc := 18) E.1 E.2.1 dX6_readWord_18 (by decide) (fun q5 => ?_) (fun q5 => ?_)
  · have hf := x_pos q5 hf
    refine lv_aload_n (pc := 26) E.1 E.2.1 dX6_readWord_26 rfl (lv_at hl 2 rfl) ?_
    refine lv_iload_n (pc := 27) E.1 E.2.1 dX6_readWord_27 rfl (lv_at hl 1 rfl) ?_
    refine x_ldcSg (pc := 28) E E.2.2.2.2.2.2.2.1.2.2.2.2.2.2.2.2.2.1 dX6_readWord_28 ?_
    obtain ⟨v6, g7, hf⟩ := x_bind hf
    refine x_callV (pc := 30) (As := [.int (g6_at s), .ref (G.2.2.1 6)]) (rest := []) (st1 := [.int v6]) (ws' := (cells6 G ad v1 ++ cells0 G ae q)) E hw hl (c_X6_isWord l G ad v1 6 (g6_at s) g7) xv_X6_68 xd_X6_isWord rfl rfl ⟨Nat.le_of_ble_eq_true rfl, Nat.le_of_ble_eq_true rfl⟩ [0, 1] [2, 3, 4, 5] (by decide) ⟨rfl, rfl, trivial⟩ (q0 := 0) rfl rfl rfl rfl (Nat.le_of_ble_eq_true rfl) (nw := 6) ⟨rfl, rfl, trivial⟩ ⟨⟨_, rfl, rfl⟩, ⟨_, rfl, rfl⟩, ⟨_, rfl, rfl⟩, ⟨_, rfl, rfl⟩, trivial⟩ rfl rfl (by decide) (by decide) rfl dX6_readWord_30 (fun H locs hw => ?_)
    refine lv_if_eq (tgt := 41) (pc := 33) E.1 E.2.1 dX6_readWord_33 (by decide) (fun q8 => ?_) (fun q8 => ?_)
    · have hf := x_pos q8 hf
      refine lv_aload_n (pc := 41) E.1 E.2.1 dX6_readWord_41 rfl (lv_at hl 2 rfl) ?_
      refine lv_iload_n (pc := 42) E.1 E.2.1 dX6_readWord_42 rfl (lv_at hl 1 rfl) ?_
      refine x_ldcSg (pc := 43) E E.2.2.2.2.2.2.2.1.2.2.2.2.2.2.2.2.2.2.1 dX6_readWord_43 ?_
      obtain ⟨v9, g10, hf⟩ := x_bind hf
      refine x_callV (pc := 45) (As := [.int (g6_at s), .ref (G.2.2.1 0)]) (rest := []) (st1 := [.int v9]) (ws' := (cells6 G ad v1 ++ cells0 G ae q)) E hw hl (c_X6_isWord l G ad v1 0 (g6_at s) g10) xv_X6_68 xd_X6_isWord rfl rfl ⟨Nat.le_of_ble_eq_true rfl, Nat.le_of_ble_eq_true rfl⟩ [0, 1] [2, 3, 4, 5] (by decide) ⟨rfl, rfl, trivial⟩ (q0 := 0) rfl rfl rfl rfl (Nat.le_of_ble_eq_true rfl) (nw := 6) ⟨rfl, rfl, trivial⟩ ⟨⟨_, rfl, rfl⟩, ⟨_, rfl, rfl⟩, ⟨_, rfl, rfl⟩, ⟨_, rfl, rfl⟩, trivial⟩ rfl rfl (by decide) (by decide) rfl dX6_readWord_45 (fun H locs hw => ?_)
      refine lv_if_eq (tgt := 65) (pc := 48) E.1 E.2.1 dX6_readWord_48 (by decide) (fun q11 => ?_) (fun q11 => ?_)
      · have hf := x_pos q11 hf
        exact w_X6_readWord_p65 E hr hk  v1 q (g6_at s) (-1) z hw (lv_sub hl [2, 3, 1, 0] rfl) hf
      · have hf := x_neg q11 hf
        refine lv_aload_n (pc := 51) E.1 E.2.1 dX6_readWord_51 rfl (lv_at hl 3 rfl) ?_
        refine xg_X6_75 (pc := 52) (v := .int (g0_fleets q)) E hw 2 rfl rfl dX6_readWord_52 ?_
        refine lv_bipush (v := 8) (pc := 55) E.1 E.2.1 dX6_readWord_55 (by decide) ?_
        refine lv_icmp_ge (tgt := 65) (pc := 57) E.1 E.2.1 dX6_readWord_57 (by decide) (fun q12 => ?_) (fun q12 => ?_)
        · have hf := x_pos q12 hf
          exact w_X6_readWord_p65 E hr hk  v1 q (g6_at s) (-1) z hw (lv_sub hl [2, 3, 1, 0] rfl) hf
        · have hf := x_neg q12 hf
          refine lv_iconst (v := 2) (pc := 60) E.1 E.2.1 dX6_readWord_60 (by decide) ?_
          refine lv_istore_n (lv' := [(3, .int 2), (2, .int (g6_at s)), (0, .ref (ad 0)), (1, .ref (ae 0))]) (pc := 61) E.1 E.2.1 dX6_readWord_61 rfl hl (by decide) rfl (fun ls hl => ?_)
          refine lv_goto (tgt := 86) (pc := 62) E.1 E.2.1 dX6_readWord_62 (by decide) ?_
          exact w_X6_readWord_p86 E hr hk  v1 q (g6_at s) 2 z hw (lv_sub hl [2, 1, 0] rfl) hf
    · have hf := x_neg q8 hf
      refine lv_iconst (v := 1) (pc := 36) E.1 E.2.1 dX6_readWord_36 (by decide) ?_
      refine lv_istore_n (lv' := [(3, .int 1), (2, .int (g6_at s)), (0, .ref (ad 0)), (1, .ref (ae 0))]) (pc := 37) E.1 E.2.1 dX6_readWord_37 rfl hl (by decide) rfl (fun ls hl => ?_)
      refine lv_goto (tgt := 86) (pc := 38) E.1 E.2.1 dX6_readWord_38 (by decide) ?_
      exact w_X6_readWord_p86 E hr hk  v1 q (g6_at s) 1 z hw (lv_sub hl [2, 1, 0] rfl) hf
  · have hf := x_neg q5 hf
    refine lv_iconst (v := 0) (pc := 21) E.1 E.2.1 dX6_readWord_21 (by decide) ?_
    refine lv_istore_n (lv' := [(3, .int 0), (2, .int (g6_at s)), (0, .ref (ad 0)), (1, .ref (ae 0))]) (pc := 22) E.1 E.2.1 dX6_readWord_22 rfl hl (by decide) rfl (fun ls hl => ?_)
    refine lv_goto (tgt := 86) (pc := 23) E.1 E.2.1 dX6_readWord_23 (by decide) ?_
    exact w_X6_readWord_p86 E hr hk  v1 q (g6_at s) 0 z hw (lv_sub hl [2, 1, 0] rfl) hf
set_option maxHeartbeats 4000000 in
set_option maxRecDepth 100000 in
theorem c_X6_readWord (l : Launch) (G : xG) (ad : Nat → Nat) (ae : Nat → Nat) (s : S6) (q : S0) {z : Int32 × S6} (hf : f_X6_readWord s q = some z) : xC l yX6_readWord cX6_readWord 4 (some .int) (rm_X6_readWord) G [.ref (ad 0), .ref (ae 0)] (cells6 G ad s ++ cells0 G ae q) (some (.int z.1)) (cells6 G ad z.2 ++ cells0 G ae q) :=
  x_met (by decide) rfl (Nat.le_of_ble_eq_true rfl) (fun p e sS m below meth c E hr hk ls hl hw => w_X6_readWord_p0 E hr hk s q z hw hl hf)
set_option maxHeartbeats 4000000 in
set_option maxRecDepth 100000 in
theorem w_X6_readNumber_p109 {p : Program} {l : Launch} {e : Env} {sS : State} {m : MethodId} {args : Array Value} {below : List Frame} {meth : Method} {c : Code} {G : xG} {W0 : va_W} {ad : Nat → Nat}   (E : xE p sS m args c cX6_readNumber 5 RX6 G (x_in W0)) (hr : meth.sig.returnType = (some .int)) (hk : meth.locks = false)  : ∀ (s' : S6) (x1' : Int32) (z : Int32 × S6) {H : Heap} {locs : List Loc} {ls : Array Slot}, xW G (x_in W0) sS.heap (cells6 G ad s') H locs → lv_has ls 5 [(0, .ref (ad 0)), (1, .int x1')] → f_X6_readNumber_p109  s' x1' = some z → W p l e (rm_X6_readNumber) sS m args below meth c H locs 0 0 (MQ below (xQ G W0 (cells6 G ad z.2) (some (.int z.1))) args sS 0 0 (x_in W0)) (F0 m 109 ls []) := by
  intro s x1 z H locs ls hw hl hf
  unfold f_X6_readNumber_p109 at hf
  refine lv_aload_n (pc := 109) E.1 E.2.1 dX6_readNumber_109 rfl (lv_at hl 0 rfl) ?_
  refine lv_aload_n (pc := 110) E.1 E.2.1 dX6_readNumber_110 rfl (lv_at hl 0 rfl) ?_
  refine xg_X6_105 (pc := 111) (v := .int (g6_begin s)) E hw 0 rfl rfl dX6_readNumber_111 ?_
  obtain ⟨v1, g2, hf⟩ := x_bind hf
  refine x_callVA (pc := 114) (As := [.int (g6_begin s)]) (rest := []) (st1 := []) (ws' := (cells6 G ad v1)) E hw hl (c_X6_failAt l G ad s (g6_begin s) g2) xv_X6_83 xd_X6_failAt rfl rfl ⟨Nat.le_of_ble_eq_true rfl, Nat.le_of_ble_eq_true rfl⟩ (q0 := 0) rfl rfl rfl rfl (Nat.le_of_ble_eq_true rfl) rfl dX6_readNumber_114 (fun H locs hw => ?_)
  refine lv_iload_n (pc := 117) E.1 E.2.1 dX6_readNumber_117 rfl (lv_at hl 1 rfl) ?_
  obtain rfl := Option.some.inj hf
  exact x_reti (pc := 118) E hr hk hw dX6_readNumber_118
set_option maxHeartbeats 4000000 in
set_option maxRecDepth 100000 in
theorem w_X6_readNumber_p76 {p : Program} {l : Launch} {e : Env} {sS : State} {m : MethodId} {args : Array Value} {below : List Frame} {meth : Method} {c : Code} {G : xG} {W0 : va_W} {ad : Nat → Nat}   (E : xE p sS m args c cX6_readNumber 5 RX6 G (x_in W0)) (hr : meth.sig.returnType = (some .int)) (hk : meth.locks = false)  : ∀ (s' : S6) (x1' : Int32) (x2' : Int32) (x3' : Int32) (z : Int32 × S6) {H : Heap} {locs : List Loc} {ls : Array Slot}, xW G (x_in W0) sS.heap (cells6 G ad s') H locs → lv_has ls 5 [(0, .ref (ad 0)), (1, .int x1'), (2, .int x2'), (3, .int x3')] → f_X6_readNumber_p76  s' x1' x2' x3' = some z → W p l e (rm_X6_readNumber) sS m args below meth c H locs 0 0 (MQ below (xQ G W0 (cells6 G ad z.2) (some (.int z.1))) args sS 0 0 (x_in W0)) (F0 m 76 ls []) := by
  intro s x1 x2 x3 z H locs ls hw hl hf
  unfold f_X6_readNumber_p76 at hf
  refine lv_aload_n (pc := 76) E.1 E.2.1 dX6_readNumber_76 rfl (lv_at hl 0 rfl) ?_
  refine xg_X6_28 (pc := 77) (v := .int (g6_at s)) E hw 0 rfl rfl dX6_readNumber_77 ?_
  refine lv_aload_n (pc := 80) E.1 E.2.1 dX6_readNumber_80 rfl (lv_at hl 0 rfl) ?_
  refine xg_X6_105 (pc := 81) (v := .int (g6_begin s)) E hw 0 rfl rfl dX6_readNumber_81 ?_
  refine lv_isub (pc := 84) E.1 E.2.1 dX6_readNumber_84 ?_
  refine lv_istore (lv' := [(4, .int ((g6_at s) - (g6_begin s))), (0, .ref (ad 0)), (1, .int x1), (2, .int x2), (3, .int x3)]) (pc := 85) E.1 E.2.1 dX6_readNumber_85 hl (by decide) rfl (fun ls hl => ?_)
  refine lv_iload (pc := 87) E.1 E.2.1 dX6_readNumber_87 (lv_at hl 0 rfl) ?_
  refine lv_iconst (v := 1) (pc := 89) E.1 E.2.1 dX6_readNumber_89 (by decide) ?_
  refine lv_icmp_lt (tgt := 109) (pc := 90) E.1 E.2.1 dX6_readNumber_90 (by decide) (fun q1 => ?_) (fun q1 => ?_)
  · have hf := x_pos q1 hf
    exact w_X6_readNumber_p109 E hr hk  s x1 z hw (lv_sub hl [1, 2] rfl) hf
  · have hf := x_neg q1 hf
    refine lv_iload (pc := 93) E.1 E.2.1 dX6_readNumber_93 (lv_at hl 0 rfl) ?_
    refine lv_iconst (v := 2) (pc := 95) E.1 E.2.1 dX6_readNumber_95 (by decide) ?_
    refine lv_icmp_gt (tgt := 109) (pc := 96) E.1 E.2.1 dX6_readNumber_96 (by decide) (fun q2 => ?_) (fun q2 => ?_)
    · have hf := x_pos q2 hf
      exact w_X6_readNumber_p109 E hr hk  s x1 z hw (lv_sub hl [1, 2] rfl) hf
    · have hf := x_neg q2 hf
      refine lv_iload_n (pc := 99) E.1 E.2.1 dX6_readNumber_99 rfl (lv_at hl 4 rfl) ?_
      refine lv_iload_n (pc := 100) E.1 E.2.1 dX6_readNumber_100 rfl (lv_at hl 2 rfl) ?_
      refine lv_icmp_lt (tgt := 109) (pc := 101) E.1 E.2.1 dX6_readNumber_101 (by decide) (fun q3 => ?_) (fun q3 => ?_)
      · have hf := x_pos q3 hf
        exact w_X6_readNumber_p109 E hr hk  s x1 z hw (lv_sub hl [1, 2] rfl) hf
      · have hf := x_neg q3 hf
        refine lv_iload_n (pc := 104) E.1 E.2.1 dX6_readNumber_104 rfl (lv_at hl 4 rfl) ?_
        refine lv_iload_n (pc := 105) E.1 E.2.1 dX6_readNumber_105 rfl (lv_at hl 3 rfl) ?_
        refine lv_icmp_le (tgt := 119) (pc := 106) E.1 E.2.1 dX6_readNumber_106 (by decide) (fun q4 => ?_) (fun q4 => ?_)
        · have hf := x_pos q4 hf
          refine lv_iload_n (pc := 119) E.1 E.2.1 dX6_readNumber_119 rfl (lv_at hl 4 rfl) ?_
          obtain rfl := Option.some.inj hf
          exact x_reti (pc := 120) E hr hk hw dX6_readNumber_120
        · have hf := x_neg q4 hf
          exact w_X6_readNumber_p109 E hr hk  s x1 z hw (lv_sub hl [1, 2] rfl) hf
set_option maxHeartbeats 4000000 in
set_option maxRecDepth 100000 in
theorem w_X6_readNumber_p20 {p : Program} {l : Launch} {e : Env} {sS : State} {m : MethodId} {args : Array Value} {below : List Frame} {meth : Method} {c : Code} {G : xG} {W0 : va_W} {ad : Nat → Nat}  {k20 : S6 → Int32 → Int32 → Int32 → Int32 → Option (Int32 × S6)} (E : xE p sS m args c cX6_readNumber 5 RX6 G (x_in W0)) (hr : meth.sig.returnType = (some .int)) (hk : meth.locks = false) (hk20 : ∀ (s' : S6) (x1' : Int32) (x2' : Int32) (x3' : Int32) (x4' : Int32) (z : Int32 × S6) {H : Heap} {locs : List Loc} {ls : Array Slot}, xW G (x_in W0) sS.heap (cells6 G ad s') H locs → lv_has ls 5 [(0, .ref (ad 0)), (1, .int x1'), (2, .int x2'), (3, .int x3'), (4, .int x4')] → k20  s' x1' x2' x3' x4' = some z → W p l e (rm_X6_readNumber) sS m args below meth c H locs 0 0 (MQ below (xQ G W0 (cells6 G ad z.2) (some (.int z.1))) args sS 0 0 (x_in W0)) (F0 m 20 ls [])) : ∀ (s' : S6) (x1' : Int32) (x2' : Int32) (x3' : Int32) (x4' : Int32) (z : Int32 × S6) {H : Heap} {locs : List Loc} {ls : Array Slot}, xW G (x_in W0) sS.heap (cells6 G ad s') H locs → lv_has ls 5 [(0, .ref (ad 0)), (1, .int x1'), (2, .int x2'), (3, .int x3'), (4, .int x4')] → f_X6_readNumber_p20 k20 s' x1' x2' x3' x4' = some z → W p l e (rm_X6_readNumber) sS m args below meth c H locs 0 0 (MQ below (xQ G W0 (cells6 G ad z.2) (some (.int z.1))) args sS 0 0 (x_in W0)) (F0 m 20 ls []) := by
  intro s x1 x2 x3 x4 z H locs ls hw hl hf
  unfold f_X6_readNumber_p20 at hf
  refine lv_iload (pc := 20) E.1 E.2.1 dX6_readNumber_20 (lv_at hl 4 rfl) ?_
  refine lv_aload_n (pc := 22) E.1 E.2.1 dX6_readNumber_22 rfl (lv_at hl 0 rfl) ?_
  refine xg_X6_15 (pc := 23) (v := .int (g6_size s)) E hw 0 rfl rfl dX6_readNumber_23 ?_
  refine lv_icmp_ge (tgt := 76) (pc := 26) E.1 E.2.1 dX6_readNumber_26 (by decide) (fun q1 => ?_) (fun q1 => ?_)
  · have hf := x_pos q1 hf
    exact w_X6_readNumber_p76 E hr hk  s x1 x2 x3 z hw (lv_sub hl [0, 1, 2, 3] rfl) hf
  · have hf := x_neg q1 hf
    refine lv_aload_n (pc := 29) E.1 E.2.1 dX6_readNumber_29 rfl (lv_at hl 0 rfl) ?_
    refine lv_iload (pc := 30) E.1 E.2.1 dX6_readNumber_30 (lv_at hl 4 rfl) ?_
    obtain ⟨v2, g3, hf⟩ := x_bind hf
    refine x_callVA (pc := 32) (As := [.int x4]) (rest := []) (st1 := [.int v2]) (ws' := (cells6 G ad s)) E hw hl (c_X6_byteAt l G ad s x4 g3) xv_X6_86 xd_X6_byteAt rfl rfl ⟨Nat.le_of_ble_eq_true rfl, Nat.le_of_ble_eq_true rfl⟩ (q0 := 0) rfl rfl rfl rfl (Nat.le_of_ble_eq_true rfl) rfl dX6_readNumber_32 (fun H locs hw => ?_)
    obtain ⟨v4, g5, hf⟩ := x_bind hf
    refine x_callS0 (pc := 35) (As := [.int v2]) (rest := []) (st1 := [.int v4]) E hw hl (c_X6_isDigit l G  v2 g5) xs_X6_90 xd_X6_isDigit rfl rfl ⟨Nat.le_of_ble_eq_true rfl, Nat.le_of_ble_eq_true rfl⟩ rfl rfl (Nat.le_of_ble_eq_true rfl) rfl dX6_readNumber_35 (fun H locs hw => ?_)
    refine lv_if_eq (tgt := 76) (pc := 38) E.1 E.2.1 dX6_readNumber_38 (by decide) (fun q6 => ?_) (fun q6 => ?_)
    · have hf := x_pos q6 hf
      exact w_X6_readNumber_p76 E hr hk  s x1 x2 x3 z hw (lv_sub hl [0, 1, 2, 3] rfl) hf
    · have hf := x_neg q6 hf
      refine lv_iload_n (pc := 41) E.1 E.2.1 dX6_readNumber_41 rfl (lv_at hl 3 rfl) ?_
      refine lv_bipush (v := 10) (pc := 42) E.1 E.2.1 dX6_readNumber_42 (by decide) ?_
      refine lv_imul (pc := 44) E.1 E.2.1 dX6_readNumber_44 ?_
      refine lv_aload_n (pc := 45) E.1 E.2.1 dX6_readNumber_45 rfl (lv_at hl 0 rfl) ?_
      refine lv_iload (pc := 46) E.1 E.2.1 dX6_readNumber_46 (lv_at hl 4 rfl) ?_
      obtain ⟨v7, g8, hf⟩ := x_bind hf
      refine x_callVA (pc := 48) (As := [.int x4]) (rest := [.int (x3 * (10 : Int32))]) (st1 := [.int v7, .int (x3 * (10 : Int32))]) (ws' := (cells6 G ad s)) E hw hl (c_X6_byteAt l G ad s x4 g8) xv_X6_86 xd_X6_byteAt rfl rfl ⟨Nat.le_of_ble_eq_true rfl, Nat.le_of_ble_eq_true rfl⟩ (q0 := 0) rfl rfl rfl rfl (Nat.le_of_ble_eq_true rfl) rfl dX6_readNumber_48 (fun H locs hw => ?_)
      refine lv_iadd (pc := 51) E.1 E.2.1 dX6_readNumber_51 ?_
      refine lv_bipush (v := 48) (pc := 52) E.1 E.2.1 dX6_readNumber_52 (by decide) ?_
      refine lv_isub (pc := 54) E.1 E.2.1 dX6_readNumber_54 ?_
      refine lv_sipush (v := 1000) (pc := 55) E.1 E.2.1 dX6_readNumber_55 (by decide) ?_
      refine va_mmin (pc := 58) E.1 E.2.1 (E.2.2.1.trans hl.1.symm) E.2.2.2.1 (E.2.2.2.2.1 _ wq_490) (E.2.2.2.2.1 _ wq_491) (E.2.2.2.2.1 _ wq_108) (E.2.2.2.2.1 _ wq_492) (Nat.le_of_ble_eq_true rfl) (Nat.le_of_ble_eq_true rfl) (Nat.zero_le _) (Nat.zero_le _) dX6_readNumber_58 ?_
      refine lv_istore_n (lv' := [(3, .int (if 1000 < (((x3 * (10 : Int32)) + v7) - (48 : Int32)) then 1000 else (((x3 * (10 : Int32)) + v7) - (48 : Int32)))), (0, .ref (ad 0)), (1, .int x1), (2, .int x2), (4, .int x4)]) (pc := 61) E.1 E.2.1 dX6_readNumber_61 rfl hl (by decide) rfl (fun ls hl => ?_)
      refine lv_aload_n (pc := 62) E.1 E.2.1 dX6_readNumber_62 rfl (lv_at hl 1 rfl) ?_
      refine lv_iload (pc := 63) E.1 E.2.1 dX6_readNumber_63 (lv_at hl 4 rfl) ?_
      refine lv_iconst (v := 1) (pc := 65) E.1 E.2.1 dX6_readNumber_65 (by decide) ?_
      refine lv_iadd (pc := 66) E.1 E.2.1 dX6_readNumber_66 ?_
      refine xp_X6_28 (pc := 67) (v := .int (x4 + (1 : Int32))) (ws' := (cells6c G ad (g6_bytes s) (g6_size s) (x4 + (1 : Int32)) (g6_fault s) (g6_begin s))) E hw 0 rfl rfl rfl (Nat.le_of_ble_eq_true rfl) rfl dX6_readNumber_67 (fun H locs hw => ?_)
      refine lv_iinc (v := (x4 + 1)) (lv' := [(4, .int (x4 + 1)), (3, .int (if 1000 < (((x3 * (10 : Int32)) + v7) - (48 : Int32)) then 1000 else (((x3 * (10 : Int32)) + v7) - (48 : Int32)))), (0, .ref (ad 0)), (1, .int x1), (2, .int x2)]) (pc := 70) E.1 E.2.1 dX6_readNumber_70 hl (k := 4) rfl rfl (by decide) rfl (fun ls hl => ?_)
      refine lv_goto (tgt := 20) (pc := 73) E.1 E.2.1 dX6_readNumber_73 (by decide) ?_
      exact hk20 (u6_at s (x4 + (1 : Int32))) x1 x2 (if 1000 < (((x3 * (10 : Int32)) + v7) - (48 : Int32)) then 1000 else (((x3 * (10 : Int32)) + v7) - (48 : Int32))) (x4 + 1) z hw (lv_sub hl [2, 3, 4, 1, 0] rfl) hf
set_option maxHeartbeats 4000000 in
set_option maxRecDepth 100000 in
theorem wl_X6_readNumber_p20 {p : Program} {l : Launch} {e : Env} {sS : State} {m : MethodId} {args : Array Value} {below : List Frame} {meth : Method} {c : Code} {G : xG} {W0 : va_W} {ad : Nat → Nat}   (E : xE p sS m args c cX6_readNumber 5 RX6 G (x_in W0)) (hr : meth.sig.returnType = (some .int)) (hk : meth.locks = false)  : ∀ (s' : S6) (x1' : Int32) (x2' : Int32) (x3' : Int32) (x4' : Int32) (z : Int32 × S6) {H : Heap} {locs : List Loc} {ls : Array Slot}, xW G (x_in W0) sS.heap (cells6 G ad s') H locs → lv_has ls 5 [(0, .ref (ad 0)), (1, .int x1'), (2, .int x2'), (3, .int x3'), (4, .int x4')] → lp_X6_readNumber_p20  s' x1' x2' x3' x4' = some z → W p l e (rm_X6_readNumber) sS m args below meth c H locs 0 0 (MQ below (xQ G W0 (cells6 G ad z.2) (some (.int z.1))) args sS 0 0 (x_in W0)) (F0 m 20 ls []) := by
  intro s x1 x2 x3 x4 z H locs ls hw hl hf
  exact x_loop_W (P := fun (q : S6 × Int32 × Int32 × Int32 × Int32) (z : Int32 × S6) => ∀ {H : Heap} {locs : List Loc} {ls : Array Slot}, xW G (x_in W0) sS.heap (cells6 G ad q.1) H locs → lv_has ls 5 [(0, .ref (ad 0)), (1, .int q.2.1), (2, .int q.2.2.1), (3, .int q.2.2.2.1), (4, .int q.2.2.2.2)] → W p l e (rm_X6_readNumber) sS m args below meth c H locs 0 0 (MQ below (xQ G W0 (cells6 G ad z.2) (some (.int z.1))) args sS 0 0 (x_in W0)) (F0 m 20 ls [])) (fun k hkk q z hf H locs ls hw hl => w_X6_readNumber_p20 E hr hk  (fun s x1 x2 x3 x4 z H locs ls hw hl hf => hkk (s, x1, x2, x3, x4) z hf hw hl) q.1 q.2.1 q.2.2.1 q.2.2.2.1 q.2.2.2.2 z hw hl hf) FU (s, x1, x2, x3, x4) z hf hw hl
set_option maxHeartbeats 4000000 in
set_option maxRecDepth 100000 in
theorem w_X6_readNumber_p0 {p : Program} {l : Launch} {e : Env} {sS : State} {m : MethodId} {args : Array Value} {below : List Frame} {meth : Method} {c : Code} {G : xG} {W0 : va_W} {ad : Nat → Nat}   (E : xE p sS m args c cX6_readNumber 5 RX6 G (x_in W0)) (hr : meth.sig.returnType = (some .int)) (hk : meth.locks = false)  : ∀ (s' : S6) (x1' : Int32) (x2' : Int32) (z : Int32 × S6) {H : Heap} {locs : List Loc} {ls : Array Slot}, xW G (x_in W0) sS.heap (cells6 G ad s') H locs → lv_has ls 5 [(0, .ref (ad 0)), (1, .int x1'), (2, .int x2')] → f_X6_readNumber  s' x1' x2' = some z → W p l e (rm_X6_readNumber) sS m args below meth c H locs 0 0 (MQ below (xQ G W0 (cells6 G ad z.2) (some (.int z.1))) args sS 0 0 (x_in W0)) (F0 m 0 ls []) := by
  intro s x1 x2 z H locs ls hw hl hf
  unfold f_X6_readNumber at hf
  refine lv_aload_n (pc := 0) E.1 E.2.1 dX6_readNumber_0 rfl (lv_at hl 0 rfl) ?_
  obtain ⟨v1, g2, hf⟩ := x_bind hf
  refine x_callVA (pc := 1) (As := []) (rest := []) (st1 := []) (ws' := (cells6 G ad v1)) E hw hl (c_X6_skipGaps l G ad s g2) xv_X6_34 xd_X6_skipGaps rfl rfl ⟨Nat.le_of_ble_eq_true rfl, Nat.le_of_ble_eq_true rfl⟩ (q0 := 0) rfl rfl rfl rfl (Nat.le_of_ble_eq_true rfl) rfl dX6_readNumber_1 (fun H locs hw => ?_)
  refine lv_aload_n (pc := 4) E.1 E.2.1 dX6_readNumber_4 rfl (lv_at hl 0 rfl) ?_
  refine lv_aload_n (pc := 5) E.1 E.2.1 dX6_readNumber_5 rfl (lv_at hl 0 rfl) ?_
  refine xg_X6_28 (pc := 6) (v := .int (g6_at v1)) E hw 0 rfl rfl dX6_readNumber_6 ?_
  refine xp_X6_105 (pc := 9) (v := .int (g6_at v1)) (ws' := (cells6c G ad (g6_bytes v1) (g6_size v1) (g6_at v1) (g6_fault v1) (g6_at v1))) E hw 0 rfl rfl rfl (Nat.le_of_ble_eq_true rfl) rfl dX6_readNumber_9 (fun H locs hw => ?_)
  refine lv_iconst (v := 0) (pc := 12) E.1 E.2.1 dX6_readNumber_12 (by decide) ?_
  refine lv_istore_n (lv' := [(3, .int 0), (0, .ref (ad 0)), (1, .int x1), (2, .int x2)]) (pc := 13) E.1 E.2.1 dX6_readNumber_13 rfl hl (by decide) rfl (fun ls hl => ?_)
  refine lv_aload_n (pc := 14) E.1 E.2.1 dX6_readNumber_14 rfl (lv_at hl 1 rfl) ?_
  refine xg_X6_28 (pc := 15) (v := .int (g6_at v1)) E hw 0 rfl rfl dX6_readNumber_15 ?_
  refine lv_istore (lv' := [(4, .int (g6_at v1)), (3, .int 0), (0, .ref (ad 0)), (1, .int x1), (2, .int x2)]) (pc := 18) E.1 E.2.1 dX6_readNumber_18 hl (by decide) rfl (fun ls hl => ?_)
  exact wl_X6_readNumber_p20 E hr hk  (u6_begin v1 (g6_at v1)) x1 x2 0 (g6_at v1) z hw (lv_sub hl [2, 3, 4, 1, 0] rfl) hf
set_option maxHeartbeats 4000000 in
set_option maxRecDepth 100000 in
theorem c_X6_readNumber (l : Launch) (G : xG) (ad : Nat → Nat) (s : S6) (x1 : Int32) (x2 : Int32) {z : Int32 × S6} (hf : f_X6_readNumber s x1 x2 = some z) : xC l yX6_readNumber cX6_readNumber 5 (some .int) (rm_X6_readNumber) G [.ref (ad 0), .int x1, .int x2] (cells6 G ad s) (some (.int z.1)) (cells6 G ad z.2) :=
  x_met (by decide) rfl (Nat.le_of_ble_eq_true rfl) (fun p e sS m below meth c E hr hk ls hl hw => w_X6_readNumber_p0 E hr hk s x1 x2 z hw hl hf)
set_option maxHeartbeats 4000000 in
set_option maxRecDepth 100000 in
theorem w_X6_isEndNext_p0 {p : Program} {l : Launch} {e : Env} {sS : State} {m : MethodId} {args : Array Value} {below : List Frame} {meth : Method} {c : Code} {G : xG} {W0 : va_W} {ad : Nat → Nat}   (E : xE p sS m args c cX6_isEndNext 1 RX6 G (x_in W0)) (hr : meth.sig.returnType = (some .boolean)) (hk : meth.locks = false)  : ∀ (s' : S6) (z : Int32 × S6) {H : Heap} {locs : List Loc} {ls : Array Slot}, xW G (x_in W0) sS.heap (cells6 G ad s') H locs → lv_has ls 1 [(0, .ref (ad 0))] → f_X6_isEndNext  s' = some z → W p l e (rm_X6_isEndNext) sS m args below meth c H locs 0 0 (MQ below (xQ G W0 (cells6 G ad z.2) (some (.int z.1))) args sS 0 0 (x_in W0)) (F0 m 0 ls []) := by
  intro s z H locs ls hw hl hf
  unfold f_X6_isEndNext at hf
  refine lv_aload_n (pc := 0) E.1 E.2.1 dX6_isEndNext_0 rfl (lv_at hl 0 rfl) ?_
  obtain ⟨v1, g2, hf⟩ := x_bind hf
  refine x_callVA (pc := 1) (As := []) (rest := []) (st1 := []) (ws' := (cells6 G ad v1)) E hw hl (c_X6_skipGaps l G ad s g2) xv_X6_34 xd_X6_skipGaps rfl rfl ⟨Nat.le_of_ble_eq_true rfl, Nat.le_of_ble_eq_true rfl⟩ (q0 := 0) rfl rfl rfl rfl (Nat.le_of_ble_eq_true rfl) rfl dX6_isEndNext_1 (fun H locs hw => ?_)
  refine lv_aload_n (pc := 4) E.1 E.2.1 dX6_isEndNext_4 rfl (lv_at hl 0 rfl) ?_
  refine lv_aload_n (pc := 5) E.1 E.2.1 dX6_isEndNext_5 rfl (lv_at hl 0 rfl) ?_
  refine xg_X6_28 (pc := 6) (v := .int (g6_at v1)) E hw 0 rfl rfl dX6_isEndNext_6 ?_
  obtain ⟨v3, g4, hf⟩ := x_bind hf
  refine x_callVA (pc := 9) (As := [.int (g6_at v1)]) (rest := []) (st1 := [.int v3]) (ws' := (cells6 G ad v1)) E hw hl (c_X6_byteAt l G ad v1 (g6_at v1) g4) xv_X6_86 xd_X6_byteAt rfl rfl ⟨Nat.le_of_ble_eq_true rfl, Nat.le_of_ble_eq_true rfl⟩ (q0 := 0) rfl rfl rfl rfl (Nat.le_of_ble_eq_true rfl) rfl dX6_isEndNext_9 (fun H locs hw => ?_)
  refine lv_bipush (v := 59) (pc := 12) E.1 E.2.1 dX6_isEndNext_12 (by decide) ?_
  refine lv_icmp_ne (tgt := 21) (pc := 14) E.1 E.2.1 dX6_isEndNext_14 (by decide) (fun q5 => ?_) (fun q5 => ?_)
  · have hf := x_neg q5 hf
    refine lv_iconst (v := 0) (pc := 21) E.1 E.2.1 dX6_isEndNext_21 (by decide) ?_
    obtain rfl := Option.some.inj hf
    exact x_retz (pc := 22) (v := 0) (r := 0) E hr hk hw (by decide) dX6_isEndNext_22
  · have hf := x_pos q5 hf
    refine lv_iconst (v := 1) (pc := 17) E.1 E.2.1 dX6_isEndNext_17 (by decide) ?_
    refine lv_goto (tgt := 22) (pc := 18) E.1 E.2.1 dX6_isEndNext_18 (by decide) ?_
    obtain rfl := Option.some.inj hf
    exact x_retz (pc := 22) (v := 1) (r := 1) E hr hk hw (by decide) dX6_isEndNext_22
set_option maxHeartbeats 4000000 in
set_option maxRecDepth 100000 in
theorem c_X6_isEndNext (l : Launch) (G : xG) (ad : Nat → Nat) (s : S6) {z : Int32 × S6} (hf : f_X6_isEndNext s = some z) : xC l yX6_isEndNext cX6_isEndNext 1 (some .boolean) (rm_X6_isEndNext) G [.ref (ad 0)] (cells6 G ad s) (some (.int z.1)) (cells6 G ad z.2) :=
  x_met (by decide) rfl (Nat.le_of_ble_eq_true rfl) (fun p e sS m below meth c E hr hk ls hl hw => w_X6_isEndNext_p0 E hr hk s z hw hl hf)
set_option maxHeartbeats 4000000 in
set_option maxRecDepth 100000 in
theorem w_X6_readFleet_p53 {p : Program} {l : Launch} {e : Env} {sS : State} {m : MethodId} {args : Array Value} {below : List Frame} {meth : Method} {c : Code} {G : xG} {W0 : va_W} {ad : Nat → Nat} {ae : Nat → Nat}   (E : xE p sS m args c cX6_readFleet 5 RX6 G (x_in W0)) (hr : meth.sig.returnType = none) (hk : meth.locks = false)  : ∀ (s' : S6) (q' : S0) (x2' : Int32) (x3' : Int32) (z : S6 × S0) {H : Heap} {locs : List Loc} {ls : Array Slot}, xW G (x_in W0) sS.heap (cells6 G ad s' ++ cells0 G ae q') H locs → lv_has ls 5 [(1, .ref (ae 0)), (2, .int x2'), (3, .int x3')] → f_X6_readFleet_p53  s' q' x2' x3' = some z → W p l e (rm_X6_readFleet) sS m args below meth c H locs 0 0 (MQ below (xQ G W0 (cells6 G ad z.1 ++ cells0 G ae z.2) none) args sS 0 0 (x_in W0)) (F0 m 53 ls []) := by
  intro s q x2 x3 z H locs ls hw hl hf
  unfold f_X6_readFleet_p53 at hf
  refine lv_aload_n (pc := 53) E.1 E.2.1 dX6_readFleet_53 rfl (lv_at hl 0 rfl) ?_
  refine lv_iload_n (pc := 54) E.1 E.2.1 dX6_readFleet_54 rfl (lv_at hl 1 rfl) ?_
  refine lv_iload_n (pc := 55) E.1 E.2.1 dX6_readFleet_55 rfl (lv_at hl 2 rfl) ?_
  obtain ⟨v1, g2, hf⟩ := x_bind hf
  refine x_callV (pc := 56) (As := [.int x2, .int x3]) (rest := []) (st1 := [.int v1.1]) (ws' := (cells6 G ad s ++ cells0 G ae v1.2)) E hw hl (c_X0_addFleet l G ae q x2 x3 g2) xv_X6_98 xd_X0_addFleet rfl rfl ⟨Nat.le_of_ble_eq_true rfl, Nat.le_of_ble_eq_true rfl⟩ [2, 3, 4, 5] [0, 1] (by decide) ⟨rfl, rfl, rfl, rfl, trivial⟩ (q0 := 2) rfl rfl rfl rfl (Nat.le_of_ble_eq_true rfl) (nw := 6) ⟨rfl, rfl, rfl, rfl, trivial⟩ ⟨⟨_, rfl, rfl⟩, ⟨_, rfl, rfl⟩, trivial⟩ rfl rfl (by decide) (by decide) rfl dX6_readFleet_56 (fun H locs hw => ?_)
  refine lv_pop (pc := 59) E.1 E.2.1 dX6_readFleet_59 rfl ?_
  obtain rfl := Option.some.inj hf
  exact x_retv (pc := 60) E hr hk hw dX6_readFleet_60
set_option maxHeartbeats 4000000 in
set_option maxRecDepth 100000 in
theorem w_X6_readFleet_p12 {p : Program} {l : Launch} {e : Env} {sS : State} {m : MethodId} {args : Array Value} {below : List Frame} {meth : Method} {c : Code} {G : xG} {W0 : va_W} {ad : Nat → Nat} {ae : Nat → Nat}  {k12 : S6 → S0 → Int32 → Int32 → Int32 → Option (S6 × S0)} (E : xE p sS m args c cX6_readFleet 5 RX6 G (x_in W0)) (hr : meth.sig.returnType = none) (hk : meth.locks = false) (hk12 : ∀ (s' : S6) (q' : S0) (x2' : Int32) (x3' : Int32) (x4' : Int32) (z : S6 × S0) {H : Heap} {locs : List Loc} {ls : Array Slot}, xW G (x_in W0) sS.heap (cells6 G ad s' ++ cells0 G ae q') H locs → lv_has ls 5 [(0, .ref (ad 0)), (1, .ref (ae 0)), (2, .int x2'), (3, .int x3'), (4, .int x4')] → k12  s' q' x2' x3' x4' = some z → W p l e (rm_X6_readFleet) sS m args below meth c H locs 0 0 (MQ below (xQ G W0 (cells6 G ad z.1 ++ cells0 G ae z.2) none) args sS 0 0 (x_in W0)) (F0 m 12 ls [])) : ∀ (s' : S6) (q' : S0) (x2' : Int32) (x3' : Int32) (x4' : Int32) (z : S6 × S0) {H : Heap} {locs : List Loc} {ls : Array Slot}, xW G (x_in W0) sS.heap (cells6 G ad s' ++ cells0 G ae q') H locs → lv_has ls 5 [(0, .ref (ad 0)), (1, .ref (ae 0)), (2, .int x2'), (3, .int x3'), (4, .int x4')] → f_X6_readFleet_p12 k12 s' q' x2' x3' x4' = some z → W p l e (rm_X6_readFleet) sS m args below meth c H locs 0 0 (MQ below (xQ G W0 (cells6 G ad z.1 ++ cells0 G ae z.2) none) args sS 0 0 (x_in W0)) (F0 m 12 ls []) := by
  intro s q x2 x3 x4 z H locs ls hw hl hf
  unfold f_X6_readFleet_p12 at hf
  refine lv_iload (pc := 12) E.1 E.2.1 dX6_readFleet_12 (lv_at hl 4 rfl) ?_
  refine lv_aload_n (pc := 14) E.1 E.2.1 dX6_readFleet_14 rfl (lv_at hl 0 rfl) ?_
  refine xg_X6_15 (pc := 15) (v := .int (g6_size s)) E hw 0 rfl rfl dX6_readFleet_15 ?_
  refine lv_icmp_ge (tgt := 53) (pc := 18) E.1 E.2.1 dX6_readFleet_18 (by decide) (fun q1 => ?_) (fun q1 => ?_)
  · have hf := x_pos q1 hf
    exact w_X6_readFleet_p53 E hr hk  s q x2 x3 z hw (lv_sub hl [1, 2, 3] rfl) hf
  · have hf := x_neg q1 hf
    refine lv_aload_n (pc := 21) E.1 E.2.1 dX6_readFleet_21 rfl (lv_at hl 0 rfl) ?_
    refine xg_X6_31 (pc := 22) (v := .int (g6_fault s)) E hw 0 rfl rfl dX6_readFleet_22 ?_
    refine lv_iconst (v := (-1)) (pc := 25) E.1 E.2.1 dX6_readFleet_25 (by decide) ?_
    refine lv_icmp_ne (tgt := 53) (pc := 26) E.1 E.2.1 dX6_readFleet_26 (by decide) (fun q2 => ?_) (fun q2 => ?_)
    · have hf := x_neg q2 hf
      exact w_X6_readFleet_p53 E hr hk  s q x2 x3 z hw (lv_sub hl [1, 2, 3] rfl) hf
    · have hf := x_pos q2 hf
      refine lv_aload_n (pc := 29) E.1 E.2.1 dX6_readFleet_29 rfl (lv_at hl 0 rfl) ?_
      obtain ⟨v3, g4, hf⟩ := x_bind hf
      refine x_callV (pc := 30) (As := []) (rest := []) (st1 := [.int v3.1]) (ws' := (cells6 G ad v3.2 ++ cells0 G ae q)) E hw hl (c_X6_isEndNext l G ad s g4) xv_X6_94 xd_X6_isEndNext rfl rfl ⟨Nat.le_of_ble_eq_true rfl, Nat.le_of_ble_eq_true rfl⟩ [0, 1] [2, 3, 4, 5] (by decide) ⟨rfl, rfl, trivial⟩ (q0 := 0) rfl rfl rfl rfl (Nat.le_of_ble_eq_true rfl) (nw := 6) ⟨rfl, rfl, trivial⟩ ⟨⟨_, rfl, rfl⟩, ⟨_, rfl, rfl⟩, ⟨_, rfl, rfl⟩, ⟨_, rfl, rfl⟩, trivial⟩ rfl rfl (by decide) (by decide) rfl dX6_readFleet_30 (fun H locs hw => ?_)
      refine lv_if_ne (tgt := 53) (pc := 33) E.1 E.2.1 dX6_readFleet_33 (by decide) (fun q5 => ?_) (fun q5 => ?_)
      · have hf := x_neg q5 hf
        exact w_X6_readFleet_p53 E hr hk  v3.2 q x2 x3 z hw (lv_sub hl [1, 2, 3] rfl) hf
      · have hf := x_pos q5 hf
        refine lv_iload_n (pc := 36) E.1 E.2.1 dX6_readFleet_36 rfl (lv_at hl 3 rfl) ?_
        refine lv_iconst (v := 1) (pc := 37) E.1 E.2.1 dX6_readFleet_37 (by decide) ?_
        refine lv_aload_n (pc := 38) E.1 E.2.1 dX6_readFleet_38 rfl (lv_at hl 0 rfl) ?_
        refine lv_iconst (v := 0) (pc := 39) E.1 E.2.1 dX6_readFleet_39 (by decide) ?_
        refine lv_iconst (v := 4) (pc := 40) E.1 E.2.1 dX6_readFleet_40 (by decide) ?_
        obtain ⟨v6, g7, hf⟩ := x_bind hf
        refine x_callV (pc := 41) (As := [.int 0, .int 4]) (rest := [.int 1, .int x3]) (st1 := [.int v6.1, .int 1, .int x3]) (ws' := (cells6 G ad v6.2 ++ cells0 G ae q)) E hw hl (c_X6_readNumber l G ad v3.2 0 4 g7) xv_X6_45 xd_X6_readNumber rfl rfl ⟨Nat.le_of_ble_eq_true rfl, Nat.le_of_ble_eq_true rfl⟩ [0, 1] [2, 3, 4, 5] (by decide) ⟨rfl, rfl, trivial⟩ (q0 := 0) rfl rfl rfl rfl (Nat.le_of_ble_eq_true rfl) (nw := 6) ⟨rfl, rfl, trivial⟩ ⟨⟨_, rfl, rfl⟩, ⟨_, rfl, rfl⟩, ⟨_, rfl, rfl⟩, ⟨_, rfl, rfl⟩, trivial⟩ rfl rfl (by decide) (by decide) rfl dX6_readFleet_41 (fun H locs hw => ?_)
        refine lv_ishl (pc := 44) E.1 E.2.1 dX6_readFleet_44 ?_
        refine lv_ior (pc := 45) E.1 E.2.1 dX6_readFleet_45 ?_
        refine lv_istore_n (lv' := [(3, .int (x3 ||| ((1 : Int32) <<< (v6.1 &&& 31)))), (0, .ref (ad 0)), (1, .ref (ae 0)), (2, .int x2), (4, .int x4)]) (pc := 46) E.1 E.2.1 dX6_readFleet_46 rfl hl (by decide) rfl (fun ls hl => ?_)
        refine lv_iinc (v := (x4 + 1)) (lv' := [(4, .int (x4 + 1)), (3, .int (x3 ||| ((1 : Int32) <<< (v6.1 &&& 31)))), (0, .ref (ad 0)), (1, .ref (ae 0)), (2, .int x2)]) (pc := 47) E.1 E.2.1 dX6_readFleet_47 hl (k := 4) rfl rfl (by decide) rfl (fun ls hl => ?_)
        refine lv_goto (tgt := 12) (pc := 50) E.1 E.2.1 dX6_readFleet_50 (by decide) ?_
        exact hk12 v6.2 q x2 (x3 ||| ((1 : Int32) <<< (v6.1 &&& 31))) (x4 + 1) z hw (lv_sub hl [2, 3, 4, 1, 0] rfl) hf
set_option maxHeartbeats 4000000 in
set_option maxRecDepth 100000 in
theorem wl_X6_readFleet_p12 {p : Program} {l : Launch} {e : Env} {sS : State} {m : MethodId} {args : Array Value} {below : List Frame} {meth : Method} {c : Code} {G : xG} {W0 : va_W} {ad : Nat → Nat} {ae : Nat → Nat}   (E : xE p sS m args c cX6_readFleet 5 RX6 G (x_in W0)) (hr : meth.sig.returnType = none) (hk : meth.locks = false)  : ∀ (s' : S6) (q' : S0) (x2' : Int32) (x3' : Int32) (x4' : Int32) (z : S6 × S0) {H : Heap} {locs : List Loc} {ls : Array Slot}, xW G (x_in W0) sS.heap (cells6 G ad s' ++ cells0 G ae q') H locs → lv_has ls 5 [(0, .ref (ad 0)), (1, .ref (ae 0)), (2, .int x2'), (3, .int x3'), (4, .int x4')] → lp_X6_readFleet_p12  s' q' x2' x3' x4' = some z → W p l e (rm_X6_readFleet) sS m args below meth c H locs 0 0 (MQ below (xQ G W0 (cells6 G ad z.1 ++ cells0 G ae z.2) none) args sS 0 0 (x_in W0)) (F0 m 12 ls []) := by
  intro s q x2 x3 x4 z H locs ls hw hl hf
  exact x_loop_W (P := fun (q : S6 × S0 × Int32 × Int32 × Int32) (z : S6 × S0) => ∀ {H : Heap} {locs : List Loc} {ls : Array Slot}, xW G (x_in W0) sS.heap (cells6 G ad q.1 ++ cells0 G ae q.2.1) H locs → lv_has ls 5 [(0, .ref (ad 0)), (1, .ref (ae 0)), (2, .int q.2.2.1), (3, .int q.2.2.2.1), (4, .int q.2.2.2.2)] → W p l e (rm_X6_readFleet) sS m args below meth c H locs 0 0 (MQ below (xQ G W0 (cells6 G ad z.1 ++ cells0 G ae z.2) none) args sS 0 0 (x_in W0)) (F0 m 12 ls [])) (fun k hkk q z hf H locs ls hw hl => w_X6_readFleet_p12 E hr hk  (fun s q x2 x3 x4 z H locs ls hw hl hf => hkk (s, q, x2, x3, x4) z hf hw hl) q.1 q.2.1 q.2.2.1 q.2.2.2.1 q.2.2.2.2 z hw hl hf) FU (s, q, x2, x3, x4) z hf hw hl
set_option maxHeartbeats 4000000 in
set_option maxRecDepth 100000 in
theorem w_X6_readFleet_p0 {p : Program} {l : Launch} {e : Env} {sS : State} {m : MethodId} {args : Array Value} {below : List Frame} {meth : Method} {c : Code} {G : xG} {W0 : va_W} {ad : Nat → Nat} {ae : Nat → Nat}   (E : xE p sS m args c cX6_readFleet 5 RX6 G (x_in W0)) (hr : meth.sig.returnType = none) (hk : meth.locks = false)  : ∀ (s' : S6) (q' : S0) (z : S6 × S0) {H : Heap} {locs : List Loc} {ls : Array Slot}, xW G (x_in W0) sS.heap (cells6 G ad s' ++ cells0 G ae q') H locs → lv_has ls 5 [(0, .ref (ad 0)), (1, .ref (ae 0))] → f_X6_readFleet  s' q' = some z → W p l e (rm_X6_readFleet) sS m args below meth c H locs 0 0 (MQ below (xQ G W0 (cells6 G ad z.1 ++ cells0 G ae z.2) none) args sS 0 0 (x_in W0)) (F0 m 0 ls []) := by
  intro s q z H locs ls hw hl hf
  unfold f_X6_readFleet at hf
  refine lv_aload_n (pc := 0) E.1 E.2.1 dX6_readFleet_0 rfl (lv_at hl 0 rfl) ?_
  refine lv_iconst (v := 0) (pc := 1) E.1 E.2.1 dX6_readFleet_1 (by decide) ?_
  refine lv_iconst (v := 2) (pc := 2) E.1 E.2.1 dX6_readFleet_2 (by decide) ?_
  obtain ⟨v1, g2, hf⟩ := x_bind hf
  refine x_callV (pc := 3) (As := [.int 0, .int 2]) (rest := []) (st1 := [.int v1.1]) (ws' := (cells6 G ad v1.2 ++ cells0 G ae q)) E hw hl (c_X6_readNumber l G ad s 0 2 g2) xv_X6_45 xd_X6_readNumber rfl rfl ⟨Nat.le_of_ble_eq_true rfl, Nat.le_of_ble_eq_true rfl⟩ [0, 1] [2, 3, 4, 5] (by decide) ⟨rfl, rfl, trivial⟩ (q0 := 0) rfl rfl rfl rfl (Nat.le_of_ble_eq_true rfl) (nw := 6) ⟨rfl, rfl, trivial⟩ ⟨⟨_, rfl, rfl⟩, ⟨_, rfl, rfl⟩, ⟨_, rfl, rfl⟩, ⟨_, rfl, rfl⟩, trivial⟩ rfl rfl (by decide) (by decide) rfl dX6_readFleet_3 (fun H locs hw => ?_)
  refine lv_istore_n (lv' := [(2, .int v1.1), (0, .ref (ad 0)), (1, .ref (ae 0))]) (pc := 6) E.1 E.2.1 dX6_readFleet_6 rfl hl (by decide) rfl (fun ls hl => ?_)
  refine lv_iconst (v := 0) (pc := 7) E.1 E.2.1 dX6_readFleet_7 (by decide) ?_
  refine lv_istore_n (lv' := [(3, .int 0), (2, .int v1.1), (0, .ref (ad 0)), (1, .ref (ae 0))]) (pc := 8) E.1 E.2.1 dX6_readFleet_8 rfl hl (by decide) rfl (fun ls hl => ?_)
  refine lv_iconst (v := 0) (pc := 9) E.1 E.2.1 dX6_readFleet_9 (by decide) ?_
  refine lv_istore (lv' := [(4, .int 0), (3, .int 0), (2, .int v1.1), (0, .ref (ad 0)), (1, .ref (ae 0))]) (pc := 10) E.1 E.2.1 dX6_readFleet_10 hl (by decide) rfl (fun ls hl => ?_)
  exact wl_X6_readFleet_p12 E hr hk  v1.2 q v1.1 0 0 z hw (lv_sub hl [3, 4, 2, 1, 0] rfl) hf
set_option maxHeartbeats 4000000 in
set_option maxRecDepth 100000 in
theorem c_X6_readFleet (l : Launch) (G : xG) (ad : Nat → Nat) (ae : Nat → Nat) (s : S6) (q : S0) {z : S6 × S0} (hf : f_X6_readFleet s q = some z) : xC l yX6_readFleet cX6_readFleet 5 none (rm_X6_readFleet) G [.ref (ad 0), .ref (ae 0)] (cells6 G ad s ++ cells0 G ae q) none (cells6 G ad z.1 ++ cells0 G ae z.2) :=
  x_met (by decide) rfl (Nat.le_of_ble_eq_true rfl) (fun p e sS m below meth c E hr hk ls hl hw => w_X6_readFleet_p0 E hr hk s q z hw hl hf)
set_option maxHeartbeats 4000000 in
set_option maxRecDepth 100000 in
theorem w_X6_readClaim_p36 {p : Program} {l : Launch} {e : Env} {sS : State} {m : MethodId} {args : Array Value} {below : List Frame} {meth : Method} {c : Code} {G : xG} {W0 : va_W} {ad : Nat → Nat} {ae : Nat → Nat}   (E : xE p sS m args c cX6_readClaim 4 RX6 G (x_in W0)) (hr : meth.sig.returnType = none) (hk : meth.locks = false)  : ∀ (s' : S6) (q' : S0) (x2' : Int32) (x3' : Int32) (z : S6 × S0) {H : Heap} {locs : List Loc} {ls : Array Slot}, xW G (x_in W0) sS.heap (cells6 G ad s' ++ cells0 G ae q') H locs → lv_has ls 4 [(0, .ref (ad 0)), (1, .ref (ae 0)), (2, .int x2'), (3, .int x3')] → f_X6_readClaim_p36  s' q' x2' x3' = some z → W p l e (rm_X6_readClaim) sS m args below meth c H locs 0 0 (MQ below (xQ G W0 (cells6 G ad z.1 ++ cells0 G ae z.2) none) args sS 0 0 (x_in W0)) (F0 m 36 ls []) := by
  intro s q x2 x3 z H locs ls hw hl hf
  unfold f_X6_readClaim_p36 at hf
  refine lv_aload_n (pc := 36) E.1 E.2.1 dX6_readClaim_36 rfl (lv_at hl 1 rfl) ?_
  refine lv_iload_n (pc := 37) E.1 E.2.1 dX6_readClaim_37 rfl (lv_at hl 2 rfl) ?_
  refine lv_iload_n (pc := 38) E.1 E.2.1 dX6_readClaim_38 rfl (lv_at hl 3 rfl) ?_
  refine lv_aload_n (pc := 39) E.1 E.2.1 dX6_readClaim_39 rfl (lv_at hl 0 rfl) ?_
  refine lv_iconst (v := 1) (pc := 40) E.1 E.2.1 dX6_readClaim_40 (by decide) ?_
  refine lv_bipush (v := 99) (pc := 41) E.1 E.2.1 dX6_readClaim_41 (by decide) ?_
  obtain ⟨v1, g2, hf⟩ := x_bind hf
  refine x_callV (pc := 43) (As := [.int 1, .int 99]) (rest := [.int x3, .int x2, .ref (ae 0)]) (st1 := [.int v1.1, .int x3, .int x2, .ref (ae 0)]) (ws' := (cells6 G ad v1.2 ++ cells0 G ae q)) E hw hl (c_X6_readNumber l G ad s 1 99 g2) xv_X6_45 xd_X6_readNumber rfl rfl ⟨Nat.le_of_ble_eq_true rfl, Nat.le_of_ble_eq_true rfl⟩ [0, 1] [2, 3, 4, 5] (by decide) ⟨rfl, rfl, trivial⟩ (q0 := 0) rfl rfl rfl rfl (Nat.le_of_ble_eq_true rfl) (nw := 6) ⟨rfl, rfl, trivial⟩ ⟨⟨_, rfl, rfl⟩, ⟨_, rfl, rfl⟩, ⟨_, rfl, rfl⟩, ⟨_, rfl, rfl⟩, trivial⟩ rfl rfl (by decide) (by decide) rfl dX6_readClaim_43 (fun H locs hw => ?_)
  obtain ⟨v3, g4, hf⟩ := x_bind hf
  refine x_callV (pc := 46) (As := [.int x2, .int x3, .int v1.1]) (rest := []) (st1 := [.int v3.1]) (ws' := (cells6 G ad v1.2 ++ cells0 G ae v3.2)) E hw hl (c_X0_addClaim l G ae q x2 x3 v1.1 g4) xv_X6_108 xd_X0_addClaim rfl rfl ⟨Nat.le_of_ble_eq_true rfl, Nat.le_of_ble_eq_true rfl⟩ [2, 3, 4, 5] [0, 1] (by decide) ⟨rfl, rfl, rfl, rfl, trivial⟩ (q0 := 2) rfl rfl rfl rfl (Nat.le_of_ble_eq_true rfl) (nw := 6) ⟨rfl, rfl, rfl, rfl, trivial⟩ ⟨⟨_, rfl, rfl⟩, ⟨_, rfl, rfl⟩, trivial⟩ rfl rfl (by decide) (by decide) rfl dX6_readClaim_46 (fun H locs hw => ?_)
  refine lv_pop (pc := 49) E.1 E.2.1 dX6_readClaim_49 rfl ?_
  obtain rfl := Option.some.inj hf
  exact x_retv (pc := 50) E hr hk hw dX6_readClaim_50
set_option maxHeartbeats 4000000 in
set_option maxRecDepth 100000 in
theorem w_X6_readClaim_p0 {p : Program} {l : Launch} {e : Env} {sS : State} {m : MethodId} {args : Array Value} {below : List Frame} {meth : Method} {c : Code} {G : xG} {W0 : va_W} {ad : Nat → Nat} {ae : Nat → Nat}   (E : xE p sS m args c cX6_readClaim 4 RX6 G (x_in W0)) (hr : meth.sig.returnType = none) (hk : meth.locks = false)  : ∀ (s' : S6) (q' : S0) (z : S6 × S0) {H : Heap} {locs : List Loc} {ls : Array Slot}, xW G (x_in W0) sS.heap (cells6 G ad s' ++ cells0 G ae q') H locs → lv_has ls 4 [(0, .ref (ad 0)), (1, .ref (ae 0))] → f_X6_readClaim  s' q' = some z → W p l e (rm_X6_readClaim) sS m args below meth c H locs 0 0 (MQ below (xQ G W0 (cells6 G ad z.1 ++ cells0 G ae z.2) none) args sS 0 0 (x_in W0)) (F0 m 0 ls []) := by
  intro s q z H locs ls hw hl hf
  unfold f_X6_readClaim at hf
  refine lv_aload_n (pc := 0) E.1 E.2.1 dX6_readClaim_0 rfl (lv_at hl 0 rfl) ?_
  refine lv_iconst (v := 0) (pc := 1) E.1 E.2.1 dX6_readClaim_1 (by decide) ?_
  refine lv_aload_n (pc := 2) E.1 E.2.1 dX6_readClaim_2 rfl (lv_at hl 1 rfl) ?_
  refine xg_X6_75 (pc := 3) (v := .int (g0_fleets q)) E hw 2 rfl rfl dX6_readClaim_3 ?_
  refine lv_iconst (v := 1) (pc := 6) E.1 E.2.1 dX6_readClaim_6 (by decide) ?_
  refine lv_isub (pc := 7) E.1 E.2.1 dX6_readClaim_7 ?_
  obtain ⟨v1, g2, hf⟩ := x_bind hf
  refine x_callV (pc := 8) (As := [.int 0, .int ((g0_fleets q) - (1 : Int32))]) (rest := []) (st1 := [.int v1.1]) (ws' := (cells6 G ad v1.2 ++ cells0 G ae q)) E hw hl (c_X6_readNumber l G ad s 0 ((g0_fleets q) - (1 : Int32)) g2) xv_X6_45 xd_X6_readNumber rfl rfl ⟨Nat.le_of_ble_eq_true rfl, Nat.le_of_ble_eq_true rfl⟩ [0, 1] [2, 3, 4, 5] (by decide) ⟨rfl, rfl, trivial⟩ (q0 := 0) rfl rfl rfl rfl (Nat.le_of_ble_eq_true rfl) (nw := 6) ⟨rfl, rfl, trivial⟩ ⟨⟨_, rfl, rfl⟩, ⟨_, rfl, rfl⟩, ⟨_, rfl, rfl⟩, ⟨_, rfl, rfl⟩, trivial⟩ rfl rfl (by decide) (by decide) rfl dX6_readClaim_8 (fun H locs hw => ?_)
  refine lv_istore_n (lv' := [(2, .int v1.1), (0, .ref (ad 0)), (1, .ref (ae 0))]) (pc := 11) E.1 E.2.1 dX6_readClaim_11 rfl hl (by decide) rfl (fun ls hl => ?_)
  refine lv_aload_n (pc := 12) E.1 E.2.1 dX6_readClaim_12 rfl (lv_at hl 1 rfl) ?_
  refine lv_iconst (v := 0) (pc := 13) E.1 E.2.1 dX6_readClaim_13 (by decide) ?_
  refine lv_iconst (v := 4) (pc := 14) E.1 E.2.1 dX6_readClaim_14 (by decide) ?_
  obtain ⟨v3, g4, hf⟩ := x_bind hf
  refine x_callV (pc := 15) (As := [.int 0, .int 4]) (rest := []) (st1 := [.int v3.1]) (ws' := (cells6 G ad v3.2 ++ cells0 G ae q)) E hw hl (c_X6_readNumber l G ad v1.2 0 4 g4) xv_X6_45 xd_X6_readNumber rfl rfl ⟨Nat.le_of_ble_eq_true rfl, Nat.le_of_ble_eq_true rfl⟩ [0, 1] [2, 3, 4, 5] (by decide) ⟨rfl, rfl, trivial⟩ (q0 := 0) rfl rfl rfl rfl (Nat.le_of_ble_eq_true rfl) (nw := 6) ⟨rfl, rfl, trivial⟩ ⟨⟨_, rfl, rfl⟩, ⟨_, rfl, rfl⟩, ⟨_, rfl, rfl⟩, ⟨_, rfl, rfl⟩, trivial⟩ rfl rfl (by decide) (by decide) rfl dX6_readClaim_15 (fun H locs hw => ?_)
  refine lv_istore_n (lv' := [(3, .int v3.1), (2, .int v1.1), (0, .ref (ad 0)), (1, .ref (ae 0))]) (pc := 18) E.1 E.2.1 dX6_readClaim_18 rfl hl (by decide) rfl (fun ls hl => ?_)
  refine lv_aload_n (pc := 19) E.1 E.2.1 dX6_readClaim_19 rfl (lv_at hl 3 rfl) ?_
  refine lv_iload_n (pc := 20) E.1 E.2.1 dX6_readClaim_20 rfl (lv_at hl 1 rfl) ?_
  refine lv_iload_n (pc := 21) E.1 E.2.1 dX6_readClaim_21 rfl (lv_at hl 0 rfl) ?_
  obtain ⟨v5, g6, hf⟩ := x_bind hf
  refine x_callV (pc := 22) (As := [.int v1.1, .int v3.1]) (rest := []) (st1 := [.int v5]) (ws' := (cells6 G ad v3.2 ++ cells0 G ae q)) E hw hl (c_X0_canClaim l G ae q v1.1 v3.1 g6) xv_X6_101 xd_X0_canClaim rfl rfl ⟨Nat.le_of_ble_eq_true rfl, Nat.le_of_ble_eq_true rfl⟩ [2, 3, 4, 5] [0, 1] (by decide) ⟨rfl, rfl, rfl, rfl, trivial⟩ (q0 := 2) rfl rfl rfl rfl (Nat.le_of_ble_eq_true rfl) (nw := 6) ⟨rfl, rfl, rfl, rfl, trivial⟩ ⟨⟨_, rfl, rfl⟩, ⟨_, rfl, rfl⟩, trivial⟩ rfl rfl (by decide) (by decide) rfl dX6_readClaim_22 (fun H locs hw => ?_)
  refine lv_if_ne (tgt := 36) (pc := 25) E.1 E.2.1 dX6_readClaim_25 (by decide) (fun q7 => ?_) (fun q7 => ?_)
  · have hf := x_neg q7 hf
    exact w_X6_readClaim_p36 E hr hk  v3.2 q v1.1 v3.1 z hw (lv_sub hl [2, 3, 1, 0] rfl) hf
  · have hf := x_pos q7 hf
    refine lv_aload_n (pc := 28) E.1 E.2.1 dX6_readClaim_28 rfl (lv_at hl 2 rfl) ?_
    refine lv_aload_n (pc := 29) E.1 E.2.1 dX6_readClaim_29 rfl (lv_at hl 2 rfl) ?_
    refine xg_X6_105 (pc := 30) (v := .int (g6_begin v3.2)) E hw 0 rfl rfl dX6_readClaim_30 ?_
    obtain ⟨v8, g9, hf⟩ := x_bind hf
    refine x_callV (pc := 33) (As := [.int (g6_begin v3.2)]) (rest := []) (st1 := []) (ws' := (cells6 G ad v8 ++ cells0 G ae q)) E hw hl (c_X6_failAt l G ad v3.2 (g6_begin v3.2) g9) xv_X6_83 xd_X6_failAt rfl rfl ⟨Nat.le_of_ble_eq_true rfl, Nat.le_of_ble_eq_true rfl⟩ [0, 1] [2, 3, 4, 5] (by decide) ⟨rfl, rfl, trivial⟩ (q0 := 0) rfl rfl rfl rfl (Nat.le_of_ble_eq_true rfl) (nw := 6) ⟨rfl, rfl, trivial⟩ ⟨⟨_, rfl, rfl⟩, ⟨_, rfl, rfl⟩, ⟨_, rfl, rfl⟩, ⟨_, rfl, rfl⟩, trivial⟩ rfl rfl (by decide) (by decide) rfl dX6_readClaim_33 (fun H locs hw => ?_)
    exact w_X6_readClaim_p36 E hr hk  v8 q v1.1 v3.1 z hw (lv_sub hl [2, 3, 1, 0] rfl) hf
set_option maxHeartbeats 4000000 in
set_option maxRecDepth 100000 in
theorem c_X6_readClaim (l : Launch) (G : xG) (ad : Nat → Nat) (ae : Nat → Nat) (s : S6) (q : S0) {z : S6 × S0} (hf : f_X6_readClaim s q = some z) : xC l yX6_readClaim cX6_readClaim 4 none (rm_X6_readClaim) G [.ref (ad 0), .ref (ae 0)] (cells6 G ad s ++ cells0 G ae q) none (cells6 G ad z.1 ++ cells0 G ae z.2) :=
  x_met (by decide) rfl (Nat.le_of_ble_eq_true rfl) (fun p e sS m below meth c E hr hk ls hl hw => w_X6_readClaim_p0 E hr hk s q z hw hl hf)
set_option maxHeartbeats 4000000 in
set_option maxRecDepth 100000 in
theorem w_X6_readEnd_p0 {p : Program} {l : Launch} {e : Env} {sS : State} {m : MethodId} {args : Array Value} {below : List Frame} {meth : Method} {c : Code} {G : xG} {W0 : va_W} {ad : Nat → Nat}   (E : xE p sS m args c cX6_readEnd 1 RX6 G (x_in W0)) (hr : meth.sig.returnType = none) (hk : meth.locks = false)  : ∀ (s' : S6) (z : S6) {H : Heap} {locs : List Loc} {ls : Array Slot}, xW G (x_in W0) sS.heap (cells6 G ad s') H locs → lv_has ls 1 [(0, .ref (ad 0))] → f_X6_readEnd  s' = some z → W p l e (rm_X6_readEnd) sS m args below meth c H locs 0 0 (MQ below (xQ G W0 (cells6 G ad z) none) args sS 0 0 (x_in W0)) (F0 m 0 ls []) := by
  intro s z H locs ls hw hl hf
  unfold f_X6_readEnd at hf
  refine lv_aload_n (pc := 0) E.1 E.2.1 dX6_readEnd_0 rfl (lv_at hl 0 rfl) ?_
  obtain ⟨v1, g2, hf⟩ := x_bind hf
  refine x_callVA (pc := 1) (As := []) (rest := []) (st1 := [.int v1.1]) (ws' := (cells6 G ad v1.2)) E hw hl (c_X6_isEndNext l G ad s g2) xv_X6_94 xd_X6_isEndNext rfl rfl ⟨Nat.le_of_ble_eq_true rfl, Nat.le_of_ble_eq_true rfl⟩ (q0 := 0) rfl rfl rfl rfl (Nat.le_of_ble_eq_true rfl) rfl dX6_readEnd_1 (fun H locs hw => ?_)
  refine lv_if_eq (tgt := 20) (pc := 4) E.1 E.2.1 dX6_readEnd_4 (by decide) (fun q3 => ?_) (fun q3 => ?_)
  · have hf := x_pos q3 hf
    refine lv_aload_n (pc := 20) E.1 E.2.1 dX6_readEnd_20 rfl (lv_at hl 0 rfl) ?_
    refine lv_aload_n (pc := 21) E.1 E.2.1 dX6_readEnd_21 rfl (lv_at hl 0 rfl) ?_
    refine xg_X6_28 (pc := 22) (v := .int (g6_at v1.2)) E hw 0 rfl rfl dX6_readEnd_22 ?_
    obtain ⟨v4, g5, hf⟩ := x_bind hf
    refine x_callVA (pc := 25) (As := [.int (g6_at v1.2)]) (rest := []) (st1 := []) (ws' := (cells6 G ad v4)) E hw hl (c_X6_failAt l G ad v1.2 (g6_at v1.2) g5) xv_X6_83 xd_X6_failAt rfl rfl ⟨Nat.le_of_ble_eq_true rfl, Nat.le_of_ble_eq_true rfl⟩ (q0 := 0) rfl rfl rfl rfl (Nat.le_of_ble_eq_true rfl) rfl dX6_readEnd_25 (fun H locs hw => ?_)
    obtain rfl := Option.some.inj hf
    exact x_retv (pc := 28) E hr hk hw dX6_readEnd_28
  · have hf := x_neg q3 hf
    refine lv_aload_n (pc := 7) E.1 E.2.1 dX6_readEnd_7 rfl (lv_at hl 0 rfl) ?_
    refine lv_dup (pc := 8) E.1 E.2.1 dX6_readEnd_8 rfl ?_
    refine xg_X6_28 (pc := 9) (v := .int (g6_at v1.2)) E hw 0 rfl rfl dX6_readEnd_9 ?_
    refine lv_iconst (v := 1) (pc := 12) E.1 E.2.1 dX6_readEnd_12 (by decide) ?_
    refine lv_iadd (pc := 13) E.1 E.2.1 dX6_readEnd_13 ?_
    refine xp_X6_28 (pc := 14) (v := .int ((g6_at v1.2) + (1 : Int32))) (ws' := (cells6c G ad (g6_bytes v1.2) (g6_size v1.2) ((g6_at v1.2) + (1 : Int32)) (g6_fault v1.2) (g6_begin v1.2))) E hw 0 rfl rfl rfl (Nat.le_of_ble_eq_true rfl) rfl dX6_readEnd_14 (fun H locs hw => ?_)
    refine lv_goto (tgt := 28) (pc := 17) E.1 E.2.1 dX6_readEnd_17 (by decide) ?_
    obtain rfl := Option.some.inj hf
    exact x_retv (pc := 28) E hr hk hw dX6_readEnd_28
set_option maxHeartbeats 4000000 in
set_option maxRecDepth 100000 in
theorem c_X6_readEnd (l : Launch) (G : xG) (ad : Nat → Nat) (s : S6) {z : S6} (hf : f_X6_readEnd s = some z) : xC l yX6_readEnd cX6_readEnd 1 none (rm_X6_readEnd) G [.ref (ad 0)] (cells6 G ad s) none (cells6 G ad z) :=
  x_met (by decide) rfl (Nat.le_of_ble_eq_true rfl) (fun p e sS m below meth c E hr hk ls hl hw => w_X6_readEnd_p0 E hr hk s z hw hl hf)
set_option maxHeartbeats 4000000 in
set_option maxRecDepth 100000 in
theorem w_X6_readSentence_p80 {p : Program} {l : Launch} {e : Env} {sS : State} {m : MethodId} {args : Array Value} {below : List Frame} {meth : Method} {c : Code} {G : xG} {W0 : va_W} {ad : Nat → Nat} {ae : Nat → Nat}   (E : xE p sS m args c cX6_readSentence 2 RX6 G (x_in W0)) (hr : meth.sig.returnType = none) (hk : meth.locks = false)  : ∀ (s' : S6) (q' : S0) (z : S6 × S0) {H : Heap} {locs : List Loc} {ls : Array Slot}, xW G (x_in W0) sS.heap (cells6 G ad s' ++ cells0 G ae q') H locs → lv_has ls 2 [(0, .ref (ad 0))] → f_X6_readSentence_p80  s' q' = some z → W p l e (rm_X6_readSentence) sS m args below meth c H locs 0 0 (MQ below (xQ G W0 (cells6 G ad z.1 ++ cells0 G ae z.2) none) args sS 0 0 (x_in W0)) (F0 m 80 ls []) := by
  intro s q z H locs ls hw hl hf
  unfold f_X6_readSentence_p80 at hf
  refine lv_aload_n (pc := 80) E.1 E.2.1 dX6_readSentence_80 rfl (lv_at hl 0 rfl) ?_
  obtain ⟨v1, g2, hf⟩ := x_bind hf
  refine x_callV (pc := 81) (As := []) (rest := []) (st1 := []) (ws' := (cells6 G ad v1 ++ cells0 G ae q)) E hw hl (c_X6_readEnd l G ad s g2) xv_X6_61 xd_X6_readEnd rfl rfl ⟨Nat.le_of_ble_eq_true rfl, Nat.le_of_ble_eq_true rfl⟩ [0, 1] [2, 3, 4, 5] (by decide) ⟨rfl, rfl, trivial⟩ (q0 := 0) rfl rfl rfl rfl (Nat.le_of_ble_eq_true rfl) (nw := 6) ⟨rfl, rfl, trivial⟩ ⟨⟨_, rfl, rfl⟩, ⟨_, rfl, rfl⟩, ⟨_, rfl, rfl⟩, ⟨_, rfl, rfl⟩, trivial⟩ rfl rfl (by decide) (by decide) rfl dX6_readSentence_81 (fun H locs hw => ?_)
  obtain rfl := Option.some.inj hf
  exact x_retv (pc := 84) E hr hk hw dX6_readSentence_84
set_option maxHeartbeats 4000000 in
set_option maxRecDepth 100000 in
theorem w_X6_readSentence_p0 {p : Program} {l : Launch} {e : Env} {sS : State} {m : MethodId} {args : Array Value} {below : List Frame} {meth : Method} {c : Code} {G : xG} {W0 : va_W} {ad : Nat → Nat} {ae : Nat → Nat}   (E : xE p sS m args c cX6_readSentence 2 RX6 G (x_in W0)) (hr : meth.sig.returnType = none) (hk : meth.locks = false)  : ∀ (s' : S6) (q' : S0) (z : S6 × S0) {H : Heap} {locs : List Loc} {ls : Array Slot}, xW G (x_in W0) sS.heap (cells6 G ad s' ++ cells0 G ae q') H locs → lv_has ls 2 [(0, .ref (ad 0)), (1, .ref (ae 0))] → f_X6_readSentence  s' q' = some z → W p l e (rm_X6_readSentence) sS m args below meth c H locs 0 0 (MQ below (xQ G W0 (cells6 G ad z.1 ++ cells0 G ae z.2) none) args sS 0 0 (x_in W0)) (F0 m 0 ls []) := by
  intro s q z H locs ls hw hl hf
  unfold f_X6_readSentence at hf
  refine lv_aload_n (pc := 0) E.1 E.2.1 dX6_readSentence_0 rfl (lv_at hl 0 rfl) ?_
  refine lv_aload_n (pc := 1) E.1 E.2.1 dX6_readSentence_1 rfl (lv_at hl 1 rfl) ?_
  obtain ⟨v1, g2, hf⟩ := x_bind hf
  refine x_callV (pc := 2) (As := [.ref (ae 0)]) (rest := []) (st1 := [.int v1.1]) (ws' := (cells6 G ad v1.2 ++ cells0 G ae q)) E hw hl (c_X6_readWord l G ad ae s q g2) xv_X6_41 xd_X6_readWord rfl rfl ⟨Nat.le_of_ble_eq_true rfl, Nat.le_of_ble_eq_true rfl⟩ [0, 1, 2, 3, 4, 5] [] (by decide) ⟨rfl, rfl, rfl, rfl, rfl, rfl, trivial⟩ (q0 := 0) rfl rfl rfl rfl (Nat.le_of_ble_eq_true rfl) (nw := 6) ⟨rfl, rfl, rfl, rfl, rfl, rfl, trivial⟩ trivial rfl rfl (by decide) (by decide) rfl dX6_readSentence_2 (fun H locs hw => ?_)
  by_cases q3 : v1.1 = 0
  · have hf := x_pos q3 hf
    refine x_swi (pc := 5) (v := 0) (tgt := 36) E q3 dX6_readSentence_5 (by decide) (by decide) rfl (by decide) ?_
    refine lv_aload_n (pc := 36) E.1 E.2.1 dX6_readSentence_36 rfl (lv_at hl 1 rfl) ?_
    refine lv_aload_n (pc := 37) E.1 E.2.1 dX6_readSentence_37 rfl (lv_at hl 0 rfl) ?_
    refine lv_iconst (v := 1) (pc := 38) E.1 E.2.1 dX6_readSentence_38 (by decide) ?_
    refine lv_bipush (v := 99) (pc := 39) E.1 E.2.1 dX6_readSentence_39 (by decide) ?_
    obtain ⟨v4, g5, hf⟩ := x_bind hf
    refine x_callV (pc := 41) (As := [.int 1, .int 99]) (rest := [.ref (ae 0)]) (st1 := [.int v4.1, .ref (ae 0)]) (ws' := (cells6 G ad v4.2 ++ cells0 G ae q)) E hw hl (c_X6_readNumber l G ad v1.2 1 99 g5) xv_X6_45 xd_X6_readNumber rfl rfl ⟨Nat.le_of_ble_eq_true rfl, Nat.le_of_ble_eq_true rfl⟩ [0, 1] [2, 3, 4, 5] (by decide) ⟨rfl, rfl, trivial⟩ (q0 := 0) rfl rfl rfl rfl (Nat.le_of_ble_eq_true rfl) (nw := 6) ⟨rfl, rfl, trivial⟩ ⟨⟨_, rfl, rfl⟩, ⟨_, rfl, rfl⟩, ⟨_, rfl, rfl⟩, ⟨_, rfl, rfl⟩, trivial⟩ rfl rfl (by decide) (by decide) rfl dX6_readSentence_41 (fun H locs hw => ?_)
    refine xp_X6_49 (pc := 44) (v := .int v4.1) (ws' := (cells6 G ad v4.2 ++ cells0c G ae (g0_fleets q) (g0_claims q) v4.1 (g0_steady q) (g0_classes q) (g0_years q) (g0_slips q))) E hw 2 rfl rfl rfl (Nat.le_of_ble_eq_true rfl) rfl dX6_readSentence_44 (fun H locs hw => ?_)
    refine lv_goto (tgt := 80) (pc := 47) E.1 E.2.1 dX6_readSentence_47 (by decide) ?_
    exact w_X6_readSentence_p80 E hr hk  v4.2 (u0_cap q v4.1) z hw (lv_sub hl [0] rfl) hf
  · have hf := x_neg q3 hf
    by_cases q6 : v1.1 = 1
    · have hf := x_pos q6 hf
      refine x_swi (pc := 5) (v := 1) (tgt := 50) E q6 dX6_readSentence_5 (by decide) (by decide) rfl (by decide) ?_
      refine lv_aload_n (pc := 50) E.1 E.2.1 dX6_readSentence_50 rfl (lv_at hl 1 rfl) ?_
      refine lv_aload_n (pc := 51) E.1 E.2.1 dX6_readSentence_51 rfl (lv_at hl 0 rfl) ?_
      refine lv_iconst (v := 0) (pc := 52) E.1 E.2.1 dX6_readSentence_52 (by decide) ?_
      refine lv_bipush (v := 50) (pc := 53) E.1 E.2.1 dX6_readSentence_53 (by decide) ?_
      obtain ⟨v7, g8, hf⟩ := x_bind hf
      refine x_callV (pc := 55) (As := [.int 0, .int 50]) (rest := [.ref (ae 0)]) (st1 := [.int v7.1, .ref (ae 0)]) (ws' := (cells6 G ad v7.2 ++ cells0 G ae q)) E hw hl (c_X6_readNumber l G ad v1.2 0 50 g8) xv_X6_45 xd_X6_readNumber rfl rfl ⟨Nat.le_of_ble_eq_true rfl, Nat.le_of_ble_eq_true rfl⟩ [0, 1] [2, 3, 4, 5] (by decide) ⟨rfl, rfl, trivial⟩ (q0 := 0) rfl rfl rfl rfl (Nat.le_of_ble_eq_true rfl) (nw := 6) ⟨rfl, rfl, trivial⟩ ⟨⟨_, rfl, rfl⟩, ⟨_, rfl, rfl⟩, ⟨_, rfl, rfl⟩, ⟨_, rfl, rfl⟩, trivial⟩ rfl rfl (by decide) (by decide) rfl dX6_readSentence_55 (fun H locs hw => ?_)
      refine xp_X6_52 (pc := 58) (v := .int v7.1) (ws' := (cells6 G ad v7.2 ++ cells0c G ae (g0_fleets q) (g0_claims q) (g0_cap q) v7.1 (g0_classes q) (g0_years q) (g0_slips q))) E hw 2 rfl rfl rfl (Nat.le_of_ble_eq_true rfl) rfl dX6_readSentence_58 (fun H locs hw => ?_)
      refine lv_goto (tgt := 80) (pc := 61) E.1 E.2.1 dX6_readSentence_61 (by decide) ?_
      exact w_X6_readSentence_p80 E hr hk  v7.2 (u0_steady q v7.1) z hw (lv_sub hl [0] rfl) hf
    · have hf := x_neg q6 hf
      by_cases q9 : v1.1 = 2
      · have hf := x_pos q9 hf
        refine x_swi (pc := 5) (v := 2) (tgt := 64) E q9 dX6_readSentence_5 (by decide) (by decide) rfl (by decide) ?_
        refine lv_aload_n (pc := 64) E.1 E.2.1 dX6_readSentence_64 rfl (lv_at hl 0 rfl) ?_
        refine lv_aload_n (pc := 65) E.1 E.2.1 dX6_readSentence_65 rfl (lv_at hl 1 rfl) ?_
        obtain ⟨v10, g11, hf⟩ := x_bind hf
        refine x_callV (pc := 66) (As := [.ref (ae 0)]) (rest := []) (st1 := []) (ws' := (cells6 G ad v10.1 ++ cells0 G ae v10.2)) E hw hl (c_X6_readFleet l G ad ae v1.2 q g11) xv_X6_55 xd_X6_readFleet rfl rfl ⟨Nat.le_of_ble_eq_true rfl, Nat.le_of_ble_eq_true rfl⟩ [0, 1, 2, 3, 4, 5] [] (by decide) ⟨rfl, rfl, rfl, rfl, rfl, rfl, trivial⟩ (q0 := 0) rfl rfl rfl rfl (Nat.le_of_ble_eq_true rfl) (nw := 6) ⟨rfl, rfl, rfl, rfl, rfl, rfl, trivial⟩ trivial rfl rfl (by decide) (by decide) rfl dX6_readSentence_66 (fun H locs hw => ?_)
        refine lv_goto (tgt := 80) (pc := 69) E.1 E.2.1 dX6_readSentence_69 (by decide) ?_
        exact w_X6_readSentence_p80 E hr hk  v10.1 v10.2 z hw (lv_sub hl [0] rfl) hf
      · have hf := x_neg q9 hf
        by_cases q12 : v1.1 = 3
        · have hf := x_pos q12 hf
          refine x_swi (pc := 5) (v := 3) (tgt := 72) E q12 dX6_readSentence_5 (by decide) (by decide) rfl (by decide) ?_
          refine lv_aload_n (pc := 72) E.1 E.2.1 dX6_readSentence_72 rfl (lv_at hl 0 rfl) ?_
          refine lv_aload_n (pc := 73) E.1 E.2.1 dX6_readSentence_73 rfl (lv_at hl 1 rfl) ?_
          obtain ⟨v13, g14, hf⟩ := x_bind hf
          refine x_callV (pc := 74) (As := [.ref (ae 0)]) (rest := []) (st1 := []) (ws' := (cells6 G ad v13.1 ++ cells0 G ae v13.2)) E hw hl (c_X6_readClaim l G ad ae v1.2 q g14) xv_X6_58 xd_X6_readClaim rfl rfl ⟨Nat.le_of_ble_eq_true rfl, Nat.le_of_ble_eq_true rfl⟩ [0, 1, 2, 3, 4, 5] [] (by decide) ⟨rfl, rfl, rfl, rfl, rfl, rfl, trivial⟩ (q0 := 0) rfl rfl rfl rfl (Nat.le_of_ble_eq_true rfl) (nw := 6) ⟨rfl, rfl, rfl, rfl, rfl, rfl, trivial⟩ trivial rfl rfl (by decide) (by decide) rfl dX6_readSentence_74 (fun H locs hw => ?_)
          refine lv_goto (tgt := 80) (pc := 77) E.1 E.2.1 dX6_readSentence_77 (by decide) ?_
          exact w_X6_readSentence_p80 E hr hk  v13.1 v13.2 z hw (lv_sub hl [0] rfl) hf
        · have hf := x_neg q12 hf
          refine x_swo (pc := 5) (n := 4) (tgt := 80) E (lt_s (lt_s (lt_s (lt_s lt_0 q3) q6) q9) q12) (by decide) dX6_readSentence_5 (by decide) ?_
          exact w_X6_readSentence_p80 E hr hk  v1.2 q z hw (lv_sub hl [0] rfl) hf
set_option maxHeartbeats 4000000 in
set_option maxRecDepth 100000 in
theorem c_X6_readSentence (l : Launch) (G : xG) (ad : Nat → Nat) (ae : Nat → Nat) (s : S6) (q : S0) {z : S6 × S0} (hf : f_X6_readSentence s q = some z) : xC l yX6_readSentence cX6_readSentence 2 none (rm_X6_readSentence) G [.ref (ad 0), .ref (ae 0)] (cells6 G ad s ++ cells0 G ae q) none (cells6 G ad z.1 ++ cells0 G ae z.2) :=
  x_met (by decide) rfl (Nat.le_of_ble_eq_true rfl) (fun p e sS m below meth c E hr hk ls hl hw => w_X6_readSentence_p0 E hr hk s q z hw hl hf)
set_option maxHeartbeats 4000000 in
set_option maxRecDepth 100000 in
theorem w_X6_readInto_p20 {p : Program} {l : Launch} {e : Env} {sS : State} {m : MethodId} {args : Array Value} {below : List Frame} {meth : Method} {c : Code} {G : xG} {W0 : va_W} {ad : Nat → Nat} {ae : Nat → Nat}  {k20 : S6 → S0 → Int32 → Option (Int32 × S6 × S0)} (E : xE p sS m args c cX6_readInto 3 RX6 G (x_in W0)) (hr : meth.sig.returnType = (some .int)) (hk : meth.locks = false) (hk20 : ∀ (s' : S6) (q' : S0) (x2' : Int32) (z : Int32 × S6 × S0) {H : Heap} {locs : List Loc} {ls : Array Slot}, xW G (x_in W0) sS.heap (cells6 G ad s' ++ cells0 G ae q') H locs → lv_has ls 3 [(0, .ref (ad 0)), (1, .ref (ae 0)), (2, .int x2')] → k20  s' q' x2' = some z → W p l e (rm_X6_readInto) sS m args below meth c H locs 0 0 (MQ below (xQ G W0 (cells6 G ad z.2.1 ++ cells0 G ae z.2.2) (some (.int z.1))) args sS 0 0 (x_in W0)) (F0 m 20 ls [])) : ∀ (s' : S6) (q' : S0) (x2' : Int32) (z : Int32 × S6 × S0) {H : Heap} {locs : List Loc} {ls : Array Slot}, xW G (x_in W0) sS.heap (cells6 G ad s' ++ cells0 G ae q') H locs → lv_has ls 3 [(0, .ref (ad 0)), (1, .ref (ae 0)), (2, .int x2')] → f_X6_readInto_p20 k20 s' q' x2' = some z → W p l e (rm_X6_readInto) sS m args below meth c H locs 0 0 (MQ below (xQ G W0 (cells6 G ad z.2.1 ++ cells0 G ae z.2.2) (some (.int z.1))) args sS 0 0 (x_in W0)) (F0 m 20 ls []) := by
  intro s q x2 z H locs ls hw hl hf
  unfold f_X6_readInto_p20 at hf
  refine lv_iload_n (pc := 20) E.1 E.2.1 dX6_readInto_20 rfl (lv_at hl 2 rfl) ?_
  refine lv_aload_n (pc := 21) E.1 E.2.1 dX6_readInto_21 rfl (lv_at hl 0 rfl) ?_
  refine xg_X6_15 (pc := 22) (v := .int (g6_size s)) E hw 0 rfl rfl dX6_readInto_22 ?_
  refine lv_icmp_ge (tgt := 62) (pc := 25) E.1 E.2.1 dX6_readInto_25 (by decide) (fun q1 => ?_) (fun q1 => ?_)
  · have hf := x_pos q1 hf
    refine lv_aload_n (pc := 62) E.1 E.2.1 dX6_readInto_62 rfl (lv_at hl 0 rfl) ?_
    refine xg_X6_31 (pc := 63) (v := .int (g6_fault s)) E hw 0 rfl rfl dX6_readInto_63 ?_
    obtain rfl := Option.some.inj hf
    exact x_reti (pc := 66) E hr hk hw dX6_readInto_66
  · have hf := x_neg q1 hf
    refine lv_aload_n (pc := 28) E.1 E.2.1 dX6_readInto_28 rfl (lv_at hl 0 rfl) ?_
    refine xg_X6_28 (pc := 29) (v := .int (g6_at s)) E hw 0 rfl rfl dX6_readInto_29 ?_
    refine lv_aload_n (pc := 32) E.1 E.2.1 dX6_readInto_32 rfl (lv_at hl 0 rfl) ?_
    refine xg_X6_15 (pc := 33) (v := .int (g6_size s)) E hw 0 rfl rfl dX6_readInto_33 ?_
    refine lv_icmp_ge (tgt := 62) (pc := 36) E.1 E.2.1 dX6_readInto_36 (by decide) (fun q2 => ?_) (fun q2 => ?_)
    · have hf := x_pos q2 hf
      refine lv_aload_n (pc := 62) E.1 E.2.1 dX6_readInto_62 rfl (lv_at hl 0 rfl) ?_
      refine xg_X6_31 (pc := 63) (v := .int (g6_fault s)) E hw 0 rfl rfl dX6_readInto_63 ?_
      obtain rfl := Option.some.inj hf
      exact x_reti (pc := 66) E hr hk hw dX6_readInto_66
    · have hf := x_neg q2 hf
      refine lv_aload_n (pc := 39) E.1 E.2.1 dX6_readInto_39 rfl (lv_at hl 0 rfl) ?_
      refine xg_X6_31 (pc := 40) (v := .int (g6_fault s)) E hw 0 rfl rfl dX6_readInto_40 ?_
      refine lv_iconst (v := (-1)) (pc := 43) E.1 E.2.1 dX6_readInto_43 (by decide) ?_
      refine lv_icmp_ne (tgt := 62) (pc := 44) E.1 E.2.1 dX6_readInto_44 (by decide) (fun q3 => ?_) (fun q3 => ?_)
      · have hf := x_neg q3 hf
        refine lv_aload_n (pc := 62) E.1 E.2.1 dX6_readInto_62 rfl (lv_at hl 0 rfl) ?_
        refine xg_X6_31 (pc := 63) (v := .int (g6_fault s)) E hw 0 rfl rfl dX6_readInto_63 ?_
        obtain rfl := Option.some.inj hf
        exact x_reti (pc := 66) E hr hk hw dX6_readInto_66
      · have hf := x_pos q3 hf
        refine lv_aload_n (pc := 47) E.1 E.2.1 dX6_readInto_47 rfl (lv_at hl 0 rfl) ?_
        refine lv_aload_n (pc := 48) E.1 E.2.1 dX6_readInto_48 rfl (lv_at hl 1 rfl) ?_
        obtain ⟨v4, g5, hf⟩ := x_bind hf
        refine x_callV (pc := 49) (As := [.ref (ae 0)]) (rest := []) (st1 := []) (ws' := (cells6 G ad v4.1 ++ cells0 G ae v4.2)) E hw hl (c_X6_readSentence l G ad ae s q g5) xv_X6_37 xd_X6_readSentence rfl rfl ⟨Nat.le_of_ble_eq_true rfl, Nat.le_of_ble_eq_true rfl⟩ [0, 1, 2, 3, 4, 5] [] (by decide) ⟨rfl, rfl, rfl, rfl, rfl, rfl, trivial⟩ (q0 := 0) rfl rfl rfl rfl (Nat.le_of_ble_eq_true rfl) (nw := 6) ⟨rfl, rfl, rfl, rfl, rfl, rfl, trivial⟩ trivial rfl rfl (by decide) (by decide) rfl dX6_readInto_49 (fun H locs hw => ?_)
        refine lv_aload_n (pc := 52) E.1 E.2.1 dX6_readInto_52 rfl (lv_at hl 0 rfl) ?_
        obtain ⟨v6, g7, hf⟩ := x_bind hf
        refine x_callV (pc := 53) (As := []) (rest := []) (st1 := []) (ws' := (cells6 G ad v6 ++ cells0 G ae v4.2)) E hw hl (c_X6_skipGaps l G ad v4.1 g7) xv_X6_34 xd_X6_skipGaps rfl rfl ⟨Nat.le_of_ble_eq_true rfl, Nat.le_of_ble_eq_true rfl⟩ [0, 1] [2, 3, 4, 5] (by decide) ⟨rfl, rfl, trivial⟩ (q0 := 0) rfl rfl rfl rfl (Nat.le_of_ble_eq_true rfl) (nw := 6) ⟨rfl, rfl, trivial⟩ ⟨⟨_, rfl, rfl⟩, ⟨_, rfl, rfl⟩, ⟨_, rfl, rfl⟩, ⟨_, rfl, rfl⟩, trivial⟩ rfl rfl (by decide) (by decide) rfl dX6_readInto_53 (fun H locs hw => ?_)
        refine lv_iinc (v := (x2 + 1)) (lv' := [(2, .int (x2 + 1)), (0, .ref (ad 0)), (1, .ref (ae 0))]) (pc := 56) E.1 E.2.1 dX6_readInto_56 hl (k := 2) rfl rfl (by decide) rfl (fun ls hl => ?_)
        refine lv_goto (tgt := 20) (pc := 59) E.1 E.2.1 dX6_readInto_59 (by decide) ?_
        exact hk20 v6 v4.2 (x2 + 1) z hw (lv_sub hl [1, 2, 0] rfl) hf
set_option maxHeartbeats 4000000 in
set_option maxRecDepth 100000 in
theorem wl_X6_readInto_p20 {p : Program} {l : Launch} {e : Env} {sS : State} {m : MethodId} {args : Array Value} {below : List Frame} {meth : Method} {c : Code} {G : xG} {W0 : va_W} {ad : Nat → Nat} {ae : Nat → Nat}   (E : xE p sS m args c cX6_readInto 3 RX6 G (x_in W0)) (hr : meth.sig.returnType = (some .int)) (hk : meth.locks = false)  : ∀ (s' : S6) (q' : S0) (x2' : Int32) (z : Int32 × S6 × S0) {H : Heap} {locs : List Loc} {ls : Array Slot}, xW G (x_in W0) sS.heap (cells6 G ad s' ++ cells0 G ae q') H locs → lv_has ls 3 [(0, .ref (ad 0)), (1, .ref (ae 0)), (2, .int x2')] → lp_X6_readInto_p20  s' q' x2' = some z → W p l e (rm_X6_readInto) sS m args below meth c H locs 0 0 (MQ below (xQ G W0 (cells6 G ad z.2.1 ++ cells0 G ae z.2.2) (some (.int z.1))) args sS 0 0 (x_in W0)) (F0 m 20 ls []) := by
  intro s q x2 z H locs ls hw hl hf
  exact x_loop_W (P := fun (q : S6 × S0 × Int32) (z : Int32 × S6 × S0) => ∀ {H : Heap} {locs : List Loc} {ls : Array Slot}, xW G (x_in W0) sS.heap (cells6 G ad q.1 ++ cells0 G ae q.2.1) H locs → lv_has ls 3 [(0, .ref (ad 0)), (1, .ref (ae 0)), (2, .int q.2.2)] → W p l e (rm_X6_readInto) sS m args below meth c H locs 0 0 (MQ below (xQ G W0 (cells6 G ad z.2.1 ++ cells0 G ae z.2.2) (some (.int z.1))) args sS 0 0 (x_in W0)) (F0 m 20 ls [])) (fun k hkk q z hf H locs ls hw hl => w_X6_readInto_p20 E hr hk  (fun s q x2 z H locs ls hw hl hf => hkk (s, q, x2) z hf hw hl) q.1 q.2.1 q.2.2 z hw hl hf) FU (s, q, x2) z hf hw hl
set_option maxHeartbeats 4000000 in
set_option maxRecDepth 100000 in
theorem w_X6_readInto_p0 {p : Program} {l : Launch} {e : Env} {sS : State} {m : MethodId} {args : Array Value} {below : List Frame} {meth : Method} {c : Code} {G : xG} {W0 : va_W} {ad : Nat → Nat} {ae : Nat → Nat}   (E : xE p sS m args c cX6_readInto 3 RX6 G (x_in W0)) (hr : meth.sig.returnType = (some .int)) (hk : meth.locks = false)  : ∀ (s' : S6) (q' : S0) (z : Int32 × S6 × S0) {H : Heap} {locs : List Loc} {ls : Array Slot}, xW G (x_in W0) sS.heap (cells6 G ad s' ++ cells0 G ae q') H locs → lv_has ls 3 [(0, .ref (ad 0)), (1, .ref (ae 0))] → f_X6_readInto  s' q' = some z → W p l e (rm_X6_readInto) sS m args below meth c H locs 0 0 (MQ below (xQ G W0 (cells6 G ad z.2.1 ++ cells0 G ae z.2.2) (some (.int z.1))) args sS 0 0 (x_in W0)) (F0 m 0 ls []) := by
  intro s q z H locs ls hw hl hf
  unfold f_X6_readInto at hf
  refine lv_aload_n (pc := 0) E.1 E.2.1 dX6_readInto_0 rfl (lv_at hl 1 rfl) ?_
  obtain ⟨v1, g2, hf⟩ := x_bind hf
  refine x_callV (pc := 1) (As := []) (rest := []) (st1 := []) (ws' := (cells6 G ad s ++ cells0 G ae v1)) E hw hl (c_X0_clear l G ae q g2) xv_X6_23 xd_X0_clear rfl rfl ⟨Nat.le_of_ble_eq_true rfl, Nat.le_of_ble_eq_true rfl⟩ [2, 3, 4, 5] [0, 1] (by decide) ⟨rfl, rfl, rfl, rfl, trivial⟩ (q0 := 2) rfl rfl rfl rfl (Nat.le_of_ble_eq_true rfl) (nw := 6) ⟨rfl, rfl, rfl, rfl, trivial⟩ ⟨⟨_, rfl, rfl⟩, ⟨_, rfl, rfl⟩, trivial⟩ rfl rfl (by decide) (by decide) rfl dX6_readInto_1 (fun H locs hw => ?_)
  refine lv_aload_n (pc := 4) E.1 E.2.1 dX6_readInto_4 rfl (lv_at hl 0 rfl) ?_
  refine lv_iconst (v := 0) (pc := 5) E.1 E.2.1 dX6_readInto_5 (by decide) ?_
  refine xp_X6_28 (pc := 6) (v := .int 0) (ws' := (cells6c G ad (g6_bytes s) (g6_size s) 0 (g6_fault s) (g6_begin s) ++ cells0 G ae v1)) E hw 0 rfl rfl rfl (Nat.le_of_ble_eq_true rfl) rfl dX6_readInto_6 (fun H locs hw => ?_)
  refine lv_aload_n (pc := 9) E.1 E.2.1 dX6_readInto_9 rfl (lv_at hl 0 rfl) ?_
  refine lv_iconst (v := (-1)) (pc := 10) E.1 E.2.1 dX6_readInto_10 (by decide) ?_
  refine xp_X6_31 (pc := 11) (v := .int (-1)) (ws' := (cells6c G ad (g6_bytes s) (g6_size s) 0 (-1) (g6_begin s) ++ cells0 G ae v1)) E hw 0 rfl rfl rfl (Nat.le_of_ble_eq_true rfl) rfl dX6_readInto_11 (fun H locs hw => ?_)
  refine lv_aload_n (pc := 14) E.1 E.2.1 dX6_readInto_14 rfl (lv_at hl 0 rfl) ?_
  obtain ⟨v3, g4, hf⟩ := x_bind hf
  refine x_callV (pc := 15) (As := []) (rest := []) (st1 := []) (ws' := (cells6 G ad v3 ++ cells0 G ae v1)) E hw hl (c_X6_skipGaps l G ad (u6_fault (u6_at s 0) (-1)) g4) xv_X6_34 xd_X6_skipGaps rfl rfl ⟨Nat.le_of_ble_eq_true rfl, Nat.le_of_ble_eq_true rfl⟩ [0, 1] [2, 3, 4, 5] (by decide) ⟨rfl, rfl, trivial⟩ (q0 := 0) rfl rfl rfl rfl (Nat.le_of_ble_eq_true rfl) (nw := 6) ⟨rfl, rfl, trivial⟩ ⟨⟨_, rfl, rfl⟩, ⟨_, rfl, rfl⟩, ⟨_, rfl, rfl⟩, ⟨_, rfl, rfl⟩, trivial⟩ rfl rfl (by decide) (by decide) rfl dX6_readInto_15 (fun H locs hw => ?_)
  refine lv_iconst (v := 0) (pc := 18) E.1 E.2.1 dX6_readInto_18 (by decide) ?_
  refine lv_istore_n (lv' := [(2, .int 0), (0, .ref (ad 0)), (1, .ref (ae 0))]) (pc := 19) E.1 E.2.1 dX6_readInto_19 rfl hl (by decide) rfl (fun ls hl => ?_)
  exact wl_X6_readInto_p20 E hr hk  v3 v1 0 z hw (lv_sub hl [1, 2, 0] rfl) hf
set_option maxHeartbeats 4000000 in
set_option maxRecDepth 100000 in
theorem c_X6_readInto (l : Launch) (G : xG) (ad : Nat → Nat) (ae : Nat → Nat) (s : S6) (q : S0) {z : Int32 × S6 × S0} (hf : f_X6_readInto s q = some z) : xC l yX6_readInto cX6_readInto 3 (some .int) (rm_X6_readInto) G [.ref (ad 0), .ref (ae 0)] (cells6 G ad s ++ cells0 G ae q) (some (.int z.1)) (cells6 G ad z.2.1 ++ cells0 G ae z.2.2) :=
  x_met (by decide) rfl (Nat.le_of_ble_eq_true rfl) (fun p e sS m below meth c E hr hk ls hl hw => w_X6_readInto_p0 E hr hk s q z hw hl hf)
set_option maxHeartbeats 4000000 in
set_option maxRecDepth 100000 in
theorem w_X4_clear_p0 {p : Program} {l : Launch} {e : Env} {sS : State} {m : MethodId} {args : Array Value} {below : List Frame} {meth : Method} {c : Code} {G : xG} {W0 : va_W} {ad : Nat → Nat}   (E : xE p sS m args c cX4_clear 1 RX4 G (x_in W0)) (hr : meth.sig.returnType = none) (hk : meth.locks = false)  : ∀ (s' : S4) (z : S4) {H : Heap} {locs : List Loc} {ls : Array Slot}, xW G (x_in W0) sS.heap (cells4 G ad s') H locs → lv_has ls 1 [(0, .ref (ad 0))] → f_X4_clear  s' = some z → W p l e (rm_X4_clear) sS m args below meth c H locs 0 0 (MQ below (xQ G W0 (cells4 G ad z) none) args sS 0 0 (x_in W0)) (F0 m 0 ls []) := by
  intro s z H locs ls hw hl hf
  unfold f_X4_clear at hf
  refine lv_aload_n (pc := 0) E.1 E.2.1 dX4_clear_0 rfl (lv_at hl 0 rfl) ?_
  refine lv_iconst (v := 0) (pc := 1) E.1 E.2.1 dX4_clear_1 (by decide) ?_
  refine xp_X4_18 (pc := 2) (v := .int 0) (ws' := (cells4c G ad 0 (g4_span s) (g4_sum s) (g4_shares s) (g4_base s) (g4_spanSquares s) (g4_lossSquares s) (g4_meanSquares s) (g4_freedom s) (g4_unlikeSpans s) (g4_within s) (g4_between s) (g4_weightedMeans s) (g4_ownLosses s) (g4_restSpans s))) E hw 0 rfl rfl rfl (Nat.le_of_ble_eq_true rfl) rfl dX4_clear_2 (fun H locs hw => ?_)
  refine lv_aload_n (pc := 5) E.1 E.2.1 dX4_clear_5 rfl (lv_at hl 0 rfl) ?_
  refine lv_iconst (v := 0) (pc := 6) E.1 E.2.1 dX4_clear_6 (by decide) ?_
  refine xp_X4_22 (pc := 7) (v := .int 0) (ws' := (cells4c G ad 0 0 (g4_sum s) (g4_shares s) (g4_base s) (g4_spanSquares s) (g4_lossSquares s) (g4_meanSquares s) (g4_freedom s) (g4_unlikeSpans s) (g4_within s) (g4_between s) (g4_weightedMeans s) (g4_ownLosses s) (g4_restSpans s))) E hw 0 rfl rfl rfl (Nat.le_of_ble_eq_true rfl) rfl dX4_clear_7 (fun H locs hw => ?_)
  refine lv_aload_n (pc := 10) E.1 E.2.1 dX4_clear_10 rfl (lv_at hl 0 rfl) ?_
  refine lv_iconst (v := 0) (pc := 11) E.1 E.2.1 dX4_clear_11 (by decide) ?_
  refine xp_X4_25 (pc := 12) (v := .int 0) (ws' := (cells4c G ad 0 0 0 (g4_shares s) (g4_base s) (g4_spanSquares s) (g4_lossSquares s) (g4_meanSquares s) (g4_freedom s) (g4_unlikeSpans s) (g4_within s) (g4_between s) (g4_weightedMeans s) (g4_ownLosses s) (g4_restSpans s))) E hw 0 rfl rfl rfl (Nat.le_of_ble_eq_true rfl) rfl dX4_clear_12 (fun H locs hw => ?_)
  refine lv_aload_n (pc := 15) E.1 E.2.1 dX4_clear_15 rfl (lv_at hl 0 rfl) ?_
  refine lv_iconst (v := 0) (pc := 16) E.1 E.2.1 dX4_clear_16 (by decide) ?_
  refine xp_X4_28 (pc := 17) (v := .int 0) (ws' := (cells4c G ad 0 0 0 0 (g4_base s) (g4_spanSquares s) (g4_lossSquares s) (g4_meanSquares s) (g4_freedom s) (g4_unlikeSpans s) (g4_within s) (g4_between s) (g4_weightedMeans s) (g4_ownLosses s) (g4_restSpans s))) E hw 0 rfl rfl rfl (Nat.le_of_ble_eq_true rfl) rfl dX4_clear_17 (fun H locs hw => ?_)
  refine lv_aload_n (pc := 20) E.1 E.2.1 dX4_clear_20 rfl (lv_at hl 0 rfl) ?_
  refine lv_lconst (v := 0) (pc := 21) E.1 E.2.1 dX4_clear_21 (by decide) ?_
  refine xp_X4_31 (pc := 22) (v := .long 0) (ws' := (cells4c G ad 0 0 0 0 (g4_base s) 0 (g4_lossSquares s) (g4_meanSquares s) (g4_freedom s) (g4_unlikeSpans s) (g4_within s) (g4_between s) (g4_weightedMeans s) (g4_ownLosses s) (g4_restSpans s))) E hw 0 rfl rfl rfl (Nat.le_of_ble_eq_true rfl) rfl dX4_clear_22 (fun H locs hw => ?_)
  refine lv_aload_n (pc := 25) E.1 E.2.1 dX4_clear_25 rfl (lv_at hl 0 rfl) ?_
  refine lv_lconst (v := 0) (pc := 26) E.1 E.2.1 dX4_clear_26 (by decide) ?_
  refine xp_X4_35 (pc := 27) (v := .long 0) (ws' := (cells4c G ad 0 0 0 0 (g4_base s) 0 0 (g4_meanSquares s) (g4_freedom s) (g4_unlikeSpans s) (g4_within s) (g4_between s) (g4_weightedMeans s) (g4_ownLosses s) (g4_restSpans s))) E hw 0 rfl rfl rfl (Nat.le_of_ble_eq_true rfl) rfl dX4_clear_27 (fun H locs hw => ?_)
  refine lv_aload_n (pc := 30) E.1 E.2.1 dX4_clear_30 rfl (lv_at hl 0 rfl) ?_
  refine lv_lconst (v := 0) (pc := 31) E.1 E.2.1 dX4_clear_31 (by decide) ?_
  refine xp_X4_38 (pc := 32) (v := .long 0) (ws' := (cells4c G ad 0 0 0 0 (g4_base s) 0 0 0 (g4_freedom s) (g4_unlikeSpans s) (g4_within s) (g4_between s) (g4_weightedMeans s) (g4_ownLosses s) (g4_restSpans s))) E hw 0 rfl rfl rfl (Nat.le_of_ble_eq_true rfl) rfl dX4_clear_32 (fun H locs hw => ?_)
  refine lv_aload_n (pc := 35) E.1 E.2.1 dX4_clear_35 rfl (lv_at hl 0 rfl) ?_
  refine lv_lconst (v := 0) (pc := 36) E.1 E.2.1 dX4_clear_36 (by decide) ?_
  refine xp_X4_41 (pc := 37) (v := .long 0) (ws' := (cells4c G ad 0 0 0 0 (g4_base s) 0 0 0 (g4_freedom s) (g4_unlikeSpans s) (g4_within s) (g4_between s) 0 (g4_ownLosses s) (g4_restSpans s))) E hw 0 rfl rfl rfl (Nat.le_of_ble_eq_true rfl) rfl dX4_clear_37 (fun H locs hw => ?_)
  refine lv_aload_n (pc := 40) E.1 E.2.1 dX4_clear_40 rfl (lv_at hl 0 rfl) ?_
  refine lv_lconst (v := 0) (pc := 41) E.1 E.2.1 dX4_clear_41 (by decide) ?_
  refine xp_X4_44 (pc := 42) (v := .long 0) (ws' := (cells4c G ad 0 0 0 0 (g4_base s) 0 0 0 (g4_freedom s) (g4_unlikeSpans s) (g4_within s) (g4_between s) 0 0 (g4_restSpans s))) E hw 0 rfl rfl rfl (Nat.le_of_ble_eq_true rfl) rfl dX4_clear_42 (fun H locs hw => ?_)
  refine lv_aload_n (pc := 45) E.1 E.2.1 dX4_clear_45 rfl (lv_at hl 0 rfl) ?_
  refine lv_lconst (v := 0) (pc := 46) E.1 E.2.1 dX4_clear_46 (by decide) ?_
  refine xp_X4_47 (pc := 47) (v := .long 0) (ws' := (cells4c G ad 0 0 0 0 (g4_base s) 0 0 0 (g4_freedom s) (g4_unlikeSpans s) (g4_within s) (g4_between s) 0 0 0)) E hw 0 rfl rfl rfl (Nat.le_of_ble_eq_true rfl) rfl dX4_clear_47 (fun H locs hw => ?_)
  obtain rfl := Option.some.inj hf
  exact x_retv (pc := 50) E hr hk hw dX4_clear_50
set_option maxHeartbeats 4000000 in
set_option maxRecDepth 100000 in
theorem c_X4_clear (l : Launch) (G : xG) (ad : Nat → Nat) (s : S4) {z : S4} (hf : f_X4_clear s = some z) : xC l yX4_clear cX4_clear 1 none (rm_X4_clear) G [.ref (ad 0)] (cells4 G ad s) none (cells4 G ad z) :=
  x_met (by decide) rfl (Nat.le_of_ble_eq_true rfl) (fun p e sS m below meth c E hr hk ls hl hw => w_X4_clear_p0 E hr hk s z hw hl hf)
set_option maxHeartbeats 4000000 in
set_option maxRecDepth 100000 in
theorem w_X4_hasBetween_p0 {p : Program} {l : Launch} {e : Env} {sS : State} {m : MethodId} {args : Array Value} {below : List Frame} {meth : Method} {c : Code} {G : xG} {W0 : va_W} {ad : Nat → Nat}   (E : xE p sS m args c cX4_hasBetween 1 RX4 G (x_in W0)) (hr : meth.sig.returnType = (some .boolean)) (hk : meth.locks = false)  : ∀ (s' : S4) (z : Int32) {H : Heap} {locs : List Loc} {ls : Array Slot}, xW G (x_in W0) sS.heap (cells4 G ad s') H locs → lv_has ls 1 [(0, .ref (ad 0))] → f_X4_hasBetween  s' = some z → W p l e (rm_X4_hasBetween) sS m args below meth c H locs 0 0 (MQ below (xQ G W0 (cells4 G ad s') (some (.int z))) args sS 0 0 (x_in W0)) (F0 m 0 ls []) := by
  intro s z H locs ls hw hl hf
  unfold f_X4_hasBetween at hf
  refine lv_aload_n (pc := 0) E.1 E.2.1 dX4_hasBetween_0 rfl (lv_at hl 0 rfl) ?_
  refine xg_X4_18 (pc := 1) (v := .int (g4_fleets s)) E hw 0 rfl rfl dX4_hasBetween_1 ?_
  refine lv_iconst (v := 2) (pc := 4) E.1 E.2.1 dX4_hasBetween_4 (by decide) ?_
  refine lv_icmp_lt (tgt := 21) (pc := 5) E.1 E.2.1 dX4_hasBetween_5 (by decide) (fun q1 => ?_) (fun q1 => ?_)
  · have hf := x_pos q1 hf
    refine lv_iconst (v := 0) (pc := 21) E.1 E.2.1 dX4_hasBetween_21 (by decide) ?_
    obtain rfl := Option.some.inj hf
    exact x_retz (pc := 22) (v := 0) (r := 0) E hr hk hw (by decide) dX4_hasBetween_22
  · have hf := x_neg q1 hf
    refine lv_aload_n (pc := 8) E.1 E.2.1 dX4_hasBetween_8 rfl (lv_at hl 0 rfl) ?_
    refine xg_X4_52 (pc := 9) (v := .long (g4_freedom s)) E hw 0 rfl rfl dX4_hasBetween_9 ?_
    refine lv_lconst (v := 0) (pc := 12) E.1 E.2.1 dX4_hasBetween_12 (by decide) ?_
    refine W.lcmp (pc := 13) E.1 E.2.1 dX4_hasBetween_13 ?_
    refine lv_if_le (tgt := 21) (pc := 14) E.1 E.2.1 dX4_hasBetween_14 (by decide) (fun q2 => ?_) (fun q2 => ?_)
    · have hf := x_pos q2 hf
      refine lv_iconst (v := 0) (pc := 21) E.1 E.2.1 dX4_hasBetween_21 (by decide) ?_
      obtain rfl := Option.some.inj hf
      exact x_retz (pc := 22) (v := 0) (r := 0) E hr hk hw (by decide) dX4_hasBetween_22
    · have hf := x_neg q2 hf
      refine lv_iconst (v := 1) (pc := 17) E.1 E.2.1 dX4_hasBetween_17 (by decide) ?_
      refine lv_goto (tgt := 22) (pc := 18) E.1 E.2.1 dX4_hasBetween_18 (by decide) ?_
      obtain rfl := Option.some.inj hf
      exact x_retz (pc := 22) (v := 1) (r := 1) E hr hk hw (by decide) dX4_hasBetween_22
set_option maxHeartbeats 4000000 in
set_option maxRecDepth 100000 in
theorem c_X4_hasBetween (l : Launch) (G : xG) (ad : Nat → Nat) (s : S4) {z : Int32} (hf : f_X4_hasBetween s = some z) : xC l yX4_hasBetween cX4_hasBetween 1 (some .boolean) (rm_X4_hasBetween) G [.ref (ad 0)] (cells4 G ad s) (some (.int z)) (cells4 G ad s) :=
  x_met (by decide) rfl (Nat.le_of_ble_eq_true rfl) (fun p e sS m below meth c E hr hk ls hl hw => w_X4_hasBetween_p0 E hr hk s z hw hl hf)
set_option maxHeartbeats 4000000 in
set_option maxRecDepth 100000 in
theorem w_X4_settle_p0 {p : Program} {l : Launch} {e : Env} {sS : State} {m : MethodId} {args : Array Value} {below : List Frame} {meth : Method} {c : Code} {G : xG} {W0 : va_W} {ad : Nat → Nat}   (E : xE p sS m args c cX4_settle 1 RX4 G (x_in W0)) (hr : meth.sig.returnType = none) (hk : meth.locks = false)  : ∀ (s' : S4) (z : S4) {H : Heap} {locs : List Loc} {ls : Array Slot}, xW G (x_in W0) sS.heap (cells4 G ad s') H locs → lv_has ls 1 [(0, .ref (ad 0))] → f_X4_settle  s' = some z → W p l e (rm_X4_settle) sS m args below meth c H locs 0 0 (MQ below (xQ G W0 (cells4 G ad z) none) args sS 0 0 (x_in W0)) (F0 m 0 ls []) := by
  intro s z H locs ls hw hl hf
  unfold f_X4_settle at hf
  refine lv_aload_n (pc := 0) E.1 E.2.1 dX4_settle_0 rfl (lv_at hl 0 rfl) ?_
  refine lv_aload_n (pc := 1) E.1 E.2.1 dX4_settle_1 rfl (lv_at hl 0 rfl) ?_
  refine xg_X4_22 (pc := 2) (v := .int (g4_span s)) E hw 0 rfl rfl dX4_settle_2 ?_
  refine lv_aload_n (pc := 5) E.1 E.2.1 dX4_settle_5 rfl (lv_at hl 0 rfl) ?_
  refine xg_X4_18 (pc := 6) (v := .int (g4_fleets s)) E hw 0 rfl rfl dX4_settle_6 ?_
  refine lv_isub (pc := 9) E.1 E.2.1 dX4_settle_9 ?_
  refine lv_i2l (v := (Int32.toInt64 ((g4_span s) - (g4_fleets s)))) (pc := 10) E.1 E.2.1 dX4_settle_10 rfl ?_
  refine xp_X4_52 (pc := 11) (v := .long (Int32.toInt64 ((g4_span s) - (g4_fleets s)))) (ws' := (cells4c G ad (g4_fleets s) (g4_span s) (g4_sum s) (g4_shares s) (g4_base s) (g4_spanSquares s) (g4_lossSquares s) (g4_meanSquares s) (Int32.toInt64 ((g4_span s) - (g4_fleets s))) (g4_unlikeSpans s) (g4_within s) (g4_between s) (g4_weightedMeans s) (g4_ownLosses s) (g4_restSpans s))) E hw 0 rfl rfl rfl (Nat.le_of_ble_eq_true rfl) rfl dX4_settle_11 (fun H locs hw => ?_)
  refine lv_aload_n (pc := 14) E.1 E.2.1 dX4_settle_14 rfl (lv_at hl 0 rfl) ?_
  refine lv_aload_n (pc := 15) E.1 E.2.1 dX4_settle_15 rfl (lv_at hl 0 rfl) ?_
  refine xg_X4_22 (pc := 16) (v := .int (g4_span s)) E hw 0 rfl rfl dX4_settle_16 ?_
  refine lv_i2l (v := (Int32.toInt64 (g4_span s))) (pc := 19) E.1 E.2.1 dX4_settle_19 rfl ?_
  refine lv_aload_n (pc := 20) E.1 E.2.1 dX4_settle_20 rfl (lv_at hl 0 rfl) ?_
  refine xg_X4_22 (pc := 21) (v := .int (g4_span s)) E hw 0 rfl rfl dX4_settle_21 ?_
  refine lv_i2l (v := (Int32.toInt64 (g4_span s))) (pc := 24) E.1 E.2.1 dX4_settle_24 rfl ?_
  refine lv_lmul (pc := 25) E.1 E.2.1 dX4_settle_25 ?_
  refine lv_aload_n (pc := 26) E.1 E.2.1 dX4_settle_26 rfl (lv_at hl 0 rfl) ?_
  refine xg_X4_31 (pc := 27) (v := .long (g4_spanSquares s)) E hw 0 rfl rfl dX4_settle_27 ?_
  refine lv_lsub (pc := 30) E.1 E.2.1 dX4_settle_30 ?_
  refine xp_X4_55 (pc := 31) (v := .long (((Int32.toInt64 (g4_span s)) * (Int32.toInt64 (g4_span s))) - (g4_spanSquares s))) (ws' := (cells4c G ad (g4_fleets s) (g4_span s) (g4_sum s) (g4_shares s) (g4_base s) (g4_spanSquares s) (g4_lossSquares s) (g4_meanSquares s) (Int32.toInt64 ((g4_span s) - (g4_fleets s))) (((Int32.toInt64 (g4_span s)) * (Int32.toInt64 (g4_span s))) - (g4_spanSquares s)) (g4_within s) (g4_between s) (g4_weightedMeans s) (g4_ownLosses s) (g4_restSpans s))) E hw 0 rfl rfl rfl (Nat.le_of_ble_eq_true rfl) rfl dX4_settle_31 (fun H locs hw => ?_)
  refine lv_aload_n (pc := 34) E.1 E.2.1 dX4_settle_34 rfl (lv_at hl 0 rfl) ?_
  refine lv_aload_n (pc := 35) E.1 E.2.1 dX4_settle_35 rfl (lv_at hl 0 rfl) ?_
  refine xg_X4_35 (pc := 36) (v := .long (g4_lossSquares s)) E hw 0 rfl rfl dX4_settle_36 ?_
  refine lv_aload_n (pc := 39) E.1 E.2.1 dX4_settle_39 rfl (lv_at hl 0 rfl) ?_
  refine xg_X4_38 (pc := 40) (v := .long (g4_meanSquares s)) E hw 0 rfl rfl dX4_settle_40 ?_
  refine lv_lsub (pc := 43) E.1 E.2.1 dX4_settle_43 ?_
  refine xp_X4_58 (pc := 44) (v := .long ((g4_lossSquares s) - (g4_meanSquares s))) (ws' := (cells4c G ad (g4_fleets s) (g4_span s) (g4_sum s) (g4_shares s) (g4_base s) (g4_spanSquares s) (g4_lossSquares s) (g4_meanSquares s) (Int32.toInt64 ((g4_span s) - (g4_fleets s))) (((Int32.toInt64 (g4_span s)) * (Int32.toInt64 (g4_span s))) - (g4_spanSquares s)) ((g4_lossSquares s) - (g4_meanSquares s)) (g4_between s) (g4_weightedMeans s) (g4_ownLosses s) (g4_restSpans s))) E hw 0 rfl rfl rfl (Nat.le_of_ble_eq_true rfl) rfl dX4_settle_44 (fun H locs hw => ?_)
  refine lv_aload_n (pc := 47) E.1 E.2.1 dX4_settle_47 rfl (lv_at hl 0 rfl) ?_
  refine lv_lconst (v := 0) (pc := 48) E.1 E.2.1 dX4_settle_48 (by decide) ?_
  refine xp_X4_61 (pc := 49) (v := .long 0) (ws' := (cells4c G ad (g4_fleets s) (g4_span s) (g4_sum s) (g4_shares s) (g4_base s) (g4_spanSquares s) (g4_lossSquares s) (g4_meanSquares s) (Int32.toInt64 ((g4_span s) - (g4_fleets s))) (((Int32.toInt64 (g4_span s)) * (Int32.toInt64 (g4_span s))) - (g4_spanSquares s)) ((g4_lossSquares s) - (g4_meanSquares s)) 0 (g4_weightedMeans s) (g4_ownLosses s) (g4_restSpans s))) E hw 0 rfl rfl rfl (Nat.le_of_ble_eq_true rfl) rfl dX4_settle_49 (fun H locs hw => ?_)
  refine lv_aload_n (pc := 52) E.1 E.2.1 dX4_settle_52 rfl (lv_at hl 0 rfl) ?_
  obtain ⟨v1, g2, hf⟩ := x_bind hf
  refine x_callVA (pc := 53) (As := []) (rest := []) (st1 := [.int v1]) (ws' := (cells4c G ad (g4_fleets s) (g4_span s) (g4_sum s) (g4_shares s) (g4_base s) (g4_spanSquares s) (g4_lossSquares s) (g4_meanSquares s) (Int32.toInt64 ((g4_span s) - (g4_fleets s))) (((Int32.toInt64 (g4_span s)) * (Int32.toInt64 (g4_span s))) - (g4_spanSquares s)) ((g4_lossSquares s) - (g4_meanSquares s)) 0 (g4_weightedMeans s) (g4_ownLosses s) (g4_restSpans s))) E hw hl (c_X4_hasBetween l G ad (u4_between (u4_within (u4_unlikeSpans (u4_freedom s (Int32.toInt64 ((g4_span s) - (g4_fleets s)))) (((Int32.toInt64 (g4_span s)) * (Int32.toInt64 (g4_span s))) - (g4_spanSquares s))) ((g4_lossSquares s) - (g4_meanSquares s))) 0) g2) xv_X4_64 xd_X4_hasBetween rfl rfl ⟨Nat.le_of_ble_eq_true rfl, Nat.le_of_ble_eq_true rfl⟩ (q0 := 0) rfl rfl rfl rfl (Nat.le_of_ble_eq_true rfl) rfl dX4_settle_53 (fun H locs hw => ?_)
  refine lv_if_eq (tgt := 122) (pc := 56) E.1 E.2.1 dX4_settle_56 (by decide) (fun q3 => ?_) (fun q3 => ?_)
  · have hf := x_pos q3 hf
    obtain rfl := Option.some.inj hf
    exact x_retv (pc := 122) E hr hk hw dX4_settle_122
  · have hf := x_neg q3 hf
    refine lv_aload_n (pc := 59) E.1 E.2.1 dX4_settle_59 rfl (lv_at hl 0 rfl) ?_
    refine lv_lconst (v := 0) (pc := 60) E.1 E.2.1 dX4_settle_60 (by decide) ?_
    refine lv_aload_n (pc := 61) E.1 E.2.1 dX4_settle_61 rfl (lv_at hl 0 rfl) ?_
    refine xg_X4_38 (pc := 62) (v := .long (g4_meanSquares s)) E hw 0 rfl rfl dX4_settle_62 ?_
    refine lv_aload_n (pc := 65) E.1 E.2.1 dX4_settle_65 rfl (lv_at hl 0 rfl) ?_
    refine xg_X4_22 (pc := 66) (v := .int (g4_span s)) E hw 0 rfl rfl dX4_settle_66 ?_
    refine lv_i2l (v := (Int32.toInt64 (g4_span s))) (pc := 69) E.1 E.2.1 dX4_settle_69 rfl ?_
    refine lv_lmul (pc := 70) E.1 E.2.1 dX4_settle_70 ?_
    refine lv_aload_n (pc := 71) E.1 E.2.1 dX4_settle_71 rfl (lv_at hl 0 rfl) ?_
    refine xg_X4_52 (pc := 72) (v := .long (Int32.toInt64 ((g4_span s) - (g4_fleets s)))) E hw 0 rfl rfl dX4_settle_72 ?_
    refine lv_lmul (pc := 75) E.1 E.2.1 dX4_settle_75 ?_
    refine lv_ldc2 (v := 60) (pc := 76) E.1 E.2.1 E.2.2.2.1 (E.2.2.2.2.1 _ wq_817) dX4_settle_76 ?_
    refine lv_aload_n (pc := 79) E.1 E.2.1 dX4_settle_79 rfl (lv_at hl 0 rfl) ?_
    refine xg_X4_25 (pc := 80) (v := .int (g4_sum s)) E hw 0 rfl rfl dX4_settle_80 ?_
    refine lv_i2l (v := (Int32.toInt64 (g4_sum s))) (pc := 83) E.1 E.2.1 dX4_settle_83 rfl ?_
    refine lv_lmul (pc := 84) E.1 E.2.1 dX4_settle_84 ?_
    refine lv_aload_n (pc := 85) E.1 E.2.1 dX4_settle_85 rfl (lv_at hl 0 rfl) ?_
    refine xg_X4_25 (pc := 86) (v := .int (g4_sum s)) E hw 0 rfl rfl dX4_settle_86 ?_
    refine lv_i2l (v := (Int32.toInt64 (g4_sum s))) (pc := 89) E.1 E.2.1 dX4_settle_89 rfl ?_
    refine lv_lmul (pc := 90) E.1 E.2.1 dX4_settle_90 ?_
    refine lv_aload_n (pc := 91) E.1 E.2.1 dX4_settle_91 rfl (lv_at hl 0 rfl) ?_
    refine xg_X4_52 (pc := 92) (v := .long (Int32.toInt64 ((g4_span s) - (g4_fleets s)))) E hw 0 rfl rfl dX4_settle_92 ?_
    refine lv_lmul (pc := 95) E.1 E.2.1 dX4_settle_95 ?_
    refine lv_lsub (pc := 96) E.1 E.2.1 dX4_settle_96 ?_
    refine lv_aload_n (pc := 97) E.1 E.2.1 dX4_settle_97 rfl (lv_at hl 0 rfl) ?_
    refine xg_X4_18 (pc := 98) (v := .int (g4_fleets s)) E hw 0 rfl rfl dX4_settle_98 ?_
    refine lv_iconst (v := 1) (pc := 101) E.1 E.2.1 dX4_settle_101 (by decide) ?_
    refine lv_isub (pc := 102) E.1 E.2.1 dX4_settle_102 ?_
    refine lv_i2l (v := (Int32.toInt64 ((g4_fleets s) - (1 : Int32)))) (pc := 103) E.1 E.2.1 dX4_settle_103 rfl ?_
    refine lv_aload_n (pc := 104) E.1 E.2.1 dX4_settle_104 rfl (lv_at hl 0 rfl) ?_
    refine xg_X4_58 (pc := 105) (v := .long ((g4_lossSquares s) - (g4_meanSquares s))) E hw 0 rfl rfl dX4_settle_105 ?_
    refine lv_lmul (pc := 108) E.1 E.2.1 dX4_settle_108 ?_
    refine lv_aload_n (pc := 109) E.1 E.2.1 dX4_settle_109 rfl (lv_at hl 0 rfl) ?_
    refine xg_X4_22 (pc := 110) (v := .int (g4_span s)) E hw 0 rfl rfl dX4_settle_110 ?_
    refine lv_i2l (v := (Int32.toInt64 (g4_span s))) (pc := 113) E.1 E.2.1 dX4_settle_113 rfl ?_
    refine lv_lmul (pc := 114) E.1 E.2.1 dX4_settle_114 ?_
    refine lv_lsub (pc := 115) E.1 E.2.1 dX4_settle_115 ?_
    refine va_mmax_long (pc := 116) E.1 E.2.1 (E.2.2.1.trans hl.1.symm) E.2.2.2.1 (E.2.2.2.2.1 _ wq_826) (E.2.2.2.2.1 _ wq_827) (E.2.2.2.2.1 _ wq_108) (E.2.2.2.2.1 _ wq_828) (Nat.le_of_ble_eq_true rfl) (Nat.le_of_ble_eq_true rfl) (Nat.zero_le _) (Nat.zero_le _) dX4_settle_116 ?_
    refine xp_X4_61 (pc := 119) (v := .long (if (((((g4_meanSquares s) * (Int32.toInt64 (g4_span s))) * (Int32.toInt64 ((g4_span s) - (g4_fleets s)))) - ((((60 : Int64) * (Int32.toInt64 (g4_sum s))) * (Int32.toInt64 (g4_sum s))) * (Int32.toInt64 ((g4_span s) - (g4_fleets s))))) - (((Int32.toInt64 ((g4_fleets s) - (1 : Int32))) * ((g4_lossSquares s) - (g4_meanSquares s))) * (Int32.toInt64 (g4_span s)))) < 0 then 0 else (((((g4_meanSquares s) * (Int32.toInt64 (g4_span s))) * (Int32.toInt64 ((g4_span s) - (g4_fleets s)))) - ((((60 : Int64) * (Int32.toInt64 (g4_sum s))) * (Int32.toInt64 (g4_sum s))) * (Int32.toInt64 ((g4_span s) - (g4_fleets s))))) - (((Int32.toInt64 ((g4_fleets s) - (1 : Int32))) * ((g4_lossSquares s) - (g4_meanSquares s))) * (Int32.toInt64 (g4_span s)))))) (ws' := (cells4c G ad (g4_fleets s) (g4_span s) (g4_sum s) (g4_shares s) (g4_base s) (g4_spanSquares s) (g4_lossSquares s) (g4_meanSquares s) (Int32.toInt64 ((g4_span s) - (g4_fleets s))) (((Int32.toInt64 (g4_span s)) * (Int32.toInt64 (g4_span s))) - (g4_spanSquares s)) ((g4_lossSquares s) - (g4_meanSquares s)) (if (((((g4_meanSquares s) * (Int32.toInt64 (g4_span s))) * (Int32.toInt64 ((g4_span s) - (g4_fleets s)))) - ((((60 : Int64) * (Int32.toInt64 (g4_sum s))) * (Int32.toInt64 (g4_sum s))) * (Int32.toInt64 ((g4_span s) - (g4_fleets s))))) - (((Int32.toInt64 ((g4_fleets s) - (1 : Int32))) * ((g4_lossSquares s) - (g4_meanSquares s))) * (Int32.toInt64 (g4_span s)))) < 0 then 0 else (((((g4_meanSquares s) * (Int32.toInt64 (g4_span s))) * (Int32.toInt64 ((g4_span s) - (g4_fleets s)))) - ((((60 : Int64) * (Int32.toInt64 (g4_sum s))) * (Int32.toInt64 (g4_sum s))) * (Int32.toInt64 ((g4_span s) - (g4_fleets s))))) - (((Int32.toInt64 ((g4_fleets s) - (1 : Int32))) * ((g4_lossSquares s) - (g4_meanSquares s))) * (Int32.toInt64 (g4_span s))))) (g4_weightedMeans s) (g4_ownLosses s) (g4_restSpans s))) E hw 0 rfl rfl rfl (Nat.le_of_ble_eq_true rfl) rfl dX4_settle_119 (fun H locs hw => ?_)
    obtain rfl := Option.some.inj hf
    exact x_retv (pc := 122) E hr hk hw dX4_settle_122
set_option maxHeartbeats 4000000 in
set_option maxRecDepth 100000 in
theorem c_X4_settle (l : Launch) (G : xG) (ad : Nat → Nat) (s : S4) {z : S4} (hf : f_X4_settle s = some z) : xC l yX4_settle cX4_settle 1 none (rm_X4_settle) G [.ref (ad 0)] (cells4 G ad s) none (cells4 G ad z) :=
  x_met (by decide) rfl (Nat.le_of_ble_eq_true rfl) (fun p e sS m below meth c E hr hk ls hl hw => w_X4_settle_p0 E hr hk s z hw hl hf)
set_option maxHeartbeats 4000000 in
set_option maxRecDepth 100000 in
theorem w_X4_addFleet_p0 {p : Program} {l : Launch} {e : Env} {sS : State} {m : MethodId} {args : Array Value} {below : List Frame} {meth : Method} {c : Code} {G : xG} {W0 : va_W} {ad : Nat → Nat}   (E : xE p sS m args c cX4_addFleet 4 RX4 G (x_in W0)) (hr : meth.sig.returnType = none) (hk : meth.locks = false)  : ∀ (s' : S4) (x1' : Int32) (x2' : Int32) (x3' : Int32) (z : S4) {H : Heap} {locs : List Loc} {ls : Array Slot}, xW G (x_in W0) sS.heap (cells4 G ad s') H locs → lv_has ls 4 [(0, .ref (ad 0)), (1, .int x1'), (2, .int x2'), (3, .int x3')] → f_X4_addFleet  s' x1' x2' x3' = some z → W p l e (rm_X4_addFleet) sS m args below meth c H locs 0 0 (MQ below (xQ G W0 (cells4 G ad z) none) args sS 0 0 (x_in W0)) (F0 m 0 ls []) := by
  intro s x1 x2 x3 z H locs ls hw hl hf
  unfold f_X4_addFleet at hf
  refine lv_iload_n (pc := 0) E.1 E.2.1 dX4_addFleet_0 rfl (lv_at hl 1 rfl) ?_
  refine lv_if_le (tgt := 82) (pc := 1) E.1 E.2.1 dX4_addFleet_1 (by decide) (fun q1 => ?_) (fun q1 => ?_)
  · have hf := x_pos q1 hf
    obtain rfl := Option.some.inj hf
    exact x_retv (pc := 82) E hr hk hw dX4_addFleet_82
  · have hf := x_neg q1 hf
    refine lv_aload_n (pc := 4) E.1 E.2.1 dX4_addFleet_4 rfl (lv_at hl 0 rfl) ?_
    refine lv_dup (pc := 5) E.1 E.2.1 dX4_addFleet_5 rfl ?_
    refine xg_X4_18 (pc := 6) (v := .int (g4_fleets s)) E hw 0 rfl rfl dX4_addFleet_6 ?_
    refine lv_iconst (v := 1) (pc := 9) E.1 E.2.1 dX4_addFleet_9 (by decide) ?_
    refine lv_iadd (pc := 10) E.1 E.2.1 dX4_addFleet_10 ?_
    refine xp_X4_18 (pc := 11) (v := .int ((g4_fleets s) + (1 : Int32))) (ws' := (cells4c G ad ((g4_fleets s) + (1 : Int32)) (g4_span s) (g4_sum s) (g4_shares s) (g4_base s) (g4_spanSquares s) (g4_lossSquares s) (g4_meanSquares s) (g4_freedom s) (g4_unlikeSpans s) (g4_within s) (g4_between s) (g4_weightedMeans s) (g4_ownLosses s) (g4_restSpans s))) E hw 0 rfl rfl rfl (Nat.le_of_ble_eq_true rfl) rfl dX4_addFleet_11 (fun H locs hw => ?_)
    refine lv_aload_n (pc := 14) E.1 E.2.1 dX4_addFleet_14 rfl (lv_at hl 0 rfl) ?_
    refine lv_dup (pc := 15) E.1 E.2.1 dX4_addFleet_15 rfl ?_
    refine xg_X4_22 (pc := 16) (v := .int (g4_span s)) E hw 0 rfl rfl dX4_addFleet_16 ?_
    refine lv_iload_n (pc := 19) E.1 E.2.1 dX4_addFleet_19 rfl (lv_at hl 1 rfl) ?_
    refine lv_iadd (pc := 20) E.1 E.2.1 dX4_addFleet_20 ?_
    refine xp_X4_22 (pc := 21) (v := .int ((g4_span s) + x1)) (ws' := (cells4c G ad ((g4_fleets s) + (1 : Int32)) ((g4_span s) + x1) (g4_sum s) (g4_shares s) (g4_base s) (g4_spanSquares s) (g4_lossSquares s) (g4_meanSquares s) (g4_freedom s) (g4_unlikeSpans s) (g4_within s) (g4_between s) (g4_weightedMeans s) (g4_ownLosses s) (g4_restSpans s))) E hw 0 rfl rfl rfl (Nat.le_of_ble_eq_true rfl) rfl dX4_addFleet_21 (fun H locs hw => ?_)
    refine lv_aload_n (pc := 24) E.1 E.2.1 dX4_addFleet_24 rfl (lv_at hl 0 rfl) ?_
    refine lv_dup (pc := 25) E.1 E.2.1 dX4_addFleet_25 rfl ?_
    refine xg_X4_25 (pc := 26) (v := .int (g4_sum s)) E hw 0 rfl rfl dX4_addFleet_26 ?_
    refine lv_iload_n (pc := 29) E.1 E.2.1 dX4_addFleet_29 rfl (lv_at hl 2 rfl) ?_
    refine lv_iadd (pc := 30) E.1 E.2.1 dX4_addFleet_30 ?_
    refine xp_X4_25 (pc := 31) (v := .int ((g4_sum s) + x2)) (ws' := (cells4c G ad ((g4_fleets s) + (1 : Int32)) ((g4_span s) + x1) ((g4_sum s) + x2) (g4_shares s) (g4_base s) (g4_spanSquares s) (g4_lossSquares s) (g4_meanSquares s) (g4_freedom s) (g4_unlikeSpans s) (g4_within s) (g4_between s) (g4_weightedMeans s) (g4_ownLosses s) (g4_restSpans s))) E hw 0 rfl rfl rfl (Nat.le_of_ble_eq_true rfl) rfl dX4_addFleet_31 (fun H locs hw => ?_)
    refine lv_aload_n (pc := 34) E.1 E.2.1 dX4_addFleet_34 rfl (lv_at hl 0 rfl) ?_
    refine lv_dup (pc := 35) E.1 E.2.1 dX4_addFleet_35 rfl ?_
    refine xg_X4_31 (pc := 36) (v := .long (g4_spanSquares s)) E hw 0 rfl rfl dX4_addFleet_36 ?_
    refine lv_iload_n (pc := 39) E.1 E.2.1 dX4_addFleet_39 rfl (lv_at hl 1 rfl) ?_
    refine lv_iload_n (pc := 40) E.1 E.2.1 dX4_addFleet_40 rfl (lv_at hl 1 rfl) ?_
    refine lv_imul (pc := 41) E.1 E.2.1 dX4_addFleet_41 ?_
    refine lv_i2l (v := (Int32.toInt64 (x1 * x1))) (pc := 42) E.1 E.2.1 dX4_addFleet_42 rfl ?_
    refine lv_ladd (pc := 43) E.1 E.2.1 dX4_addFleet_43 ?_
    refine xp_X4_31 (pc := 44) (v := .long ((g4_spanSquares s) + (Int32.toInt64 (x1 * x1)))) (ws' := (cells4c G ad ((g4_fleets s) + (1 : Int32)) ((g4_span s) + x1) ((g4_sum s) + x2) (g4_shares s) (g4_base s) ((g4_spanSquares s) + (Int32.toInt64 (x1 * x1))) (g4_lossSquares s) (g4_meanSquares s) (g4_freedom s) (g4_unlikeSpans s) (g4_within s) (g4_between s) (g4_weightedMeans s) (g4_ownLosses s) (g4_restSpans s))) E hw 0 rfl rfl rfl (Nat.le_of_ble_eq_true rfl) rfl dX4_addFleet_44 (fun H locs hw => ?_)
    refine lv_aload_n (pc := 47) E.1 E.2.1 dX4_addFleet_47 rfl (lv_at hl 0 rfl) ?_
    refine lv_dup (pc := 48) E.1 E.2.1 dX4_addFleet_48 rfl ?_
    refine xg_X4_35 (pc := 49) (v := .long (g4_lossSquares s)) E hw 0 rfl rfl dX4_addFleet_49 ?_
    refine lv_ldc2 (v := 60) (pc := 52) E.1 E.2.1 E.2.2.2.1 (E.2.2.2.2.1 _ wq_817) dX4_addFleet_52 ?_
    refine lv_iload_n (pc := 55) E.1 E.2.1 dX4_addFleet_55 rfl (lv_at hl 3 rfl) ?_
    refine lv_i2l (v := (Int32.toInt64 x3)) (pc := 56) E.1 E.2.1 dX4_addFleet_56 rfl ?_
    refine lv_lmul (pc := 57) E.1 E.2.1 dX4_addFleet_57 ?_
    refine lv_ladd (pc := 58) E.1 E.2.1 dX4_addFleet_58 ?_
    refine xp_X4_35 (pc := 59) (v := .long ((g4_lossSquares s) + ((60 : Int64) * (Int32.toInt64 x3)))) (ws' := (cells4c G ad ((g4_fleets s) + (1 : Int32)) ((g4_span s) + x1) ((g4_sum s) + x2) (g4_shares s) (g4_base s) ((g4_spanSquares s) + (Int32.toInt64 (x1 * x1))) ((g4_lossSquares s) + ((60 : Int64) * (Int32.toInt64 x3))) (g4_meanSquares s) (g4_freedom s) (g4_unlikeSpans s) (g4_within s) (g4_between s) (g4_weightedMeans s) (g4_ownLosses s) (g4_restSpans s))) E hw 0 rfl rfl rfl (Nat.le_of_ble_eq_true rfl) rfl dX4_addFleet_59 (fun H locs hw => ?_)
    refine lv_aload_n (pc := 62) E.1 E.2.1 dX4_addFleet_62 rfl (lv_at hl 0 rfl) ?_
    refine lv_dup (pc := 63) E.1 E.2.1 dX4_addFleet_63 rfl ?_
    refine xg_X4_38 (pc := 64) (v := .long (g4_meanSquares s)) E hw 0 rfl rfl dX4_addFleet_64 ?_
    refine lv_iload_n (pc := 67) E.1 E.2.1 dX4_addFleet_67 rfl (lv_at hl 2 rfl) ?_
    refine lv_i2l (v := (Int32.toInt64 x2)) (pc := 68) E.1 E.2.1 dX4_addFleet_68 rfl ?_
    refine lv_iload_n (pc := 69) E.1 E.2.1 dX4_addFleet_69 rfl (lv_at hl 2 rfl) ?_
    refine lv_i2l (v := (Int32.toInt64 x2)) (pc := 70) E.1 E.2.1 dX4_addFleet_70 rfl ?_
    refine lv_lmul (pc := 71) E.1 E.2.1 dX4_addFleet_71 ?_
    refine lv_bipush (v := 60) (pc := 72) E.1 E.2.1 dX4_addFleet_72 (by decide) ?_
    refine lv_iload_n (pc := 74) E.1 E.2.1 dX4_addFleet_74 rfl (lv_at hl 1 rfl) ?_
    obtain ⟨u3, g2, hf⟩ := x_bind hf
    refine lv_idiv (pc := 75) E.1 E.2.1 dX4_addFleet_75 (x_nz_some g2) ?_
    refine lv_i2l (v := (Int32.toInt64 (60 / x1))) (pc := 76) E.1 E.2.1 dX4_addFleet_76 rfl ?_
    refine lv_lmul (pc := 77) E.1 E.2.1 dX4_addFleet_77 ?_
    refine lv_ladd (pc := 78) E.1 E.2.1 dX4_addFleet_78 ?_
    refine xp_X4_38 (pc := 79) (v := .long ((g4_meanSquares s) + (((Int32.toInt64 x2) * (Int32.toInt64 x2)) * (Int32.toInt64 (60 / x1))))) (ws' := (cells4c G ad ((g4_fleets s) + (1 : Int32)) ((g4_span s) + x1) ((g4_sum s) + x2) (g4_shares s) (g4_base s) ((g4_spanSquares s) + (Int32.toInt64 (x1 * x1))) ((g4_lossSquares s) + ((60 : Int64) * (Int32.toInt64 x3))) ((g4_meanSquares s) + (((Int32.toInt64 x2) * (Int32.toInt64 x2)) * (Int32.toInt64 (60 / x1)))) (g4_freedom s) (g4_unlikeSpans s) (g4_within s) (g4_between s) (g4_weightedMeans s) (g4_ownLosses s) (g4_restSpans s))) E hw 0 rfl rfl rfl (Nat.le_of_ble_eq_true rfl) rfl dX4_addFleet_79 (fun H locs hw => ?_)
    obtain rfl := Option.some.inj hf
    exact x_retv (pc := 82) E hr hk hw dX4_addFleet_82
set_option maxHeartbeats 4000000 in
set_option maxRecDepth 100000 in
theorem c_X4_addFleet (l : Launch) (G : xG) (ad : Nat → Nat) (s : S4) (x1 : Int32) (x2 : Int32) (x3 : Int32) {z : S4} (hf : f_X4_addFleet s x1 x2 x3 = some z) : xC l yX4_addFleet cX4_addFleet 4 none (rm_X4_addFleet) G [.ref (ad 0), .int x1, .int x2, .int x3] (cells4 G ad s) none (cells4 G ad z) :=
  x_met (by decide) rfl (Nat.le_of_ble_eq_true rfl) (fun p e sS m below meth c E hr hk ls hl hw => w_X4_addFleet_p0 E hr hk s x1 x2 x3 z hw hl hf)
set_option maxHeartbeats 4000000 in
set_option maxRecDepth 100000 in
theorem w_X5_put_p0 {p : Program} {l : Launch} {e : Env} {sS : State} {m : MethodId} {args : Array Value} {below : List Frame} {meth : Method} {c : Code} {G : xG} {W0 : va_W} {ad : Nat → Nat}   (E : xE p sS m args c cX5_put 5 RX5 G (x_in W0)) (hr : meth.sig.returnType = none) (hk : meth.locks = false)  : ∀ (s' : S5) (x1' : Int64) (x3' : Int64) (z : S5) {H : Heap} {locs : List Loc} {ls : Array Slot}, xW G (x_in W0) sS.heap (cells5 G ad s') H locs → lv_has ls 5 [(0, .ref (ad 0)), (1, .long x1'), (3, .long x3')] → f_X5_put  s' x1' x3' = some z → W p l e (rm_X5_put) sS m args below meth c H locs 0 0 (MQ below (xQ G W0 (cells5 G ad z) none) args sS 0 0 (x_in W0)) (F0 m 0 ls []) := by
  intro s x1 x3 z H locs ls hw hl hf
  unfold f_X5_put at hf
  refine lv_aload_n (pc := 0) E.1 E.2.1 dX5_put_0 rfl (lv_at hl 0 rfl) ?_
  refine lv_lload_n (pc := 1) E.1 E.2.1 dX5_put_1 rfl (lv_at hl 1 rfl) ?_
  refine xp_X5_9 (pc := 2) (v := .long x1) (ws' := (cells5c G ad x1 (g5_lower s))) E hw 0 rfl rfl rfl (Nat.le_of_ble_eq_true rfl) rfl dX5_put_2 (fun H locs hw => ?_)
  refine lv_aload_n (pc := 5) E.1 E.2.1 dX5_put_5 rfl (lv_at hl 0 rfl) ?_
  refine lv_lload_n (pc := 6) E.1 E.2.1 dX5_put_6 rfl (lv_at hl 2 rfl) ?_
  refine xp_X5_15 (pc := 7) (v := .long x3) (ws' := (cells5c G ad x1 x3)) E hw 0 rfl rfl rfl (Nat.le_of_ble_eq_true rfl) rfl dX5_put_7 (fun H locs hw => ?_)
  obtain rfl := Option.some.inj hf
  exact x_retv (pc := 10) E hr hk hw dX5_put_10
set_option maxHeartbeats 4000000 in
set_option maxRecDepth 100000 in
theorem c_X5_put (l : Launch) (G : xG) (ad : Nat → Nat) (s : S5) (x1 : Int64) (x3 : Int64) {z : S5} (hf : f_X5_put s x1 x3 = some z) : xC l yX5_put cX5_put 5 none (rm_X5_put) G [.ref (ad 0), .long x1, .long x3] (cells5 G ad s) none (cells5 G ad z) :=
  x_met (by decide) rfl (Nat.le_of_ble_eq_true rfl) (fun p e sS m below meth c E hr hk ls hl hw => w_X5_put_p0 E hr hk s x1 x3 z hw hl hf)
set_option maxHeartbeats 4000000 in
set_option maxRecDepth 100000 in
theorem w_X4_putCentre_i1_p0 {p : Program} {l : Launch} {e : Env} {sS : State} {m : MethodId} {args : Array Value} {below : List Frame} {meth : Method} {c : Code} {G : xG} {W0 : va_W} {ad : Nat → Nat}   (E : xE p sS m args c cX4_putCentre 2 RX4 G (x_in W0)) (hr : meth.sig.returnType = none) (hk : meth.locks = false)  : ∀ (s' : S4) (z : S4) {H : Heap} {locs : List Loc} {ls : Array Slot}, xW G (x_in W0) sS.heap (cells4 G ad s') H locs → lv_has ls 2 [(0, .ref (ad 0)), (1, .ref (ad 1))] → f_X4_putCentre_i1  s' = some z → W p l e (rm_X4_putCentre_i1) sS m args below meth c H locs 0 0 (MQ below (xQ G W0 (cells4 G ad z) none) args sS 0 0 (x_in W0)) (F0 m 0 ls []) := by
  intro s z H locs ls hw hl hf
  unfold f_X4_putCentre_i1 at hf
  refine lv_aload_n (pc := 0) E.1 E.2.1 dX4_putCentre_0 rfl (lv_at hl 0 rfl) ?_
  refine xg_X4_28 (pc := 1) (v := .int (g4_shares s)) E hw 0 rfl rfl dX4_putCentre_1 ?_
  refine lv_if_ne (tgt := 24) (pc := 4) E.1 E.2.1 dX4_putCentre_4 (by decide) (fun q1 => ?_) (fun q1 => ?_)
  · have hf := x_neg q1 hf
    refine lv_aload_n (pc := 24) E.1 E.2.1 dX4_putCentre_24 rfl (lv_at hl 1 rfl) ?_
    refine lv_aload_n (pc := 25) E.1 E.2.1 dX4_putCentre_25 rfl (lv_at hl 0 rfl) ?_
    refine xg_X4_41 (pc := 26) (v := .long (g4_weightedMeans s)) E hw 0 rfl rfl dX4_putCentre_26 ?_
    refine lv_ldc2 (v := 60) (pc := 29) E.1 E.2.1 E.2.2.2.1 (E.2.2.2.2.1 _ wq_817) dX4_putCentre_29 ?_
    refine lv_aload_n (pc := 32) E.1 E.2.1 dX4_putCentre_32 rfl (lv_at hl 0 rfl) ?_
    refine xg_X4_28 (pc := 33) (v := .int (g4_shares s)) E hw 0 rfl rfl dX4_putCentre_33 ?_
    refine lv_i2l (v := (Int32.toInt64 (g4_shares s))) (pc := 36) E.1 E.2.1 dX4_putCentre_36 rfl ?_
    refine lv_lmul (pc := 37) E.1 E.2.1 dX4_putCentre_37 ?_
    obtain ⟨v2, g3, hf⟩ := x_bind hf
    refine x_callV (pc := 38) (As := [.long (g4_weightedMeans s), .long ((60 : Int64) * (Int32.toInt64 (g4_shares s)))]) (rest := []) (st1 := []) (ws' := (cells4c G ad (g4_fleets s) (g4_span s) (g4_sum s) (g4_shares s) v2 (g4_spanSquares s) (g4_lossSquares s) (g4_meanSquares s) (g4_freedom s) (g4_unlikeSpans s) (g4_within s) (g4_between s) (g4_weightedMeans s) (g4_ownLosses s) (g4_restSpans s))) E hw hl (c_X5_put l G (fun k => ad (k + 1)) (g4_base s) (g4_weightedMeans s) ((60 : Int64) * (Int32.toInt64 (g4_shares s))) g3) xv_X4_74 xd_X5_put rfl rfl ⟨Nat.le_of_ble_eq_true rfl, Nat.le_of_ble_eq_true rfl⟩ [1] [0] (by decide) ⟨rfl, trivial⟩ (q0 := 1) rfl rfl rfl rfl (Nat.le_of_ble_eq_true rfl) (nw := 2) ⟨rfl, trivial⟩ ⟨⟨_, rfl, rfl⟩, trivial⟩ rfl rfl (by decide) (by decide) rfl dX4_putCentre_38 (fun H locs hw => ?_)
    obtain rfl := Option.some.inj hf
    exact x_retv (pc := 41) E hr hk hw dX4_putCentre_41
  · have hf := x_pos q1 hf
    refine lv_aload_n (pc := 7) E.1 E.2.1 dX4_putCentre_7 rfl (lv_at hl 1 rfl) ?_
    refine lv_aload_n (pc := 8) E.1 E.2.1 dX4_putCentre_8 rfl (lv_at hl 0 rfl) ?_
    refine xg_X4_25 (pc := 9) (v := .int (g4_sum s)) E hw 0 rfl rfl dX4_putCentre_9 ?_
    refine lv_i2l (v := (Int32.toInt64 (g4_sum s))) (pc := 12) E.1 E.2.1 dX4_putCentre_12 rfl ?_
    refine lv_aload_n (pc := 13) E.1 E.2.1 dX4_putCentre_13 rfl (lv_at hl 0 rfl) ?_
    refine xg_X4_22 (pc := 14) (v := .int (g4_span s)) E hw 0 rfl rfl dX4_putCentre_14 ?_
    refine lv_i2l (v := (Int32.toInt64 (g4_span s))) (pc := 17) E.1 E.2.1 dX4_putCentre_17 rfl ?_
    obtain ⟨v4, g5, hf⟩ := x_bind hf
    refine x_callV (pc := 18) (As := [.long (Int32.toInt64 (g4_sum s)), .long (Int32.toInt64 (g4_span s))]) (rest := []) (st1 := []) (ws' := (cells4c G ad (g4_fleets s) (g4_span s) (g4_sum s) (g4_shares s) v4 (g4_spanSquares s) (g4_lossSquares s) (g4_meanSquares s) (g4_freedom s) (g4_unlikeSpans s) (g4_within s) (g4_between s) (g4_weightedMeans s) (g4_ownLosses s) (g4_restSpans s))) E hw hl (c_X5_put l G (fun k => ad (k + 1)) (g4_base s) (Int32.toInt64 (g4_sum s)) (Int32.toInt64 (g4_span s)) g5) xv_X4_74 xd_X5_put rfl rfl ⟨Nat.le_of_ble_eq_true rfl, Nat.le_of_ble_eq_true rfl⟩ [1] [0] (by decide) ⟨rfl, trivial⟩ (q0 := 1) rfl rfl rfl rfl (Nat.le_of_ble_eq_true rfl) (nw := 2) ⟨rfl, trivial⟩ ⟨⟨_, rfl, rfl⟩, trivial⟩ rfl rfl (by decide) (by decide) rfl dX4_putCentre_18 (fun H locs hw => ?_)
    refine lv_goto (tgt := 41) (pc := 21) E.1 E.2.1 dX4_putCentre_21 (by decide) ?_
    obtain rfl := Option.some.inj hf
    exact x_retv (pc := 41) E hr hk hw dX4_putCentre_41
set_option maxHeartbeats 4000000 in
set_option maxRecDepth 100000 in
theorem c_X4_putCentre_i1 (l : Launch) (G : xG) (ad : Nat → Nat) (s : S4) {z : S4} (hf : f_X4_putCentre_i1 s = some z) : xC l yX4_putCentre cX4_putCentre 2 none (rm_X4_putCentre_i1) G [.ref (ad 0), .ref (ad 1)] (cells4 G ad s) none (cells4 G ad z) :=
  x_met (by decide) rfl (Nat.le_of_ble_eq_true rfl) (fun p e sS m below meth c E hr hk ls hl hw => w_X4_putCentre_i1_p0 E hr hk s z hw hl hf)
set_option maxHeartbeats 4000000 in
set_option maxRecDepth 100000 in
theorem w_X5_isNone_p0 {p : Program} {l : Launch} {e : Env} {sS : State} {m : MethodId} {args : Array Value} {below : List Frame} {meth : Method} {c : Code} {G : xG} {W0 : va_W} {ad : Nat → Nat}   (E : xE p sS m args c cX5_isNone 1 RX5 G (x_in W0)) (hr : meth.sig.returnType = (some .boolean)) (hk : meth.locks = false)  : ∀ (s' : S5) (z : Int32) {H : Heap} {locs : List Loc} {ls : Array Slot}, xW G (x_in W0) sS.heap (cells5 G ad s') H locs → lv_has ls 1 [(0, .ref (ad 0))] → f_X5_isNone  s' = some z → W p l e (rm_X5_isNone) sS m args below meth c H locs 0 0 (MQ below (xQ G W0 (cells5 G ad s') (some (.int z))) args sS 0 0 (x_in W0)) (F0 m 0 ls []) := by
  intro s z H locs ls hw hl hf
  unfold f_X5_isNone at hf
  refine lv_aload_n (pc := 0) E.1 E.2.1 dX5_isNone_0 rfl (lv_at hl 0 rfl) ?_
  refine xg_X5_15 (pc := 1) (v := .long (g5_lower s)) E hw 0 rfl rfl dX5_isNone_1 ?_
  refine lv_lconst (v := 0) (pc := 4) E.1 E.2.1 dX5_isNone_4 (by decide) ?_
  refine W.lcmp (pc := 5) E.1 E.2.1 dX5_isNone_5 ?_
  refine lv_if_gt (tgt := 13) (pc := 6) E.1 E.2.1 dX5_isNone_6 (by decide) (fun q1 => ?_) (fun q1 => ?_)
  · have hf := x_pos q1 hf
    refine lv_iconst (v := 0) (pc := 13) E.1 E.2.1 dX5_isNone_13 (by decide) ?_
    obtain rfl := Option.some.inj hf
    exact x_retz (pc := 14) (v := 0) (r := 0) E hr hk hw (by decide) dX5_isNone_14
  · have hf := x_neg q1 hf
    refine lv_iconst (v := 1) (pc := 9) E.1 E.2.1 dX5_isNone_9 (by decide) ?_
    refine lv_goto (tgt := 14) (pc := 10) E.1 E.2.1 dX5_isNone_10 (by decide) ?_
    obtain rfl := Option.some.inj hf
    exact x_retz (pc := 14) (v := 1) (r := 1) E hr hk hw (by decide) dX5_isNone_14
set_option maxHeartbeats 4000000 in
set_option maxRecDepth 100000 in
theorem c_X5_isNone (l : Launch) (G : xG) (ad : Nat → Nat) (s : S5) {z : Int32} (hf : f_X5_isNone s = some z) : xC l yX5_isNone cX5_isNone 1 (some .boolean) (rm_X5_isNone) G [.ref (ad 0)] (cells5 G ad s) (some (.int z)) (cells5 G ad s) :=
  x_met (by decide) rfl (Nat.le_of_ble_eq_true rfl) (fun p e sS m below meth c E hr hk ls hl hw => w_X5_isNone_p0 E hr hk s z hw hl hf)
set_option maxHeartbeats 4000000 in
set_option maxRecDepth 100000 in
theorem w_X4_steadiness_p0 {p : Program} {l : Launch} {e : Env} {sS : State} {m : MethodId} {args : Array Value} {below : List Frame} {meth : Method} {c : Code} {G : xG} {W0 : va_W} {ad : Nat → Nat}   (E : xE p sS m args c cX4_steadiness 3 RX4 G (x_in W0)) (hr : meth.sig.returnType = (some .int)) (hk : meth.locks = false)  : ∀ (s' : S4) (x1' : Int32) (z : Int32) {H : Heap} {locs : List Loc} {ls : Array Slot}, xW G (x_in W0) sS.heap (cells4 G ad s') H locs → lv_has ls 3 [(0, .ref (ad 0)), (1, .int x1')] → f_X4_steadiness  s' x1' = some z → W p l e (rm_X4_steadiness) sS m args below meth c H locs 0 0 (MQ below (xQ G W0 (cells4 G ad s') (some (.int z))) args sS 0 0 (x_in W0)) (F0 m 0 ls []) := by
  intro s x1 z H locs ls hw hl hf
  unfold f_X4_steadiness at hf
  refine lv_aload_n (pc := 0) E.1 E.2.1 dX4_steadiness_0 rfl (lv_at hl 0 rfl) ?_
  refine xg_X4_22 (pc := 1) (v := .int (g4_span s)) E hw 0 rfl rfl dX4_steadiness_1 ?_
  refine lv_iload_n (pc := 4) E.1 E.2.1 dX4_steadiness_4 rfl (lv_at hl 1 rfl) ?_
  refine lv_iadd (pc := 5) E.1 E.2.1 dX4_steadiness_5 ?_
  refine lv_istore_n (lv' := [(2, .int ((g4_span s) + x1)), (0, .ref (ad 0)), (1, .int x1)]) (pc := 6) E.1 E.2.1 dX4_steadiness_6 rfl hl (by decide) rfl (fun ls hl => ?_)
  refine lv_iload_n (pc := 7) E.1 E.2.1 dX4_steadiness_7 rfl (lv_at hl 0 rfl) ?_
  refine lv_if_le (tgt := 24) (pc := 8) E.1 E.2.1 dX4_steadiness_8 (by decide) (fun q1 => ?_) (fun q1 => ?_)
  · have hf := x_pos q1 hf
    refine lv_iconst (v := 0) (pc := 24) E.1 E.2.1 dX4_steadiness_24 (by decide) ?_
    obtain rfl := Option.some.inj hf
    exact x_reti (pc := 25) E hr hk hw dX4_steadiness_25
  · have hf := x_neg q1 hf
    refine lv_sipush (v := 1000) (pc := 11) E.1 E.2.1 dX4_steadiness_11 (by decide) ?_
    refine lv_aload_n (pc := 14) E.1 E.2.1 dX4_steadiness_14 rfl (lv_at hl 1 rfl) ?_
    refine xg_X4_22 (pc := 15) (v := .int (g4_span s)) E hw 0 rfl rfl dX4_steadiness_15 ?_
    refine lv_imul (pc := 18) E.1 E.2.1 dX4_steadiness_18 ?_
    refine lv_iload_n (pc := 19) E.1 E.2.1 dX4_steadiness_19 rfl (lv_at hl 0 rfl) ?_
    obtain ⟨u3, g2, hf⟩ := x_bind hf
    refine lv_idiv (pc := 20) E.1 E.2.1 dX4_steadiness_20 (x_nz_some g2) ?_
    refine lv_goto (tgt := 25) (pc := 21) E.1 E.2.1 dX4_steadiness_21 (by decide) ?_
    obtain rfl := Option.some.inj hf
    exact x_reti (pc := 25) E hr hk hw dX4_steadiness_25
set_option maxHeartbeats 4000000 in
set_option maxRecDepth 100000 in
theorem c_X4_steadiness (l : Launch) (G : xG) (ad : Nat → Nat) (s : S4) (x1 : Int32) {z : Int32} (hf : f_X4_steadiness s x1 = some z) : xC l yX4_steadiness cX4_steadiness 3 (some .int) (rm_X4_steadiness) G [.ref (ad 0), .int x1] (cells4 G ad s) (some (.int z)) (cells4 G ad s) :=
  x_met (by decide) rfl (Nat.le_of_ble_eq_true rfl) (fun p e sS m below meth c E hr hk ls hl hw => w_X4_steadiness_p0 E hr hk s x1 z hw hl hf)
set_option maxHeartbeats 4000000 in
set_option maxRecDepth 100000 in
theorem w_X4_reckonBase_p0 {p : Program} {l : Launch} {e : Env} {sS : State} {m : MethodId} {args : Array Value} {below : List Frame} {meth : Method} {c : Code} {G : xG} {W0 : va_W} {ad : Nat → Nat} {ae : Nat → Nat}   (E : xE p sS m args c cX4_reckonBase 5 RX4 G (x_in W0)) (hr : meth.sig.returnType = none) (hk : meth.locks = false)  : ∀ (s' : S4) (q' : S5) (x1' : Int32) (z : S4) {H : Heap} {locs : List Loc} {ls : Array Slot}, xW G (x_in W0) sS.heap (cells4 G ad s' ++ cells5 G ae q') H locs → lv_has ls 5 [(0, .ref (ad 0)), (1, .int x1'), (2, .ref (ae 0))] → f_X4_reckonBase  s' q' x1' = some z → W p l e (rm_X4_reckonBase) sS m args below meth c H locs 0 0 (MQ below (xQ G W0 (cells4 G ad z ++ cells5 G ae q') none) args sS 0 0 (x_in W0)) (F0 m 0 ls []) := by
  intro s q x1 z H locs ls hw hl hf
  unfold f_X4_reckonBase at hf
  refine lv_aload_n (pc := 0) E.1 E.2.1 dX4_reckonBase_0 rfl (lv_at hl 0 rfl) ?_
  refine lv_aload_n (pc := 1) E.1 E.2.1 dX4_reckonBase_1 rfl (lv_at hl 0 rfl) ?_
  refine xg_X4_12 (pc := 2) (v := .ref (ad 1)) E hw 0 rfl rfl dX4_reckonBase_2 ?_
  obtain ⟨v1, g2, hf⟩ := x_bind hf
  refine x_callV (pc := 5) (As := [.ref (ad 1)]) (rest := []) (st1 := []) (ws' := (cells4 G ad v1 ++ cells5 G ae q)) E hw hl (c_X4_putCentre_i1 l G ad s g2) xv_X4_83 xd_X4_putCentre rfl rfl ⟨Nat.le_of_ble_eq_true rfl, Nat.le_of_ble_eq_true rfl⟩ [0, 1] [2] (by decide) ⟨rfl, rfl, trivial⟩ (q0 := 0) rfl rfl rfl rfl (Nat.le_of_ble_eq_true rfl) (nw := 3) ⟨rfl, rfl, trivial⟩ ⟨⟨_, rfl, rfl⟩, trivial⟩ rfl rfl (by decide) (by decide) rfl dX4_reckonBase_5 (fun H locs hw => ?_)
  refine lv_aload_n (pc := 8) E.1 E.2.1 dX4_reckonBase_8 rfl (lv_at hl 0 rfl) ?_
  refine xg_X4_12 (pc := 9) (v := .ref (ad 1)) E hw 0 rfl rfl dX4_reckonBase_9 ?_
  obtain ⟨v3, g4, hf⟩ := x_bind hf
  refine x_callV (pc := 12) (As := []) (rest := []) (st1 := [.int v3]) (ws' := (cells4 G ad v1 ++ cells5 G ae q)) E hw hl (c_X5_isNone l G (fun k => ad (k + 1)) (g4_base v1) g4) xv_X4_87 xd_X5_isNone rfl rfl ⟨Nat.le_of_ble_eq_true rfl, Nat.le_of_ble_eq_true rfl⟩ [1] [0, 2] (by decide) ⟨rfl, trivial⟩ (q0 := 1) rfl rfl rfl rfl (Nat.le_of_ble_eq_true rfl) (nw := 3) ⟨rfl, trivial⟩ ⟨⟨_, rfl, rfl⟩, ⟨_, rfl, rfl⟩, trivial⟩ rfl rfl (by decide) (by decide) rfl dX4_reckonBase_12 (fun H locs hw => ?_)
  refine lv_if_ne (tgt := 88) (pc := 15) E.1 E.2.1 dX4_reckonBase_15 (by decide) (fun q5 => ?_) (fun q5 => ?_)
  · have hf := x_neg q5 hf
    obtain rfl := Option.some.inj hf
    exact x_retv (pc := 88) E hr hk hw dX4_reckonBase_88
  · have hf := x_pos q5 hf
    refine lv_aload_n (pc := 18) E.1 E.2.1 dX4_reckonBase_18 rfl (lv_at hl 2 rfl) ?_
    obtain ⟨v6, g7, hf⟩ := x_bind hf
    refine x_callV (pc := 19) (As := []) (rest := []) (st1 := [.int v6]) (ws' := (cells4 G ad v1 ++ cells5 G ae q)) E hw hl (c_X5_isNone l G ae q g7) xv_X4_87 xd_X5_isNone rfl rfl ⟨Nat.le_of_ble_eq_true rfl, Nat.le_of_ble_eq_true rfl⟩ [2] [0, 1] (by decide) ⟨rfl, trivial⟩ (q0 := 2) rfl rfl rfl rfl (Nat.le_of_ble_eq_true rfl) (nw := 3) ⟨rfl, trivial⟩ ⟨⟨_, rfl, rfl⟩, ⟨_, rfl, rfl⟩, trivial⟩ rfl rfl (by decide) (by decide) rfl dX4_reckonBase_19 (fun H locs hw => ?_)
    refine lv_if_ne (tgt := 88) (pc := 22) E.1 E.2.1 dX4_reckonBase_22 (by decide) (fun q8 => ?_) (fun q8 => ?_)
    · have hf := x_neg q8 hf
      obtain rfl := Option.some.inj hf
      exact x_retv (pc := 88) E hr hk hw dX4_reckonBase_88
    · have hf := x_pos q8 hf
      refine lv_aload_n (pc := 25) E.1 E.2.1 dX4_reckonBase_25 rfl (lv_at hl 0 rfl) ?_
      refine lv_iload_n (pc := 26) E.1 E.2.1 dX4_reckonBase_26 rfl (lv_at hl 1 rfl) ?_
      obtain ⟨v9, g10, hf⟩ := x_bind hf
      refine x_callV (pc := 27) (As := [.int x1]) (rest := []) (st1 := [.int v9]) (ws' := (cells4 G ad v1 ++ cells5 G ae q)) E hw hl (c_X4_steadiness l G ad v1 x1 g10) xv_X4_90 xd_X4_steadiness rfl rfl ⟨Nat.le_of_ble_eq_true rfl, Nat.le_of_ble_eq_true rfl⟩ [0, 1] [2] (by decide) ⟨rfl, rfl, trivial⟩ (q0 := 0) rfl rfl rfl rfl (Nat.le_of_ble_eq_true rfl) (nw := 3) ⟨rfl, rfl, trivial⟩ ⟨⟨_, rfl, rfl⟩, trivial⟩ rfl rfl (by decide) (by decide) rfl dX4_reckonBase_27 (fun H locs hw => ?_)
      refine lv_i2l (v := (Int32.toInt64 v9)) (pc := 30) E.1 E.2.1 dX4_reckonBase_30 rfl ?_
      refine lv_lstore_n (lv' := [(3, .long (Int32.toInt64 v9)), (0, .ref (ad 0)), (1, .int x1), (2, .ref (ae 0))]) (pc := 31) E.1 E.2.1 dX4_reckonBase_31 rfl hl (by decide) rfl (fun ls hl => ?_)
      refine lv_aload_n (pc := 32) E.1 E.2.1 dX4_reckonBase_32 rfl (lv_at hl 1 rfl) ?_
      refine xg_X4_12 (pc := 33) (v := .ref (ad 1)) E hw 0 rfl rfl dX4_reckonBase_33 ?_
      refine lv_lload_n (pc := 36) E.1 E.2.1 dX4_reckonBase_36 rfl (lv_at hl 0 rfl) ?_
      refine lv_aload_n (pc := 37) E.1 E.2.1 dX4_reckonBase_37 rfl (lv_at hl 1 rfl) ?_
      refine xg_X4_12 (pc := 38) (v := .ref (ad 1)) E hw 0 rfl rfl dX4_reckonBase_38 ?_
      refine xg_X4_94 (pc := 41) (v := .long (g5_upper (g4_base v1))) E hw 1 rfl rfl dX4_reckonBase_41 ?_
      refine lv_lmul (pc := 44) E.1 E.2.1 dX4_reckonBase_44 ?_
      refine lv_aload_n (pc := 45) E.1 E.2.1 dX4_reckonBase_45 rfl (lv_at hl 3 rfl) ?_
      refine xg_X4_97 (pc := 46) (v := .long (g5_lower q)) E hw 2 rfl rfl dX4_reckonBase_46 ?_
      refine lv_lmul (pc := 49) E.1 E.2.1 dX4_reckonBase_49 ?_
      refine lv_ldc2 (v := 1000) (pc := 50) E.1 E.2.1 E.2.2.2.1 (E.2.2.2.2.1 _ wq_837) dX4_reckonBase_50 ?_
      refine lv_lload_n (pc := 53) E.1 E.2.1 dX4_reckonBase_53 rfl (lv_at hl 0 rfl) ?_
      refine lv_lsub (pc := 54) E.1 E.2.1 dX4_reckonBase_54 ?_
      refine lv_aload_n (pc := 55) E.1 E.2.1 dX4_reckonBase_55 rfl (lv_at hl 3 rfl) ?_
      refine xg_X4_94 (pc := 56) (v := .long (g5_upper q)) E hw 2 rfl rfl dX4_reckonBase_56 ?_
      refine lv_lmul (pc := 59) E.1 E.2.1 dX4_reckonBase_59 ?_
      refine lv_aload_n (pc := 60) E.1 E.2.1 dX4_reckonBase_60 rfl (lv_at hl 1 rfl) ?_
      refine xg_X4_12 (pc := 61) (v := .ref (ad 1)) E hw 0 rfl rfl dX4_reckonBase_61 ?_
      refine xg_X4_97 (pc := 64) (v := .long (g5_lower (g4_base v1))) E hw 1 rfl rfl dX4_reckonBase_64 ?_
      refine lv_lmul (pc := 67) E.1 E.2.1 dX4_reckonBase_67 ?_
      refine lv_ladd (pc := 68) E.1 E.2.1 dX4_reckonBase_68 ?_
      refine lv_ldc2 (v := 1000) (pc := 69) E.1 E.2.1 E.2.2.2.1 (E.2.2.2.2.1 _ wq_837) dX4_reckonBase_69 ?_
      refine lv_aload_n (pc := 72) E.1 E.2.1 dX4_reckonBase_72 rfl (lv_at hl 1 rfl) ?_
      refine xg_X4_12 (pc := 73) (v := .ref (ad 1)) E hw 0 rfl rfl dX4_reckonBase_73 ?_
      refine xg_X4_97 (pc := 76) (v := .long (g5_lower (g4_base v1))) E hw 1 rfl rfl dX4_reckonBase_76 ?_
      refine lv_lmul (pc := 79) E.1 E.2.1 dX4_reckonBase_79 ?_
      refine lv_aload_n (pc := 80) E.1 E.2.1 dX4_reckonBase_80 rfl (lv_at hl 3 rfl) ?_
      refine xg_X4_97 (pc := 81) (v := .long (g5_lower q)) E hw 2 rfl rfl dX4_reckonBase_81 ?_
      refine lv_lmul (pc := 84) E.1 E.2.1 dX4_reckonBase_84 ?_
      obtain ⟨v11, g12, hf⟩ := x_bind hf
      refine x_callV (pc := 85) (As := [.long ((((Int32.toInt64 v9) * (g5_upper (g4_base v1))) * (g5_lower q)) + ((((1000 : Int64) - (Int32.toInt64 v9)) * (g5_upper q)) * (g5_lower (g4_base v1)))), .long (((1000 : Int64) * (g5_lower (g4_base v1))) * (g5_lower q))]) (rest := []) (st1 := []) (ws' := (cells4c G ad (g4_fleets v1) (g4_span v1) (g4_sum v1) (g4_shares v1) v11 (g4_spanSquares v1) (g4_lossSquares v1) (g4_meanSquares v1) (g4_freedom v1) (g4_unlikeSpans v1) (g4_within v1) (g4_between v1) (g4_weightedMeans v1) (g4_ownLosses v1) (g4_restSpans v1) ++ cells5 G ae q)) E hw hl (c_X5_put l G (fun k => ad (k + 1)) (g4_base v1) ((((Int32.toInt64 v9) * (g5_upper (g4_base v1))) * (g5_lower q)) + ((((1000 : Int64) - (Int32.toInt64 v9)) * (g5_upper q)) * (g5_lower (g4_base v1)))) (((1000 : Int64) * (g5_lower (g4_base v1))) * (g5_lower q)) g12) xv_X4_74 xd_X5_put rfl rfl ⟨Nat.le_of_ble_eq_true rfl, Nat.le_of_ble_eq_true rfl⟩ [1] [0, 2] (by decide) ⟨rfl, trivial⟩ (q0 := 1) rfl rfl rfl rfl (Nat.le_of_ble_eq_true rfl) (nw := 3) ⟨rfl, trivial⟩ ⟨⟨_, rfl, rfl⟩, ⟨_, rfl, rfl⟩, trivial⟩ rfl rfl (by decide) (by decide) rfl dX4_reckonBase_85 (fun H locs hw => ?_)
      obtain rfl := Option.some.inj hf
      exact x_retv (pc := 88) E hr hk hw dX4_reckonBase_88
set_option maxHeartbeats 4000000 in
set_option maxRecDepth 100000 in
theorem c_X4_reckonBase (l : Launch) (G : xG) (ad : Nat → Nat) (ae : Nat → Nat) (s : S4) (q : S5) (x1 : Int32) {z : S4} (hf : f_X4_reckonBase s q x1 = some z) : xC l yX4_reckonBase cX4_reckonBase 5 none (rm_X4_reckonBase) G [.ref (ad 0), .int x1, .ref (ae 0)] (cells4 G ad s ++ cells5 G ae q) none (cells4 G ad z ++ cells5 G ae q) :=
  x_met (by decide) rfl (Nat.le_of_ble_eq_true rfl) (fun p e sS m below meth c E hr hk ls hl hw => w_X4_reckonBase_p0 E hr hk s q x1 z hw hl hf)
set_option maxHeartbeats 4000000 in
set_option maxRecDepth 100000 in
theorem w_X4_shareBySpan_p0 {p : Program} {l : Launch} {e : Env} {sS : State} {m : MethodId} {args : Array Value} {below : List Frame} {meth : Method} {c : Code} {G : xG} {W0 : va_W} {ad : Nat → Nat}   (E : xE p sS m args c cX4_shareBySpan 6 RX4 G (x_in W0)) (hr : meth.sig.returnType = (some .int)) (hk : meth.locks = false)  : ∀ (s' : S4) (x1' : Int32) (z : Int32) {H : Heap} {locs : List Loc} {ls : Array Slot}, xW G (x_in W0) sS.heap (cells4 G ad s') H locs → lv_has ls 6 [(0, .ref (ad 0)), (1, .int x1')] → f_X4_shareBySpan  s' x1' = some z → W p l e (rm_X4_shareBySpan) sS m args below meth c H locs 0 0 (MQ below (xQ G W0 (cells4 G ad s') (some (.int z))) args sS 0 0 (x_in W0)) (F0 m 0 ls []) := by
  intro s x1 z H locs ls hw hl hf
  unfold f_X4_shareBySpan at hf
  refine lv_iload_n (pc := 0) E.1 E.2.1 dX4_shareBySpan_0 rfl (lv_at hl 1 rfl) ?_
  refine lv_i2l (v := (Int32.toInt64 x1)) (pc := 1) E.1 E.2.1 dX4_shareBySpan_1 rfl ?_
  refine lv_aload_n (pc := 2) E.1 E.2.1 dX4_shareBySpan_2 rfl (lv_at hl 0 rfl) ?_
  refine xg_X4_61 (pc := 3) (v := .long (g4_between s)) E hw 0 rfl rfl dX4_shareBySpan_3 ?_
  refine lv_lmul (pc := 6) E.1 E.2.1 dX4_shareBySpan_6 ?_
  refine lv_lstore_n (lv' := [(2, .long ((Int32.toInt64 x1) * (g4_between s))), (0, .ref (ad 0)), (1, .int x1)]) (pc := 7) E.1 E.2.1 dX4_shareBySpan_7 rfl hl (by decide) rfl (fun ls hl => ?_)
  refine lv_lload_n (pc := 8) E.1 E.2.1 dX4_shareBySpan_8 rfl (lv_at hl 0 rfl) ?_
  refine lv_aload_n (pc := 9) E.1 E.2.1 dX4_shareBySpan_9 rfl (lv_at hl 1 rfl) ?_
  refine xg_X4_58 (pc := 10) (v := .long (g4_within s)) E hw 0 rfl rfl dX4_shareBySpan_10 ?_
  refine lv_aload_n (pc := 13) E.1 E.2.1 dX4_shareBySpan_13 rfl (lv_at hl 1 rfl) ?_
  refine xg_X4_55 (pc := 14) (v := .long (g4_unlikeSpans s)) E hw 0 rfl rfl dX4_shareBySpan_14 ?_
  refine lv_lmul (pc := 17) E.1 E.2.1 dX4_shareBySpan_17 ?_
  refine lv_ladd (pc := 18) E.1 E.2.1 dX4_shareBySpan_18 ?_
  refine lv_lstore (lv' := [(4, .long (((Int32.toInt64 x1) * (g4_between s)) + ((g4_within s) * (g4_unlikeSpans s)))), (2, .long ((Int32.toInt64 x1) * (g4_between s))), (0, .ref (ad 0)), (1, .int x1)]) (pc := 19) E.1 E.2.1 dX4_shareBySpan_19 hl (by decide) rfl (fun ls hl => ?_)
  refine lv_lload_n (pc := 21) E.1 E.2.1 dX4_shareBySpan_21 rfl (lv_at hl 1 rfl) ?_
  refine lv_lconst (v := 0) (pc := 22) E.1 E.2.1 dX4_shareBySpan_22 (by decide) ?_
  refine W.lcmp (pc := 23) E.1 E.2.1 dX4_shareBySpan_23 ?_
  refine lv_if_le (tgt := 46) (pc := 24) E.1 E.2.1 dX4_shareBySpan_24 (by decide) (fun q1 => ?_) (fun q1 => ?_)
  · have hf := x_pos q1 hf
    refine lv_iconst (v := 0) (pc := 46) E.1 E.2.1 dX4_shareBySpan_46 (by decide) ?_
    obtain rfl := Option.some.inj hf
    exact x_reti (pc := 47) E hr hk hw dX4_shareBySpan_47
  · have hf := x_neg q1 hf
    refine lv_lload (pc := 27) E.1 E.2.1 dX4_shareBySpan_27 (lv_at hl 0 rfl) ?_
    refine lv_lconst (v := 0) (pc := 29) E.1 E.2.1 dX4_shareBySpan_29 (by decide) ?_
    refine W.lcmp (pc := 30) E.1 E.2.1 dX4_shareBySpan_30 ?_
    refine lv_if_le (tgt := 46) (pc := 31) E.1 E.2.1 dX4_shareBySpan_31 (by decide) (fun q2 => ?_) (fun q2 => ?_)
    · have hf := x_pos q2 hf
      refine lv_iconst (v := 0) (pc := 46) E.1 E.2.1 dX4_shareBySpan_46 (by decide) ?_
      obtain rfl := Option.some.inj hf
      exact x_reti (pc := 47) E hr hk hw dX4_shareBySpan_47
    · have hf := x_neg q2 hf
      refine lv_ldc2 (v := 1000) (pc := 34) E.1 E.2.1 E.2.2.2.1 (E.2.2.2.2.1 _ wq_837) dX4_shareBySpan_34 ?_
      refine lv_lload_n (pc := 37) E.1 E.2.1 dX4_shareBySpan_37 rfl (lv_at hl 1 rfl) ?_
      refine lv_lmul (pc := 38) E.1 E.2.1 dX4_shareBySpan_38 ?_
      refine lv_lload (pc := 39) E.1 E.2.1 dX4_shareBySpan_39 (lv_at hl 0 rfl) ?_
      obtain ⟨u4, g3, hf⟩ := x_bind hf
      refine lv_ldiv (pc := 41) E.1 E.2.1 dX4_shareBySpan_41 (x_nzl_some g3) ?_
      refine lv_l2i (v := (Int64.toInt32 (((1000 : Int64) * ((Int32.toInt64 x1) * (g4_between s))) / (((Int32.toInt64 x1) * (g4_between s)) + ((g4_within s) * (g4_unlikeSpans s)))))) (pc := 42) E.1 E.2.1 dX4_shareBySpan_42 rfl ?_
      refine lv_goto (tgt := 47) (pc := 43) E.1 E.2.1 dX4_shareBySpan_43 (by decide) ?_
      obtain rfl := Option.some.inj hf
      exact x_reti (pc := 47) E hr hk hw dX4_shareBySpan_47
set_option maxHeartbeats 4000000 in
set_option maxRecDepth 100000 in
theorem c_X4_shareBySpan (l : Launch) (G : xG) (ad : Nat → Nat) (s : S4) (x1 : Int32) {z : Int32} (hf : f_X4_shareBySpan s x1 = some z) : xC l yX4_shareBySpan cX4_shareBySpan 6 (some .int) (rm_X4_shareBySpan) G [.ref (ad 0), .int x1] (cells4 G ad s) (some (.int z)) (cells4 G ad s) :=
  x_met (by decide) rfl (Nat.le_of_ble_eq_true rfl) (fun p e sS m below meth c E hr hk ls hl hw => w_X4_shareBySpan_p0 E hr hk s x1 z hw hl hf)
set_option maxHeartbeats 4000000 in
set_option maxRecDepth 100000 in
theorem w_X4_addShare_p0 {p : Program} {l : Launch} {e : Env} {sS : State} {m : MethodId} {args : Array Value} {below : List Frame} {meth : Method} {c : Code} {G : xG} {W0 : va_W} {ad : Nat → Nat}   (E : xE p sS m args c cX4_addShare 4 RX4 G (x_in W0)) (hr : meth.sig.returnType = none) (hk : meth.locks = false)  : ∀ (s' : S4) (x1' : Int32) (x2' : Int32) (x3' : Int32) (z : S4) {H : Heap} {locs : List Loc} {ls : Array Slot}, xW G (x_in W0) sS.heap (cells4 G ad s') H locs → lv_has ls 4 [(0, .ref (ad 0)), (1, .int x1'), (2, .int x2'), (3, .int x3')] → f_X4_addShare  s' x1' x2' x3' = some z → W p l e (rm_X4_addShare) sS m args below meth c H locs 0 0 (MQ below (xQ G W0 (cells4 G ad z) none) args sS 0 0 (x_in W0)) (F0 m 0 ls []) := by
  intro s x1 x2 x3 z H locs ls hw hl hf
  unfold f_X4_addShare at hf
  refine lv_iload_n (pc := 0) E.1 E.2.1 dX4_addShare_0 rfl (lv_at hl 1 rfl) ?_
  refine lv_if_le (tgt := 66) (pc := 1) E.1 E.2.1 dX4_addShare_1 (by decide) (fun q1 => ?_) (fun q1 => ?_)
  · have hf := x_pos q1 hf
    obtain rfl := Option.some.inj hf
    exact x_retv (pc := 66) E hr hk hw dX4_addShare_66
  · have hf := x_neg q1 hf
    refine lv_aload_n (pc := 4) E.1 E.2.1 dX4_addShare_4 rfl (lv_at hl 0 rfl) ?_
    refine lv_dup (pc := 5) E.1 E.2.1 dX4_addShare_5 rfl ?_
    refine xg_X4_28 (pc := 6) (v := .int (g4_shares s)) E hw 0 rfl rfl dX4_addShare_6 ?_
    refine lv_iload_n (pc := 9) E.1 E.2.1 dX4_addShare_9 rfl (lv_at hl 3 rfl) ?_
    refine lv_iadd (pc := 10) E.1 E.2.1 dX4_addShare_10 ?_
    refine xp_X4_28 (pc := 11) (v := .int ((g4_shares s) + x3)) (ws' := (cells4c G ad (g4_fleets s) (g4_span s) (g4_sum s) ((g4_shares s) + x3) (g4_base s) (g4_spanSquares s) (g4_lossSquares s) (g4_meanSquares s) (g4_freedom s) (g4_unlikeSpans s) (g4_within s) (g4_between s) (g4_weightedMeans s) (g4_ownLosses s) (g4_restSpans s))) E hw 0 rfl rfl rfl (Nat.le_of_ble_eq_true rfl) rfl dX4_addShare_11 (fun H locs hw => ?_)
    refine lv_aload_n (pc := 14) E.1 E.2.1 dX4_addShare_14 rfl (lv_at hl 0 rfl) ?_
    refine lv_dup (pc := 15) E.1 E.2.1 dX4_addShare_15 rfl ?_
    refine xg_X4_41 (pc := 16) (v := .long (g4_weightedMeans s)) E hw 0 rfl rfl dX4_addShare_16 ?_
    refine lv_iload_n (pc := 19) E.1 E.2.1 dX4_addShare_19 rfl (lv_at hl 2 rfl) ?_
    refine lv_i2l (v := (Int32.toInt64 x2)) (pc := 20) E.1 E.2.1 dX4_addShare_20 rfl ?_
    refine lv_iload_n (pc := 21) E.1 E.2.1 dX4_addShare_21 rfl (lv_at hl 3 rfl) ?_
    refine lv_i2l (v := (Int32.toInt64 x3)) (pc := 22) E.1 E.2.1 dX4_addShare_22 rfl ?_
    refine lv_lmul (pc := 23) E.1 E.2.1 dX4_addShare_23 ?_
    refine lv_bipush (v := 60) (pc := 24) E.1 E.2.1 dX4_addShare_24 (by decide) ?_
    refine lv_iload_n (pc := 26) E.1 E.2.1 dX4_addShare_26 rfl (lv_at hl 1 rfl) ?_
    obtain ⟨u3, g2, hf⟩ := x_bind hf
    refine lv_idiv (pc := 27) E.1 E.2.1 dX4_addShare_27 (x_nz_some g2) ?_
    refine lv_i2l (v := (Int32.toInt64 (60 / x1))) (pc := 28) E.1 E.2.1 dX4_addShare_28 rfl ?_
    refine lv_lmul (pc := 29) E.1 E.2.1 dX4_addShare_29 ?_
    refine lv_ladd (pc := 30) E.1 E.2.1 dX4_addShare_30 ?_
    refine xp_X4_41 (pc := 31) (v := .long ((g4_weightedMeans s) + (((Int32.toInt64 x2) * (Int32.toInt64 x3)) * (Int32.toInt64 (60 / x1))))) (ws' := (cells4c G ad (g4_fleets s) (g4_span s) (g4_sum s) ((g4_shares s) + x3) (g4_base s) (g4_spanSquares s) (g4_lossSquares s) (g4_meanSquares s) (g4_freedom s) (g4_unlikeSpans s) (g4_within s) (g4_between s) ((g4_weightedMeans s) + (((Int32.toInt64 x2) * (Int32.toInt64 x3)) * (Int32.toInt64 (60 / x1)))) (g4_ownLosses s) (g4_restSpans s))) E hw 0 rfl rfl rfl (Nat.le_of_ble_eq_true rfl) rfl dX4_addShare_31 (fun H locs hw => ?_)
    refine lv_aload_n (pc := 34) E.1 E.2.1 dX4_addShare_34 rfl (lv_at hl 0 rfl) ?_
    refine lv_dup (pc := 35) E.1 E.2.1 dX4_addShare_35 rfl ?_
    refine xg_X4_44 (pc := 36) (v := .long (g4_ownLosses s)) E hw 0 rfl rfl dX4_addShare_36 ?_
    refine lv_iload_n (pc := 39) E.1 E.2.1 dX4_addShare_39 rfl (lv_at hl 2 rfl) ?_
    refine lv_i2l (v := (Int32.toInt64 x2)) (pc := 40) E.1 E.2.1 dX4_addShare_40 rfl ?_
    refine lv_iload_n (pc := 41) E.1 E.2.1 dX4_addShare_41 rfl (lv_at hl 3 rfl) ?_
    refine lv_i2l (v := (Int32.toInt64 x3)) (pc := 42) E.1 E.2.1 dX4_addShare_42 rfl ?_
    refine lv_lmul (pc := 43) E.1 E.2.1 dX4_addShare_43 ?_
    refine lv_ladd (pc := 44) E.1 E.2.1 dX4_addShare_44 ?_
    refine xp_X4_44 (pc := 45) (v := .long ((g4_ownLosses s) + ((Int32.toInt64 x2) * (Int32.toInt64 x3)))) (ws' := (cells4c G ad (g4_fleets s) (g4_span s) (g4_sum s) ((g4_shares s) + x3) (g4_base s) (g4_spanSquares s) (g4_lossSquares s) (g4_meanSquares s) (g4_freedom s) (g4_unlikeSpans s) (g4_within s) (g4_between s) ((g4_weightedMeans s) + (((Int32.toInt64 x2) * (Int32.toInt64 x3)) * (Int32.toInt64 (60 / x1)))) ((g4_ownLosses s) + ((Int32.toInt64 x2) * (Int32.toInt64 x3))) (g4_restSpans s))) E hw 0 rfl rfl rfl (Nat.le_of_ble_eq_true rfl) rfl dX4_addShare_45 (fun H locs hw => ?_)
    refine lv_aload_n (pc := 48) E.1 E.2.1 dX4_addShare_48 rfl (lv_at hl 0 rfl) ?_
    refine lv_dup (pc := 49) E.1 E.2.1 dX4_addShare_49 rfl ?_
    refine xg_X4_47 (pc := 50) (v := .long (g4_restSpans s)) E hw 0 rfl rfl dX4_addShare_50 ?_
    refine lv_iload_n (pc := 53) E.1 E.2.1 dX4_addShare_53 rfl (lv_at hl 1 rfl) ?_
    refine lv_i2l (v := (Int32.toInt64 x1)) (pc := 54) E.1 E.2.1 dX4_addShare_54 rfl ?_
    refine lv_sipush (v := 1000) (pc := 55) E.1 E.2.1 dX4_addShare_55 (by decide) ?_
    refine lv_iload_n (pc := 58) E.1 E.2.1 dX4_addShare_58 rfl (lv_at hl 3 rfl) ?_
    refine lv_isub (pc := 59) E.1 E.2.1 dX4_addShare_59 ?_
    refine lv_i2l (v := (Int32.toInt64 ((1000 : Int32) - x3))) (pc := 60) E.1 E.2.1 dX4_addShare_60 rfl ?_
    refine lv_lmul (pc := 61) E.1 E.2.1 dX4_addShare_61 ?_
    refine lv_ladd (pc := 62) E.1 E.2.1 dX4_addShare_62 ?_
    refine xp_X4_47 (pc := 63) (v := .long ((g4_restSpans s) + ((Int32.toInt64 x1) * (Int32.toInt64 ((1000 : Int32) - x3))))) (ws' := (cells4c G ad (g4_fleets s) (g4_span s) (g4_sum s) ((g4_shares s) + x3) (g4_base s) (g4_spanSquares s) (g4_lossSquares s) (g4_meanSquares s) (g4_freedom s) (g4_unlikeSpans s) (g4_within s) (g4_between s) ((g4_weightedMeans s) + (((Int32.toInt64 x2) * (Int32.toInt64 x3)) * (Int32.toInt64 (60 / x1)))) ((g4_ownLosses s) + ((Int32.toInt64 x2) * (Int32.toInt64 x3))) ((g4_restSpans s) + ((Int32.toInt64 x1) * (Int32.toInt64 ((1000 : Int32) - x3)))))) E hw 0 rfl rfl rfl (Nat.le_of_ble_eq_true rfl) rfl dX4_addShare_63 (fun H locs hw => ?_)
    obtain rfl := Option.some.inj hf
    exact x_retv (pc := 66) E hr hk hw dX4_addShare_66
set_option maxHeartbeats 4000000 in
set_option maxRecDepth 100000 in
theorem c_X4_addShare (l : Launch) (G : xG) (ad : Nat → Nat) (s : S4) (x1 : Int32) (x2 : Int32) (x3 : Int32) {z : S4} (hf : f_X4_addShare s x1 x2 x3 = some z) : xC l yX4_addShare cX4_addShare 4 none (rm_X4_addShare) G [.ref (ad 0), .int x1, .int x2, .int x3] (cells4 G ad s) none (cells4 G ad z) :=
  x_met (by decide) rfl (Nat.le_of_ble_eq_true rfl) (fun p e sS m below meth c E hr hk ls hl hw => w_X4_addShare_p0 E hr hk s x1 x2 x3 z hw hl hf)
set_option maxHeartbeats 4000000 in
set_option maxRecDepth 100000 in
theorem w_X4_putWithin_p0 {p : Program} {l : Launch} {e : Env} {sS : State} {m : MethodId} {args : Array Value} {below : List Frame} {meth : Method} {c : Code} {G : xG} {W0 : va_W} {ad : Nat → Nat} {ae : Nat → Nat}   (E : xE p sS m args c cX4_putWithin 2 RX4 G (x_in W0)) (hr : meth.sig.returnType = none) (hk : meth.locks = false)  : ∀ (s' : S4) (q' : S5) (z : S5) {H : Heap} {locs : List Loc} {ls : Array Slot}, xW G (x_in W0) sS.heap (cells4 G ad s' ++ cells5 G ae q') H locs → lv_has ls 2 [(0, .ref (ad 0)), (1, .ref (ae 0))] → f_X4_putWithin  s' q' = some z → W p l e (rm_X4_putWithin) sS m args below meth c H locs 0 0 (MQ below (xQ G W0 (cells4 G ad s' ++ cells5 G ae z) none) args sS 0 0 (x_in W0)) (F0 m 0 ls []) := by
  intro s q z H locs ls hw hl hf
  unfold f_X4_putWithin at hf
  refine lv_aload_n (pc := 0) E.1 E.2.1 dX4_putWithin_0 rfl (lv_at hl 1 rfl) ?_
  refine lv_aload_n (pc := 1) E.1 E.2.1 dX4_putWithin_1 rfl (lv_at hl 0 rfl) ?_
  refine xg_X4_58 (pc := 2) (v := .long (g4_within s)) E hw 0 rfl rfl dX4_putWithin_2 ?_
  refine lv_ldc2 (v := 60) (pc := 5) E.1 E.2.1 E.2.2.2.1 (E.2.2.2.2.1 _ wq_817) dX4_putWithin_5 ?_
  refine lv_aload_n (pc := 8) E.1 E.2.1 dX4_putWithin_8 rfl (lv_at hl 0 rfl) ?_
  refine xg_X4_52 (pc := 9) (v := .long (g4_freedom s)) E hw 0 rfl rfl dX4_putWithin_9 ?_
  refine lv_lmul (pc := 12) E.1 E.2.1 dX4_putWithin_12 ?_
  obtain ⟨v1, g2, hf⟩ := x_bind hf
  refine x_callV (pc := 13) (As := [.long (g4_within s), .long ((60 : Int64) * (g4_freedom s))]) (rest := []) (st1 := []) (ws' := (cells4 G ad s ++ cells5 G ae v1)) E hw hl (c_X5_put l G ae q (g4_within s) ((60 : Int64) * (g4_freedom s)) g2) xv_X4_74 xd_X5_put rfl rfl ⟨Nat.le_of_ble_eq_true rfl, Nat.le_of_ble_eq_true rfl⟩ [2] [0, 1] (by decide) ⟨rfl, trivial⟩ (q0 := 2) rfl rfl rfl rfl (Nat.le_of_ble_eq_true rfl) (nw := 3) ⟨rfl, trivial⟩ ⟨⟨_, rfl, rfl⟩, ⟨_, rfl, rfl⟩, trivial⟩ rfl rfl (by decide) (by decide) rfl dX4_putWithin_13 (fun H locs hw => ?_)
  obtain rfl := Option.some.inj hf
  exact x_retv (pc := 16) E hr hk hw dX4_putWithin_16
set_option maxHeartbeats 4000000 in
set_option maxRecDepth 100000 in
theorem c_X4_putWithin (l : Launch) (G : xG) (ad : Nat → Nat) (ae : Nat → Nat) (s : S4) (q : S5) {z : S5} (hf : f_X4_putWithin s q = some z) : xC l yX4_putWithin cX4_putWithin 2 none (rm_X4_putWithin) G [.ref (ad 0), .ref (ae 0)] (cells4 G ad s ++ cells5 G ae q) none (cells4 G ad s ++ cells5 G ae z) :=
  x_met (by decide) rfl (Nat.le_of_ble_eq_true rfl) (fun p e sS m below meth c E hr hk ls hl hw => w_X4_putWithin_p0 E hr hk s q z hw hl hf)
set_option maxHeartbeats 4000000 in
set_option maxRecDepth 100000 in
theorem w_X5_putNone_p0 {p : Program} {l : Launch} {e : Env} {sS : State} {m : MethodId} {args : Array Value} {below : List Frame} {meth : Method} {c : Code} {G : xG} {W0 : va_W} {ad : Nat → Nat}   (E : xE p sS m args c cX5_putNone 1 RX5 G (x_in W0)) (hr : meth.sig.returnType = none) (hk : meth.locks = false)  : ∀ (s' : S5) (z : S5) {H : Heap} {locs : List Loc} {ls : Array Slot}, xW G (x_in W0) sS.heap (cells5 G ad s') H locs → lv_has ls 1 [(0, .ref (ad 0))] → f_X5_putNone  s' = some z → W p l e (rm_X5_putNone) sS m args below meth c H locs 0 0 (MQ below (xQ G W0 (cells5 G ad z) none) args sS 0 0 (x_in W0)) (F0 m 0 ls []) := by
  intro s z H locs ls hw hl hf
  unfold f_X5_putNone at hf
  refine lv_aload_n (pc := 0) E.1 E.2.1 dX5_putNone_0 rfl (lv_at hl 0 rfl) ?_
  refine lv_lconst (v := 0) (pc := 1) E.1 E.2.1 dX5_putNone_1 (by decide) ?_
  refine xp_X5_9 (pc := 2) (v := .long 0) (ws' := (cells5c G ad 0 (g5_lower s))) E hw 0 rfl rfl rfl (Nat.le_of_ble_eq_true rfl) rfl dX5_putNone_2 (fun H locs hw => ?_)
  refine lv_aload_n (pc := 5) E.1 E.2.1 dX5_putNone_5 rfl (lv_at hl 0 rfl) ?_
  refine lv_lconst (v := 0) (pc := 6) E.1 E.2.1 dX5_putNone_6 (by decide) ?_
  refine xp_X5_15 (pc := 7) (v := .long 0) (ws' := (cells5c G ad 0 0)) E hw 0 rfl rfl rfl (Nat.le_of_ble_eq_true rfl) rfl dX5_putNone_7 (fun H locs hw => ?_)
  obtain rfl := Option.some.inj hf
  exact x_retv (pc := 10) E hr hk hw dX5_putNone_10
set_option maxHeartbeats 4000000 in
set_option maxRecDepth 100000 in
theorem c_X5_putNone (l : Launch) (G : xG) (ad : Nat → Nat) (s : S5) {z : S5} (hf : f_X5_putNone s = some z) : xC l yX5_putNone cX5_putNone 1 none (rm_X5_putNone) G [.ref (ad 0)] (cells5 G ad s) none (cells5 G ad z) :=
  x_met (by decide) rfl (Nat.le_of_ble_eq_true rfl) (fun p e sS m below meth c E hr hk ls hl hw => w_X5_putNone_p0 E hr hk s z hw hl hf)
set_option maxHeartbeats 4000000 in
set_option maxRecDepth 100000 in
theorem w_X4_putBetween_p0 {p : Program} {l : Launch} {e : Env} {sS : State} {m : MethodId} {args : Array Value} {below : List Frame} {meth : Method} {c : Code} {G : xG} {W0 : va_W} {ad : Nat → Nat} {ae : Nat → Nat}   (E : xE p sS m args c cX4_putBetween 2 RX4 G (x_in W0)) (hr : meth.sig.returnType = none) (hk : meth.locks = false)  : ∀ (s' : S4) (q' : S5) (z : S5) {H : Heap} {locs : List Loc} {ls : Array Slot}, xW G (x_in W0) sS.heap (cells4 G ad s' ++ cells5 G ae q') H locs → lv_has ls 2 [(0, .ref (ad 0)), (1, .ref (ae 0))] → f_X4_putBetween  s' q' = some z → W p l e (rm_X4_putBetween) sS m args below meth c H locs 0 0 (MQ below (xQ G W0 (cells4 G ad s' ++ cells5 G ae z) none) args sS 0 0 (x_in W0)) (F0 m 0 ls []) := by
  intro s q z H locs ls hw hl hf
  unfold f_X4_putBetween at hf
  refine lv_aload_n (pc := 0) E.1 E.2.1 dX4_putBetween_0 rfl (lv_at hl 1 rfl) ?_
  obtain ⟨v1, g2, hf⟩ := x_bind hf
  refine x_callV (pc := 1) (As := []) (rest := []) (st1 := []) (ws' := (cells4 G ad s ++ cells5 G ae v1)) E hw hl (c_X5_putNone l G ae q g2) xv_X4_78 xd_X5_putNone rfl rfl ⟨Nat.le_of_ble_eq_true rfl, Nat.le_of_ble_eq_true rfl⟩ [2] [0, 1] (by decide) ⟨rfl, trivial⟩ (q0 := 2) rfl rfl rfl rfl (Nat.le_of_ble_eq_true rfl) (nw := 3) ⟨rfl, trivial⟩ ⟨⟨_, rfl, rfl⟩, ⟨_, rfl, rfl⟩, trivial⟩ rfl rfl (by decide) (by decide) rfl dX4_putBetween_1 (fun H locs hw => ?_)
  refine lv_aload_n (pc := 4) E.1 E.2.1 dX4_putBetween_4 rfl (lv_at hl 0 rfl) ?_
  obtain ⟨v3, g4, hf⟩ := x_bind hf
  refine x_callV (pc := 5) (As := []) (rest := []) (st1 := [.int v3]) (ws' := (cells4 G ad s ++ cells5 G ae v1)) E hw hl (c_X4_hasBetween l G ad s g4) xv_X4_64 xd_X4_hasBetween rfl rfl ⟨Nat.le_of_ble_eq_true rfl, Nat.le_of_ble_eq_true rfl⟩ [0, 1] [2] (by decide) ⟨rfl, rfl, trivial⟩ (q0 := 0) rfl rfl rfl rfl (Nat.le_of_ble_eq_true rfl) (nw := 3) ⟨rfl, rfl, trivial⟩ ⟨⟨_, rfl, rfl⟩, trivial⟩ rfl rfl (by decide) (by decide) rfl dX4_putBetween_5 (fun H locs hw => ?_)
  refine lv_if_eq (tgt := 32) (pc := 8) E.1 E.2.1 dX4_putBetween_8 (by decide) (fun q5 => ?_) (fun q5 => ?_)
  · have hf := x_pos q5 hf
    obtain rfl := Option.some.inj hf
    exact x_retv (pc := 32) E hr hk hw dX4_putBetween_32
  · have hf := x_neg q5 hf
    refine lv_aload_n (pc := 11) E.1 E.2.1 dX4_putBetween_11 rfl (lv_at hl 1 rfl) ?_
    refine lv_aload_n (pc := 12) E.1 E.2.1 dX4_putBetween_12 rfl (lv_at hl 0 rfl) ?_
    refine xg_X4_61 (pc := 13) (v := .long (g4_between s)) E hw 0 rfl rfl dX4_putBetween_13 ?_
    refine lv_ldc2 (v := 60) (pc := 16) E.1 E.2.1 E.2.2.2.1 (E.2.2.2.2.1 _ wq_817) dX4_putBetween_16 ?_
    refine lv_aload_n (pc := 19) E.1 E.2.1 dX4_putBetween_19 rfl (lv_at hl 0 rfl) ?_
    refine xg_X4_52 (pc := 20) (v := .long (g4_freedom s)) E hw 0 rfl rfl dX4_putBetween_20 ?_
    refine lv_lmul (pc := 23) E.1 E.2.1 dX4_putBetween_23 ?_
    refine lv_aload_n (pc := 24) E.1 E.2.1 dX4_putBetween_24 rfl (lv_at hl 0 rfl) ?_
    refine xg_X4_55 (pc := 25) (v := .long (g4_unlikeSpans s)) E hw 0 rfl rfl dX4_putBetween_25 ?_
    refine lv_lmul (pc := 28) E.1 E.2.1 dX4_putBetween_28 ?_
    obtain ⟨v6, g7, hf⟩ := x_bind hf
    refine x_callV (pc := 29) (As := [.long (g4_between s), .long (((60 : Int64) * (g4_freedom s)) * (g4_unlikeSpans s))]) (rest := []) (st1 := []) (ws' := (cells4 G ad s ++ cells5 G ae v6)) E hw hl (c_X5_put l G ae v1 (g4_between s) (((60 : Int64) * (g4_freedom s)) * (g4_unlikeSpans s)) g7) xv_X4_74 xd_X5_put rfl rfl ⟨Nat.le_of_ble_eq_true rfl, Nat.le_of_ble_eq_true rfl⟩ [2] [0, 1] (by decide) ⟨rfl, trivial⟩ (q0 := 2) rfl rfl rfl rfl (Nat.le_of_ble_eq_true rfl) (nw := 3) ⟨rfl, trivial⟩ ⟨⟨_, rfl, rfl⟩, ⟨_, rfl, rfl⟩, trivial⟩ rfl rfl (by decide) (by decide) rfl dX4_putBetween_29 (fun H locs hw => ?_)
    obtain rfl := Option.some.inj hf
    exact x_retv (pc := 32) E hr hk hw dX4_putBetween_32
set_option maxHeartbeats 4000000 in
set_option maxRecDepth 100000 in
theorem c_X4_putBetween (l : Launch) (G : xG) (ad : Nat → Nat) (ae : Nat → Nat) (s : S4) (q : S5) {z : S5} (hf : f_X4_putBetween s q = some z) : xC l yX4_putBetween cX4_putBetween 2 none (rm_X4_putBetween) G [.ref (ad 0), .ref (ae 0)] (cells4 G ad s ++ cells5 G ae q) none (cells4 G ad s ++ cells5 G ae z) :=
  x_met (by decide) rfl (Nat.le_of_ble_eq_true rfl) (fun p e sS m below meth c E hr hk ls hl hw => w_X4_putBetween_p0 E hr hk s q z hw hl hf)
set_option maxHeartbeats 4000000 in
set_option maxRecDepth 100000 in
theorem w_X4_putCentre_p0 {p : Program} {l : Launch} {e : Env} {sS : State} {m : MethodId} {args : Array Value} {below : List Frame} {meth : Method} {c : Code} {G : xG} {W0 : va_W} {ad : Nat → Nat} {ae : Nat → Nat}   (E : xE p sS m args c cX4_putCentre 2 RX4 G (x_in W0)) (hr : meth.sig.returnType = none) (hk : meth.locks = false)  : ∀ (s' : S4) (q' : S5) (z : S5) {H : Heap} {locs : List Loc} {ls : Array Slot}, xW G (x_in W0) sS.heap (cells4 G ad s' ++ cells5 G ae q') H locs → lv_has ls 2 [(0, .ref (ad 0)), (1, .ref (ae 0))] → f_X4_putCentre  s' q' = some z → W p l e (rm_X4_putCentre) sS m args below meth c H locs 0 0 (MQ below (xQ G W0 (cells4 G ad s' ++ cells5 G ae z) none) args sS 0 0 (x_in W0)) (F0 m 0 ls []) := by
  intro s q z H locs ls hw hl hf
  unfold f_X4_putCentre at hf
  refine lv_aload_n (pc := 0) E.1 E.2.1 dX4_putCentre_0 rfl (lv_at hl 0 rfl) ?_
  refine xg_X4_28 (pc := 1) (v := .int (g4_shares s)) E hw 0 rfl rfl dX4_putCentre_1 ?_
  refine lv_if_ne (tgt := 24) (pc := 4) E.1 E.2.1 dX4_putCentre_4 (by decide) (fun q1 => ?_) (fun q1 => ?_)
  · have hf := x_neg q1 hf
    refine lv_aload_n (pc := 24) E.1 E.2.1 dX4_putCentre_24 rfl (lv_at hl 1 rfl) ?_
    refine lv_aload_n (pc := 25) E.1 E.2.1 dX4_putCentre_25 rfl (lv_at hl 0 rfl) ?_
    refine xg_X4_41 (pc := 26) (v := .long (g4_weightedMeans s)) E hw 0 rfl rfl dX4_putCentre_26 ?_
    refine lv_ldc2 (v := 60) (pc := 29) E.1 E.2.1 E.2.2.2.1 (E.2.2.2.2.1 _ wq_817) dX4_putCentre_29 ?_
    refine lv_aload_n (pc := 32) E.1 E.2.1 dX4_putCentre_32 rfl (lv_at hl 0 rfl) ?_
    refine xg_X4_28 (pc := 33) (v := .int (g4_shares s)) E hw 0 rfl rfl dX4_putCentre_33 ?_
    refine lv_i2l (v := (Int32.toInt64 (g4_shares s))) (pc := 36) E.1 E.2.1 dX4_putCentre_36 rfl ?_
    refine lv_lmul (pc := 37) E.1 E.2.1 dX4_putCentre_37 ?_
    obtain ⟨v2, g3, hf⟩ := x_bind hf
    refine x_callV (pc := 38) (As := [.long (g4_weightedMeans s), .long ((60 : Int64) * (Int32.toInt64 (g4_shares s)))]) (rest := []) (st1 := []) (ws' := (cells4 G ad s ++ cells5 G ae v2)) E hw hl (c_X5_put l G ae q (g4_weightedMeans s) ((60 : Int64) * (Int32.toInt64 (g4_shares s))) g3) xv_X4_74 xd_X5_put rfl rfl ⟨Nat.le_of_ble_eq_true rfl, Nat.le_of_ble_eq_true rfl⟩ [2] [0, 1] (by decide) ⟨rfl, trivial⟩ (q0 := 2) rfl rfl rfl rfl (Nat.le_of_ble_eq_true rfl) (nw := 3) ⟨rfl, trivial⟩ ⟨⟨_, rfl, rfl⟩, ⟨_, rfl, rfl⟩, trivial⟩ rfl rfl (by decide) (by decide) rfl dX4_putCentre_38 (fun H locs hw => ?_)
    obtain rfl := Option.some.inj hf
    exact x_retv (pc := 41) E hr hk hw dX4_putCentre_41
  · have hf := x_pos q1 hf
    refine lv_aload_n (pc := 7) E.1 E.2.1 dX4_putCentre_7 rfl (lv_at hl 1 rfl) ?_
    refine lv_aload_n (pc := 8) E.1 E.2.1 dX4_putCentre_8 rfl (lv_at hl 0 rfl) ?_
    refine xg_X4_25 (pc := 9) (v := .int (g4_sum s)) E hw 0 rfl rfl dX4_putCentre_9 ?_
    refine lv_i2l (v := (Int32.toInt64 (g4_sum s))) (pc := 12) E.1 E.2.1 dX4_putCentre_12 rfl ?_
    refine lv_aload_n (pc := 13) E.1 E.2.1 dX4_putCentre_13 rfl (lv_at hl 0 rfl) ?_
    refine xg_X4_22 (pc := 14) (v := .int (g4_span s)) E hw 0 rfl rfl dX4_putCentre_14 ?_
    refine lv_i2l (v := (Int32.toInt64 (g4_span s))) (pc := 17) E.1 E.2.1 dX4_putCentre_17 rfl ?_
    obtain ⟨v4, g5, hf⟩ := x_bind hf
    refine x_callV (pc := 18) (As := [.long (Int32.toInt64 (g4_sum s)), .long (Int32.toInt64 (g4_span s))]) (rest := []) (st1 := []) (ws' := (cells4 G ad s ++ cells5 G ae v4)) E hw hl (c_X5_put l G ae q (Int32.toInt64 (g4_sum s)) (Int32.toInt64 (g4_span s)) g5) xv_X4_74 xd_X5_put rfl rfl ⟨Nat.le_of_ble_eq_true rfl, Nat.le_of_ble_eq_true rfl⟩ [2] [0, 1] (by decide) ⟨rfl, trivial⟩ (q0 := 2) rfl rfl rfl rfl (Nat.le_of_ble_eq_true rfl) (nw := 3) ⟨rfl, trivial⟩ ⟨⟨_, rfl, rfl⟩, ⟨_, rfl, rfl⟩, trivial⟩ rfl rfl (by decide) (by decide) rfl dX4_putCentre_18 (fun H locs hw => ?_)
    refine lv_goto (tgt := 41) (pc := 21) E.1 E.2.1 dX4_putCentre_21 (by decide) ?_
    obtain rfl := Option.some.inj hf
    exact x_retv (pc := 41) E hr hk hw dX4_putCentre_41
set_option maxHeartbeats 4000000 in
set_option maxRecDepth 100000 in
theorem c_X4_putCentre (l : Launch) (G : xG) (ad : Nat → Nat) (ae : Nat → Nat) (s : S4) (q : S5) {z : S5} (hf : f_X4_putCentre s q = some z) : xC l yX4_putCentre cX4_putCentre 2 none (rm_X4_putCentre) G [.ref (ad 0), .ref (ae 0)] (cells4 G ad s ++ cells5 G ae q) none (cells4 G ad s ++ cells5 G ae z) :=
  x_met (by decide) rfl (Nat.le_of_ble_eq_true rfl) (fun p e sS m below meth c E hr hk ls hl hw => w_X4_putCentre_p0 E hr hk s q z hw hl hf)
set_option maxHeartbeats 4000000 in
set_option maxRecDepth 100000 in
theorem w_X4_putOff_p0 {p : Program} {l : Launch} {e : Env} {sS : State} {m : MethodId} {args : Array Value} {below : List Frame} {meth : Method} {c : Code} {G : xG} {W0 : va_W} {ad : Nat → Nat} {ae : Nat → Nat}   (E : xE p sS m args c cX4_putOff 2 RX4 G (x_in W0)) (hr : meth.sig.returnType = none) (hk : meth.locks = false)  : ∀ (s' : S4) (q' : S5) (z : S5) {H : Heap} {locs : List Loc} {ls : Array Slot}, xW G (x_in W0) sS.heap (cells4 G ad s' ++ cells5 G ae q') H locs → lv_has ls 2 [(0, .ref (ad 0)), (1, .ref (ae 0))] → f_X4_putOff  s' q' = some z → W p l e (rm_X4_putOff) sS m args below meth c H locs 0 0 (MQ below (xQ G W0 (cells4 G ad s' ++ cells5 G ae z) none) args sS 0 0 (x_in W0)) (F0 m 0 ls []) := by
  intro s q z H locs ls hw hl hf
  unfold f_X4_putOff at hf
  refine lv_aload_n (pc := 0) E.1 E.2.1 dX4_putOff_0 rfl (lv_at hl 1 rfl) ?_
  obtain ⟨v1, g2, hf⟩ := x_bind hf
  refine x_callV (pc := 1) (As := []) (rest := []) (st1 := []) (ws' := (cells4 G ad s ++ cells5 G ae v1)) E hw hl (c_X5_putNone l G ae q g2) xv_X4_78 xd_X5_putNone rfl rfl ⟨Nat.le_of_ble_eq_true rfl, Nat.le_of_ble_eq_true rfl⟩ [2] [0, 1] (by decide) ⟨rfl, trivial⟩ (q0 := 2) rfl rfl rfl rfl (Nat.le_of_ble_eq_true rfl) (nw := 3) ⟨rfl, trivial⟩ ⟨⟨_, rfl, rfl⟩, ⟨_, rfl, rfl⟩, trivial⟩ rfl rfl (by decide) (by decide) rfl dX4_putOff_1 (fun H locs hw => ?_)
  refine lv_aload_n (pc := 4) E.1 E.2.1 dX4_putOff_4 rfl (lv_at hl 0 rfl) ?_
  refine xg_X4_12 (pc := 5) (v := .ref (ad 1)) E hw 0 rfl rfl dX4_putOff_5 ?_
  obtain ⟨v3, g4, hf⟩ := x_bind hf
  refine x_callV (pc := 8) (As := []) (rest := []) (st1 := [.int v3]) (ws' := (cells4 G ad s ++ cells5 G ae v1)) E hw hl (c_X5_isNone l G (fun k => ad (k + 1)) (g4_base s) g4) xv_X4_87 xd_X5_isNone rfl rfl ⟨Nat.le_of_ble_eq_true rfl, Nat.le_of_ble_eq_true rfl⟩ [1] [0, 2] (by decide) ⟨rfl, trivial⟩ (q0 := 1) rfl rfl rfl rfl (Nat.le_of_ble_eq_true rfl) (nw := 3) ⟨rfl, trivial⟩ ⟨⟨_, rfl, rfl⟩, ⟨_, rfl, rfl⟩, trivial⟩ rfl rfl (by decide) (by decide) rfl dX4_putOff_8 (fun H locs hw => ?_)
  refine lv_if_ne (tgt := 64) (pc := 11) E.1 E.2.1 dX4_putOff_11 (by decide) (fun q5 => ?_) (fun q5 => ?_)
  · have hf := x_neg q5 hf
    obtain rfl := Option.some.inj hf
    exact x_retv (pc := 64) E hr hk hw dX4_putOff_64
  · have hf := x_pos q5 hf
    refine lv_aload_n (pc := 14) E.1 E.2.1 dX4_putOff_14 rfl (lv_at hl 1 rfl) ?_
    refine lv_aload_n (pc := 15) E.1 E.2.1 dX4_putOff_15 rfl (lv_at hl 0 rfl) ?_
    refine xg_X4_44 (pc := 16) (v := .long (g4_ownLosses s)) E hw 0 rfl rfl dX4_putOff_16 ?_
    refine lv_ldc2 (v := 1000) (pc := 19) E.1 E.2.1 E.2.2.2.1 (E.2.2.2.2.1 _ wq_837) dX4_putOff_19 ?_
    refine lv_aload_n (pc := 22) E.1 E.2.1 dX4_putOff_22 rfl (lv_at hl 0 rfl) ?_
    refine xg_X4_25 (pc := 23) (v := .int (g4_sum s)) E hw 0 rfl rfl dX4_putOff_23 ?_
    refine lv_i2l (v := (Int32.toInt64 (g4_sum s))) (pc := 26) E.1 E.2.1 dX4_putOff_26 rfl ?_
    refine lv_lmul (pc := 27) E.1 E.2.1 dX4_putOff_27 ?_
    refine lv_lsub (pc := 28) E.1 E.2.1 dX4_putOff_28 ?_
    refine lv_aload_n (pc := 29) E.1 E.2.1 dX4_putOff_29 rfl (lv_at hl 0 rfl) ?_
    refine xg_X4_12 (pc := 30) (v := .ref (ad 1)) E hw 0 rfl rfl dX4_putOff_30 ?_
    refine xg_X4_97 (pc := 33) (v := .long (g5_lower (g4_base s))) E hw 1 rfl rfl dX4_putOff_33 ?_
    refine lv_lmul (pc := 36) E.1 E.2.1 dX4_putOff_36 ?_
    refine lv_aload_n (pc := 37) E.1 E.2.1 dX4_putOff_37 rfl (lv_at hl 0 rfl) ?_
    refine xg_X4_47 (pc := 38) (v := .long (g4_restSpans s)) E hw 0 rfl rfl dX4_putOff_38 ?_
    refine lv_aload_n (pc := 41) E.1 E.2.1 dX4_putOff_41 rfl (lv_at hl 0 rfl) ?_
    refine xg_X4_12 (pc := 42) (v := .ref (ad 1)) E hw 0 rfl rfl dX4_putOff_42 ?_
    refine xg_X4_94 (pc := 45) (v := .long (g5_upper (g4_base s))) E hw 1 rfl rfl dX4_putOff_45 ?_
    refine lv_lmul (pc := 48) E.1 E.2.1 dX4_putOff_48 ?_
    refine lv_ladd (pc := 49) E.1 E.2.1 dX4_putOff_49 ?_
    refine lv_ldc2 (v := 1000) (pc := 50) E.1 E.2.1 E.2.2.2.1 (E.2.2.2.2.1 _ wq_837) dX4_putOff_50 ?_
    refine lv_aload_n (pc := 53) E.1 E.2.1 dX4_putOff_53 rfl (lv_at hl 0 rfl) ?_
    refine xg_X4_12 (pc := 54) (v := .ref (ad 1)) E hw 0 rfl rfl dX4_putOff_54 ?_
    refine xg_X4_97 (pc := 57) (v := .long (g5_lower (g4_base s))) E hw 1 rfl rfl dX4_putOff_57 ?_
    refine lv_lmul (pc := 60) E.1 E.2.1 dX4_putOff_60 ?_
    obtain ⟨v6, g7, hf⟩ := x_bind hf
    refine x_callV (pc := 61) (As := [.long ((((g4_ownLosses s) - ((1000 : Int64) * (Int32.toInt64 (g4_sum s)))) * (g5_lower (g4_base s))) + ((g4_restSpans s) * (g5_upper (g4_base s)))), .long ((1000 : Int64) * (g5_lower (g4_base s)))]) (rest := []) (st1 := []) (ws' := (cells4 G ad s ++ cells5 G ae v6)) E hw hl (c_X5_put l G ae v1 ((((g4_ownLosses s) - ((1000 : Int64) * (Int32.toInt64 (g4_sum s)))) * (g5_lower (g4_base s))) + ((g4_restSpans s) * (g5_upper (g4_base s)))) ((1000 : Int64) * (g5_lower (g4_base s))) g7) xv_X4_74 xd_X5_put rfl rfl ⟨Nat.le_of_ble_eq_true rfl, Nat.le_of_ble_eq_true rfl⟩ [2] [0, 1] (by decide) ⟨rfl, trivial⟩ (q0 := 2) rfl rfl rfl rfl (Nat.le_of_ble_eq_true rfl) (nw := 3) ⟨rfl, trivial⟩ ⟨⟨_, rfl, rfl⟩, ⟨_, rfl, rfl⟩, trivial⟩ rfl rfl (by decide) (by decide) rfl dX4_putOff_61 (fun H locs hw => ?_)
    obtain rfl := Option.some.inj hf
    exact x_retv (pc := 64) E hr hk hw dX4_putOff_64
set_option maxHeartbeats 4000000 in
set_option maxRecDepth 100000 in
theorem c_X4_putOff (l : Launch) (G : xG) (ad : Nat → Nat) (ae : Nat → Nat) (s : S4) (q : S5) {z : S5} (hf : f_X4_putOff s q = some z) : xC l yX4_putOff cX4_putOff 2 none (rm_X4_putOff) G [.ref (ad 0), .ref (ae 0)] (cells4 G ad s ++ cells5 G ae q) none (cells4 G ad s ++ cells5 G ae z) :=
  x_met (by decide) rfl (Nat.le_of_ble_eq_true rfl) (fun p e sS m below meth c E hr hk ls hl hw => w_X4_putOff_p0 E hr hk s q z hw hl hf)
set_option maxHeartbeats 4000000 in
set_option maxRecDepth 100000 in
theorem w_X5_commonDivisor_p16 {p : Program} {l : Launch} {e : Env} {sS : State} {m : MethodId} {args : Array Value} {below : List Frame} {meth : Method} {c : Code} {G : xG} {W0 : va_W} {ad : Nat → Nat}  {k16 : S5 → Int64 → Int64 → Int32 → Option (Int64)} (E : xE p sS m args c cX5_commonDivisor 8 RX5 G (x_in W0)) (hr : meth.sig.returnType = (some .long)) (hk : meth.locks = false) (hk16 : ∀ (s' : S5) (x1' : Int64) (x3' : Int64) (x5' : Int32) (z : Int64) {H : Heap} {locs : List Loc} {ls : Array Slot}, xW G (x_in W0) sS.heap (cells5 G ad s') H locs → lv_has ls 8 [(1, .long x1'), (3, .long x3'), (5, .int x5')] → k16  s' x1' x3' x5' = some z → W p l e (rm_X5_commonDivisor) sS m args below meth c H locs 0 0 (MQ below (xQ G W0 (cells5 G ad s') (some (.long z))) args sS 0 0 (x_in W0)) (F0 m 16 ls [])) : ∀ (s' : S5) (x1' : Int64) (x3' : Int64) (x5' : Int32) (z : Int64) {H : Heap} {locs : List Loc} {ls : Array Slot}, xW G (x_in W0) sS.heap (cells5 G ad s') H locs → lv_has ls 8 [(1, .long x1'), (3, .long x3'), (5, .int x5')] → f_X5_commonDivisor_p16 k16 s' x1' x3' x5' = some z → W p l e (rm_X5_commonDivisor) sS m args below meth c H locs 0 0 (MQ below (xQ G W0 (cells5 G ad s') (some (.long z))) args sS 0 0 (x_in W0)) (F0 m 16 ls []) := by
  intro s x1 x3 x5 z H locs ls hw hl hf
  unfold f_X5_commonDivisor_p16 at hf
  refine lv_iload (pc := 16) E.1 E.2.1 dX5_commonDivisor_16 (lv_at hl 2 rfl) ?_
  refine lv_sipush (v := 200) (pc := 18) E.1 E.2.1 dX5_commonDivisor_18 (by decide) ?_
  refine lv_icmp_ge (tgt := 46) (pc := 21) E.1 E.2.1 dX5_commonDivisor_21 (by decide) (fun q1 => ?_) (fun q1 => ?_)
  · have hf := x_pos q1 hf
    refine lv_lload_n (pc := 46) E.1 E.2.1 dX5_commonDivisor_46 rfl (lv_at hl 0 rfl) ?_
    obtain rfl := Option.some.inj hf
    exact x_retl (pc := 47) E hr hk hw dX5_commonDivisor_47
  · have hf := x_neg q1 hf
    refine lv_lload_n (pc := 24) E.1 E.2.1 dX5_commonDivisor_24 rfl (lv_at hl 1 rfl) ?_
    refine lv_lconst (v := 0) (pc := 25) E.1 E.2.1 dX5_commonDivisor_25 (by decide) ?_
    refine W.lcmp (pc := 26) E.1 E.2.1 dX5_commonDivisor_26 ?_
    refine lv_if_le (tgt := 46) (pc := 27) E.1 E.2.1 dX5_commonDivisor_27 (by decide) (fun q2 => ?_) (fun q2 => ?_)
    · have hf := x_pos q2 hf
      refine lv_lload_n (pc := 46) E.1 E.2.1 dX5_commonDivisor_46 rfl (lv_at hl 0 rfl) ?_
      obtain rfl := Option.some.inj hf
      exact x_retl (pc := 47) E hr hk hw dX5_commonDivisor_47
    · have hf := x_neg q2 hf
      refine lv_lload_n (pc := 30) E.1 E.2.1 dX5_commonDivisor_30 rfl (lv_at hl 0 rfl) ?_
      refine lv_lload_n (pc := 31) E.1 E.2.1 dX5_commonDivisor_31 rfl (lv_at hl 1 rfl) ?_
      obtain ⟨u4, g3, hf⟩ := x_bind hf
      refine lv_lrem (pc := 32) E.1 E.2.1 dX5_commonDivisor_32 (x_nzl_some g3) ?_
      refine lv_lstore (lv' := [(6, .long (x1 - x1 / x3 * x3)), (1, .long x1), (3, .long x3), (5, .int x5)]) (pc := 33) E.1 E.2.1 dX5_commonDivisor_33 hl (by decide) rfl (fun ls hl => ?_)
      refine lv_lload_n (pc := 35) E.1 E.2.1 dX5_commonDivisor_35 rfl (lv_at hl 2 rfl) ?_
      refine lv_lstore_n (lv' := [(1, .long x3), (6, .long (x1 - x1 / x3 * x3)), (3, .long x3), (5, .int x5)]) (pc := 36) E.1 E.2.1 dX5_commonDivisor_36 rfl hl (by decide) rfl (fun ls hl => ?_)
      refine lv_lload (pc := 37) E.1 E.2.1 dX5_commonDivisor_37 (lv_at hl 1 rfl) ?_
      refine lv_lstore_n (lv' := [(3, .long (x1 - x1 / x3 * x3)), (1, .long x3), (6, .long (x1 - x1 / x3 * x3)), (5, .int x5)]) (pc := 39) E.1 E.2.1 dX5_commonDivisor_39 rfl hl (by decide) rfl (fun ls hl => ?_)
      refine lv_iinc (v := (x5 + 1)) (lv' := [(5, .int (x5 + 1)), (3, .long (x1 - x1 / x3 * x3)), (1, .long x3), (6, .long (x1 - x1 / x3 * x3))]) (pc := 40) E.1 E.2.1 dX5_commonDivisor_40 hl (k := 3) rfl rfl (by decide) rfl (fun ls hl => ?_)
      refine lv_goto (tgt := 16) (pc := 43) E.1 E.2.1 dX5_commonDivisor_43 (by decide) ?_
      exact hk16 s x3 (x1 - x1 / x3 * x3) (x5 + 1) z hw (lv_sub hl [2, 1, 0] rfl) hf
set_option maxHeartbeats 4000000 in
set_option maxRecDepth 100000 in
theorem wl_X5_commonDivisor_p16 {p : Program} {l : Launch} {e : Env} {sS : State} {m : MethodId} {args : Array Value} {below : List Frame} {meth : Method} {c : Code} {G : xG} {W0 : va_W} {ad : Nat → Nat}   (E : xE p sS m args c cX5_commonDivisor 8 RX5 G (x_in W0)) (hr : meth.sig.returnType = (some .long)) (hk : meth.locks = false)  : ∀ (s' : S5) (x1' : Int64) (x3' : Int64) (x5' : Int32) (z : Int64) {H : Heap} {locs : List Loc} {ls : Array Slot}, xW G (x_in W0) sS.heap (cells5 G ad s') H locs → lv_has ls 8 [(1, .long x1'), (3, .long x3'), (5, .int x5')] → lp_X5_commonDivisor_p16  s' x1' x3' x5' = some z → W p l e (rm_X5_commonDivisor) sS m args below meth c H locs 0 0 (MQ below (xQ G W0 (cells5 G ad s') (some (.long z))) args sS 0 0 (x_in W0)) (F0 m 16 ls []) := by
  intro s x1 x3 x5 z H locs ls hw hl hf
  exact x_loop_W (P := fun (q : S5 × Int64 × Int64 × Int32) (z : Int64) => ∀ {H : Heap} {locs : List Loc} {ls : Array Slot}, xW G (x_in W0) sS.heap (cells5 G ad q.1) H locs → lv_has ls 8 [(1, .long q.2.1), (3, .long q.2.2.1), (5, .int q.2.2.2)] → W p l e (rm_X5_commonDivisor) sS m args below meth c H locs 0 0 (MQ below (xQ G W0 (cells5 G ad q.1) (some (.long z))) args sS 0 0 (x_in W0)) (F0 m 16 ls [])) (fun k hkk q z hf H locs ls hw hl => w_X5_commonDivisor_p16 E hr hk  (fun s x1 x3 x5 z H locs ls hw hl hf => hkk (s, x1, x3, x5) z hf hw hl) q.1 q.2.1 q.2.2.1 q.2.2.2 z hw hl hf) FU (s, x1, x3, x5) z hf hw hl
set_option maxHeartbeats 4000000 in
set_option maxRecDepth 100000 in
theorem w_X5_commonDivisor_p0 {p : Program} {l : Launch} {e : Env} {sS : State} {m : MethodId} {args : Array Value} {below : List Frame} {meth : Method} {c : Code} {G : xG} {W0 : va_W} {ad : Nat → Nat}   (E : xE p sS m args c cX5_commonDivisor 8 RX5 G (x_in W0)) (hr : meth.sig.returnType = (some .long)) (hk : meth.locks = false)  : ∀ (s' : S5) (z : Int64) {H : Heap} {locs : List Loc} {ls : Array Slot}, xW G (x_in W0) sS.heap (cells5 G ad s') H locs → lv_has ls 8 [(0, .ref (ad 0))] → f_X5_commonDivisor  s' = some z → W p l e (rm_X5_commonDivisor) sS m args below meth c H locs 0 0 (MQ below (xQ G W0 (cells5 G ad s') (some (.long z))) args sS 0 0 (x_in W0)) (F0 m 0 ls []) := by
  intro s z H locs ls hw hl hf
  unfold f_X5_commonDivisor at hf
  refine lv_aload_n (pc := 0) E.1 E.2.1 dX5_commonDivisor_0 rfl (lv_at hl 0 rfl) ?_
  refine xg_X5_15 (pc := 1) (v := .long (g5_lower s)) E hw 0 rfl rfl dX5_commonDivisor_1 ?_
  refine lv_lstore_n (lv' := [(1, .long (g5_lower s)), (0, .ref (ad 0))]) (pc := 4) E.1 E.2.1 dX5_commonDivisor_4 rfl hl (by decide) rfl (fun ls hl => ?_)
  refine lv_aload_n (pc := 5) E.1 E.2.1 dX5_commonDivisor_5 rfl (lv_at hl 1 rfl) ?_
  refine xg_X5_9 (pc := 6) (v := .long (g5_upper s)) E hw 0 rfl rfl dX5_commonDivisor_6 ?_
  refine va_mabs_long (pc := 9) E.1 E.2.1 (E.2.2.1.trans hl.1.symm) E.2.2.2.1 (E.2.2.2.2.1 _ wq_949) (E.2.2.2.2.1 _ wq_950) (E.2.2.2.2.1 _ wq_108) (E.2.2.2.2.1 _ wq_951) (Nat.le_of_ble_eq_true rfl) (Nat.le_of_ble_eq_true rfl) (Nat.zero_le _) (Nat.zero_le _) dX5_commonDivisor_9 ?_
  refine lv_lstore_n (lv' := [(3, .long (if 0 < (g5_upper s) then (g5_upper s) else -(g5_upper s))), (1, .long (g5_lower s)), (0, .ref (ad 0))]) (pc := 12) E.1 E.2.1 dX5_commonDivisor_12 rfl hl (by decide) rfl (fun ls hl => ?_)
  refine lv_iconst (v := 0) (pc := 13) E.1 E.2.1 dX5_commonDivisor_13 (by decide) ?_
  refine lv_istore (lv' := [(5, .int 0), (3, .long (if 0 < (g5_upper s) then (g5_upper s) else -(g5_upper s))), (1, .long (g5_lower s)), (0, .ref (ad 0))]) (pc := 14) E.1 E.2.1 dX5_commonDivisor_14 hl (by decide) rfl (fun ls hl => ?_)
  exact wl_X5_commonDivisor_p16 E hr hk  s (g5_lower s) (if 0 < (g5_upper s) then (g5_upper s) else -(g5_upper s)) 0 z hw (lv_sub hl [2, 1, 0] rfl) hf
set_option maxHeartbeats 4000000 in
set_option maxRecDepth 100000 in
theorem c_X5_commonDivisor (l : Launch) (G : xG) (ad : Nat → Nat) (s : S5) {z : Int64} (hf : f_X5_commonDivisor s = some z) : xC l yX5_commonDivisor cX5_commonDivisor 8 (some .long) (rm_X5_commonDivisor) G [.ref (ad 0)] (cells5 G ad s) (some (.long z)) (cells5 G ad s) :=
  x_met (by decide) rfl (Nat.le_of_ble_eq_true rfl) (fun p e sS m below meth c E hr hk ls hl hw => w_X5_commonDivisor_p0 E hr hk s z hw hl hf)
set_option maxHeartbeats 4000000 in
set_option maxRecDepth 100000 in
theorem w_X5_part_p31 {p : Program} {l : Launch} {e : Env} {sS : State} {m : MethodId} {args : Array Value} {below : List Frame} {meth : Method} {c : Code} {G : xG} {W0 : va_W} {ad : Nat → Nat}   (E : xE p sS m args c cX5_part 6 RX5 G (x_in W0)) (hr : meth.sig.returnType = (some .long)) (hk : meth.locks = false)  : ∀ (s' : S5) (x2' : Int64) (y0' : Int64) (z : Int64) {H : Heap} {locs : List Loc} {ls : Array Slot}, xW G (x_in W0) sS.heap (cells5 G ad s') H locs → lv_has ls 6 [(2, .long x2')] → f_X5_part_p31  s' x2' y0' = some z → W p l e (rm_X5_part) sS m args below meth c H locs 0 0 (MQ below (xQ G W0 (cells5 G ad s') (some (.long z))) args sS 0 0 (x_in W0)) (F0 m 31 ls [.long y0']) := by
  intro s x2 y0 z H locs ls hw hl hf
  unfold f_X5_part_p31 at hf
  refine lv_lstore (lv' := [(4, .long y0), (2, .long x2)]) (pc := 31) E.1 E.2.1 dX5_part_31 hl (by decide) rfl (fun ls hl => ?_)
  refine lv_lload_n (pc := 33) E.1 E.2.1 dX5_part_33 rfl (lv_at hl 1 rfl) ?_
  refine lv_lconst (v := 0) (pc := 34) E.1 E.2.1 dX5_part_34 (by decide) ?_
  refine W.lcmp (pc := 35) E.1 E.2.1 dX5_part_35 ?_
  refine lv_if_le (tgt := 46) (pc := 36) E.1 E.2.1 dX5_part_36 (by decide) (fun q1 => ?_) (fun q1 => ?_)
  · have hf := x_pos q1 hf
    refine lv_lload (pc := 46) E.1 E.2.1 dX5_part_46 (lv_at hl 0 rfl) ?_
    obtain rfl := Option.some.inj hf
    exact x_retl (pc := 48) E hr hk hw dX5_part_48
  · have hf := x_neg q1 hf
    refine lv_lload (pc := 39) E.1 E.2.1 dX5_part_39 (lv_at hl 0 rfl) ?_
    refine lv_lload_n (pc := 41) E.1 E.2.1 dX5_part_41 rfl (lv_at hl 1 rfl) ?_
    obtain ⟨u3, g2, hf⟩ := x_bind hf
    refine lv_ldiv (pc := 42) E.1 E.2.1 dX5_part_42 (x_nzl_some g2) ?_
    refine lv_goto (tgt := 48) (pc := 43) E.1 E.2.1 dX5_part_43 (by decide) ?_
    obtain rfl := Option.some.inj hf
    exact x_retl (pc := 48) E hr hk hw dX5_part_48
set_option maxHeartbeats 4000000 in
set_option maxRecDepth 100000 in
theorem w_X5_part_p0 {p : Program} {l : Launch} {e : Env} {sS : State} {m : MethodId} {args : Array Value} {below : List Frame} {meth : Method} {c : Code} {G : xG} {W0 : va_W} {ad : Nat → Nat}   (E : xE p sS m args c cX5_part 6 RX5 G (x_in W0)) (hr : meth.sig.returnType = (some .long)) (hk : meth.locks = false)  : ∀ (s' : S5) (x1' : Int32) (z : Int64) {H : Heap} {locs : List Loc} {ls : Array Slot}, xW G (x_in W0) sS.heap (cells5 G ad s') H locs → lv_has ls 6 [(0, .ref (ad 0)), (1, .int x1')] → f_X5_part  s' x1' = some z → W p l e (rm_X5_part) sS m args below meth c H locs 0 0 (MQ below (xQ G W0 (cells5 G ad s') (some (.long z))) args sS 0 0 (x_in W0)) (F0 m 0 ls []) := by
  intro s x1 z H locs ls hw hl hf
  unfold f_X5_part at hf
  refine lv_aload_n (pc := 0) E.1 E.2.1 dX5_part_0 rfl (lv_at hl 0 rfl) ?_
  obtain ⟨v1, g2, hf⟩ := x_bind hf
  refine x_callVA (pc := 1) (As := []) (rest := []) (st1 := [.int v1]) (ws' := (cells5 G ad s)) E hw hl (c_X5_isNone l G ad s g2) xv_X5_18 xd_X5_isNone rfl rfl ⟨Nat.le_of_ble_eq_true rfl, Nat.le_of_ble_eq_true rfl⟩ (q0 := 0) rfl rfl rfl rfl (Nat.le_of_ble_eq_true rfl) rfl dX5_part_1 (fun H locs hw => ?_)
  refine lv_if_eq (tgt := 11) (pc := 4) E.1 E.2.1 dX5_part_4 (by decide) (fun q3 => ?_) (fun q3 => ?_)
  · have hf := x_pos q3 hf
    refine lv_aload_n (pc := 11) E.1 E.2.1 dX5_part_11 rfl (lv_at hl 0 rfl) ?_
    obtain ⟨v4, g5, hf⟩ := x_bind hf
    refine x_callVA (pc := 12) (As := []) (rest := []) (st1 := [.long v4]) (ws' := (cells5 G ad s)) E hw hl (c_X5_commonDivisor l G ad s g5) xv_X5_24 xd_X5_commonDivisor rfl rfl ⟨Nat.le_of_ble_eq_true rfl, Nat.le_of_ble_eq_true rfl⟩ (q0 := 0) rfl rfl rfl rfl (Nat.le_of_ble_eq_true rfl) rfl dX5_part_12 (fun H locs hw => ?_)
    refine lv_lstore_n (lv' := [(2, .long v4), (0, .ref (ad 0)), (1, .int x1)]) (pc := 15) E.1 E.2.1 dX5_part_15 rfl hl (by decide) rfl (fun ls hl => ?_)
    refine lv_iload_n (pc := 16) E.1 E.2.1 dX5_part_16 rfl (lv_at hl 2 rfl) ?_
    refine lv_if_eq (tgt := 27) (pc := 17) E.1 E.2.1 dX5_part_17 (by decide) (fun q6 => ?_) (fun q6 => ?_)
    · have hf := x_pos q6 hf
      refine lv_aload_n (pc := 27) E.1 E.2.1 dX5_part_27 rfl (lv_at hl 1 rfl) ?_
      refine xg_X5_9 (pc := 28) (v := .long (g5_upper s)) E hw 0 rfl rfl dX5_part_28 ?_
      exact w_X5_part_p31 E hr hk  s v4 (g5_upper s) z hw (lv_sub hl [0] rfl) hf
    · have hf := x_neg q6 hf
      refine lv_aload_n (pc := 20) E.1 E.2.1 dX5_part_20 rfl (lv_at hl 1 rfl) ?_
      refine xg_X5_15 (pc := 21) (v := .long (g5_lower s)) E hw 0 rfl rfl dX5_part_21 ?_
      refine lv_goto (tgt := 31) (pc := 24) E.1 E.2.1 dX5_part_24 (by decide) ?_
      exact w_X5_part_p31 E hr hk  s v4 (g5_lower s) z hw (lv_sub hl [0] rfl) hf
  · have hf := x_neg q3 hf
    refine lv_ldc2 (v := (-1000000000)) (pc := 7) E.1 E.2.1 E.2.2.2.1 (E.2.2.2.2.1 _ wq_944) dX5_part_7 ?_
    obtain rfl := Option.some.inj hf
    exact x_retl (pc := 10) E hr hk hw dX5_part_10
set_option maxHeartbeats 4000000 in
set_option maxRecDepth 100000 in
theorem c_X5_part (l : Launch) (G : xG) (ad : Nat → Nat) (s : S5) (x1 : Int32) {z : Int64} (hf : f_X5_part s x1 = some z) : xC l yX5_part cX5_part 6 (some .long) (rm_X5_part) G [.ref (ad 0), .int x1] (cells5 G ad s) (some (.long z)) (cells5 G ad s) :=
  x_met (by decide) rfl (Nat.le_of_ble_eq_true rfl) (fun p e sS m below meth c E hr hk ls hl hw => w_X5_part_p0 E hr hk s x1 z hw hl hf)
set_option maxHeartbeats 4000000 in
set_option maxRecDepth 100000 in
theorem w_X5_inThousandths_p0 {p : Program} {l : Launch} {e : Env} {sS : State} {m : MethodId} {args : Array Value} {below : List Frame} {meth : Method} {c : Code} {G : xG} {W0 : va_W} {ad : Nat → Nat}   (E : xE p sS m args c cX5_inThousandths 1 RX5 G (x_in W0)) (hr : meth.sig.returnType = (some .int)) (hk : meth.locks = false)  : ∀ (s' : S5) (z : Int32) {H : Heap} {locs : List Loc} {ls : Array Slot}, xW G (x_in W0) sS.heap (cells5 G ad s') H locs → lv_has ls 1 [(0, .ref (ad 0))] → f_X5_inThousandths  s' = some z → W p l e (rm_X5_inThousandths) sS m args below meth c H locs 0 0 (MQ below (xQ G W0 (cells5 G ad s') (some (.int z))) args sS 0 0 (x_in W0)) (F0 m 0 ls []) := by
  intro s z H locs ls hw hl hf
  unfold f_X5_inThousandths at hf
  refine lv_aload_n (pc := 0) E.1 E.2.1 dX5_inThousandths_0 rfl (lv_at hl 0 rfl) ?_
  obtain ⟨v1, g2, hf⟩ := x_bind hf
  refine x_callVA (pc := 1) (As := []) (rest := []) (st1 := [.int v1]) (ws' := (cells5 G ad s)) E hw hl (c_X5_isNone l G ad s g2) xv_X5_18 xd_X5_isNone rfl rfl ⟨Nat.le_of_ble_eq_true rfl, Nat.le_of_ble_eq_true rfl⟩ (q0 := 0) rfl rfl rfl rfl (Nat.le_of_ble_eq_true rfl) rfl dX5_inThousandths_1 (fun H locs hw => ?_)
  refine lv_if_eq (tgt := 10) (pc := 4) E.1 E.2.1 dX5_inThousandths_4 (by decide) (fun q3 => ?_) (fun q3 => ?_)
  · have hf := x_pos q3 hf
    refine lv_aload_n (pc := 10) E.1 E.2.1 dX5_inThousandths_10 rfl (lv_at hl 0 rfl) ?_
    refine xg_X5_9 (pc := 11) (v := .long (g5_upper s)) E hw 0 rfl rfl dX5_inThousandths_11 ?_
    refine lv_aload_n (pc := 14) E.1 E.2.1 dX5_inThousandths_14 rfl (lv_at hl 0 rfl) ?_
    refine xg_X5_15 (pc := 15) (v := .long (g5_lower s)) E hw 0 rfl rfl dX5_inThousandths_15 ?_
    obtain ⟨u5, g4, hf⟩ := x_bind hf
    refine lv_ldiv (pc := 18) E.1 E.2.1 dX5_inThousandths_18 (x_nzl_some g4) ?_
    refine lv_ldc2 (v := 1000) (pc := 19) E.1 E.2.1 E.2.2.2.1 (E.2.2.2.2.1 _ wq_988) dX5_inThousandths_19 ?_
    refine lv_lmul (pc := 22) E.1 E.2.1 dX5_inThousandths_22 ?_
    refine lv_aload_n (pc := 23) E.1 E.2.1 dX5_inThousandths_23 rfl (lv_at hl 0 rfl) ?_
    refine xg_X5_9 (pc := 24) (v := .long (g5_upper s)) E hw 0 rfl rfl dX5_inThousandths_24 ?_
    refine lv_aload_n (pc := 27) E.1 E.2.1 dX5_inThousandths_27 rfl (lv_at hl 0 rfl) ?_
    refine xg_X5_15 (pc := 28) (v := .long (g5_lower s)) E hw 0 rfl rfl dX5_inThousandths_28 ?_
    obtain ⟨u7, g6, hf⟩ := x_bind hf
    refine lv_lrem (pc := 31) E.1 E.2.1 dX5_inThousandths_31 (x_nzl_some g6) ?_
    refine lv_ldc2 (v := 1000) (pc := 32) E.1 E.2.1 E.2.2.2.1 (E.2.2.2.2.1 _ wq_988) dX5_inThousandths_32 ?_
    refine lv_lmul (pc := 35) E.1 E.2.1 dX5_inThousandths_35 ?_
    refine lv_aload_n (pc := 36) E.1 E.2.1 dX5_inThousandths_36 rfl (lv_at hl 0 rfl) ?_
    refine xg_X5_15 (pc := 37) (v := .long (g5_lower s)) E hw 0 rfl rfl dX5_inThousandths_37 ?_
    obtain ⟨u9, g8, hf⟩ := x_bind hf
    refine lv_ldiv (pc := 40) E.1 E.2.1 dX5_inThousandths_40 (x_nzl_some g8) ?_
    refine lv_ladd (pc := 41) E.1 E.2.1 dX5_inThousandths_41 ?_
    refine lv_l2i (v := (Int64.toInt32 ((((g5_upper s) / (g5_lower s)) * (1000 : Int64)) + ((((g5_upper s) - (g5_upper s) / (g5_lower s) * (g5_lower s)) * (1000 : Int64)) / (g5_lower s))))) (pc := 42) E.1 E.2.1 dX5_inThousandths_42 rfl ?_
    obtain rfl := Option.some.inj hf
    exact x_reti (pc := 43) E hr hk hw dX5_inThousandths_43
  · have hf := x_neg q3 hf
    refine lv_bipush (v := (-2)) (pc := 7) E.1 E.2.1 dX5_inThousandths_7 (by decide) ?_
    obtain rfl := Option.some.inj hf
    exact x_reti (pc := 9) E hr hk hw dX5_inThousandths_9
set_option maxHeartbeats 4000000 in
set_option maxRecDepth 100000 in
theorem c_X5_inThousandths (l : Launch) (G : xG) (ad : Nat → Nat) (s : S5) {z : Int32} (hf : f_X5_inThousandths s = some z) : xC l yX5_inThousandths cX5_inThousandths 1 (some .int) (rm_X5_inThousandths) G [.ref (ad 0)] (cells5 G ad s) (some (.int z)) (cells5 G ad s) :=
  x_met (by decide) rfl (Nat.le_of_ble_eq_true rfl) (fun p e sS m below meth c E hr hk ls hl hw => w_X5_inThousandths_p0 E hr hk s z hw hl hf)
set_option maxHeartbeats 4000000 in
set_option maxRecDepth 100000 in
theorem w_X5_compareWith_p160 {p : Program} {l : Launch} {e : Env} {sS : State} {m : MethodId} {args : Array Value} {below : List Frame} {meth : Method} {c : Code} {G : xG} {W0 : va_W} {ad : Nat → Nat} {ae : Nat → Nat}   (E : xE p sS m args c cX5_compareWith 20 RX5 G (x_in W0)) (hr : meth.sig.returnType = (some .int)) (hk : meth.locks = false)  : ∀ (s' : S5) (q' : S5) (x4' : Int64) (x10' : Int32) (z : Int32) {H : Heap} {locs : List Loc} {ls : Array Slot}, xW G (x_in W0) sS.heap (cells5 G ad s' ++ cells5 G ae q') H locs → lv_has ls 20 [(4, .long x4'), (10, .int x10')] → f_X5_compareWith_p160  s' q' x4' x10' = some z → W p l e (rm_X5_compareWith) sS m args below meth c H locs 0 0 (MQ below (xQ G W0 (cells5 G ad s' ++ cells5 G ae q') (some (.int z))) args sS 0 0 (x_in W0)) (F0 m 160 ls []) := by
  intro s q x4 x10 z H locs ls hw hl hf
  unfold f_X5_compareWith_p160 at hf
  refine lv_lload (pc := 160) E.1 E.2.1 dX5_compareWith_160 (lv_at hl 0 rfl) ?_
  refine lv_lconst (v := 0) (pc := 162) E.1 E.2.1 dX5_compareWith_162 (by decide) ?_
  refine W.lcmp (pc := 163) E.1 E.2.1 dX5_compareWith_163 ?_
  refine lv_if_ne (tgt := 172) (pc := 164) E.1 E.2.1 dX5_compareWith_164 (by decide) (fun q1 => ?_) (fun q1 => ?_)
  · have hf := x_neg q1 hf
    refine lv_iload (pc := 172) E.1 E.2.1 dX5_compareWith_172 (lv_at hl 1 rfl) ?_
    refine lv_ineg (pc := 174) E.1 E.2.1 dX5_compareWith_174 ?_
    obtain rfl := Option.some.inj hf
    exact x_reti (pc := 175) E hr hk hw dX5_compareWith_175
  · have hf := x_pos q1 hf
    refine lv_iload (pc := 167) E.1 E.2.1 dX5_compareWith_167 (lv_at hl 1 rfl) ?_
    refine lv_goto (tgt := 175) (pc := 169) E.1 E.2.1 dX5_compareWith_169 (by decide) ?_
    obtain rfl := Option.some.inj hf
    exact x_reti (pc := 175) E hr hk hw dX5_compareWith_175
set_option maxHeartbeats 4000000 in
set_option maxRecDepth 100000 in
theorem w_X5_compareWith_p144 {p : Program} {l : Launch} {e : Env} {sS : State} {m : MethodId} {args : Array Value} {below : List Frame} {meth : Method} {c : Code} {G : xG} {W0 : va_W} {ad : Nat → Nat} {ae : Nat → Nat}   (E : xE p sS m args c cX5_compareWith 20 RX5 G (x_in W0)) (hr : meth.sig.returnType = (some .int)) (hk : meth.locks = false)  : ∀ (s' : S5) (q' : S5) (x4' : Int64) (x8' : Int64) (x10' : Int32) (z : Int32) {H : Heap} {locs : List Loc} {ls : Array Slot}, xW G (x_in W0) sS.heap (cells5 G ad s' ++ cells5 G ae q') H locs → lv_has ls 20 [(4, .long x4'), (8, .long x8'), (10, .int x10')] → f_X5_compareWith_p144  s' q' x4' x8' x10' = some z → W p l e (rm_X5_compareWith) sS m args below meth c H locs 0 0 (MQ below (xQ G W0 (cells5 G ad s' ++ cells5 G ae q') (some (.int z))) args sS 0 0 (x_in W0)) (F0 m 144 ls []) := by
  intro s q x4 x8 x10 z H locs ls hw hl hf
  unfold f_X5_compareWith_p144 at hf
  refine lv_lload (pc := 144) E.1 E.2.1 dX5_compareWith_144 (lv_at hl 0 rfl) ?_
  refine lv_lconst (v := 0) (pc := 146) E.1 E.2.1 dX5_compareWith_146 (by decide) ?_
  refine W.lcmp (pc := 147) E.1 E.2.1 dX5_compareWith_147 ?_
  refine lv_if_ne (tgt := 160) (pc := 148) E.1 E.2.1 dX5_compareWith_148 (by decide) (fun q1 => ?_) (fun q1 => ?_)
  · have hf := x_neg q1 hf
    exact w_X5_compareWith_p160 E hr hk  s q x4 x10 z hw (lv_sub hl [0, 2] rfl) hf
  · have hf := x_pos q1 hf
    refine lv_lload (pc := 151) E.1 E.2.1 dX5_compareWith_151 (lv_at hl 1 rfl) ?_
    refine lv_lconst (v := 0) (pc := 153) E.1 E.2.1 dX5_compareWith_153 (by decide) ?_
    refine W.lcmp (pc := 154) E.1 E.2.1 dX5_compareWith_154 ?_
    refine lv_if_ne (tgt := 160) (pc := 155) E.1 E.2.1 dX5_compareWith_155 (by decide) (fun q2 => ?_) (fun q2 => ?_)
    · have hf := x_neg q2 hf
      exact w_X5_compareWith_p160 E hr hk  s q x4 x10 z hw (lv_sub hl [0, 2] rfl) hf
    · have hf := x_pos q2 hf
      refine lv_iconst (v := 0) (pc := 158) E.1 E.2.1 dX5_compareWith_158 (by decide) ?_
      obtain rfl := Option.some.inj hf
      exact x_reti (pc := 159) E hr hk hw dX5_compareWith_159
set_option maxHeartbeats 4000000 in
set_option maxRecDepth 100000 in
theorem w_X5_compareWith_p45 {p : Program} {l : Launch} {e : Env} {sS : State} {m : MethodId} {args : Array Value} {below : List Frame} {meth : Method} {c : Code} {G : xG} {W0 : va_W} {ad : Nat → Nat} {ae : Nat → Nat}  {k45 : S5 → S5 → Int64 → Int64 → Int64 → Int64 → Int32 → Int32 → Option (Int32)} (E : xE p sS m args c cX5_compareWith 20 RX5 G (x_in W0)) (hr : meth.sig.returnType = (some .int)) (hk : meth.locks = false) (hk45 : ∀ (s' : S5) (q' : S5) (x2' : Int64) (x4' : Int64) (x6' : Int64) (x8' : Int64) (x10' : Int32) (x11' : Int32) (z : Int32) {H : Heap} {locs : List Loc} {ls : Array Slot}, xW G (x_in W0) sS.heap (cells5 G ad s' ++ cells5 G ae q') H locs → lv_has ls 20 [(2, .long x2'), (4, .long x4'), (6, .long x6'), (8, .long x8'), (10, .int x10'), (11, .int x11')] → k45  s' q' x2' x4' x6' x8' x10' x11' = some z → W p l e (rm_X5_compareWith) sS m args below meth c H locs 0 0 (MQ below (xQ G W0 (cells5 G ad s' ++ cells5 G ae q') (some (.int z))) args sS 0 0 (x_in W0)) (F0 m 45 ls [])) : ∀ (s' : S5) (q' : S5) (x2' : Int64) (x4' : Int64) (x6' : Int64) (x8' : Int64) (x10' : Int32) (x11' : Int32) (z : Int32) {H : Heap} {locs : List Loc} {ls : Array Slot}, xW G (x_in W0) sS.heap (cells5 G ad s' ++ cells5 G ae q') H locs → lv_has ls 20 [(2, .long x2'), (4, .long x4'), (6, .long x6'), (8, .long x8'), (10, .int x10'), (11, .int x11')] → f_X5_compareWith_p45 k45 s' q' x2' x4' x6' x8' x10' x11' = some z → W p l e (rm_X5_compareWith) sS m args below meth c H locs 0 0 (MQ below (xQ G W0 (cells5 G ad s' ++ cells5 G ae q') (some (.int z))) args sS 0 0 (x_in W0)) (F0 m 45 ls []) := by
  intro s q x2 x4 x6 x8 x10 x11 z H locs ls hw hl hf
  unfold f_X5_compareWith_p45 at hf
  refine lv_iload (pc := 45) E.1 E.2.1 dX5_compareWith_45 (lv_at hl 5 rfl) ?_
  refine lv_sipush (v := 200) (pc := 47) E.1 E.2.1 dX5_compareWith_47 (by decide) ?_
  refine lv_icmp_ge (tgt := 144) (pc := 50) E.1 E.2.1 dX5_compareWith_50 (by decide) (fun q1 => ?_) (fun q1 => ?_)
  · have hf := x_pos q1 hf
    exact w_X5_compareWith_p144 E hr hk  s q x4 x8 x10 z hw (lv_sub hl [1, 3, 4] rfl) hf
  · have hf := x_neg q1 hf
    refine lv_lload (pc := 53) E.1 E.2.1 dX5_compareWith_53 (lv_at hl 1 rfl) ?_
    refine lv_lconst (v := 0) (pc := 55) E.1 E.2.1 dX5_compareWith_55 (by decide) ?_
    refine W.lcmp (pc := 56) E.1 E.2.1 dX5_compareWith_56 ?_
    refine lv_if_le (tgt := 144) (pc := 57) E.1 E.2.1 dX5_compareWith_57 (by decide) (fun q2 => ?_) (fun q2 => ?_)
    · have hf := x_pos q2 hf
      exact w_X5_compareWith_p144 E hr hk  s q x4 x8 x10 z hw (lv_sub hl [1, 3, 4] rfl) hf
    · have hf := x_neg q2 hf
      refine lv_lload (pc := 60) E.1 E.2.1 dX5_compareWith_60 (lv_at hl 3 rfl) ?_
      refine lv_lconst (v := 0) (pc := 62) E.1 E.2.1 dX5_compareWith_62 (by decide) ?_
      refine W.lcmp (pc := 63) E.1 E.2.1 dX5_compareWith_63 ?_
      refine lv_if_le (tgt := 144) (pc := 64) E.1 E.2.1 dX5_compareWith_64 (by decide) (fun q3 => ?_) (fun q3 => ?_)
      · have hf := x_pos q3 hf
        exact w_X5_compareWith_p144 E hr hk  s q x4 x8 x10 z hw (lv_sub hl [1, 3, 4] rfl) hf
      · have hf := x_neg q3 hf
        refine lv_lload_n (pc := 67) E.1 E.2.1 dX5_compareWith_67 rfl (lv_at hl 0 rfl) ?_
        refine lv_lload (pc := 68) E.1 E.2.1 dX5_compareWith_68 (lv_at hl 1 rfl) ?_
        obtain ⟨u5, g4, hf⟩ := x_bind hf
        refine lv_ldiv (pc := 70) E.1 E.2.1 dX5_compareWith_70 (x_nzl_some g4) ?_
        refine lv_lstore (lv' := [(12, .long (x2 / x4)), (2, .long x2), (4, .long x4), (6, .long x6), (8, .long x8), (10, .int x10), (11, .int x11)]) (pc := 71) E.1 E.2.1 dX5_compareWith_71 hl (by decide) rfl (fun ls hl => ?_)
        refine lv_lload (pc := 73) E.1 E.2.1 dX5_compareWith_73 (lv_at hl 3 rfl) ?_
        refine lv_lload (pc := 75) E.1 E.2.1 dX5_compareWith_75 (lv_at hl 4 rfl) ?_
        obtain ⟨u7, g6, hf⟩ := x_bind hf
        refine lv_ldiv (pc := 77) E.1 E.2.1 dX5_compareWith_77 (x_nzl_some g6) ?_
        refine lv_lstore (lv' := [(14, .long (x6 / x8)), (12, .long (x2 / x4)), (2, .long x2), (4, .long x4), (6, .long x6), (8, .long x8), (10, .int x10), (11, .int x11)]) (pc := 78) E.1 E.2.1 dX5_compareWith_78 hl (by decide) rfl (fun ls hl => ?_)
        refine lv_lload (pc := 80) E.1 E.2.1 dX5_compareWith_80 (lv_at hl 1 rfl) ?_
        refine lv_lload (pc := 82) E.1 E.2.1 dX5_compareWith_82 (lv_at hl 0 rfl) ?_
        refine W.lcmp (pc := 84) E.1 E.2.1 dX5_compareWith_84 ?_
        refine lv_if_eq (tgt := 105) (pc := 85) E.1 E.2.1 dX5_compareWith_85 (by decide) (fun q8 => ?_) (fun q8 => ?_)
        · have hf := x_pos q8 hf
          refine lv_lload_n (pc := 105) E.1 E.2.1 dX5_compareWith_105 rfl (lv_at hl 2 rfl) ?_
          refine lv_lload (pc := 106) E.1 E.2.1 dX5_compareWith_106 (lv_at hl 3 rfl) ?_
          obtain ⟨u10, g9, hf⟩ := x_bind hf
          refine lv_lrem (pc := 108) E.1 E.2.1 dX5_compareWith_108 (x_nzl_some g9) ?_
          refine lv_lstore (lv' := [(16, .long (x2 - x2 / x4 * x4)), (14, .long (x6 / x8)), (12, .long (x2 / x4)), (2, .long x2), (4, .long x4), (6, .long x6), (8, .long x8), (10, .int x10), (11, .int x11)]) (pc := 109) E.1 E.2.1 dX5_compareWith_109 hl (by decide) rfl (fun ls hl => ?_)
          refine lv_lload (pc := 111) E.1 E.2.1 dX5_compareWith_111 (lv_at hl 5 rfl) ?_
          refine lv_lload (pc := 113) E.1 E.2.1 dX5_compareWith_113 (lv_at hl 6 rfl) ?_
          obtain ⟨u12, g11, hf⟩ := x_bind hf
          refine lv_lrem (pc := 115) E.1 E.2.1 dX5_compareWith_115 (x_nzl_some g11) ?_
          refine lv_lstore (lv' := [(18, .long (x6 - x6 / x8 * x8)), (16, .long (x2 - x2 / x4 * x4)), (14, .long (x6 / x8)), (12, .long (x2 / x4)), (2, .long x2), (4, .long x4), (6, .long x6), (8, .long x8), (10, .int x10), (11, .int x11)]) (pc := 116) E.1 E.2.1 dX5_compareWith_116 hl (by decide) rfl (fun ls hl => ?_)
          refine lv_lload (pc := 118) E.1 E.2.1 dX5_compareWith_118 (lv_at hl 5 rfl) ?_
          refine lv_lstore_n (lv' := [(2, .long x4), (18, .long (x6 - x6 / x8 * x8)), (16, .long (x2 - x2 / x4 * x4)), (14, .long (x6 / x8)), (12, .long (x2 / x4)), (4, .long x4), (6, .long x6), (8, .long x8), (10, .int x10), (11, .int x11)]) (pc := 120) E.1 E.2.1 dX5_compareWith_120 rfl hl (by decide) rfl (fun ls hl => ?_)
          refine lv_lload (pc := 121) E.1 E.2.1 dX5_compareWith_121 (lv_at hl 2 rfl) ?_
          refine lv_lstore (lv' := [(4, .long (x2 - x2 / x4 * x4)), (2, .long x4), (18, .long (x6 - x6 / x8 * x8)), (16, .long (x2 - x2 / x4 * x4)), (14, .long (x6 / x8)), (12, .long (x2 / x4)), (6, .long x6), (8, .long x8), (10, .int x10), (11, .int x11)]) (pc := 123) E.1 E.2.1 dX5_compareWith_123 hl (by decide) rfl (fun ls hl => ?_)
          refine lv_lload (pc := 125) E.1 E.2.1 dX5_compareWith_125 (lv_at hl 7 rfl) ?_
          refine lv_lstore (lv' := [(6, .long x8), (4, .long (x2 - x2 / x4 * x4)), (2, .long x4), (18, .long (x6 - x6 / x8 * x8)), (16, .long (x2 - x2 / x4 * x4)), (14, .long (x6 / x8)), (12, .long (x2 / x4)), (8, .long x8), (10, .int x10), (11, .int x11)]) (pc := 127) E.1 E.2.1 dX5_compareWith_127 hl (by decide) rfl (fun ls hl => ?_)
          refine lv_lload (pc := 129) E.1 E.2.1 dX5_compareWith_129 (lv_at hl 3 rfl) ?_
          refine lv_lstore (lv' := [(8, .long (x6 - x6 / x8 * x8)), (6, .long x8), (4, .long (x2 - x2 / x4 * x4)), (2, .long x4), (18, .long (x6 - x6 / x8 * x8)), (16, .long (x2 - x2 / x4 * x4)), (14, .long (x6 / x8)), (12, .long (x2 / x4)), (10, .int x10), (11, .int x11)]) (pc := 131) E.1 E.2.1 dX5_compareWith_131 hl (by decide) rfl (fun ls hl => ?_)
          refine lv_iload (pc := 133) E.1 E.2.1 dX5_compareWith_133 (lv_at hl 8 rfl) ?_
          refine lv_ineg (pc := 135) E.1 E.2.1 dX5_compareWith_135 ?_
          refine lv_istore (lv' := [(10, .int (-x10)), (8, .long (x6 - x6 / x8 * x8)), (6, .long x8), (4, .long (x2 - x2 / x4 * x4)), (2, .long x4), (18, .long (x6 - x6 / x8 * x8)), (16, .long (x2 - x2 / x4 * x4)), (14, .long (x6 / x8)), (12, .long (x2 / x4)), (11, .int x11)]) (pc := 136) E.1 E.2.1 dX5_compareWith_136 hl (by decide) rfl (fun ls hl => ?_)
          refine lv_iinc (v := (x11 + 1)) (lv' := [(11, .int (x11 + 1)), (10, .int (-x10)), (8, .long (x6 - x6 / x8 * x8)), (6, .long x8), (4, .long (x2 - x2 / x4 * x4)), (2, .long x4), (18, .long (x6 - x6 / x8 * x8)), (16, .long (x2 - x2 / x4 * x4)), (14, .long (x6 / x8)), (12, .long (x2 / x4))]) (pc := 138) E.1 E.2.1 dX5_compareWith_138 hl (k := 9) rfl rfl (by decide) rfl (fun ls hl => ?_)
          refine lv_goto (tgt := 45) (pc := 141) E.1 E.2.1 dX5_compareWith_141 (by decide) ?_
          exact hk45 s q x4 (x2 - x2 / x4 * x4) x8 (x6 - x6 / x8 * x8) (-x10) (x11 + 1) z hw (lv_sub hl [5, 4, 3, 2, 1, 0] rfl) hf
        · have hf := x_neg q8 hf
          refine lv_lload (pc := 88) E.1 E.2.1 dX5_compareWith_88 (lv_at hl 1 rfl) ?_
          refine lv_lload (pc := 90) E.1 E.2.1 dX5_compareWith_90 (lv_at hl 0 rfl) ?_
          refine W.lcmp (pc := 92) E.1 E.2.1 dX5_compareWith_92 ?_
          refine lv_if_le (tgt := 101) (pc := 93) E.1 E.2.1 dX5_compareWith_93 (by decide) (fun q13 => ?_) (fun q13 => ?_)
          · have hf := x_pos q13 hf
            refine lv_iload (pc := 101) E.1 E.2.1 dX5_compareWith_101 (lv_at hl 6 rfl) ?_
            refine lv_ineg (pc := 103) E.1 E.2.1 dX5_compareWith_103 ?_
            obtain rfl := Option.some.inj hf
            exact x_reti (pc := 104) E hr hk hw dX5_compareWith_104
          · have hf := x_neg q13 hf
            refine lv_iload (pc := 96) E.1 E.2.1 dX5_compareWith_96 (lv_at hl 6 rfl) ?_
            refine lv_goto (tgt := 104) (pc := 98) E.1 E.2.1 dX5_compareWith_98 (by decide) ?_
            obtain rfl := Option.some.inj hf
            exact x_reti (pc := 104) E hr hk hw dX5_compareWith_104
set_option maxHeartbeats 4000000 in
set_option maxRecDepth 100000 in
theorem wl_X5_compareWith_p45 {p : Program} {l : Launch} {e : Env} {sS : State} {m : MethodId} {args : Array Value} {below : List Frame} {meth : Method} {c : Code} {G : xG} {W0 : va_W} {ad : Nat → Nat} {ae : Nat → Nat}   (E : xE p sS m args c cX5_compareWith 20 RX5 G (x_in W0)) (hr : meth.sig.returnType = (some .int)) (hk : meth.locks = false)  : ∀ (s' : S5) (q' : S5) (x2' : Int64) (x4' : Int64) (x6' : Int64) (x8' : Int64) (x10' : Int32) (x11' : Int32) (z : Int32) {H : Heap} {locs : List Loc} {ls : Array Slot}, xW G (x_in W0) sS.heap (cells5 G ad s' ++ cells5 G ae q') H locs → lv_has ls 20 [(2, .long x2'), (4, .long x4'), (6, .long x6'), (8, .long x8'), (10, .int x10'), (11, .int x11')] → lp_X5_compareWith_p45  s' q' x2' x4' x6' x8' x10' x11' = some z → W p l e (rm_X5_compareWith) sS m args below meth c H locs 0 0 (MQ below (xQ G W0 (cells5 G ad s' ++ cells5 G ae q') (some (.int z))) args sS 0 0 (x_in W0)) (F0 m 45 ls []) := by
  intro s q x2 x4 x6 x8 x10 x11 z H locs ls hw hl hf
  exact x_loop_W (P := fun (q : S5 × S5 × Int64 × Int64 × Int64 × Int64 × Int32 × Int32) (z : Int32) => ∀ {H : Heap} {locs : List Loc} {ls : Array Slot}, xW G (x_in W0) sS.heap (cells5 G ad q.1 ++ cells5 G ae q.2.1) H locs → lv_has ls 20 [(2, .long q.2.2.1), (4, .long q.2.2.2.1), (6, .long q.2.2.2.2.1), (8, .long q.2.2.2.2.2.1), (10, .int q.2.2.2.2.2.2.1), (11, .int q.2.2.2.2.2.2.2)] → W p l e (rm_X5_compareWith) sS m args below meth c H locs 0 0 (MQ below (xQ G W0 (cells5 G ad q.1 ++ cells5 G ae q.2.1) (some (.int z))) args sS 0 0 (x_in W0)) (F0 m 45 ls [])) (fun k hkk q z hf H locs ls hw hl => w_X5_compareWith_p45 E hr hk  (fun s q x2 x4 x6 x8 x10 x11 z H locs ls hw hl hf => hkk (s, q, x2, x4, x6, x8, x10, x11) z hf hw hl) q.1 q.2.1 q.2.2.1 q.2.2.2.1 q.2.2.2.2.1 q.2.2.2.2.2.1 q.2.2.2.2.2.2.1 q.2.2.2.2.2.2.2 z hw hl hf) FU (s, q, x2, x4, x6, x8, x10, x11) z hf hw hl
set_option maxHeartbeats 4000000 in
set_option maxRecDepth 100000 in
theorem w_X5_compareWith_p0 {p : Program} {l : Launch} {e : Env} {sS : State} {m : MethodId} {args : Array Value} {below : List Frame} {meth : Method} {c : Code} {G : xG} {W0 : va_W} {ad : Nat → Nat} {ae : Nat → Nat}   (E : xE p sS m args c cX5_compareWith 20 RX5 G (x_in W0)) (hr : meth.sig.returnType = (some .int)) (hk : meth.locks = false)  : ∀ (s' : S5) (q' : S5) (z : Int32) {H : Heap} {locs : List Loc} {ls : Array Slot}, xW G (x_in W0) sS.heap (cells5 G ad s' ++ cells5 G ae q') H locs → lv_has ls 20 [(0, .ref (ad 0)), (1, .ref (ae 0))] → f_X5_compareWith  s' q' = some z → W p l e (rm_X5_compareWith) sS m args below meth c H locs 0 0 (MQ below (xQ G W0 (cells5 G ad s' ++ cells5 G ae q') (some (.int z))) args sS 0 0 (x_in W0)) (F0 m 0 ls []) := by
  intro s q z H locs ls hw hl hf
  unfold f_X5_compareWith at hf
  refine lv_aload_n (pc := 0) E.1 E.2.1 dX5_compareWith_0 rfl (lv_at hl 0 rfl) ?_
  obtain ⟨v1, g2, hf⟩ := x_bind hf
  refine x_callV (pc := 1) (As := []) (rest := []) (st1 := [.int v1]) (ws' := (cells5 G ad s ++ cells5 G ae q)) E hw hl (c_X5_isNone l G ad s g2) xv_X5_18 xd_X5_isNone rfl rfl ⟨Nat.le_of_ble_eq_true rfl, Nat.le_of_ble_eq_true rfl⟩ [0] [1] (by decide) ⟨rfl, trivial⟩ (q0 := 0) rfl rfl rfl rfl (Nat.le_of_ble_eq_true rfl) (nw := 2) ⟨rfl, trivial⟩ ⟨⟨_, rfl, rfl⟩, trivial⟩ rfl rfl (by decide) (by decide) rfl dX5_compareWith_1 (fun H locs hw => ?_)
  refine lv_if_ne (tgt := 14) (pc := 4) E.1 E.2.1 dX5_compareWith_4 (by decide) (fun q3 => ?_) (fun q3 => ?_)
  · have hf := x_neg q3 hf
    refine lv_iconst (v := 0) (pc := 14) E.1 E.2.1 dX5_compareWith_14 (by decide) ?_
    obtain rfl := Option.some.inj hf
    exact x_reti (pc := 15) E hr hk hw dX5_compareWith_15
  · have hf := x_pos q3 hf
    refine lv_aload_n (pc := 7) E.1 E.2.1 dX5_compareWith_7 rfl (lv_at hl 1 rfl) ?_
    obtain ⟨v4, g5, hf⟩ := x_bind hf
    refine x_callV (pc := 8) (As := []) (rest := []) (st1 := [.int v4]) (ws' := (cells5 G ad s ++ cells5 G ae q)) E hw hl (c_X5_isNone l G ae q g5) xv_X5_18 xd_X5_isNone rfl rfl ⟨Nat.le_of_ble_eq_true rfl, Nat.le_of_ble_eq_true rfl⟩ [1] [0] (by decide) ⟨rfl, trivial⟩ (q0 := 1) rfl rfl rfl rfl (Nat.le_of_ble_eq_true rfl) (nw := 2) ⟨rfl, trivial⟩ ⟨⟨_, rfl, rfl⟩, trivial⟩ rfl rfl (by decide) (by decide) rfl dX5_compareWith_8 (fun H locs hw => ?_)
    refine lv_if_eq (tgt := 16) (pc := 11) E.1 E.2.1 dX5_compareWith_11 (by decide) (fun q6 => ?_) (fun q6 => ?_)
    · have hf := x_pos q6 hf
      refine lv_aload_n (pc := 16) E.1 E.2.1 dX5_compareWith_16 rfl (lv_at hl 0 rfl) ?_
      refine xg_X5_9 (pc := 17) (v := .long (g5_upper s)) E hw 0 rfl rfl dX5_compareWith_17 ?_
      refine lv_lstore_n (lv' := [(2, .long (g5_upper s)), (0, .ref (ad 0)), (1, .ref (ae 0))]) (pc := 20) E.1 E.2.1 dX5_compareWith_20 rfl hl (by decide) rfl (fun ls hl => ?_)
      refine lv_aload_n (pc := 21) E.1 E.2.1 dX5_compareWith_21 rfl (lv_at hl 1 rfl) ?_
      refine xg_X5_15 (pc := 22) (v := .long (g5_lower s)) E hw 0 rfl rfl dX5_compareWith_22 ?_
      refine lv_lstore (lv' := [(4, .long (g5_lower s)), (2, .long (g5_upper s)), (0, .ref (ad 0)), (1, .ref (ae 0))]) (pc := 25) E.1 E.2.1 dX5_compareWith_25 hl (by decide) rfl (fun ls hl => ?_)
      refine lv_aload_n (pc := 27) E.1 E.2.1 dX5_compareWith_27 rfl (lv_at hl 3 rfl) ?_
      refine xg_X5_9 (pc := 28) (v := .long (g5_upper q)) E hw 1 rfl rfl dX5_compareWith_28 ?_
      refine lv_lstore (lv' := [(6, .long (g5_upper q)), (4, .long (g5_lower s)), (2, .long (g5_upper s)), (0, .ref (ad 0)), (1, .ref (ae 0))]) (pc := 31) E.1 E.2.1 dX5_compareWith_31 hl (by decide) rfl (fun ls hl => ?_)
      refine lv_aload_n (pc := 33) E.1 E.2.1 dX5_compareWith_33 rfl (lv_at hl 4 rfl) ?_
      refine xg_X5_15 (pc := 34) (v := .long (g5_lower q)) E hw 1 rfl rfl dX5_compareWith_34 ?_
      refine lv_lstore (lv' := [(8, .long (g5_lower q)), (6, .long (g5_upper q)), (4, .long (g5_lower s)), (2, .long (g5_upper s)), (0, .ref (ad 0)), (1, .ref (ae 0))]) (pc := 37) E.1 E.2.1 dX5_compareWith_37 hl (by decide) rfl (fun ls hl => ?_)
      refine lv_iconst (v := 1) (pc := 39) E.1 E.2.1 dX5_compareWith_39 (by decide) ?_
      refine lv_istore (lv' := [(10, .int 1), (8, .long (g5_lower q)), (6, .long (g5_upper q)), (4, .long (g5_lower s)), (2, .long (g5_upper s)), (0, .ref (ad 0)), (1, .ref (ae 0))]) (pc := 40) E.1 E.2.1 dX5_compareWith_40 hl (by decide) rfl (fun ls hl => ?_)
      refine lv_iconst (v := 0) (pc := 42) E.1 E.2.1 dX5_compareWith_42 (by decide) ?_
      refine lv_istore (lv' := [(11, .int 0), (10, .int 1), (8, .long (g5_lower q)), (6, .long (g5_upper q)), (4, .long (g5_lower s)), (2, .long (g5_upper s)), (0, .ref (ad 0)), (1, .ref (ae 0))]) (pc := 43) E.1 E.2.1 dX5_compareWith_43 hl (by decide) rfl (fun ls hl => ?_)
      exact wl_X5_compareWith_p45 E hr hk  s q (g5_upper s) (g5_lower s) (g5_upper q) (g5_lower q) 1 0 z hw (lv_sub hl [5, 4, 3, 2, 1, 0] rfl) hf
    · have hf := x_neg q6 hf
      refine lv_iconst (v := 0) (pc := 14) E.1 E.2.1 dX5_compareWith_14 (by decide) ?_
      obtain rfl := Option.some.inj hf
      exact x_reti (pc := 15) E hr hk hw dX5_compareWith_15
set_option maxHeartbeats 4000000 in
set_option maxRecDepth 100000 in
theorem c_X5_compareWith (l : Launch) (G : xG) (ad : Nat → Nat) (ae : Nat → Nat) (s : S5) (q : S5) {z : Int32} (hf : f_X5_compareWith s q = some z) : xC l yX5_compareWith cX5_compareWith 20 (some .int) (rm_X5_compareWith) G [.ref (ad 0), .ref (ae 0)] (cells5 G ad s ++ cells5 G ae q) (some (.int z)) (cells5 G ad s ++ cells5 G ae q) :=
  x_met (by decide) rfl (Nat.le_of_ble_eq_true rfl) (fun p e sS m below meth c E hr hk ls hl hw => w_X5_compareWith_p0 E hr hk s q z hw hl hf)
set_option maxHeartbeats 4000000 in
set_option maxRecDepth 100000 in
theorem w_X3_begin_p0 {p : Program} {l : Launch} {e : Env} {sS : State} {m : MethodId} {args : Array Value} {below : List Frame} {meth : Method} {c : Code} {G : xG} {W0 : va_W} {ad : Nat → Nat}   (E : xE p sS m args c cX3_begin 2 RX3 G (x_in W0)) (hr : meth.sig.returnType = none) (hk : meth.locks = false)  : ∀ (s' : S3) (x1' : Int32) (z : S3) {H : Heap} {locs : List Loc} {ls : Array Slot}, xW G (x_in W0) sS.heap (cells3 G ad s') H locs → lv_has ls 2 [(0, .ref (ad 0)), (1, .int x1')] → f_X3_begin  s' x1' = some z → W p l e (rm_X3_begin) sS m args below meth c H locs 0 0 (MQ below (xQ G W0 (cells3 G ad z) none) args sS 0 0 (x_in W0)) (F0 m 0 ls []) := by
  intro s x1 z H locs ls hw hl hf
  unfold f_X3_begin at hf
  refine lv_aload_n (pc := 0) E.1 E.2.1 dX3_begin_0 rfl (lv_at hl 0 rfl) ?_
  refine lv_iload_n (pc := 1) E.1 E.2.1 dX3_begin_1 rfl (lv_at hl 1 rfl) ?_
  refine xp_X3_9 (pc := 2) (v := .int x1) (ws' := (cells3c G ad x1 (g3_written s) (g3_found s))) E hw 0 rfl rfl rfl (Nat.le_of_ble_eq_true rfl) rfl dX3_begin_2 (fun H locs hw => ?_)
  refine lv_aload_n (pc := 5) E.1 E.2.1 dX3_begin_5 rfl (lv_at hl 0 rfl) ?_
  refine lv_iconst (v := 0) (pc := 6) E.1 E.2.1 dX3_begin_6 (by decide) ?_
  refine xp_X3_15 (pc := 7) (v := .int 0) (ws' := (cells3c G ad x1 0 (g3_found s))) E hw 0 rfl rfl rfl (Nat.le_of_ble_eq_true rfl) rfl dX3_begin_7 (fun H locs hw => ?_)
  refine lv_aload_n (pc := 10) E.1 E.2.1 dX3_begin_10 rfl (lv_at hl 0 rfl) ?_
  refine lv_bipush (v := (-2)) (pc := 11) E.1 E.2.1 dX3_begin_11 (by decide) ?_
  refine xp_X3_18 (pc := 13) (v := .int (-2)) (ws' := (cells3c G ad x1 0 (-2))) E hw 0 rfl rfl rfl (Nat.le_of_ble_eq_true rfl) rfl dX3_begin_13 (fun H locs hw => ?_)
  obtain rfl := Option.some.inj hf
  exact x_retv (pc := 16) E hr hk hw dX3_begin_16
set_option maxHeartbeats 4000000 in
set_option maxRecDepth 100000 in
theorem c_X3_begin (l : Launch) (G : xG) (ad : Nat → Nat) (s : S3) (x1 : Int32) {z : S3} (hf : f_X3_begin s x1 = some z) : xC l yX3_begin cX3_begin 2 none (rm_X3_begin) G [.ref (ad 0), .int x1] (cells3 G ad s) none (cells3 G ad z) :=
  x_met (by decide) rfl (Nat.le_of_ble_eq_true rfl) (fun p e sS m below meth c E hr hk ls hl hw => w_X3_begin_p0 E hr hk s x1 z hw hl hf)
set_option maxHeartbeats 4000000 in
set_option maxRecDepth 100000 in
theorem w_X3_writeByte_p0 {p : Program} {l : Launch} {e : Env} {sS : State} {m : MethodId} {args : Array Value} {below : List Frame} {meth : Method} {c : Code} {G : xG} {W0 : va_W} {ad : Nat → Nat}   (E : xE p sS m args c cX3_writeByte 2 RX3 G (x_in W0)) (hr : meth.sig.returnType = none) (hk : meth.locks = false)  : ∀ (s' : S3) (x1' : Int32) (z : S3) {H : Heap} {locs : List Loc} {ls : Array Slot}, xW G (x_in W0) sS.heap (cells3 G ad s') H locs → lv_has ls 2 [(0, .ref (ad 0)), (1, .int x1')] → f_X3_writeByte  s' x1' = some z → W p l e (rm_X3_writeByte) sS m args below meth c H locs 0 0 (MQ below (xQ G W0 (cells3 G ad z) none) args sS 0 0 (x_in W0)) (F0 m 0 ls []) := by
  intro s x1 z H locs ls hw hl hf
  unfold f_X3_writeByte at hf
  refine lv_aload_n (pc := 0) E.1 E.2.1 dX3_writeByte_0 rfl (lv_at hl 0 rfl) ?_
  refine xg_X3_15 (pc := 1) (v := .int (g3_written s)) E hw 0 rfl rfl dX3_writeByte_1 ?_
  refine lv_aload_n (pc := 4) E.1 E.2.1 dX3_writeByte_4 rfl (lv_at hl 0 rfl) ?_
  refine xg_X3_9 (pc := 5) (v := .int (g3_wanted s)) E hw 0 rfl rfl dX3_writeByte_5 ?_
  refine lv_icmp_ne (tgt := 16) (pc := 8) E.1 E.2.1 dX3_writeByte_8 (by decide) (fun q1 => ?_) (fun q1 => ?_)
  · have hf := x_neg q1 hf
    refine lv_aload_n (pc := 16) E.1 E.2.1 dX3_writeByte_16 rfl (lv_at hl 0 rfl) ?_
    refine lv_dup (pc := 17) E.1 E.2.1 dX3_writeByte_17 rfl ?_
    refine xg_X3_15 (pc := 18) (v := .int (g3_written s)) E hw 0 rfl rfl dX3_writeByte_18 ?_
    refine lv_iconst (v := 1) (pc := 21) E.1 E.2.1 dX3_writeByte_21 (by decide) ?_
    refine lv_iadd (pc := 22) E.1 E.2.1 dX3_writeByte_22 ?_
    refine xp_X3_15 (pc := 23) (v := .int ((g3_written s) + (1 : Int32))) (ws' := (cells3c G ad (g3_wanted s) ((g3_written s) + (1 : Int32)) (g3_found s))) E hw 0 rfl rfl rfl (Nat.le_of_ble_eq_true rfl) rfl dX3_writeByte_23 (fun H locs hw => ?_)
    obtain rfl := Option.some.inj hf
    exact x_retv (pc := 26) E hr hk hw dX3_writeByte_26
  · have hf := x_pos q1 hf
    refine lv_aload_n (pc := 11) E.1 E.2.1 dX3_writeByte_11 rfl (lv_at hl 0 rfl) ?_
    refine lv_iload_n (pc := 12) E.1 E.2.1 dX3_writeByte_12 rfl (lv_at hl 1 rfl) ?_
    refine xp_X3_18 (pc := 13) (v := .int x1) (ws' := (cells3c G ad (g3_wanted s) (g3_written s) x1)) E hw 0 rfl rfl rfl (Nat.le_of_ble_eq_true rfl) rfl dX3_writeByte_13 (fun H locs hw => ?_)
    refine lv_aload_n (pc := 16) E.1 E.2.1 dX3_writeByte_16 rfl (lv_at hl 0 rfl) ?_
    refine lv_dup (pc := 17) E.1 E.2.1 dX3_writeByte_17 rfl ?_
    refine xg_X3_15 (pc := 18) (v := .int (g3_written s)) E hw 0 rfl rfl dX3_writeByte_18 ?_
    refine lv_iconst (v := 1) (pc := 21) E.1 E.2.1 dX3_writeByte_21 (by decide) ?_
    refine lv_iadd (pc := 22) E.1 E.2.1 dX3_writeByte_22 ?_
    refine xp_X3_15 (pc := 23) (v := .int ((g3_written s) + (1 : Int32))) (ws' := (cells3c G ad (g3_wanted s) ((g3_written s) + (1 : Int32)) x1)) E hw 0 rfl rfl rfl (Nat.le_of_ble_eq_true rfl) rfl dX3_writeByte_23 (fun H locs hw => ?_)
    obtain rfl := Option.some.inj hf
    exact x_retv (pc := 26) E hr hk hw dX3_writeByte_26
set_option maxHeartbeats 4000000 in
set_option maxRecDepth 100000 in
theorem c_X3_writeByte (l : Launch) (G : xG) (ad : Nat → Nat) (s : S3) (x1 : Int32) {z : S3} (hf : f_X3_writeByte s x1 = some z) : xC l yX3_writeByte cX3_writeByte 2 none (rm_X3_writeByte) G [.ref (ad 0), .int x1] (cells3 G ad s) none (cells3 G ad z) :=
  x_met (by decide) rfl (Nat.le_of_ble_eq_true rfl) (fun p e sS m below meth c E hr hk ls hl hw => w_X3_writeByte_p0 E hr hk s x1 z hw hl hf)
set_option maxHeartbeats 4000000 in
set_option maxRecDepth 100000 in
theorem w_X3_writeBehind_p42 {p : Program} {l : Launch} {e : Env} {sS : State} {m : MethodId} {args : Array Value} {below : List Frame} {meth : Method} {c : Code} {G : xG} {W0 : va_W} {ad : Nat → Nat}  {k11 : S3 → Int32 → Int32 → Int32 → Option (S3)} (E : xE p sS m args c cX3_writeBehind 5 RX3 G (x_in W0)) (hr : meth.sig.returnType = none) (hk : meth.locks = false) (hk11 : ∀ (s' : S3) (x1' : Int32) (x2' : Int32) (x3' : Int32) (z : S3) {H : Heap} {locs : List Loc} {ls : Array Slot}, xW G (x_in W0) sS.heap (cells3 G ad s') H locs → lv_has ls 5 [(0, .ref (ad 0)), (1, .int x1'), (2, .int x2'), (3, .int x3')] → k11  s' x1' x2' x3' = some z → W p l e (rm_X3_writeBehind) sS m args below meth c H locs 0 0 (MQ below (xQ G W0 (cells3 G ad z) none) args sS 0 0 (x_in W0)) (F0 m 11 ls [])) : ∀ (s' : S3) (x1' : Int32) (x3' : Int32) (x4' : Int32) (y0' : Int32) (z : S3) {H : Heap} {locs : List Loc} {ls : Array Slot}, xW G (x_in W0) sS.heap (cells3 G ad s') H locs → lv_has ls 5 [(0, .ref (ad 0)), (1, .int x1'), (3, .int x3'), (4, .int x4')] → f_X3_writeBehind_p42 k11 s' x1' x3' x4' y0' = some z → W p l e (rm_X3_writeBehind) sS m args below meth c H locs 0 0 (MQ below (xQ G W0 (cells3 G ad z) none) args sS 0 0 (x_in W0)) (F0 m 42 ls [.int y0']) := by
  intro s x1 x3 x4 y0 z H locs ls hw hl hf
  unfold f_X3_writeBehind_p42 at hf
  refine lv_istore_n (lv' := [(2, .int y0), (0, .ref (ad 0)), (1, .int x1), (3, .int x3), (4, .int x4)]) (pc := 42) E.1 E.2.1 dX3_writeBehind_42 rfl hl (by decide) rfl (fun ls hl => ?_)
  refine lv_iload_n (pc := 43) E.1 E.2.1 dX3_writeBehind_43 rfl (lv_at hl 0 rfl) ?_
  refine lv_if_eq (tgt := 56) (pc := 44) E.1 E.2.1 dX3_writeBehind_44 (by decide) (fun q1 => ?_) (fun q1 => ?_)
  · have hf := x_pos q1 hf
    refine lv_iload_n (pc := 56) E.1 E.2.1 dX3_writeBehind_56 rfl (lv_at hl 3 rfl) ?_
    refine lv_bipush (v := 10) (pc := 57) E.1 E.2.1 dX3_writeBehind_57 (by decide) ?_
    refine lv_idiv (pc := 59) E.1 E.2.1 dX3_writeBehind_59 (by decide) ?_
    refine lv_istore_n (lv' := [(3, .int (x3 / 10)), (2, .int y0), (0, .ref (ad 0)), (1, .int x1), (4, .int x4)]) (pc := 60) E.1 E.2.1 dX3_writeBehind_60 rfl hl (by decide) rfl (fun ls hl => ?_)
    refine lv_goto (tgt := 11) (pc := 61) E.1 E.2.1 dX3_writeBehind_61 (by decide) ?_
    exact hk11 s x1 y0 (x3 / 10) z hw (lv_sub hl [2, 3, 1, 0] rfl) hf
  · have hf := x_neg q1 hf
    refine lv_aload_n (pc := 47) E.1 E.2.1 dX3_writeBehind_47 rfl (lv_at hl 1 rfl) ?_
    refine lv_bipush (v := 48) (pc := 48) E.1 E.2.1 dX3_writeBehind_48 (by decide) ?_
    refine lv_iload (pc := 50) E.1 E.2.1 dX3_writeBehind_50 (lv_at hl 4 rfl) ?_
    refine lv_iadd (pc := 52) E.1 E.2.1 dX3_writeBehind_52 ?_
    obtain ⟨v2, g3, hf⟩ := x_bind hf
    refine x_callVA (pc := 53) (As := [.int ((48 : Int32) + x4)]) (rest := []) (st1 := []) (ws' := (cells3 G ad v2)) E hw hl (c_X3_writeByte l G ad s ((48 : Int32) + x4) g3) xv_X3_31 xd_X3_writeByte rfl rfl ⟨Nat.le_of_ble_eq_true rfl, Nat.le_of_ble_eq_true rfl⟩ (q0 := 0) rfl rfl rfl rfl (Nat.le_of_ble_eq_true rfl) rfl dX3_writeBehind_53 (fun H locs hw => ?_)
    refine lv_iload_n (pc := 56) E.1 E.2.1 dX3_writeBehind_56 rfl (lv_at hl 3 rfl) ?_
    refine lv_bipush (v := 10) (pc := 57) E.1 E.2.1 dX3_writeBehind_57 (by decide) ?_
    refine lv_idiv (pc := 59) E.1 E.2.1 dX3_writeBehind_59 (by decide) ?_
    refine lv_istore_n (lv' := [(3, .int (x3 / 10)), (2, .int y0), (0, .ref (ad 0)), (1, .int x1), (4, .int x4)]) (pc := 60) E.1 E.2.1 dX3_writeBehind_60 rfl hl (by decide) rfl (fun ls hl => ?_)
    refine lv_goto (tgt := 11) (pc := 61) E.1 E.2.1 dX3_writeBehind_61 (by decide) ?_
    exact hk11 v2 x1 y0 (x3 / 10) z hw (lv_sub hl [2, 3, 1, 0] rfl) hf
set_option maxHeartbeats 4000000 in
set_option maxRecDepth 100000 in
theorem w_X3_writeBehind_p37 {p : Program} {l : Launch} {e : Env} {sS : State} {m : MethodId} {args : Array Value} {below : List Frame} {meth : Method} {c : Code} {G : xG} {W0 : va_W} {ad : Nat → Nat}  {k11 : S3 → Int32 → Int32 → Int32 → Option (S3)} (E : xE p sS m args c cX3_writeBehind 5 RX3 G (x_in W0)) (hr : meth.sig.returnType = none) (hk : meth.locks = false) (hk11 : ∀ (s' : S3) (x1' : Int32) (x2' : Int32) (x3' : Int32) (z : S3) {H : Heap} {locs : List Loc} {ls : Array Slot}, xW G (x_in W0) sS.heap (cells3 G ad s') H locs → lv_has ls 5 [(0, .ref (ad 0)), (1, .int x1'), (2, .int x2'), (3, .int x3')] → k11  s' x1' x2' x3' = some z → W p l e (rm_X3_writeBehind) sS m args below meth c H locs 0 0 (MQ below (xQ G W0 (cells3 G ad z) none) args sS 0 0 (x_in W0)) (F0 m 11 ls [])) : ∀ (s' : S3) (x1' : Int32) (x3' : Int32) (x4' : Int32) (z : S3) {H : Heap} {locs : List Loc} {ls : Array Slot}, xW G (x_in W0) sS.heap (cells3 G ad s') H locs → lv_has ls 5 [(0, .ref (ad 0)), (1, .int x1'), (3, .int x3'), (4, .int x4')] → f_X3_writeBehind_p37 k11 s' x1' x3' x4' = some z → W p l e (rm_X3_writeBehind) sS m args below meth c H locs 0 0 (MQ below (xQ G W0 (cells3 G ad z) none) args sS 0 0 (x_in W0)) (F0 m 37 ls []) := by
  intro s x1 x3 x4 z H locs ls hw hl hf
  unfold f_X3_writeBehind_p37 at hf
  refine lv_iconst (v := 1) (pc := 37) E.1 E.2.1 dX3_writeBehind_37 (by decide) ?_
  refine lv_goto (tgt := 42) (pc := 38) E.1 E.2.1 dX3_writeBehind_38 (by decide) ?_
  exact w_X3_writeBehind_p42 E hr hk hk11 s x1 x3 x4 1 z hw (lv_sub hl [0, 1, 2, 3] rfl) hf
set_option maxHeartbeats 4000000 in
set_option maxRecDepth 100000 in
theorem w_X3_writeBehind_p11 {p : Program} {l : Launch} {e : Env} {sS : State} {m : MethodId} {args : Array Value} {below : List Frame} {meth : Method} {c : Code} {G : xG} {W0 : va_W} {ad : Nat → Nat}  {k11 : S3 → Int32 → Int32 → Int32 → Option (S3)} (E : xE p sS m args c cX3_writeBehind 5 RX3 G (x_in W0)) (hr : meth.sig.returnType = none) (hk : meth.locks = false) (hk11 : ∀ (s' : S3) (x1' : Int32) (x2' : Int32) (x3' : Int32) (z : S3) {H : Heap} {locs : List Loc} {ls : Array Slot}, xW G (x_in W0) sS.heap (cells3 G ad s') H locs → lv_has ls 5 [(0, .ref (ad 0)), (1, .int x1'), (2, .int x2'), (3, .int x3')] → k11  s' x1' x2' x3' = some z → W p l e (rm_X3_writeBehind) sS m args below meth c H locs 0 0 (MQ below (xQ G W0 (cells3 G ad z) none) args sS 0 0 (x_in W0)) (F0 m 11 ls [])) : ∀ (s' : S3) (x1' : Int32) (x2' : Int32) (x3' : Int32) (z : S3) {H : Heap} {locs : List Loc} {ls : Array Slot}, xW G (x_in W0) sS.heap (cells3 G ad s') H locs → lv_has ls 5 [(0, .ref (ad 0)), (1, .int x1'), (2, .int x2'), (3, .int x3')] → f_X3_writeBehind_p11 k11 s' x1' x2' x3' = some z → W p l e (rm_X3_writeBehind) sS m args below meth c H locs 0 0 (MQ below (xQ G W0 (cells3 G ad z) none) args sS 0 0 (x_in W0)) (F0 m 11 ls []) := by
  intro s x1 x2 x3 z H locs ls hw hl hf
  unfold f_X3_writeBehind_p11 at hf
  refine lv_iload_n (pc := 11) E.1 E.2.1 dX3_writeBehind_11 rfl (lv_at hl 3 rfl) ?_
  refine lv_if_le (tgt := 64) (pc := 12) E.1 E.2.1 dX3_writeBehind_12 (by decide) (fun q1 => ?_) (fun q1 => ?_)
  · have hf := x_pos q1 hf
    obtain rfl := Option.some.inj hf
    exact x_retv (pc := 64) E hr hk hw dX3_writeBehind_64
  · have hf := x_neg q1 hf
    refine lv_iload_n (pc := 15) E.1 E.2.1 dX3_writeBehind_15 rfl (lv_at hl 1 rfl) ?_
    refine lv_iload_n (pc := 16) E.1 E.2.1 dX3_writeBehind_16 rfl (lv_at hl 3 rfl) ?_
    obtain ⟨u3, g2, hf⟩ := x_bind hf
    refine lv_idiv (pc := 17) E.1 E.2.1 dX3_writeBehind_17 (x_nz_some g2) ?_
    refine lv_bipush (v := 10) (pc := 18) E.1 E.2.1 dX3_writeBehind_18 (by decide) ?_
    refine lv_irem (pc := 20) E.1 E.2.1 dX3_writeBehind_20 (by decide) ?_
    refine lv_istore (lv' := [(4, .int ((x1 / x3) - (x1 / x3) / 10 * 10)), (0, .ref (ad 0)), (1, .int x1), (2, .int x2), (3, .int x3)]) (pc := 21) E.1 E.2.1 dX3_writeBehind_21 hl (by decide) rfl (fun ls hl => ?_)
    refine lv_iload_n (pc := 23) E.1 E.2.1 dX3_writeBehind_23 rfl (lv_at hl 3 rfl) ?_
    refine lv_if_ne (tgt := 37) (pc := 24) E.1 E.2.1 dX3_writeBehind_24 (by decide) (fun q4 => ?_) (fun q4 => ?_)
    · have hf := x_neg q4 hf
      exact w_X3_writeBehind_p37 E hr hk hk11 s x1 x3 ((x1 / x3) - (x1 / x3) / 10 * 10) z hw (lv_sub hl [1, 2, 4, 0] rfl) hf
    · have hf := x_pos q4 hf
      refine lv_iload (pc := 27) E.1 E.2.1 dX3_writeBehind_27 (lv_at hl 0 rfl) ?_
      refine lv_if_gt (tgt := 37) (pc := 29) E.1 E.2.1 dX3_writeBehind_29 (by decide) (fun q5 => ?_) (fun q5 => ?_)
      · have hf := x_pos q5 hf
        exact w_X3_writeBehind_p37 E hr hk hk11 s x1 x3 ((x1 / x3) - (x1 / x3) / 10 * 10) z hw (lv_sub hl [1, 2, 4, 0] rfl) hf
      · have hf := x_neg q5 hf
        refine lv_iload_n (pc := 32) E.1 E.2.1 dX3_writeBehind_32 rfl (lv_at hl 4 rfl) ?_
        refine lv_iconst (v := 1) (pc := 33) E.1 E.2.1 dX3_writeBehind_33 (by decide) ?_
        refine lv_icmp_ne (tgt := 41) (pc := 34) E.1 E.2.1 dX3_writeBehind_34 (by decide) (fun q6 => ?_) (fun q6 => ?_)
        · have hf := x_neg q6 hf
          refine lv_iconst (v := 0) (pc := 41) E.1 E.2.1 dX3_writeBehind_41 (by decide) ?_
          exact w_X3_writeBehind_p42 E hr hk hk11 s x1 x3 ((x1 / x3) - (x1 / x3) / 10 * 10) 0 z hw (lv_sub hl [1, 2, 4, 0] rfl) hf
        · have hf := x_pos q6 hf
          exact w_X3_writeBehind_p37 E hr hk hk11 s x1 x3 ((x1 / x3) - (x1 / x3) / 10 * 10) z hw (lv_sub hl [1, 2, 4, 0] rfl) hf
set_option maxHeartbeats 4000000 in
set_option maxRecDepth 100000 in
theorem wl_X3_writeBehind_p11 {p : Program} {l : Launch} {e : Env} {sS : State} {m : MethodId} {args : Array Value} {below : List Frame} {meth : Method} {c : Code} {G : xG} {W0 : va_W} {ad : Nat → Nat}   (E : xE p sS m args c cX3_writeBehind 5 RX3 G (x_in W0)) (hr : meth.sig.returnType = none) (hk : meth.locks = false)  : ∀ (s' : S3) (x1' : Int32) (x2' : Int32) (x3' : Int32) (z : S3) {H : Heap} {locs : List Loc} {ls : Array Slot}, xW G (x_in W0) sS.heap (cells3 G ad s') H locs → lv_has ls 5 [(0, .ref (ad 0)), (1, .int x1'), (2, .int x2'), (3, .int x3')] → lp_X3_writeBehind_p11  s' x1' x2' x3' = some z → W p l e (rm_X3_writeBehind) sS m args below meth c H locs 0 0 (MQ below (xQ G W0 (cells3 G ad z) none) args sS 0 0 (x_in W0)) (F0 m 11 ls []) := by
  intro s x1 x2 x3 z H locs ls hw hl hf
  exact x_loop_W (P := fun (q : S3 × Int32 × Int32 × Int32) (z : S3) => ∀ {H : Heap} {locs : List Loc} {ls : Array Slot}, xW G (x_in W0) sS.heap (cells3 G ad q.1) H locs → lv_has ls 5 [(0, .ref (ad 0)), (1, .int q.2.1), (2, .int q.2.2.1), (3, .int q.2.2.2)] → W p l e (rm_X3_writeBehind) sS m args below meth c H locs 0 0 (MQ below (xQ G W0 (cells3 G ad z) none) args sS 0 0 (x_in W0)) (F0 m 11 ls [])) (fun k hkk q z hf H locs ls hw hl => w_X3_writeBehind_p11 E hr hk  (fun s x1 x2 x3 z H locs ls hw hl hf => hkk (s, x1, x2, x3) z hf hw hl) q.1 q.2.1 q.2.2.1 q.2.2.2 z hw hl hf) FU (s, x1, x2, x3) z hf hw hl
set_option maxHeartbeats 4000000 in
set_option maxRecDepth 100000 in
theorem w_X3_writeBehind_p0 {p : Program} {l : Launch} {e : Env} {sS : State} {m : MethodId} {args : Array Value} {below : List Frame} {meth : Method} {c : Code} {G : xG} {W0 : va_W} {ad : Nat → Nat}   (E : xE p sS m args c cX3_writeBehind 5 RX3 G (x_in W0)) (hr : meth.sig.returnType = none) (hk : meth.locks = false)  : ∀ (s' : S3) (x1' : Int32) (z : S3) {H : Heap} {locs : List Loc} {ls : Array Slot}, xW G (x_in W0) sS.heap (cells3 G ad s') H locs → lv_has ls 5 [(0, .ref (ad 0)), (1, .int x1')] → f_X3_writeBehind  s' x1' = some z → W p l e (rm_X3_writeBehind) sS m args below meth c H locs 0 0 (MQ below (xQ G W0 (cells3 G ad z) none) args sS 0 0 (x_in W0)) (F0 m 0 ls []) := by
  intro s x1 z H locs ls hw hl hf
  unfold f_X3_writeBehind at hf
  refine lv_aload_n (pc := 0) E.1 E.2.1 dX3_writeBehind_0 rfl (lv_at hl 0 rfl) ?_
  refine lv_bipush (v := 32) (pc := 1) E.1 E.2.1 dX3_writeBehind_1 (by decide) ?_
  obtain ⟨v1, g2, hf⟩ := x_bind hf
  refine x_callVA (pc := 3) (As := [.int 32]) (rest := []) (st1 := []) (ws' := (cells3 G ad v1)) E hw hl (c_X3_writeByte l G ad s 32 g2) xv_X3_31 xd_X3_writeByte rfl rfl ⟨Nat.le_of_ble_eq_true rfl, Nat.le_of_ble_eq_true rfl⟩ (q0 := 0) rfl rfl rfl rfl (Nat.le_of_ble_eq_true rfl) rfl dX3_writeBehind_3 (fun H locs hw => ?_)
  refine lv_iconst (v := 0) (pc := 6) E.1 E.2.1 dX3_writeBehind_6 (by decide) ?_
  refine lv_istore_n (lv' := [(2, .int 0), (0, .ref (ad 0)), (1, .int x1)]) (pc := 7) E.1 E.2.1 dX3_writeBehind_7 rfl hl (by decide) rfl (fun ls hl => ?_)
  refine lv_ldc (v := 1000000000) (pc := 8) E.1 E.2.1 E.2.2.2.1 (E.2.2.2.2.1 _ wq_1126) dX3_writeBehind_8 ?_
  refine lv_istore_n (lv' := [(3, .int 1000000000), (2, .int 0), (0, .ref (ad 0)), (1, .int x1)]) (pc := 10) E.1 E.2.1 dX3_writeBehind_10 rfl hl (by decide) rfl (fun ls hl => ?_)
  exact wl_X3_writeBehind_p11 E hr hk  v1 x1 0 1000000000 z hw (lv_sub hl [2, 3, 1, 0] rfl) hf
set_option maxHeartbeats 4000000 in
set_option maxRecDepth 100000 in
theorem c_X3_writeBehind (l : Launch) (G : xG) (ad : Nat → Nat) (s : S3) (x1 : Int32) {z : S3} (hf : f_X3_writeBehind s x1 = some z) : xC l yX3_writeBehind cX3_writeBehind 5 none (rm_X3_writeBehind) G [.ref (ad 0), .int x1] (cells3 G ad s) none (cells3 G ad z) :=
  x_met (by decide) rfl (Nat.le_of_ble_eq_true rfl) (fun p e sS m below meth c E hr hk ls hl hw => w_X3_writeBehind_p0 E hr hk s x1 z hw hl hf)
set_option maxHeartbeats 4000000 in
set_option maxRecDepth 100000 in
theorem w_X3_writeNamed_p2 {p : Program} {l : Launch} {e : Env} {sS : State} {m : MethodId} {args : Array Value} {below : List Frame} {meth : Method} {c : Code} {G : xG} {W0 : va_W} {ad : Nat → Nat} {n1 : Nat} {k2 : S3 → Nat → Int32 → Int32 → Option (S3)} (E : xE p sS m args c cX3_writeNamed 4 RX3 G (x_in W0)) (hr : meth.sig.returnType = none) (hk : meth.locks = false) (hk2 : ∀ (s' : S3) (x2' : Int32) (x3' : Int32) (z : S3) {H : Heap} {locs : List Loc} {ls : Array Slot}, xW G (x_in W0) sS.heap (cells3 G ad s') H locs → lv_has ls 4 [(0, .ref (ad 0)), (1, .ref (G.2.2.1 n1)), (2, .int x2'), (3, .int x3')] → k2  s' n1 x2' x3' = some z → W p l e (rm_X3_writeNamed) sS m args below meth c H locs 0 0 (MQ below (xQ G W0 (cells3 G ad z) none) args sS 0 0 (x_in W0)) (F0 m 2 ls [])) : ∀ (s' : S3) (x2' : Int32) (x3' : Int32) (z : S3) {H : Heap} {locs : List Loc} {ls : Array Slot}, xW G (x_in W0) sS.heap (cells3 G ad s') H locs → lv_has ls 4 [(0, .ref (ad 0)), (1, .ref (G.2.2.1 n1)), (2, .int x2'), (3, .int x3')] → f_X3_writeNamed_p2 k2 s' n1 x2' x3' = some z → W p l e (rm_X3_writeNamed) sS m args below meth c H locs 0 0 (MQ below (xQ G W0 (cells3 G ad z) none) args sS 0 0 (x_in W0)) (F0 m 2 ls []) := by
  intro s x2 x3 z H locs ls hw hl hf
  unfold f_X3_writeNamed_p2 at hf
  refine lv_iload_n (pc := 2) E.1 E.2.1 dX3_writeNamed_2 rfl (lv_at hl 3 rfl) ?_
  refine lv_aload_n (pc := 3) E.1 E.2.1 dX3_writeNamed_3 rfl (lv_at hl 1 rfl) ?_
  obtain ⟨v1, g2, hf⟩ := x_bind hf
  refine x_slenR_X3 (pc := 4) E hw hl g2 (Nat.le_of_ble_eq_true rfl) (Nat.le_of_ble_eq_true rfl) (Nat.le_of_ble_eq_true rfl) dX3_writeNamed_4 (fun H locs hw => ?_)
  refine lv_icmp_ge (tgt := 25) (pc := 7) E.1 E.2.1 dX3_writeNamed_7 (by decide) (fun q3 => ?_) (fun q3 => ?_)
  · have hf := x_pos q3 hf
    refine lv_aload_n (pc := 25) E.1 E.2.1 dX3_writeNamed_25 rfl (lv_at hl 0 rfl) ?_
    refine lv_iload_n (pc := 26) E.1 E.2.1 dX3_writeNamed_26 rfl (lv_at hl 2 rfl) ?_
    obtain ⟨v4, g5, hf⟩ := x_bind hf
    refine x_callVA (pc := 27) (As := [.int x2]) (rest := []) (st1 := []) (ws' := (cells3 G ad v4)) E hw hl (c_X3_writeBehind l G ad s x2 g5) xv_X3_35 xd_X3_writeBehind rfl rfl ⟨Nat.le_of_ble_eq_true rfl, Nat.le_of_ble_eq_true rfl⟩ (q0 := 0) rfl rfl rfl rfl (Nat.le_of_ble_eq_true rfl) rfl dX3_writeNamed_27 (fun H locs hw => ?_)
    obtain rfl := Option.some.inj hf
    exact x_retv (pc := 30) E hr hk hw dX3_writeNamed_30
  · have hf := x_neg q3 hf
    refine lv_aload_n (pc := 10) E.1 E.2.1 dX3_writeNamed_10 rfl (lv_at hl 0 rfl) ?_
    refine lv_aload_n (pc := 11) E.1 E.2.1 dX3_writeNamed_11 rfl (lv_at hl 1 rfl) ?_
    refine lv_iload_n (pc := 12) E.1 E.2.1 dX3_writeNamed_12 rfl (lv_at hl 3 rfl) ?_
    obtain ⟨v6, g7, hf⟩ := x_bind hf
    refine x_schrR_X3 (pc := 13) E hw hl g7 (Nat.le_of_ble_eq_true rfl) (Nat.le_of_ble_eq_true rfl) (Nat.le_of_ble_eq_true rfl) dX3_writeNamed_13 (fun H locs hw => ?_)
    obtain ⟨v8, g9, hf⟩ := x_bind hf
    refine x_callVA (pc := 16) (As := [.int v6]) (rest := []) (st1 := []) (ws' := (cells3 G ad v8)) E hw hl (c_X3_writeByte l G ad s v6 g9) xv_X3_31 xd_X3_writeByte rfl rfl ⟨Nat.le_of_ble_eq_true rfl, Nat.le_of_ble_eq_true rfl⟩ (q0 := 0) rfl rfl rfl rfl (Nat.le_of_ble_eq_true rfl) rfl dX3_writeNamed_16 (fun H locs hw => ?_)
    refine lv_iinc (v := (x3 + 1)) (lv' := [(3, .int (x3 + 1)), (0, .ref (ad 0)), (1, .ref (G.2.2.1 n1)), (2, .int x2)]) (pc := 19) E.1 E.2.1 dX3_writeNamed_19 hl (k := 3) rfl rfl (by decide) rfl (fun ls hl => ?_)
    refine lv_goto (tgt := 2) (pc := 22) E.1 E.2.1 dX3_writeNamed_22 (by decide) ?_
    exact hk2 v8 x2 (x3 + 1) z hw (lv_sub hl [1, 2, 3, 0] rfl) hf
set_option maxHeartbeats 4000000 in
set_option maxRecDepth 100000 in
theorem wl_X3_writeNamed_p2 {p : Program} {l : Launch} {e : Env} {sS : State} {m : MethodId} {args : Array Value} {below : List Frame} {meth : Method} {c : Code} {G : xG} {W0 : va_W} {ad : Nat → Nat} {n1 : Nat}  (E : xE p sS m args c cX3_writeNamed 4 RX3 G (x_in W0)) (hr : meth.sig.returnType = none) (hk : meth.locks = false)  : ∀ (s' : S3) (x2' : Int32) (x3' : Int32) (z : S3) {H : Heap} {locs : List Loc} {ls : Array Slot}, xW G (x_in W0) sS.heap (cells3 G ad s') H locs → lv_has ls 4 [(0, .ref (ad 0)), (1, .ref (G.2.2.1 n1)), (2, .int x2'), (3, .int x3')] → lp_X3_writeNamed_p2  s' n1 x2' x3' = some z → W p l e (rm_X3_writeNamed) sS m args below meth c H locs 0 0 (MQ below (xQ G W0 (cells3 G ad z) none) args sS 0 0 (x_in W0)) (F0 m 2 ls []) := by
  intro s x2 x3 z H locs ls hw hl hf
  exact x_loop_W (P := fun (q : S3 × Int32 × Int32) (z : S3) => ∀ {H : Heap} {locs : List Loc} {ls : Array Slot}, xW G (x_in W0) sS.heap (cells3 G ad q.1) H locs → lv_has ls 4 [(0, .ref (ad 0)), (1, .ref (G.2.2.1 n1)), (2, .int q.2.1), (3, .int q.2.2)] → W p l e (rm_X3_writeNamed) sS m args below meth c H locs 0 0 (MQ below (xQ G W0 (cells3 G ad z) none) args sS 0 0 (x_in W0)) (F0 m 2 ls [])) (fun k hkk q z hf H locs ls hw hl => w_X3_writeNamed_p2 E hr hk  (fun s x2 x3 z H locs ls hw hl hf => hkk (s, x2, x3) z hf hw hl) q.1 q.2.1 q.2.2 z hw hl hf) FU (s, x2, x3) z hf hw hl
set_option maxHeartbeats 4000000 in
set_option maxRecDepth 100000 in
theorem w_X3_writeNamed_p0 {p : Program} {l : Launch} {e : Env} {sS : State} {m : MethodId} {args : Array Value} {below : List Frame} {meth : Method} {c : Code} {G : xG} {W0 : va_W} {ad : Nat → Nat} {n1 : Nat}  (E : xE p sS m args c cX3_writeNamed 4 RX3 G (x_in W0)) (hr : meth.sig.returnType = none) (hk : meth.locks = false)  : ∀ (s' : S3) (x2' : Int32) (z : S3) {H : Heap} {locs : List Loc} {ls : Array Slot}, xW G (x_in W0) sS.heap (cells3 G ad s') H locs → lv_has ls 4 [(0, .ref (ad 0)), (1, .ref (G.2.2.1 n1)), (2, .int x2')] → f_X3_writeNamed  s' n1 x2' = some z → W p l e (rm_X3_writeNamed) sS m args below meth c H locs 0 0 (MQ below (xQ G W0 (cells3 G ad z) none) args sS 0 0 (x_in W0)) (F0 m 0 ls []) := by
  intro s x2 z H locs ls hw hl hf
  unfold f_X3_writeNamed at hf
  refine lv_iconst (v := 0) (pc := 0) E.1 E.2.1 dX3_writeNamed_0 (by decide) ?_
  refine lv_istore_n (lv' := [(3, .int 0), (0, .ref (ad 0)), (1, .ref (G.2.2.1 n1)), (2, .int x2)]) (pc := 1) E.1 E.2.1 dX3_writeNamed_1 rfl hl (by decide) rfl (fun ls hl => ?_)
  exact wl_X3_writeNamed_p2 E hr hk  s x2 0 z hw (lv_sub hl [1, 2, 3, 0] rfl) hf
set_option maxHeartbeats 4000000 in
set_option maxRecDepth 100000 in
theorem c_X3_writeNamed (l : Launch) (G : xG) (ad : Nat → Nat) (s : S3) (n1 : Nat) (x2 : Int32) {z : S3} (hf : f_X3_writeNamed s n1 x2 = some z) : xC l yX3_writeNamed cX3_writeNamed 4 none (rm_X3_writeNamed) G [.ref (ad 0), .ref (G.2.2.1 n1), .int x2] (cells3 G ad s) none (cells3 G ad z) :=
  x_met (by decide) rfl (Nat.le_of_ble_eq_true rfl) (fun p e sS m below meth c E hr hk ls hl hw => w_X3_writeNamed_p0 E hr hk s x2 z hw hl hf)
set_option maxHeartbeats 4000000 in
set_option maxRecDepth 100000 in
theorem w_X3_writeEnd_p0 {p : Program} {l : Launch} {e : Env} {sS : State} {m : MethodId} {args : Array Value} {below : List Frame} {meth : Method} {c : Code} {G : xG} {W0 : va_W} {ad : Nat → Nat}   (E : xE p sS m args c cX3_writeEnd 1 RX3 G (x_in W0)) (hr : meth.sig.returnType = none) (hk : meth.locks = false)  : ∀ (s' : S3) (z : S3) {H : Heap} {locs : List Loc} {ls : Array Slot}, xW G (x_in W0) sS.heap (cells3 G ad s') H locs → lv_has ls 1 [(0, .ref (ad 0))] → f_X3_writeEnd  s' = some z → W p l e (rm_X3_writeEnd) sS m args below meth c H locs 0 0 (MQ below (xQ G W0 (cells3 G ad z) none) args sS 0 0 (x_in W0)) (F0 m 0 ls []) := by
  intro s z H locs ls hw hl hf
  unfold f_X3_writeEnd at hf
  refine lv_aload_n (pc := 0) E.1 E.2.1 dX3_writeEnd_0 rfl (lv_at hl 0 rfl) ?_
  refine lv_bipush (v := 59) (pc := 1) E.1 E.2.1 dX3_writeEnd_1 (by decide) ?_
  obtain ⟨v1, g2, hf⟩ := x_bind hf
  refine x_callVA (pc := 3) (As := [.int 59]) (rest := []) (st1 := []) (ws' := (cells3 G ad v1)) E hw hl (c_X3_writeByte l G ad s 59 g2) xv_X3_31 xd_X3_writeByte rfl rfl ⟨Nat.le_of_ble_eq_true rfl, Nat.le_of_ble_eq_true rfl⟩ (q0 := 0) rfl rfl rfl rfl (Nat.le_of_ble_eq_true rfl) rfl dX3_writeEnd_3 (fun H locs hw => ?_)
  obtain rfl := Option.some.inj hf
  exact x_retv (pc := 6) E hr hk hw dX3_writeEnd_6
set_option maxHeartbeats 4000000 in
set_option maxRecDepth 100000 in
theorem c_X3_writeEnd (l : Launch) (G : xG) (ad : Nat → Nat) (s : S3) {z : S3} (hf : f_X3_writeEnd s = some z) : xC l yX3_writeEnd cX3_writeEnd 1 none (rm_X3_writeEnd) G [.ref (ad 0)] (cells3 G ad s) none (cells3 G ad z) :=
  x_met (by decide) rfl (Nat.le_of_ble_eq_true rfl) (fun p e sS m below meth c E hr hk ls hl hw => w_X3_writeEnd_p0 E hr hk s z hw hl hf)
set_option maxHeartbeats 4000000 in
set_option maxRecDepth 100000 in
theorem w_X3_answer_p0 {p : Program} {l : Launch} {e : Env} {sS : State} {m : MethodId} {args : Array Value} {below : List Frame} {meth : Method} {c : Code} {G : xG} {W0 : va_W} {ad : Nat → Nat}   (E : xE p sS m args c cX3_answer 1 RX3 G (x_in W0)) (hr : meth.sig.returnType = (some .int)) (hk : meth.locks = false)  : ∀ (s' : S3) (z : Int32) {H : Heap} {locs : List Loc} {ls : Array Slot}, xW G (x_in W0) sS.heap (cells3 G ad s') H locs → lv_has ls 1 [(0, .ref (ad 0))] → f_X3_answer  s' = some z → W p l e (rm_X3_answer) sS m args below meth c H locs 0 0 (MQ below (xQ G W0 (cells3 G ad s') (some (.int z))) args sS 0 0 (x_in W0)) (F0 m 0 ls []) := by
  intro s z H locs ls hw hl hf
  unfold f_X3_answer at hf
  refine lv_aload_n (pc := 0) E.1 E.2.1 dX3_answer_0 rfl (lv_at hl 0 rfl) ?_
  refine xg_X3_9 (pc := 1) (v := .int (g3_wanted s)) E hw 0 rfl rfl dX3_answer_1 ?_
  refine lv_iconst (v := (-1)) (pc := 4) E.1 E.2.1 dX3_answer_4 (by decide) ?_
  refine lv_icmp_ne (tgt := 15) (pc := 5) E.1 E.2.1 dX3_answer_5 (by decide) (fun q1 => ?_) (fun q1 => ?_)
  · have hf := x_neg q1 hf
    refine lv_aload_n (pc := 15) E.1 E.2.1 dX3_answer_15 rfl (lv_at hl 0 rfl) ?_
    refine xg_X3_18 (pc := 16) (v := .int (g3_found s)) E hw 0 rfl rfl dX3_answer_16 ?_
    obtain rfl := Option.some.inj hf
    exact x_reti (pc := 19) E hr hk hw dX3_answer_19
  · have hf := x_pos q1 hf
    refine lv_aload_n (pc := 8) E.1 E.2.1 dX3_answer_8 rfl (lv_at hl 0 rfl) ?_
    refine xg_X3_15 (pc := 9) (v := .int (g3_written s)) E hw 0 rfl rfl dX3_answer_9 ?_
    refine lv_goto (tgt := 19) (pc := 12) E.1 E.2.1 dX3_answer_12 (by decide) ?_
    obtain rfl := Option.some.inj hf
    exact x_reti (pc := 19) E hr hk hw dX3_answer_19
set_option maxHeartbeats 4000000 in
set_option maxRecDepth 100000 in
theorem c_X3_answer (l : Launch) (G : xG) (ad : Nat → Nat) (s : S3) {z : Int32} (hf : f_X3_answer s = some z) : xC l yX3_answer cX3_answer 1 (some .int) (rm_X3_answer) G [.ref (ad 0)] (cells3 G ad s) (some (.int z)) (cells3 G ad s) :=
  x_met (by decide) rfl (Nat.le_of_ble_eq_true rfl) (fun p e sS m below meth c E hr hk ls hl hw => w_X3_answer_p0 E hr hk s z hw hl hf)
