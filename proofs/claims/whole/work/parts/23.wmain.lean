set_option maxHeartbeats 4000000 in
set_option maxRecDepth 100000 in
theorem w_X7_feed_p0 {p : Program} {l : Launch} {e : Env} {sS : State} {m : MethodId} {args : Array Value} {below : List Frame} {meth : Method} {c : Code} {G : xG} {W0 : va_W} {ad : Nat → Nat}   (E : xE p sS m args c cX7_feed 6 RX7 G (x_in W0)) (hr : meth.sig.returnType = (some .int)) (hk : meth.locks = false)  : ∀ (s' : S7) (x1' : Int32) (x2' : Int32) (x3' : Int32) (x4' : Int32) (x5' : Int32) (z : Int32 × S7) {H : Heap} {locs : List Loc} {ls : Array Slot}, xW G (x_in W0) sS.heap (cells7 G ad s') H locs → lv_has ls 6 [(0, .ref (ad 0)), (1, .int x1'), (2, .int x2'), (3, .int x3'), (4, .int x4'), (5, .int x5')] → f_X7_feed  s' x1' x2' x3' x4' x5' = some z → W p l e (rm_X7_feed) sS m args below meth c H locs 0 0 (MQ below (xQ G W0 (cells7 G ad z.2) (some (.int z.1))) args sS 0 0 (x_in W0)) (F0 m 0 ls []) := by
  intro s x1 x2 x3 x4 x5 z H locs ls hw hl hf
  unfold f_X7_feed at hf
  refine lv_aload_n (pc := 0) E.1 E.2.1 dX7_feed_0 rfl (lv_at hl 0 rfl) ?_
  refine xg_X7_10 (pc := 1) (v := .ref (ad 1)) E hw 0 rfl rfl dX7_feed_1 ?_
  obtain ⟨v1, g2, hf⟩ := x_bind hf
  refine x_callV (pc := 4) (As := []) (rest := []) (st1 := [.int v1]) (ws' := (cells7 G ad s)) E hw hl (c_X6_size l G (fun k => ad (k + 1)) (g7_tape s) g2) xv_X7_58 xd_X6_size rfl rfl ⟨Nat.le_of_ble_eq_true rfl, Nat.le_of_ble_eq_true rfl⟩ [1, 2] [0, 3, 4, 5, 6, 7, 8, 9, 10, 11, 12, 13, 14, 15, 16, 17, 18, 19, 20, 21, 22, 23, 24, 25, 26, 27, 28, 29, 30] (by decide) ⟨rfl, rfl, trivial⟩ (q0 := 1) rfl rfl rfl rfl (Nat.le_of_ble_eq_true rfl) (nw := 31) ⟨rfl, rfl, trivial⟩ ⟨⟨_, rfl, rfl⟩, ⟨_, rfl, rfl⟩, ⟨_, rfl, rfl⟩, ⟨_, rfl, rfl⟩, ⟨_, rfl, rfl⟩, ⟨_, rfl, rfl⟩, ⟨_, rfl, rfl⟩, ⟨_, rfl, rfl⟩, ⟨_, rfl, rfl⟩, ⟨_, rfl, rfl⟩, ⟨_, rfl, rfl⟩, ⟨_, rfl, rfl⟩, ⟨_, rfl, rfl⟩, ⟨_, rfl, rfl⟩, ⟨_, rfl, rfl⟩, ⟨_, rfl, rfl⟩, ⟨_, rfl, rfl⟩, ⟨_, rfl, rfl⟩, ⟨_, rfl, rfl⟩, ⟨_, rfl, rfl⟩, ⟨_, rfl, rfl⟩, ⟨_, rfl, rfl⟩, ⟨_, rfl, rfl⟩, ⟨_, rfl, rfl⟩, ⟨_, rfl, rfl⟩, ⟨_, rfl, rfl⟩, ⟨_, rfl, rfl⟩, ⟨_, rfl, rfl⟩, ⟨_, rfl, rfl⟩, trivial⟩ rfl rfl (by decide) (by decide) rfl dX7_feed_4 (fun H locs hw => ?_)
  refine lv_bipush (v := 20) (pc := 7) E.1 E.2.1 dX7_feed_7 (by decide) ?_
  refine lv_iadd (pc := 9) E.1 E.2.1 dX7_feed_9 ?_
  refine lv_sipush (v := 700) (pc := 10) E.1 E.2.1 dX7_feed_10 (by decide) ?_
  refine lv_icmp_le (tgt := 18) (pc := 13) E.1 E.2.1 dX7_feed_13 (by decide) (fun q3 => ?_) (fun q3 => ?_)
  · have hf := x_pos q3 hf
    refine lv_aload_n (pc := 18) E.1 E.2.1 dX7_feed_18 rfl (lv_at hl 0 rfl) ?_
    refine xg_X7_10 (pc := 19) (v := .ref (ad 1)) E hw 0 rfl rfl dX7_feed_19 ?_
    refine lv_iload_n (pc := 22) E.1 E.2.1 dX7_feed_22 rfl (lv_at hl 1 rfl) ?_
    obtain ⟨v4, g5, hf⟩ := x_bind hf
    refine x_callV (pc := 23) (As := [.int x1]) (rest := []) (st1 := []) (ws' := (cells7c G ad v4 (g7_book s) (g7_trial s) (g7_past s) (g7_ledger s) (g7_pen s) (g7_told s) (g7_ratesNow s))) E hw hl (c_X6_addFour l G (fun k => ad (k + 1)) (g7_tape s) x1 g5) xv_X7_62 xd_X6_addFour rfl rfl ⟨Nat.le_of_ble_eq_true rfl, Nat.le_of_ble_eq_true rfl⟩ [1, 2] [0, 3, 4, 5, 6, 7, 8, 9, 10, 11, 12, 13, 14, 15, 16, 17, 18, 19, 20, 21, 22, 23, 24, 25, 26, 27, 28, 29, 30] (by decide) ⟨rfl, rfl, trivial⟩ (q0 := 1) rfl rfl rfl rfl (Nat.le_of_ble_eq_true rfl) (nw := 31) ⟨rfl, rfl, trivial⟩ ⟨⟨_, rfl, rfl⟩, ⟨_, rfl, rfl⟩, ⟨_, rfl, rfl⟩, ⟨_, rfl, rfl⟩, ⟨_, rfl, rfl⟩, ⟨_, rfl, rfl⟩, ⟨_, rfl, rfl⟩, ⟨_, rfl, rfl⟩, ⟨_, rfl, rfl⟩, ⟨_, rfl, rfl⟩, ⟨_, rfl, rfl⟩, ⟨_, rfl, rfl⟩, ⟨_, rfl, rfl⟩, ⟨_, rfl, rfl⟩, ⟨_, rfl, rfl⟩, ⟨_, rfl, rfl⟩, ⟨_, rfl, rfl⟩, ⟨_, rfl, rfl⟩, ⟨_, rfl, rfl⟩, ⟨_, rfl, rfl⟩, ⟨_, rfl, rfl⟩, ⟨_, rfl, rfl⟩, ⟨_, rfl, rfl⟩, ⟨_, rfl, rfl⟩, ⟨_, rfl, rfl⟩, ⟨_, rfl, rfl⟩, ⟨_, rfl, rfl⟩, ⟨_, rfl, rfl⟩, ⟨_, rfl, rfl⟩, trivial⟩ rfl rfl (by decide) (by decide) rfl dX7_feed_23 (fun H locs hw => ?_)
    refine lv_aload_n (pc := 26) E.1 E.2.1 dX7_feed_26 rfl (lv_at hl 0 rfl) ?_
    refine xg_X7_10 (pc := 27) (v := .ref (ad 1)) E hw 0 rfl rfl dX7_feed_27 ?_
    refine lv_iload_n (pc := 30) E.1 E.2.1 dX7_feed_30 rfl (lv_at hl 2 rfl) ?_
    obtain ⟨v6, g7, hf⟩ := x_bind hf
    refine x_callV (pc := 31) (As := [.int x2]) (rest := []) (st1 := []) (ws' := (cells7c G ad v6 (g7_book s) (g7_trial s) (g7_past s) (g7_ledger s) (g7_pen s) (g7_told s) (g7_ratesNow s))) E hw hl (c_X6_addFour l G (fun k => ad (k + 1)) v4 x2 g7) xv_X7_62 xd_X6_addFour rfl rfl ⟨Nat.le_of_ble_eq_true rfl, Nat.le_of_ble_eq_true rfl⟩ [1, 2] [0, 3, 4, 5, 6, 7, 8, 9, 10, 11, 12, 13, 14, 15, 16, 17, 18, 19, 20, 21, 22, 23, 24, 25, 26, 27, 28, 29, 30] (by decide) ⟨rfl, rfl, trivial⟩ (q0 := 1) rfl rfl rfl rfl (Nat.le_of_ble_eq_true rfl) (nw := 31) ⟨rfl, rfl, trivial⟩ ⟨⟨_, rfl, rfl⟩, ⟨_, rfl, rfl⟩, ⟨_, rfl, rfl⟩, ⟨_, rfl, rfl⟩, ⟨_, rfl, rfl⟩, ⟨_, rfl, rfl⟩, ⟨_, rfl, rfl⟩, ⟨_, rfl, rfl⟩, ⟨_, rfl, rfl⟩, ⟨_, rfl, rfl⟩, ⟨_, rfl, rfl⟩, ⟨_, rfl, rfl⟩, ⟨_, rfl, rfl⟩, ⟨_, rfl, rfl⟩, ⟨_, rfl, rfl⟩, ⟨_, rfl, rfl⟩, ⟨_, rfl, rfl⟩, ⟨_, rfl, rfl⟩, ⟨_, rfl, rfl⟩, ⟨_, rfl, rfl⟩, ⟨_, rfl, rfl⟩, ⟨_, rfl, rfl⟩, ⟨_, rfl, rfl⟩, ⟨_, rfl, rfl⟩, ⟨_, rfl, rfl⟩, ⟨_, rfl, rfl⟩, ⟨_, rfl, rfl⟩, ⟨_, rfl, rfl⟩, ⟨_, rfl, rfl⟩, trivial⟩ rfl rfl (by decide) (by decide) rfl dX7_feed_31 (fun H locs hw => ?_)
    refine lv_aload_n (pc := 34) E.1 E.2.1 dX7_feed_34 rfl (lv_at hl 0 rfl) ?_
    refine xg_X7_10 (pc := 35) (v := .ref (ad 1)) E hw 0 rfl rfl dX7_feed_35 ?_
    refine lv_iload_n (pc := 38) E.1 E.2.1 dX7_feed_38 rfl (lv_at hl 3 rfl) ?_
    obtain ⟨v8, g9, hf⟩ := x_bind hf
    refine x_callV (pc := 39) (As := [.int x3]) (rest := []) (st1 := []) (ws' := (cells7c G ad v8 (g7_book s) (g7_trial s) (g7_past s) (g7_ledger s) (g7_pen s) (g7_told s) (g7_ratesNow s))) E hw hl (c_X6_addFour l G (fun k => ad (k + 1)) v6 x3 g9) xv_X7_62 xd_X6_addFour rfl rfl ⟨Nat.le_of_ble_eq_true rfl, Nat.le_of_ble_eq_true rfl⟩ [1, 2] [0, 3, 4, 5, 6, 7, 8, 9, 10, 11, 12, 13, 14, 15, 16, 17, 18, 19, 20, 21, 22, 23, 24, 25, 26, 27, 28, 29, 30] (by decide) ⟨rfl, rfl, trivial⟩ (q0 := 1) rfl rfl rfl rfl (Nat.le_of_ble_eq_true rfl) (nw := 31) ⟨rfl, rfl, trivial⟩ ⟨⟨_, rfl, rfl⟩, ⟨_, rfl, rfl⟩, ⟨_, rfl, rfl⟩, ⟨_, rfl, rfl⟩, ⟨_, rfl, rfl⟩, ⟨_, rfl, rfl⟩, ⟨_, rfl, rfl⟩, ⟨_, rfl, rfl⟩, ⟨_, rfl, rfl⟩, ⟨_, rfl, rfl⟩, ⟨_, rfl, rfl⟩, ⟨_, rfl, rfl⟩, ⟨_, rfl, rfl⟩, ⟨_, rfl, rfl⟩, ⟨_, rfl, rfl⟩, ⟨_, rfl, rfl⟩, ⟨_, rfl, rfl⟩, ⟨_, rfl, rfl⟩, ⟨_, rfl, rfl⟩, ⟨_, rfl, rfl⟩, ⟨_, rfl, rfl⟩, ⟨_, rfl, rfl⟩, ⟨_, rfl, rfl⟩, ⟨_, rfl, rfl⟩, ⟨_, rfl, rfl⟩, ⟨_, rfl, rfl⟩, ⟨_, rfl, rfl⟩, ⟨_, rfl, rfl⟩, ⟨_, rfl, rfl⟩, trivial⟩ rfl rfl (by decide) (by decide) rfl dX7_feed_39 (fun H locs hw => ?_)
    refine lv_aload_n (pc := 42) E.1 E.2.1 dX7_feed_42 rfl (lv_at hl 0 rfl) ?_
    refine xg_X7_10 (pc := 43) (v := .ref (ad 1)) E hw 0 rfl rfl dX7_feed_43 ?_
    refine lv_iload (pc := 46) E.1 E.2.1 dX7_feed_46 (lv_at hl 4 rfl) ?_
    obtain ⟨v10, g11, hf⟩ := x_bind hf
    refine x_callV (pc := 48) (As := [.int x4]) (rest := []) (st1 := []) (ws' := (cells7c G ad v10 (g7_book s) (g7_trial s) (g7_past s) (g7_ledger s) (g7_pen s) (g7_told s) (g7_ratesNow s))) E hw hl (c_X6_addFour l G (fun k => ad (k + 1)) v8 x4 g11) xv_X7_62 xd_X6_addFour rfl rfl ⟨Nat.le_of_ble_eq_true rfl, Nat.le_of_ble_eq_true rfl⟩ [1, 2] [0, 3, 4, 5, 6, 7, 8, 9, 10, 11, 12, 13, 14, 15, 16, 17, 18, 19, 20, 21, 22, 23, 24, 25, 26, 27, 28, 29, 30] (by decide) ⟨rfl, rfl, trivial⟩ (q0 := 1) rfl rfl rfl rfl (Nat.le_of_ble_eq_true rfl) (nw := 31) ⟨rfl, rfl, trivial⟩ ⟨⟨_, rfl, rfl⟩, ⟨_, rfl, rfl⟩, ⟨_, rfl, rfl⟩, ⟨_, rfl, rfl⟩, ⟨_, rfl, rfl⟩, ⟨_, rfl, rfl⟩, ⟨_, rfl, rfl⟩, ⟨_, rfl, rfl⟩, ⟨_, rfl, rfl⟩, ⟨_, rfl, rfl⟩, ⟨_, rfl, rfl⟩, ⟨_, rfl, rfl⟩, ⟨_, rfl, rfl⟩, ⟨_, rfl, rfl⟩, ⟨_, rfl, rfl⟩, ⟨_, rfl, rfl⟩, ⟨_, rfl, rfl⟩, ⟨_, rfl, rfl⟩, ⟨_, rfl, rfl⟩, ⟨_, rfl, rfl⟩, ⟨_, rfl, rfl⟩, ⟨_, rfl, rfl⟩, ⟨_, rfl, rfl⟩, ⟨_, rfl, rfl⟩, ⟨_, rfl, rfl⟩, ⟨_, rfl, rfl⟩, ⟨_, rfl, rfl⟩, ⟨_, rfl, rfl⟩, ⟨_, rfl, rfl⟩, trivial⟩ rfl rfl (by decide) (by decide) rfl dX7_feed_48 (fun H locs hw => ?_)
    refine lv_aload_n (pc := 51) E.1 E.2.1 dX7_feed_51 rfl (lv_at hl 0 rfl) ?_
    refine xg_X7_10 (pc := 52) (v := .ref (ad 1)) E hw 0 rfl rfl dX7_feed_52 ?_
    refine lv_iload (pc := 55) E.1 E.2.1 dX7_feed_55 (lv_at hl 5 rfl) ?_
    obtain ⟨v12, g13, hf⟩ := x_bind hf
    refine x_callV (pc := 57) (As := [.int x5]) (rest := []) (st1 := []) (ws' := (cells7c G ad v12 (g7_book s) (g7_trial s) (g7_past s) (g7_ledger s) (g7_pen s) (g7_told s) (g7_ratesNow s))) E hw hl (c_X6_addFour l G (fun k => ad (k + 1)) v10 x5 g13) xv_X7_62 xd_X6_addFour rfl rfl ⟨Nat.le_of_ble_eq_true rfl, Nat.le_of_ble_eq_true rfl⟩ [1, 2] [0, 3, 4, 5, 6, 7, 8, 9, 10, 11, 12, 13, 14, 15, 16, 17, 18, 19, 20, 21, 22, 23, 24, 25, 26, 27, 28, 29, 30] (by decide) ⟨rfl, rfl, trivial⟩ (q0 := 1) rfl rfl rfl rfl (Nat.le_of_ble_eq_true rfl) (nw := 31) ⟨rfl, rfl, trivial⟩ ⟨⟨_, rfl, rfl⟩, ⟨_, rfl, rfl⟩, ⟨_, rfl, rfl⟩, ⟨_, rfl, rfl⟩, ⟨_, rfl, rfl⟩, ⟨_, rfl, rfl⟩, ⟨_, rfl, rfl⟩, ⟨_, rfl, rfl⟩, ⟨_, rfl, rfl⟩, ⟨_, rfl, rfl⟩, ⟨_, rfl, rfl⟩, ⟨_, rfl, rfl⟩, ⟨_, rfl, rfl⟩, ⟨_, rfl, rfl⟩, ⟨_, rfl, rfl⟩, ⟨_, rfl, rfl⟩, ⟨_, rfl, rfl⟩, ⟨_, rfl, rfl⟩, ⟨_, rfl, rfl⟩, ⟨_, rfl, rfl⟩, ⟨_, rfl, rfl⟩, ⟨_, rfl, rfl⟩, ⟨_, rfl, rfl⟩, ⟨_, rfl, rfl⟩, ⟨_, rfl, rfl⟩, ⟨_, rfl, rfl⟩, ⟨_, rfl, rfl⟩, ⟨_, rfl, rfl⟩, ⟨_, rfl, rfl⟩, trivial⟩ rfl rfl (by decide) (by decide) rfl dX7_feed_57 (fun H locs hw => ?_)
    refine lv_aload_n (pc := 60) E.1 E.2.1 dX7_feed_60 rfl (lv_at hl 0 rfl) ?_
    refine xg_X7_10 (pc := 61) (v := .ref (ad 1)) E hw 0 rfl rfl dX7_feed_61 ?_
    obtain ⟨v14, g15, hf⟩ := x_bind hf
    refine x_callV (pc := 64) (As := []) (rest := []) (st1 := [.int v14]) (ws' := (cells7c G ad v12 (g7_book s) (g7_trial s) (g7_past s) (g7_ledger s) (g7_pen s) (g7_told s) (g7_ratesNow s))) E hw hl (c_X6_size l G (fun k => ad (k + 1)) v12 g15) xv_X7_58 xd_X6_size rfl rfl ⟨Nat.le_of_ble_eq_true rfl, Nat.le_of_ble_eq_true rfl⟩ [1, 2] [0, 3, 4, 5, 6, 7, 8, 9, 10, 11, 12, 13, 14, 15, 16, 17, 18, 19, 20, 21, 22, 23, 24, 25, 26, 27, 28, 29, 30] (by decide) ⟨rfl, rfl, trivial⟩ (q0 := 1) rfl rfl rfl rfl (Nat.le_of_ble_eq_true rfl) (nw := 31) ⟨rfl, rfl, trivial⟩ ⟨⟨_, rfl, rfl⟩, ⟨_, rfl, rfl⟩, ⟨_, rfl, rfl⟩, ⟨_, rfl, rfl⟩, ⟨_, rfl, rfl⟩, ⟨_, rfl, rfl⟩, ⟨_, rfl, rfl⟩, ⟨_, rfl, rfl⟩, ⟨_, rfl, rfl⟩, ⟨_, rfl, rfl⟩, ⟨_, rfl, rfl⟩, ⟨_, rfl, rfl⟩, ⟨_, rfl, rfl⟩, ⟨_, rfl, rfl⟩, ⟨_, rfl, rfl⟩, ⟨_, rfl, rfl⟩, ⟨_, rfl, rfl⟩, ⟨_, rfl, rfl⟩, ⟨_, rfl, rfl⟩, ⟨_, rfl, rfl⟩, ⟨_, rfl, rfl⟩, ⟨_, rfl, rfl⟩, ⟨_, rfl, rfl⟩, ⟨_, rfl, rfl⟩, ⟨_, rfl, rfl⟩, ⟨_, rfl, rfl⟩, ⟨_, rfl, rfl⟩, ⟨_, rfl, rfl⟩, ⟨_, rfl, rfl⟩, trivial⟩ rfl rfl (by decide) (by decide) rfl dX7_feed_64 (fun H locs hw => ?_)
    obtain rfl := Option.some.inj hf
    exact x_reti (pc := 67) E hr hk hw dX7_feed_67
  · have hf := x_neg q3 hf
    refine lv_iconst (v := (-1)) (pc := 16) E.1 E.2.1 dX7_feed_16 (by decide) ?_
    obtain rfl := Option.some.inj hf
    exact x_reti (pc := 17) E hr hk hw dX7_feed_17
set_option maxHeartbeats 4000000 in
set_option maxRecDepth 100000 in
theorem c_X7_feed (l : Launch) (G : xG) (ad : Nat → Nat) (s : S7) (x1 : Int32) (x2 : Int32) (x3 : Int32) (x4 : Int32) (x5 : Int32) {z : Int32 × S7} (hf : f_X7_feed s x1 x2 x3 x4 x5 = some z) : xC l yX7_feed cX7_feed 6 (some .int) (rm_X7_feed) G [.ref (ad 0), .int x1, .int x2, .int x3, .int x4, .int x5] (cells7 G ad s) (some (.int z.1)) (cells7 G ad z.2) :=
  x_met (by decide) rfl (Nat.le_of_ble_eq_true rfl) (fun p e sS m below meth c E hr hk ls hl hw => w_X7_feed_p0 E hr hk s x1 x2 x3 x4 x5 z hw hl hf)
set_option maxHeartbeats 4000000 in
set_option maxRecDepth 100000 in
theorem w_X7_back_p0 {p : Program} {l : Launch} {e : Env} {sS : State} {m : MethodId} {args : Array Value} {below : List Frame} {meth : Method} {c : Code} {G : xG} {W0 : va_W} {ad : Nat → Nat}   (E : xE p sS m args c cX7_back 2 RX7 G (x_in W0)) (hr : meth.sig.returnType = (some .int)) (hk : meth.locks = false)  : ∀ (s' : S7) (x1' : Int32) (z : Int32 × S7) {H : Heap} {locs : List Loc} {ls : Array Slot}, xW G (x_in W0) sS.heap (cells7 G ad s') H locs → lv_has ls 2 [(0, .ref (ad 0)), (1, .int x1')] → f_X7_back  s' x1' = some z → W p l e (rm_X7_back) sS m args below meth c H locs 0 0 (MQ below (xQ G W0 (cells7 G ad z.2) (some (.int z.1))) args sS 0 0 (x_in W0)) (F0 m 0 ls []) := by
  intro s x1 z H locs ls hw hl hf
  unfold f_X7_back at hf
  refine lv_iload_n (pc := 0) E.1 E.2.1 dX7_back_0 rfl (lv_at hl 1 rfl) ?_
  refine lv_if_lt (tgt := 15) (pc := 1) E.1 E.2.1 dX7_back_1 (by decide) (fun q1 => ?_) (fun q1 => ?_)
  · have hf := x_pos q1 hf
    refine lv_iconst (v := (-1)) (pc := 15) E.1 E.2.1 dX7_back_15 (by decide) ?_
    obtain rfl := Option.some.inj hf
    exact x_reti (pc := 16) E hr hk hw dX7_back_16
  · have hf := x_neg q1 hf
    refine lv_iload_n (pc := 4) E.1 E.2.1 dX7_back_4 rfl (lv_at hl 1 rfl) ?_
    refine lv_aload_n (pc := 5) E.1 E.2.1 dX7_back_5 rfl (lv_at hl 0 rfl) ?_
    refine xg_X7_10 (pc := 6) (v := .ref (ad 1)) E hw 0 rfl rfl dX7_back_6 ?_
    obtain ⟨v2, g3, hf⟩ := x_bind hf
    refine x_callV (pc := 9) (As := []) (rest := [.int x1]) (st1 := [.int v2, .int x1]) (ws' := (cells7 G ad s)) E hw hl (c_X6_size l G (fun k => ad (k + 1)) (g7_tape s) g3) xv_X7_58 xd_X6_size rfl rfl ⟨Nat.le_of_ble_eq_true rfl, Nat.le_of_ble_eq_true rfl⟩ [1, 2] [0, 3, 4, 5, 6, 7, 8, 9, 10, 11, 12, 13, 14, 15, 16, 17, 18, 19, 20, 21, 22, 23, 24, 25, 26, 27, 28, 29, 30] (by decide) ⟨rfl, rfl, trivial⟩ (q0 := 1) rfl rfl rfl rfl (Nat.le_of_ble_eq_true rfl) (nw := 31) ⟨rfl, rfl, trivial⟩ ⟨⟨_, rfl, rfl⟩, ⟨_, rfl, rfl⟩, ⟨_, rfl, rfl⟩, ⟨_, rfl, rfl⟩, ⟨_, rfl, rfl⟩, ⟨_, rfl, rfl⟩, ⟨_, rfl, rfl⟩, ⟨_, rfl, rfl⟩, ⟨_, rfl, rfl⟩, ⟨_, rfl, rfl⟩, ⟨_, rfl, rfl⟩, ⟨_, rfl, rfl⟩, ⟨_, rfl, rfl⟩, ⟨_, rfl, rfl⟩, ⟨_, rfl, rfl⟩, ⟨_, rfl, rfl⟩, ⟨_, rfl, rfl⟩, ⟨_, rfl, rfl⟩, ⟨_, rfl, rfl⟩, ⟨_, rfl, rfl⟩, ⟨_, rfl, rfl⟩, ⟨_, rfl, rfl⟩, ⟨_, rfl, rfl⟩, ⟨_, rfl, rfl⟩, ⟨_, rfl, rfl⟩, ⟨_, rfl, rfl⟩, ⟨_, rfl, rfl⟩, ⟨_, rfl, rfl⟩, ⟨_, rfl, rfl⟩, trivial⟩ rfl rfl (by decide) (by decide) rfl dX7_back_9 (fun H locs hw => ?_)
    refine lv_icmp_le (tgt := 17) (pc := 12) E.1 E.2.1 dX7_back_12 (by decide) (fun q4 => ?_) (fun q4 => ?_)
    · have hf := x_pos q4 hf
      refine lv_aload_n (pc := 17) E.1 E.2.1 dX7_back_17 rfl (lv_at hl 0 rfl) ?_
      refine xg_X7_10 (pc := 18) (v := .ref (ad 1)) E hw 0 rfl rfl dX7_back_18 ?_
      refine lv_iload_n (pc := 21) E.1 E.2.1 dX7_back_21 rfl (lv_at hl 1 rfl) ?_
      obtain ⟨v5, g6, hf⟩ := x_bind hf
      refine x_callV (pc := 22) (As := [.int x1]) (rest := []) (st1 := []) (ws' := (cells7c G ad v5 (g7_book s) (g7_trial s) (g7_past s) (g7_ledger s) (g7_pen s) (g7_told s) (g7_ratesNow s))) E hw hl (c_X6_dropLast l G (fun k => ad (k + 1)) (g7_tape s) x1 g6) xv_X7_66 xd_X6_dropLast rfl rfl ⟨Nat.le_of_ble_eq_true rfl, Nat.le_of_ble_eq_true rfl⟩ [1, 2] [0, 3, 4, 5, 6, 7, 8, 9, 10, 11, 12, 13, 14, 15, 16, 17, 18, 19, 20, 21, 22, 23, 24, 25, 26, 27, 28, 29, 30] (by decide) ⟨rfl, rfl, trivial⟩ (q0 := 1) rfl rfl rfl rfl (Nat.le_of_ble_eq_true rfl) (nw := 31) ⟨rfl, rfl, trivial⟩ ⟨⟨_, rfl, rfl⟩, ⟨_, rfl, rfl⟩, ⟨_, rfl, rfl⟩, ⟨_, rfl, rfl⟩, ⟨_, rfl, rfl⟩, ⟨_, rfl, rfl⟩, ⟨_, rfl, rfl⟩, ⟨_, rfl, rfl⟩, ⟨_, rfl, rfl⟩, ⟨_, rfl, rfl⟩, ⟨_, rfl, rfl⟩, ⟨_, rfl, rfl⟩, ⟨_, rfl, rfl⟩, ⟨_, rfl, rfl⟩, ⟨_, rfl, rfl⟩, ⟨_, rfl, rfl⟩, ⟨_, rfl, rfl⟩, ⟨_, rfl, rfl⟩, ⟨_, rfl, rfl⟩, ⟨_, rfl, rfl⟩, ⟨_, rfl, rfl⟩, ⟨_, rfl, rfl⟩, ⟨_, rfl, rfl⟩, ⟨_, rfl, rfl⟩, ⟨_, rfl, rfl⟩, ⟨_, rfl, rfl⟩, ⟨_, rfl, rfl⟩, ⟨_, rfl, rfl⟩, ⟨_, rfl, rfl⟩, trivial⟩ rfl rfl (by decide) (by decide) rfl dX7_back_22 (fun H locs hw => ?_)
      refine lv_aload_n (pc := 25) E.1 E.2.1 dX7_back_25 rfl (lv_at hl 0 rfl) ?_
      refine xg_X7_10 (pc := 26) (v := .ref (ad 1)) E hw 0 rfl rfl dX7_back_26 ?_
      obtain ⟨v7, g8, hf⟩ := x_bind hf
      refine x_callV (pc := 29) (As := []) (rest := []) (st1 := [.int v7]) (ws' := (cells7c G ad v5 (g7_book s) (g7_trial s) (g7_past s) (g7_ledger s) (g7_pen s) (g7_told s) (g7_ratesNow s))) E hw hl (c_X6_size l G (fun k => ad (k + 1)) v5 g8) xv_X7_58 xd_X6_size rfl rfl ⟨Nat.le_of_ble_eq_true rfl, Nat.le_of_ble_eq_true rfl⟩ [1, 2] [0, 3, 4, 5, 6, 7, 8, 9, 10, 11, 12, 13, 14, 15, 16, 17, 18, 19, 20, 21, 22, 23, 24, 25, 26, 27, 28, 29, 30] (by decide) ⟨rfl, rfl, trivial⟩ (q0 := 1) rfl rfl rfl rfl (Nat.le_of_ble_eq_true rfl) (nw := 31) ⟨rfl, rfl, trivial⟩ ⟨⟨_, rfl, rfl⟩, ⟨_, rfl, rfl⟩, ⟨_, rfl, rfl⟩, ⟨_, rfl, rfl⟩, ⟨_, rfl, rfl⟩, ⟨_, rfl, rfl⟩, ⟨_, rfl, rfl⟩, ⟨_, rfl, rfl⟩, ⟨_, rfl, rfl⟩, ⟨_, rfl, rfl⟩, ⟨_, rfl, rfl⟩, ⟨_, rfl, rfl⟩, ⟨_, rfl, rfl⟩, ⟨_, rfl, rfl⟩, ⟨_, rfl, rfl⟩, ⟨_, rfl, rfl⟩, ⟨_, rfl, rfl⟩, ⟨_, rfl, rfl⟩, ⟨_, rfl, rfl⟩, ⟨_, rfl, rfl⟩, ⟨_, rfl, rfl⟩, ⟨_, rfl, rfl⟩, ⟨_, rfl, rfl⟩, ⟨_, rfl, rfl⟩, ⟨_, rfl, rfl⟩, ⟨_, rfl, rfl⟩, ⟨_, rfl, rfl⟩, ⟨_, rfl, rfl⟩, ⟨_, rfl, rfl⟩, trivial⟩ rfl rfl (by decide) (by decide) rfl dX7_back_29 (fun H locs hw => ?_)
      obtain rfl := Option.some.inj hf
      exact x_reti (pc := 32) E hr hk hw dX7_back_32
    · have hf := x_neg q4 hf
      refine lv_iconst (v := (-1)) (pc := 15) E.1 E.2.1 dX7_back_15 (by decide) ?_
      obtain rfl := Option.some.inj hf
      exact x_reti (pc := 16) E hr hk hw dX7_back_16
set_option maxHeartbeats 4000000 in
set_option maxRecDepth 100000 in
theorem c_X7_back (l : Launch) (G : xG) (ad : Nat → Nat) (s : S7) (x1 : Int32) {z : Int32 × S7} (hf : f_X7_back s x1 = some z) : xC l yX7_back cX7_back 2 (some .int) (rm_X7_back) G [.ref (ad 0), .int x1] (cells7 G ad s) (some (.int z.1)) (cells7 G ad z.2) :=
  x_met (by decide) rfl (Nat.le_of_ble_eq_true rfl) (fun p e sS m below meth c E hr hk ls hl hw => w_X7_back_p0 E hr hk s x1 z hw hl hf)
set_option maxHeartbeats 4000000 in
set_option maxRecDepth 100000 in
theorem w_X7_text_p0 {p : Program} {l : Launch} {e : Env} {sS : State} {m : MethodId} {args : Array Value} {below : List Frame} {meth : Method} {c : Code} {G : xG} {W0 : va_W} {ad : Nat → Nat}   (E : xE p sS m args c cX7_text 2 RX7 G (x_in W0)) (hr : meth.sig.returnType = (some .int)) (hk : meth.locks = false)  : ∀ (s' : S7) (z : Int32 × S7) {H : Heap} {locs : List Loc} {ls : Array Slot}, xW G (x_in W0) sS.heap (cells7 G ad s') H locs → lv_has ls 2 [(0, .ref (ad 0))] → f_X7_text  s' = some z → W p l e (rm_X7_text) sS m args below meth c H locs 0 0 (MQ below (xQ G W0 (cells7 G ad z.2) (some (.int z.1))) args sS 0 0 (x_in W0)) (F0 m 0 ls []) := by
  intro s z H locs ls hw hl hf
  unfold f_X7_text at hf
  refine lv_aload_n (pc := 0) E.1 E.2.1 dX7_text_0 rfl (lv_at hl 0 rfl) ?_
  refine xg_X7_10 (pc := 1) (v := .ref (ad 1)) E hw 0 rfl rfl dX7_text_1 ?_
  refine lv_aload_n (pc := 4) E.1 E.2.1 dX7_text_4 rfl (lv_at hl 0 rfl) ?_
  refine xg_X7_23 (pc := 5) (v := .ref (ad 7)) E hw 0 rfl rfl dX7_text_5 ?_
  obtain ⟨v1, g2, hf⟩ := x_bind hf
  refine x_callV (pc := 8) (As := [.ref (ad 7)]) (rest := []) (st1 := [.int v1.1]) (ws' := (cells7c G ad v1.2.1 (g7_book s) v1.2.2 (g7_past s) (g7_ledger s) (g7_pen s) (g7_told s) (g7_ratesNow s))) E hw hl (c_X6_readInto l G (fun k => ad (k + 1)) (fun k => ad (k + 7)) (g7_tape s) (g7_trial s) g2) xv_X7_69 xd_X6_readInto rfl rfl ⟨Nat.le_of_ble_eq_true rfl, Nat.le_of_ble_eq_true rfl⟩ [1, 2, 7, 8, 9, 10] [0, 3, 4, 5, 6, 11, 12, 13, 14, 15, 16, 17, 18, 19, 20, 21, 22, 23, 24, 25, 26, 27, 28, 29, 30] (by decide) ⟨rfl, rfl, rfl, rfl, rfl, rfl, trivial⟩ (q0 := 1) rfl rfl rfl rfl (Nat.le_of_ble_eq_true rfl) (nw := 31) ⟨rfl, rfl, rfl, rfl, rfl, rfl, trivial⟩ ⟨⟨_, rfl, rfl⟩, ⟨_, rfl, rfl⟩, ⟨_, rfl, rfl⟩, ⟨_, rfl, rfl⟩, ⟨_, rfl, rfl⟩, ⟨_, rfl, rfl⟩, ⟨_, rfl, rfl⟩, ⟨_, rfl, rfl⟩, ⟨_, rfl, rfl⟩, ⟨_, rfl, rfl⟩, ⟨_, rfl, rfl⟩, ⟨_, rfl, rfl⟩, ⟨_, rfl, rfl⟩, ⟨_, rfl, rfl⟩, ⟨_, rfl, rfl⟩, ⟨_, rfl, rfl⟩, ⟨_, rfl, rfl⟩, ⟨_, rfl, rfl⟩, ⟨_, rfl, rfl⟩, ⟨_, rfl, rfl⟩, ⟨_, rfl, rfl⟩, ⟨_, rfl, rfl⟩, ⟨_, rfl, rfl⟩, ⟨_, rfl, rfl⟩, ⟨_, rfl, rfl⟩, trivial⟩ rfl rfl (by decide) (by decide) rfl dX7_text_8 (fun H locs hw => ?_)
  refine lv_istore_n (lv' := [(1, .int v1.1), (0, .ref (ad 0))]) (pc := 11) E.1 E.2.1 dX7_text_11 rfl hl (by decide) rfl (fun ls hl => ?_)
  refine lv_aload_n (pc := 12) E.1 E.2.1 dX7_text_12 rfl (lv_at hl 1 rfl) ?_
  refine xg_X7_10 (pc := 13) (v := .ref (ad 1)) E hw 0 rfl rfl dX7_text_13 ?_
  refine lv_aload_n (pc := 16) E.1 E.2.1 dX7_text_16 rfl (lv_at hl 1 rfl) ?_
  refine xg_X7_10 (pc := 17) (v := .ref (ad 1)) E hw 0 rfl rfl dX7_text_17 ?_
  obtain ⟨v3, g4, hf⟩ := x_bind hf
  refine x_callV (pc := 20) (As := []) (rest := [.ref (ad 1)]) (st1 := [.int v3, .ref (ad 1)]) (ws' := (cells7c G ad v1.2.1 (g7_book s) v1.2.2 (g7_past s) (g7_ledger s) (g7_pen s) (g7_told s) (g7_ratesNow s))) E hw hl (c_X6_size l G (fun k => ad (k + 1)) v1.2.1 g4) xv_X7_58 xd_X6_size rfl rfl ⟨Nat.le_of_ble_eq_true rfl, Nat.le_of_ble_eq_true rfl⟩ [1, 2] [0, 3, 4, 5, 6, 7, 8, 9, 10, 11, 12, 13, 14, 15, 16, 17, 18, 19, 20, 21, 22, 23, 24, 25, 26, 27, 28, 29, 30] (by decide) ⟨rfl, rfl, trivial⟩ (q0 := 1) rfl rfl rfl rfl (Nat.le_of_ble_eq_true rfl) (nw := 31) ⟨rfl, rfl, trivial⟩ ⟨⟨_, rfl, rfl⟩, ⟨_, rfl, rfl⟩, ⟨_, rfl, rfl⟩, ⟨_, rfl, rfl⟩, ⟨_, rfl, rfl⟩, ⟨_, rfl, rfl⟩, ⟨_, rfl, rfl⟩, ⟨_, rfl, rfl⟩, ⟨_, rfl, rfl⟩, ⟨_, rfl, rfl⟩, ⟨_, rfl, rfl⟩, ⟨_, rfl, rfl⟩, ⟨_, rfl, rfl⟩, ⟨_, rfl, rfl⟩, ⟨_, rfl, rfl⟩, ⟨_, rfl, rfl⟩, ⟨_, rfl, rfl⟩, ⟨_, rfl, rfl⟩, ⟨_, rfl, rfl⟩, ⟨_, rfl, rfl⟩, ⟨_, rfl, rfl⟩, ⟨_, rfl, rfl⟩, ⟨_, rfl, rfl⟩, ⟨_, rfl, rfl⟩, ⟨_, rfl, rfl⟩, ⟨_, rfl, rfl⟩, ⟨_, rfl, rfl⟩, ⟨_, rfl, rfl⟩, ⟨_, rfl, rfl⟩, trivial⟩ rfl rfl (by decide) (by decide) rfl dX7_text_20 (fun H locs hw => ?_)
  obtain ⟨v5, g6, hf⟩ := x_bind hf
  refine x_callV (pc := 23) (As := [.int v3]) (rest := []) (st1 := []) (ws' := (cells7c G ad v5 (g7_book s) v1.2.2 (g7_past s) (g7_ledger s) (g7_pen s) (g7_told s) (g7_ratesNow s))) E hw hl (c_X6_dropLast l G (fun k => ad (k + 1)) v1.2.1 v3 g6) xv_X7_66 xd_X6_dropLast rfl rfl ⟨Nat.le_of_ble_eq_true rfl, Nat.le_of_ble_eq_true rfl⟩ [1, 2] [0, 3, 4, 5, 6, 7, 8, 9, 10, 11, 12, 13, 14, 15, 16, 17, 18, 19, 20, 21, 22, 23, 24, 25, 26, 27, 28, 29, 30] (by decide) ⟨rfl, rfl, trivial⟩ (q0 := 1) rfl rfl rfl rfl (Nat.le_of_ble_eq_true rfl) (nw := 31) ⟨rfl, rfl, trivial⟩ ⟨⟨_, rfl, rfl⟩, ⟨_, rfl, rfl⟩, ⟨_, rfl, rfl⟩, ⟨_, rfl, rfl⟩, ⟨_, rfl, rfl⟩, ⟨_, rfl, rfl⟩, ⟨_, rfl, rfl⟩, ⟨_, rfl, rfl⟩, ⟨_, rfl, rfl⟩, ⟨_, rfl, rfl⟩, ⟨_, rfl, rfl⟩, ⟨_, rfl, rfl⟩, ⟨_, rfl, rfl⟩, ⟨_, rfl, rfl⟩, ⟨_, rfl, rfl⟩, ⟨_, rfl, rfl⟩, ⟨_, rfl, rfl⟩, ⟨_, rfl, rfl⟩, ⟨_, rfl, rfl⟩, ⟨_, rfl, rfl⟩, ⟨_, rfl, rfl⟩, ⟨_, rfl, rfl⟩, ⟨_, rfl, rfl⟩, ⟨_, rfl, rfl⟩, ⟨_, rfl, rfl⟩, ⟨_, rfl, rfl⟩, ⟨_, rfl, rfl⟩, ⟨_, rfl, rfl⟩, ⟨_, rfl, rfl⟩, trivial⟩ rfl rfl (by decide) (by decide) rfl dX7_text_23 (fun H locs hw => ?_)
  refine lv_iload_n (pc := 26) E.1 E.2.1 dX7_text_26 rfl (lv_at hl 0 rfl) ?_
  refine lv_iconst (v := (-1)) (pc := 27) E.1 E.2.1 dX7_text_27 (by decide) ?_
  refine lv_icmp_eq (tgt := 36) (pc := 28) E.1 E.2.1 dX7_text_28 (by decide) (fun q7 => ?_) (fun q7 => ?_)
  · have hf := x_pos q7 hf
    refine lv_aload_n (pc := 36) E.1 E.2.1 dX7_text_36 rfl (lv_at hl 1 rfl) ?_
    refine xg_X7_19 (pc := 37) (v := .ref (ad 3)) E hw 0 rfl rfl dX7_text_37 ?_
    refine lv_aload_n (pc := 40) E.1 E.2.1 dX7_text_40 rfl (lv_at hl 1 rfl) ?_
    refine xg_X7_23 (pc := 41) (v := .ref (ad 7)) E hw 0 rfl rfl dX7_text_41 ?_
    obtain ⟨v8, g9, hf⟩ := x_bind hf
    refine x_callV (pc := 44) (As := [.ref (ad 7)]) (rest := []) (st1 := []) (ws' := (cells7c G ad v5 v8 v1.2.2 (g7_past s) (g7_ledger s) (g7_pen s) (g7_told s) (g7_ratesNow s))) E hw hl (c_X0_copyFrom l G (fun k => ad (k + 3)) (fun k => ad (k + 7)) (g7_book s) v1.2.2 g9) xv_X7_73 xd_X0_copyFrom rfl rfl ⟨Nat.le_of_ble_eq_true rfl, Nat.le_of_ble_eq_true rfl⟩ [3, 4, 5, 6, 7, 8, 9, 10] [0, 1, 2, 11, 12, 13, 14, 15, 16, 17, 18, 19, 20, 21, 22, 23, 24, 25, 26, 27, 28, 29, 30] (by decide) ⟨rfl, rfl, rfl, rfl, rfl, rfl, rfl, rfl, trivial⟩ (q0 := 3) rfl rfl rfl rfl (Nat.le_of_ble_eq_true rfl) (nw := 31) ⟨rfl, rfl, rfl, rfl, rfl, rfl, rfl, rfl, trivial⟩ ⟨⟨_, rfl, rfl⟩, ⟨_, rfl, rfl⟩, ⟨_, rfl, rfl⟩, ⟨_, rfl, rfl⟩, ⟨_, rfl, rfl⟩, ⟨_, rfl, rfl⟩, ⟨_, rfl, rfl⟩, ⟨_, rfl, rfl⟩, ⟨_, rfl, rfl⟩, ⟨_, rfl, rfl⟩, ⟨_, rfl, rfl⟩, ⟨_, rfl, rfl⟩, ⟨_, rfl, rfl⟩, ⟨_, rfl, rfl⟩, ⟨_, rfl, rfl⟩, ⟨_, rfl, rfl⟩, ⟨_, rfl, rfl⟩, ⟨_, rfl, rfl⟩, ⟨_, rfl, rfl⟩, ⟨_, rfl, rfl⟩, ⟨_, rfl, rfl⟩, ⟨_, rfl, rfl⟩, ⟨_, rfl, rfl⟩, trivial⟩ rfl rfl (by decide) (by decide) rfl dX7_text_44 (fun H locs hw => ?_)
    refine lv_aload_n (pc := 47) E.1 E.2.1 dX7_text_47 rfl (lv_at hl 1 rfl) ?_
    refine xg_X7_29 (pc := 48) (v := .ref (ad 11)) E hw 0 rfl rfl dX7_text_48 ?_
    obtain ⟨v10, g11, hf⟩ := x_bind hf
    refine x_callV (pc := 51) (As := []) (rest := []) (st1 := []) (ws' := (cells7c G ad v5 v8 v1.2.2 v10 (g7_ledger s) (g7_pen s) (g7_told s) (g7_ratesNow s))) E hw hl (c_X2_empty l G (fun k => ad (k + 11)) (g7_past s) g11) xv_X7_77 xd_X2_empty rfl rfl ⟨Nat.le_of_ble_eq_true rfl, Nat.le_of_ble_eq_true rfl⟩ [11, 12] [0, 1, 2, 3, 4, 5, 6, 7, 8, 9, 10, 13, 14, 15, 16, 17, 18, 19, 20, 21, 22, 23, 24, 25, 26, 27, 28, 29, 30] (by decide) ⟨rfl, rfl, trivial⟩ (q0 := 11) rfl rfl rfl rfl (Nat.le_of_ble_eq_true rfl) (nw := 31) ⟨rfl, rfl, trivial⟩ ⟨⟨_, rfl, rfl⟩, ⟨_, rfl, rfl⟩, ⟨_, rfl, rfl⟩, ⟨_, rfl, rfl⟩, ⟨_, rfl, rfl⟩, ⟨_, rfl, rfl⟩, ⟨_, rfl, rfl⟩, ⟨_, rfl, rfl⟩, ⟨_, rfl, rfl⟩, ⟨_, rfl, rfl⟩, ⟨_, rfl, rfl⟩, ⟨_, rfl, rfl⟩, ⟨_, rfl, rfl⟩, ⟨_, rfl, rfl⟩, ⟨_, rfl, rfl⟩, ⟨_, rfl, rfl⟩, ⟨_, rfl, rfl⟩, ⟨_, rfl, rfl⟩, ⟨_, rfl, rfl⟩, ⟨_, rfl, rfl⟩, ⟨_, rfl, rfl⟩, ⟨_, rfl, rfl⟩, ⟨_, rfl, rfl⟩, ⟨_, rfl, rfl⟩, ⟨_, rfl, rfl⟩, ⟨_, rfl, rfl⟩, ⟨_, rfl, rfl⟩, ⟨_, rfl, rfl⟩, ⟨_, rfl, rfl⟩, trivial⟩ rfl rfl (by decide) (by decide) rfl dX7_text_51 (fun H locs hw => ?_)
    refine lv_aload_n (pc := 54) E.1 E.2.1 dX7_text_54 rfl (lv_at hl 1 rfl) ?_
    refine xg_X7_19 (pc := 55) (v := .ref (ad 3)) E hw 0 rfl rfl dX7_text_55 ?_
    refine xg_X7_80 (pc := 58) (v := .int (g0_fleets v8)) E hw 3 rfl rfl dX7_text_58 ?_
    obtain rfl := Option.some.inj hf
    exact x_reti (pc := 61) E hr hk hw dX7_text_61
  · have hf := x_neg q7 hf
    refine lv_bipush (v := (-4)) (pc := 31) E.1 E.2.1 dX7_text_31 (by decide) ?_
    refine lv_iload_n (pc := 33) E.1 E.2.1 dX7_text_33 rfl (lv_at hl 0 rfl) ?_
    refine lv_isub (pc := 34) E.1 E.2.1 dX7_text_34 ?_
    obtain rfl := Option.some.inj hf
    exact x_reti (pc := 35) E hr hk hw dX7_text_35
set_option maxHeartbeats 4000000 in
set_option maxRecDepth 100000 in
theorem c_X7_text (l : Launch) (G : xG) (ad : Nat → Nat) (s : S7) {z : Int32 × S7} (hf : f_X7_text s = some z) : xC l yX7_text cX7_text 2 (some .int) (rm_X7_text) G [.ref (ad 0)] (cells7 G ad s) (some (.int z.1)) (cells7 G ad z.2) :=
  x_met (by decide) rfl (Nat.le_of_ble_eq_true rfl) (fun p e sS m below meth c E hr hk ls hl hw => w_X7_text_p0 E hr hk s z hw hl hf)
set_option maxHeartbeats 4000000 in
set_option maxRecDepth 100000 in
theorem w_X7_fleet_p0 {p : Program} {l : Launch} {e : Env} {sS : State} {m : MethodId} {args : Array Value} {below : List Frame} {meth : Method} {c : Code} {G : xG} {W0 : va_W} {ad : Nat → Nat}   (E : xE p sS m args c cX7_fleet 3 RX7 G (x_in W0)) (hr : meth.sig.returnType = (some .int)) (hk : meth.locks = false)  : ∀ (s' : S7) (x1' : Int32) (x2' : Int32) (z : Int32 × S7) {H : Heap} {locs : List Loc} {ls : Array Slot}, xW G (x_in W0) sS.heap (cells7 G ad s') H locs → lv_has ls 3 [(0, .ref (ad 0)), (1, .int x1'), (2, .int x2')] → f_X7_fleet  s' x1' x2' = some z → W p l e (rm_X7_fleet) sS m args below meth c H locs 0 0 (MQ below (xQ G W0 (cells7 G ad z.2) (some (.int z.1))) args sS 0 0 (x_in W0)) (F0 m 0 ls []) := by
  intro s x1 x2 z H locs ls hw hl hf
  unfold f_X7_fleet at hf
  refine lv_iload_n (pc := 0) E.1 E.2.1 dX7_fleet_0 rfl (lv_at hl 1 rfl) ?_
  obtain ⟨v1, g2, hf⟩ := x_bind hf
  refine x_callS0 (pc := 1) (As := [.int x1]) (rest := []) (st1 := [.int v1]) E hw hl (c_X7_isClass l G  x1 g2) xs_X7_84 xd_X7_isClass rfl rfl ⟨Nat.le_of_ble_eq_true rfl, Nat.le_of_ble_eq_true rfl⟩ rfl rfl (Nat.le_of_ble_eq_true rfl) rfl dX7_fleet_1 (fun H locs hw => ?_)
  refine lv_if_eq (tgt := 29) (pc := 4) E.1 E.2.1 dX7_fleet_4 (by decide) (fun q3 => ?_) (fun q3 => ?_)
  · have hf := x_pos q3 hf
    refine lv_iconst (v := (-1)) (pc := 29) E.1 E.2.1 dX7_fleet_29 (by decide) ?_
    obtain rfl := Option.some.inj hf
    exact x_reti (pc := 30) E hr hk hw dX7_fleet_30
  · have hf := x_neg q3 hf
    refine lv_iload_n (pc := 7) E.1 E.2.1 dX7_fleet_7 rfl (lv_at hl 2 rfl) ?_
    refine lv_if_lt (tgt := 29) (pc := 8) E.1 E.2.1 dX7_fleet_8 (by decide) (fun q4 => ?_) (fun q4 => ?_)
    · have hf := x_pos q4 hf
      refine lv_iconst (v := (-1)) (pc := 29) E.1 E.2.1 dX7_fleet_29 (by decide) ?_
      obtain rfl := Option.some.inj hf
      exact x_reti (pc := 30) E hr hk hw dX7_fleet_30
    · have hf := x_neg q4 hf
      refine lv_iload_n (pc := 11) E.1 E.2.1 dX7_fleet_11 rfl (lv_at hl 2 rfl) ?_
      refine lv_bipush (v := 31) (pc := 12) E.1 E.2.1 dX7_fleet_12 (by decide) ?_
      refine lv_icmp_gt (tgt := 29) (pc := 14) E.1 E.2.1 dX7_fleet_14 (by decide) (fun q5 => ?_) (fun q5 => ?_)
      · have hf := x_pos q5 hf
        refine lv_iconst (v := (-1)) (pc := 29) E.1 E.2.1 dX7_fleet_29 (by decide) ?_
        obtain rfl := Option.some.inj hf
        exact x_reti (pc := 30) E hr hk hw dX7_fleet_30
      · have hf := x_neg q5 hf
        refine lv_aload_n (pc := 17) E.1 E.2.1 dX7_fleet_17 rfl (lv_at hl 0 rfl) ?_
        refine xg_X7_19 (pc := 18) (v := .ref (ad 3)) E hw 0 rfl rfl dX7_fleet_18 ?_
        refine xg_X7_80 (pc := 21) (v := .int (g0_fleets (g7_book s))) E hw 3 rfl rfl dX7_fleet_21 ?_
        refine lv_bipush (v := 8) (pc := 24) E.1 E.2.1 dX7_fleet_24 (by decide) ?_
        refine lv_icmp_lt (tgt := 31) (pc := 26) E.1 E.2.1 dX7_fleet_26 (by decide) (fun q6 => ?_) (fun q6 => ?_)
        · have hf := x_pos q6 hf
          refine lv_aload_n (pc := 31) E.1 E.2.1 dX7_fleet_31 rfl (lv_at hl 0 rfl) ?_
          refine xg_X7_29 (pc := 32) (v := .ref (ad 11)) E hw 0 rfl rfl dX7_fleet_32 ?_
          refine lv_aload_n (pc := 35) E.1 E.2.1 dX7_fleet_35 rfl (lv_at hl 0 rfl) ?_
          refine xg_X7_19 (pc := 36) (v := .ref (ad 3)) E hw 0 rfl rfl dX7_fleet_36 ?_
          obtain ⟨v7, g8, hf⟩ := x_bind hf
          refine x_callV (pc := 39) (As := [.ref (ad 3)]) (rest := []) (st1 := []) (ws' := (cells7c G ad (g7_tape s) (g7_book s) (g7_trial s) v7 (g7_ledger s) (g7_pen s) (g7_told s) (g7_ratesNow s))) E hw hl (c_X2_keep l G (fun k => ad (k + 11)) (fun k => ad (k + 3)) (g7_past s) (g7_book s) g8) xv_X7_88 xd_X2_keep rfl rfl ⟨Nat.le_of_ble_eq_true rfl, Nat.le_of_ble_eq_true rfl⟩ [11, 12, 3, 4, 5, 6] [0, 1, 2, 7, 8, 9, 10, 13, 14, 15, 16, 17, 18, 19, 20, 21, 22, 23, 24, 25, 26, 27, 28, 29, 30] (by decide) ⟨rfl, rfl, rfl, rfl, rfl, rfl, trivial⟩ (q0 := 11) rfl rfl rfl rfl (Nat.le_of_ble_eq_true rfl) (nw := 31) ⟨rfl, rfl, rfl, rfl, rfl, rfl, trivial⟩ ⟨⟨_, rfl, rfl⟩, ⟨_, rfl, rfl⟩, ⟨_, rfl, rfl⟩, ⟨_, rfl, rfl⟩, ⟨_, rfl, rfl⟩, ⟨_, rfl, rfl⟩, ⟨_, rfl, rfl⟩, ⟨_, rfl, rfl⟩, ⟨_, rfl, rfl⟩, ⟨_, rfl, rfl⟩, ⟨_, rfl, rfl⟩, ⟨_, rfl, rfl⟩, ⟨_, rfl, rfl⟩, ⟨_, rfl, rfl⟩, ⟨_, rfl, rfl⟩, ⟨_, rfl, rfl⟩, ⟨_, rfl, rfl⟩, ⟨_, rfl, rfl⟩, ⟨_, rfl, rfl⟩, ⟨_, rfl, rfl⟩, ⟨_, rfl, rfl⟩, ⟨_, rfl, rfl⟩, ⟨_, rfl, rfl⟩, ⟨_, rfl, rfl⟩, ⟨_, rfl, rfl⟩, trivial⟩ rfl rfl (by decide) (by decide) rfl dX7_fleet_39 (fun H locs hw => ?_)
          refine lv_aload_n (pc := 42) E.1 E.2.1 dX7_fleet_42 rfl (lv_at hl 0 rfl) ?_
          refine xg_X7_19 (pc := 43) (v := .ref (ad 3)) E hw 0 rfl rfl dX7_fleet_43 ?_
          refine lv_iload_n (pc := 46) E.1 E.2.1 dX7_fleet_46 rfl (lv_at hl 1 rfl) ?_
          refine lv_iload_n (pc := 47) E.1 E.2.1 dX7_fleet_47 rfl (lv_at hl 2 rfl) ?_
          obtain ⟨v9, g10, hf⟩ := x_bind hf
          refine x_callV (pc := 48) (As := [.int x1, .int x2]) (rest := []) (st1 := [.int v9.1]) (ws' := (cells7c G ad (g7_tape s) v9.2 (g7_trial s) v7 (g7_ledger s) (g7_pen s) (g7_told s) (g7_ratesNow s))) E hw hl (c_X0_addFleet l G (fun k => ad (k + 3)) (g7_book s) x1 x2 g10) xv_X7_91 xd_X0_addFleet rfl rfl ⟨Nat.le_of_ble_eq_true rfl, Nat.le_of_ble_eq_true rfl⟩ [3, 4, 5, 6] [0, 1, 2, 7, 8, 9, 10, 11, 12, 13, 14, 15, 16, 17, 18, 19, 20, 21, 22, 23, 24, 25, 26, 27, 28, 29, 30] (by decide) ⟨rfl, rfl, rfl, rfl, trivial⟩ (q0 := 3) rfl rfl rfl rfl (Nat.le_of_ble_eq_true rfl) (nw := 31) ⟨rfl, rfl, rfl, rfl, trivial⟩ ⟨⟨_, rfl, rfl⟩, ⟨_, rfl, rfl⟩, ⟨_, rfl, rfl⟩, ⟨_, rfl, rfl⟩, ⟨_, rfl, rfl⟩, ⟨_, rfl, rfl⟩, ⟨_, rfl, rfl⟩, ⟨_, rfl, rfl⟩, ⟨_, rfl, rfl⟩, ⟨_, rfl, rfl⟩, ⟨_, rfl, rfl⟩, ⟨_, rfl, rfl⟩, ⟨_, rfl, rfl⟩, ⟨_, rfl, rfl⟩, ⟨_, rfl, rfl⟩, ⟨_, rfl, rfl⟩, ⟨_, rfl, rfl⟩, ⟨_, rfl, rfl⟩, ⟨_, rfl, rfl⟩, ⟨_, rfl, rfl⟩, ⟨_, rfl, rfl⟩, ⟨_, rfl, rfl⟩, ⟨_, rfl, rfl⟩, ⟨_, rfl, rfl⟩, ⟨_, rfl, rfl⟩, ⟨_, rfl, rfl⟩, ⟨_, rfl, rfl⟩, trivial⟩ rfl rfl (by decide) (by decide) rfl dX7_fleet_48 (fun H locs hw => ?_)
          obtain rfl := Option.some.inj hf
          exact x_reti (pc := 51) E hr hk hw dX7_fleet_51
        · have hf := x_neg q6 hf
          refine lv_iconst (v := (-1)) (pc := 29) E.1 E.2.1 dX7_fleet_29 (by decide) ?_
          obtain rfl := Option.some.inj hf
          exact x_reti (pc := 30) E hr hk hw dX7_fleet_30
set_option maxHeartbeats 4000000 in
set_option maxRecDepth 100000 in
theorem c_X7_fleet (l : Launch) (G : xG) (ad : Nat → Nat) (s : S7) (x1 : Int32) (x2 : Int32) {z : Int32 × S7} (hf : f_X7_fleet s x1 x2 = some z) : xC l yX7_fleet cX7_fleet 3 (some .int) (rm_X7_fleet) G [.ref (ad 0), .int x1, .int x2] (cells7 G ad s) (some (.int z.1)) (cells7 G ad z.2) :=
  x_met (by decide) rfl (Nat.le_of_ble_eq_true rfl) (fun p e sS m below meth c E hr hk ls hl hw => w_X7_fleet_p0 E hr hk s x1 x2 z hw hl hf)
set_option maxHeartbeats 4000000 in
set_option maxRecDepth 100000 in
theorem w_X7_leave_p0 {p : Program} {l : Launch} {e : Env} {sS : State} {m : MethodId} {args : Array Value} {below : List Frame} {meth : Method} {c : Code} {G : xG} {W0 : va_W} {ad : Nat → Nat}   (E : xE p sS m args c cX7_leave 2 RX7 G (x_in W0)) (hr : meth.sig.returnType = (some .boolean)) (hk : meth.locks = false)  : ∀ (s' : S7) (x1' : Int32) (z : Int32 × S7) {H : Heap} {locs : List Loc} {ls : Array Slot}, xW G (x_in W0) sS.heap (cells7 G ad s') H locs → lv_has ls 2 [(0, .ref (ad 0)), (1, .int x1')] → f_X7_leave  s' x1' = some z → W p l e (rm_X7_leave) sS m args below meth c H locs 0 0 (MQ below (xQ G W0 (cells7 G ad z.2) (some (.int z.1))) args sS 0 0 (x_in W0)) (F0 m 0 ls []) := by
  intro s x1 z H locs ls hw hl hf
  unfold f_X7_leave at hf
  refine lv_aload_n (pc := 0) E.1 E.2.1 dX7_leave_0 rfl (lv_at hl 0 rfl) ?_
  refine xg_X7_19 (pc := 1) (v := .ref (ad 3)) E hw 0 rfl rfl dX7_leave_1 ?_
  refine lv_iload_n (pc := 4) E.1 E.2.1 dX7_leave_4 rfl (lv_at hl 1 rfl) ?_
  obtain ⟨v1, g2, hf⟩ := x_bind hf
  refine x_callV (pc := 5) (As := [.int x1]) (rest := []) (st1 := [.int v1]) (ws' := (cells7 G ad s)) E hw hl (c_X0_hasFleet l G (fun k => ad (k + 3)) (g7_book s) x1 g2) xv_X7_95 xd_X0_hasFleet rfl rfl ⟨Nat.le_of_ble_eq_true rfl, Nat.le_of_ble_eq_true rfl⟩ [3, 4, 5, 6] [0, 1, 2, 7, 8, 9, 10, 11, 12, 13, 14, 15, 16, 17, 18, 19, 20, 21, 22, 23, 24, 25, 26, 27, 28, 29, 30] (by decide) ⟨rfl, rfl, rfl, rfl, trivial⟩ (q0 := 3) rfl rfl rfl rfl (Nat.le_of_ble_eq_true rfl) (nw := 31) ⟨rfl, rfl, rfl, rfl, trivial⟩ ⟨⟨_, rfl, rfl⟩, ⟨_, rfl, rfl⟩, ⟨_, rfl, rfl⟩, ⟨_, rfl, rfl⟩, ⟨_, rfl, rfl⟩, ⟨_, rfl, rfl⟩, ⟨_, rfl, rfl⟩, ⟨_, rfl, rfl⟩, ⟨_, rfl, rfl⟩, ⟨_, rfl, rfl⟩, ⟨_, rfl, rfl⟩, ⟨_, rfl, rfl⟩, ⟨_, rfl, rfl⟩, ⟨_, rfl, rfl⟩, ⟨_, rfl, rfl⟩, ⟨_, rfl, rfl⟩, ⟨_, rfl, rfl⟩, ⟨_, rfl, rfl⟩, ⟨_, rfl, rfl⟩, ⟨_, rfl, rfl⟩, ⟨_, rfl, rfl⟩, ⟨_, rfl, rfl⟩, ⟨_, rfl, rfl⟩, ⟨_, rfl, rfl⟩, ⟨_, rfl, rfl⟩, ⟨_, rfl, rfl⟩, ⟨_, rfl, rfl⟩, trivial⟩ rfl rfl (by decide) (by decide) rfl dX7_leave_5 (fun H locs hw => ?_)
  refine lv_if_ne (tgt := 13) (pc := 8) E.1 E.2.1 dX7_leave_8 (by decide) (fun q3 => ?_) (fun q3 => ?_)
  · have hf := x_neg q3 hf
    refine lv_aload_n (pc := 13) E.1 E.2.1 dX7_leave_13 rfl (lv_at hl 0 rfl) ?_
    refine xg_X7_29 (pc := 14) (v := .ref (ad 11)) E hw 0 rfl rfl dX7_leave_14 ?_
    refine lv_aload_n (pc := 17) E.1 E.2.1 dX7_leave_17 rfl (lv_at hl 0 rfl) ?_
    refine xg_X7_19 (pc := 18) (v := .ref (ad 3)) E hw 0 rfl rfl dX7_leave_18 ?_
    obtain ⟨v4, g5, hf⟩ := x_bind hf
    refine x_callV (pc := 21) (As := [.ref (ad 3)]) (rest := []) (st1 := []) (ws' := (cells7c G ad (g7_tape s) (g7_book s) (g7_trial s) v4 (g7_ledger s) (g7_pen s) (g7_told s) (g7_ratesNow s))) E hw hl (c_X2_keep l G (fun k => ad (k + 11)) (fun k => ad (k + 3)) (g7_past s) (g7_book s) g5) xv_X7_88 xd_X2_keep rfl rfl ⟨Nat.le_of_ble_eq_true rfl, Nat.le_of_ble_eq_true rfl⟩ [11, 12, 3, 4, 5, 6] [0, 1, 2, 7, 8, 9, 10, 13, 14, 15, 16, 17, 18, 19, 20, 21, 22, 23, 24, 25, 26, 27, 28, 29, 30] (by decide) ⟨rfl, rfl, rfl, rfl, rfl, rfl, trivial⟩ (q0 := 11) rfl rfl rfl rfl (Nat.le_of_ble_eq_true rfl) (nw := 31) ⟨rfl, rfl, rfl, rfl, rfl, rfl, trivial⟩ ⟨⟨_, rfl, rfl⟩, ⟨_, rfl, rfl⟩, ⟨_, rfl, rfl⟩, ⟨_, rfl, rfl⟩, ⟨_, rfl, rfl⟩, ⟨_, rfl, rfl⟩, ⟨_, rfl, rfl⟩, ⟨_, rfl, rfl⟩, ⟨_, rfl, rfl⟩, ⟨_, rfl, rfl⟩, ⟨_, rfl, rfl⟩, ⟨_, rfl, rfl⟩, ⟨_, rfl, rfl⟩, ⟨_, rfl, rfl⟩, ⟨_, rfl, rfl⟩, ⟨_, rfl, rfl⟩, ⟨_, rfl, rfl⟩, ⟨_, rfl, rfl⟩, ⟨_, rfl, rfl⟩, ⟨_, rfl, rfl⟩, ⟨_, rfl, rfl⟩, ⟨_, rfl, rfl⟩, ⟨_, rfl, rfl⟩, ⟨_, rfl, rfl⟩, ⟨_, rfl, rfl⟩, trivial⟩ rfl rfl (by decide) (by decide) rfl dX7_leave_21 (fun H locs hw => ?_)
    refine lv_aload_n (pc := 24) E.1 E.2.1 dX7_leave_24 rfl (lv_at hl 0 rfl) ?_
    refine xg_X7_19 (pc := 25) (v := .ref (ad 3)) E hw 0 rfl rfl dX7_leave_25 ?_
    refine lv_iload_n (pc := 28) E.1 E.2.1 dX7_leave_28 rfl (lv_at hl 1 rfl) ?_
    obtain ⟨v6, g7, hf⟩ := x_bind hf
    refine x_callV (pc := 29) (As := [.int x1]) (rest := []) (st1 := []) (ws' := (cells7c G ad (g7_tape s) v6 (g7_trial s) v4 (g7_ledger s) (g7_pen s) (g7_told s) (g7_ratesNow s))) E hw hl (c_X0_dropFleet l G (fun k => ad (k + 3)) (g7_book s) x1 g7) xv_X7_98 xd_X0_dropFleet rfl rfl ⟨Nat.le_of_ble_eq_true rfl, Nat.le_of_ble_eq_true rfl⟩ [3, 4, 5, 6] [0, 1, 2, 7, 8, 9, 10, 11, 12, 13, 14, 15, 16, 17, 18, 19, 20, 21, 22, 23, 24, 25, 26, 27, 28, 29, 30] (by decide) ⟨rfl, rfl, rfl, rfl, trivial⟩ (q0 := 3) rfl rfl rfl rfl (Nat.le_of_ble_eq_true rfl) (nw := 31) ⟨rfl, rfl, rfl, rfl, trivial⟩ ⟨⟨_, rfl, rfl⟩, ⟨_, rfl, rfl⟩, ⟨_, rfl, rfl⟩, ⟨_, rfl, rfl⟩, ⟨_, rfl, rfl⟩, ⟨_, rfl, rfl⟩, ⟨_, rfl, rfl⟩, ⟨_, rfl, rfl⟩, ⟨_, rfl, rfl⟩, ⟨_, rfl, rfl⟩, ⟨_, rfl, rfl⟩, ⟨_, rfl, rfl⟩, ⟨_, rfl, rfl⟩, ⟨_, rfl, rfl⟩, ⟨_, rfl, rfl⟩, ⟨_, rfl, rfl⟩, ⟨_, rfl, rfl⟩, ⟨_, rfl, rfl⟩, ⟨_, rfl, rfl⟩, ⟨_, rfl, rfl⟩, ⟨_, rfl, rfl⟩, ⟨_, rfl, rfl⟩, ⟨_, rfl, rfl⟩, ⟨_, rfl, rfl⟩, ⟨_, rfl, rfl⟩, ⟨_, rfl, rfl⟩, ⟨_, rfl, rfl⟩, trivial⟩ rfl rfl (by decide) (by decide) rfl dX7_leave_29 (fun H locs hw => ?_)
    refine lv_iconst (v := 1) (pc := 32) E.1 E.2.1 dX7_leave_32 (by decide) ?_
    obtain rfl := Option.some.inj hf
    exact x_retz (pc := 33) (v := 1) (r := 1) E hr hk hw (by decide) dX7_leave_33
  · have hf := x_pos q3 hf
    refine lv_iconst (v := 0) (pc := 11) E.1 E.2.1 dX7_leave_11 (by decide) ?_
    obtain rfl := Option.some.inj hf
    exact x_retz (pc := 12) (v := 0) (r := 0) E hr hk hw (by decide) dX7_leave_12
set_option maxHeartbeats 4000000 in
set_option maxRecDepth 100000 in
theorem c_X7_leave (l : Launch) (G : xG) (ad : Nat → Nat) (s : S7) (x1 : Int32) {z : Int32 × S7} (hf : f_X7_leave s x1 = some z) : xC l yX7_leave cX7_leave 2 (some .boolean) (rm_X7_leave) G [.ref (ad 0), .int x1] (cells7 G ad s) (some (.int z.1)) (cells7 G ad z.2) :=
  x_met (by decide) rfl (Nat.le_of_ble_eq_true rfl) (fun p e sS m below meth c E hr hk ls hl hw => w_X7_leave_p0 E hr hk s x1 z hw hl hf)
set_option maxHeartbeats 4000000 in
set_option maxRecDepth 100000 in
theorem w_X7_move_p0 {p : Program} {l : Launch} {e : Env} {sS : State} {m : MethodId} {args : Array Value} {below : List Frame} {meth : Method} {c : Code} {G : xG} {W0 : va_W} {ad : Nat → Nat}   (E : xE p sS m args c cX7_move 4 RX7 G (x_in W0)) (hr : meth.sig.returnType = (some .int)) (hk : meth.locks = false)  : ∀ (s' : S7) (x1' : Int32) (x2' : Int32) (z : Int32 × S7) {H : Heap} {locs : List Loc} {ls : Array Slot}, xW G (x_in W0) sS.heap (cells7 G ad s') H locs → lv_has ls 4 [(0, .ref (ad 0)), (1, .int x1'), (2, .int x2')] → f_X7_move  s' x1' x2' = some z → W p l e (rm_X7_move) sS m args below meth c H locs 0 0 (MQ below (xQ G W0 (cells7 G ad z.2) (some (.int z.1))) args sS 0 0 (x_in W0)) (F0 m 0 ls []) := by
  intro s x1 x2 z H locs ls hw hl hf
  unfold f_X7_move at hf
  refine lv_aload_n (pc := 0) E.1 E.2.1 dX7_move_0 rfl (lv_at hl 0 rfl) ?_
  refine xg_X7_19 (pc := 1) (v := .ref (ad 3)) E hw 0 rfl rfl dX7_move_1 ?_
  refine lv_iload_n (pc := 4) E.1 E.2.1 dX7_move_4 rfl (lv_at hl 1 rfl) ?_
  obtain ⟨v1, g2, hf⟩ := x_bind hf
  refine x_callV (pc := 5) (As := [.int x1]) (rest := []) (st1 := [.int v1]) (ws' := (cells7 G ad s)) E hw hl (c_X0_hasFleet l G (fun k => ad (k + 3)) (g7_book s) x1 g2) xv_X7_95 xd_X0_hasFleet rfl rfl ⟨Nat.le_of_ble_eq_true rfl, Nat.le_of_ble_eq_true rfl⟩ [3, 4, 5, 6] [0, 1, 2, 7, 8, 9, 10, 11, 12, 13, 14, 15, 16, 17, 18, 19, 20, 21, 22, 23, 24, 25, 26, 27, 28, 29, 30] (by decide) ⟨rfl, rfl, rfl, rfl, trivial⟩ (q0 := 3) rfl rfl rfl rfl (Nat.le_of_ble_eq_true rfl) (nw := 31) ⟨rfl, rfl, rfl, rfl, trivial⟩ ⟨⟨_, rfl, rfl⟩, ⟨_, rfl, rfl⟩, ⟨_, rfl, rfl⟩, ⟨_, rfl, rfl⟩, ⟨_, rfl, rfl⟩, ⟨_, rfl, rfl⟩, ⟨_, rfl, rfl⟩, ⟨_, rfl, rfl⟩, ⟨_, rfl, rfl⟩, ⟨_, rfl, rfl⟩, ⟨_, rfl, rfl⟩, ⟨_, rfl, rfl⟩, ⟨_, rfl, rfl⟩, ⟨_, rfl, rfl⟩, ⟨_, rfl, rfl⟩, ⟨_, rfl, rfl⟩, ⟨_, rfl, rfl⟩, ⟨_, rfl, rfl⟩, ⟨_, rfl, rfl⟩, ⟨_, rfl, rfl⟩, ⟨_, rfl, rfl⟩, ⟨_, rfl, rfl⟩, ⟨_, rfl, rfl⟩, ⟨_, rfl, rfl⟩, ⟨_, rfl, rfl⟩, ⟨_, rfl, rfl⟩, ⟨_, rfl, rfl⟩, trivial⟩ rfl rfl (by decide) (by decide) rfl dX7_move_5 (fun H locs hw => ?_)
  refine lv_if_eq (tgt := 30) (pc := 8) E.1 E.2.1 dX7_move_8 (by decide) (fun q3 => ?_) (fun q3 => ?_)
  · have hf := x_pos q3 hf
    refine lv_iconst (v := (-1)) (pc := 30) E.1 E.2.1 dX7_move_30 (by decide) ?_
    obtain rfl := Option.some.inj hf
    exact x_reti (pc := 31) E hr hk hw dX7_move_31
  · have hf := x_neg q3 hf
    refine lv_iload_n (pc := 11) E.1 E.2.1 dX7_move_11 rfl (lv_at hl 2 rfl) ?_
    obtain ⟨v4, g5, hf⟩ := x_bind hf
    refine x_callS0 (pc := 12) (As := [.int x2]) (rest := []) (st1 := [.int v4]) E hw hl (c_X7_isClass l G  x2 g5) xs_X7_84 xd_X7_isClass rfl rfl ⟨Nat.le_of_ble_eq_true rfl, Nat.le_of_ble_eq_true rfl⟩ rfl rfl (Nat.le_of_ble_eq_true rfl) rfl dX7_move_12 (fun H locs hw => ?_)
    refine lv_if_eq (tgt := 30) (pc := 15) E.1 E.2.1 dX7_move_15 (by decide) (fun q6 => ?_) (fun q6 => ?_)
    · have hf := x_pos q6 hf
      refine lv_iconst (v := (-1)) (pc := 30) E.1 E.2.1 dX7_move_30 (by decide) ?_
      obtain rfl := Option.some.inj hf
      exact x_reti (pc := 31) E hr hk hw dX7_move_31
    · have hf := x_neg q6 hf
      refine lv_aload_n (pc := 18) E.1 E.2.1 dX7_move_18 rfl (lv_at hl 0 rfl) ?_
      refine xg_X7_19 (pc := 19) (v := .ref (ad 3)) E hw 0 rfl rfl dX7_move_19 ?_
      refine lv_iload_n (pc := 22) E.1 E.2.1 dX7_move_22 rfl (lv_at hl 1 rfl) ?_
      obtain ⟨v7, g8, hf⟩ := x_bind hf
      refine x_callV (pc := 23) (As := [.int x1]) (rest := []) (st1 := [.int v7]) (ws' := (cells7 G ad s)) E hw hl (c_X0_classOf l G (fun k => ad (k + 3)) (g7_book s) x1 g8) xv_X7_101 xd_X0_classOf rfl rfl ⟨Nat.le_of_ble_eq_true rfl, Nat.le_of_ble_eq_true rfl⟩ [3, 4, 5, 6] [0, 1, 2, 7, 8, 9, 10, 11, 12, 13, 14, 15, 16, 17, 18, 19, 20, 21, 22, 23, 24, 25, 26, 27, 28, 29, 30] (by decide) ⟨rfl, rfl, rfl, rfl, trivial⟩ (q0 := 3) rfl rfl rfl rfl (Nat.le_of_ble_eq_true rfl) (nw := 31) ⟨rfl, rfl, rfl, rfl, trivial⟩ ⟨⟨_, rfl, rfl⟩, ⟨_, rfl, rfl⟩, ⟨_, rfl, rfl⟩, ⟨_, rfl, rfl⟩, ⟨_, rfl, rfl⟩, ⟨_, rfl, rfl⟩, ⟨_, rfl, rfl⟩, ⟨_, rfl, rfl⟩, ⟨_, rfl, rfl⟩, ⟨_, rfl, rfl⟩, ⟨_, rfl, rfl⟩, ⟨_, rfl, rfl⟩, ⟨_, rfl, rfl⟩, ⟨_, rfl, rfl⟩, ⟨_, rfl, rfl⟩, ⟨_, rfl, rfl⟩, ⟨_, rfl, rfl⟩, ⟨_, rfl, rfl⟩, ⟨_, rfl, rfl⟩, ⟨_, rfl, rfl⟩, ⟨_, rfl, rfl⟩, ⟨_, rfl, rfl⟩, ⟨_, rfl, rfl⟩, ⟨_, rfl, rfl⟩, ⟨_, rfl, rfl⟩, ⟨_, rfl, rfl⟩, ⟨_, rfl, rfl⟩, trivial⟩ rfl rfl (by decide) (by decide) rfl dX7_move_23 (fun H locs hw => ?_)
      refine lv_iload_n (pc := 26) E.1 E.2.1 dX7_move_26 rfl (lv_at hl 2 rfl) ?_
      refine lv_icmp_ne (tgt := 32) (pc := 27) E.1 E.2.1 dX7_move_27 (by decide) (fun q9 => ?_) (fun q9 => ?_)
      · have hf := x_neg q9 hf
        refine lv_aload_n (pc := 32) E.1 E.2.1 dX7_move_32 rfl (lv_at hl 0 rfl) ?_
        refine xg_X7_29 (pc := 33) (v := .ref (ad 11)) E hw 0 rfl rfl dX7_move_33 ?_
        refine lv_aload_n (pc := 36) E.1 E.2.1 dX7_move_36 rfl (lv_at hl 0 rfl) ?_
        refine xg_X7_19 (pc := 37) (v := .ref (ad 3)) E hw 0 rfl rfl dX7_move_37 ?_
        obtain ⟨v10, g11, hf⟩ := x_bind hf
        refine x_callV (pc := 40) (As := [.ref (ad 3)]) (rest := []) (st1 := []) (ws' := (cells7c G ad (g7_tape s) (g7_book s) (g7_trial s) v10 (g7_ledger s) (g7_pen s) (g7_told s) (g7_ratesNow s))) E hw hl (c_X2_keep l G (fun k => ad (k + 11)) (fun k => ad (k + 3)) (g7_past s) (g7_book s) g11) xv_X7_88 xd_X2_keep rfl rfl ⟨Nat.le_of_ble_eq_true rfl, Nat.le_of_ble_eq_true rfl⟩ [11, 12, 3, 4, 5, 6] [0, 1, 2, 7, 8, 9, 10, 13, 14, 15, 16, 17, 18, 19, 20, 21, 22, 23, 24, 25, 26, 27, 28, 29, 30] (by decide) ⟨rfl, rfl, rfl, rfl, rfl, rfl, trivial⟩ (q0 := 11) rfl rfl rfl rfl (Nat.le_of_ble_eq_true rfl) (nw := 31) ⟨rfl, rfl, rfl, rfl, rfl, rfl, trivial⟩ ⟨⟨_, rfl, rfl⟩, ⟨_, rfl, rfl⟩, ⟨_, rfl, rfl⟩, ⟨_, rfl, rfl⟩, ⟨_, rfl, rfl⟩, ⟨_, rfl, rfl⟩, ⟨_, rfl, rfl⟩, ⟨_, rfl, rfl⟩, ⟨_, rfl, rfl⟩, ⟨_, rfl, rfl⟩, ⟨_, rfl, rfl⟩, ⟨_, rfl, rfl⟩, ⟨_, rfl, rfl⟩, ⟨_, rfl, rfl⟩, ⟨_, rfl, rfl⟩, ⟨_, rfl, rfl⟩, ⟨_, rfl, rfl⟩, ⟨_, rfl, rfl⟩, ⟨_, rfl, rfl⟩, ⟨_, rfl, rfl⟩, ⟨_, rfl, rfl⟩, ⟨_, rfl, rfl⟩, ⟨_, rfl, rfl⟩, ⟨_, rfl, rfl⟩, ⟨_, rfl, rfl⟩, trivial⟩ rfl rfl (by decide) (by decide) rfl dX7_move_40 (fun H locs hw => ?_)
        refine lv_aload_n (pc := 43) E.1 E.2.1 dX7_move_43 rfl (lv_at hl 0 rfl) ?_
        refine xg_X7_19 (pc := 44) (v := .ref (ad 3)) E hw 0 rfl rfl dX7_move_44 ?_
        refine lv_iload_n (pc := 47) E.1 E.2.1 dX7_move_47 rfl (lv_at hl 1 rfl) ?_
        obtain ⟨v12, g13, hf⟩ := x_bind hf
        refine x_callV (pc := 48) (As := [.int x1]) (rest := []) (st1 := [.int v12]) (ws' := (cells7c G ad (g7_tape s) (g7_book s) (g7_trial s) v10 (g7_ledger s) (g7_pen s) (g7_told s) (g7_ratesNow s))) E hw hl (c_X0_classOf l G (fun k => ad (k + 3)) (g7_book s) x1 g13) xv_X7_101 xd_X0_classOf rfl rfl ⟨Nat.le_of_ble_eq_true rfl, Nat.le_of_ble_eq_true rfl⟩ [3, 4, 5, 6] [0, 1, 2, 7, 8, 9, 10, 11, 12, 13, 14, 15, 16, 17, 18, 19, 20, 21, 22, 23, 24, 25, 26, 27, 28, 29, 30] (by decide) ⟨rfl, rfl, rfl, rfl, trivial⟩ (q0 := 3) rfl rfl rfl rfl (Nat.le_of_ble_eq_true rfl) (nw := 31) ⟨rfl, rfl, rfl, rfl, trivial⟩ ⟨⟨_, rfl, rfl⟩, ⟨_, rfl, rfl⟩, ⟨_, rfl, rfl⟩, ⟨_, rfl, rfl⟩, ⟨_, rfl, rfl⟩, ⟨_, rfl, rfl⟩, ⟨_, rfl, rfl⟩, ⟨_, rfl, rfl⟩, ⟨_, rfl, rfl⟩, ⟨_, rfl, rfl⟩, ⟨_, rfl, rfl⟩, ⟨_, rfl, rfl⟩, ⟨_, rfl, rfl⟩, ⟨_, rfl, rfl⟩, ⟨_, rfl, rfl⟩, ⟨_, rfl, rfl⟩, ⟨_, rfl, rfl⟩, ⟨_, rfl, rfl⟩, ⟨_, rfl, rfl⟩, ⟨_, rfl, rfl⟩, ⟨_, rfl, rfl⟩, ⟨_, rfl, rfl⟩, ⟨_, rfl, rfl⟩, ⟨_, rfl, rfl⟩, ⟨_, rfl, rfl⟩, ⟨_, rfl, rfl⟩, ⟨_, rfl, rfl⟩, trivial⟩ rfl rfl (by decide) (by decide) rfl dX7_move_48 (fun H locs hw => ?_)
        refine lv_istore_n (lv' := [(3, .int v12), (0, .ref (ad 0)), (1, .int x1), (2, .int x2)]) (pc := 51) E.1 E.2.1 dX7_move_51 rfl hl (by decide) rfl (fun ls hl => ?_)
        refine lv_aload_n (pc := 52) E.1 E.2.1 dX7_move_52 rfl (lv_at hl 1 rfl) ?_
        refine xg_X7_19 (pc := 53) (v := .ref (ad 3)) E hw 0 rfl rfl dX7_move_53 ?_
        refine lv_iload_n (pc := 56) E.1 E.2.1 dX7_move_56 rfl (lv_at hl 2 rfl) ?_
        refine lv_iload_n (pc := 57) E.1 E.2.1 dX7_move_57 rfl (lv_at hl 3 rfl) ?_
        obtain ⟨v14, g15, hf⟩ := x_bind hf
        refine x_callV (pc := 58) (As := [.int x1, .int x2]) (rest := []) (st1 := []) (ws' := (cells7c G ad (g7_tape s) v14 (g7_trial s) v10 (g7_ledger s) (g7_pen s) (g7_told s) (g7_ratesNow s))) E hw hl (c_X0_putClass l G (fun k => ad (k + 3)) (g7_book s) x1 x2 g15) xv_X7_105 xd_X0_putClass rfl rfl ⟨Nat.le_of_ble_eq_true rfl, Nat.le_of_ble_eq_true rfl⟩ [3, 4, 5, 6] [0, 1, 2, 7, 8, 9, 10, 11, 12, 13, 14, 15, 16, 17, 18, 19, 20, 21, 22, 23, 24, 25, 26, 27, 28, 29, 30] (by decide) ⟨rfl, rfl, rfl, rfl, trivial⟩ (q0 := 3) rfl rfl rfl rfl (Nat.le_of_ble_eq_true rfl) (nw := 31) ⟨rfl, rfl, rfl, rfl, trivial⟩ ⟨⟨_, rfl, rfl⟩, ⟨_, rfl, rfl⟩, ⟨_, rfl, rfl⟩, ⟨_, rfl, rfl⟩, ⟨_, rfl, rfl⟩, ⟨_, rfl, rfl⟩, ⟨_, rfl, rfl⟩, ⟨_, rfl, rfl⟩, ⟨_, rfl, rfl⟩, ⟨_, rfl, rfl⟩, ⟨_, rfl, rfl⟩, ⟨_, rfl, rfl⟩, ⟨_, rfl, rfl⟩, ⟨_, rfl, rfl⟩, ⟨_, rfl, rfl⟩, ⟨_, rfl, rfl⟩, ⟨_, rfl, rfl⟩, ⟨_, rfl, rfl⟩, ⟨_, rfl, rfl⟩, ⟨_, rfl, rfl⟩, ⟨_, rfl, rfl⟩, ⟨_, rfl, rfl⟩, ⟨_, rfl, rfl⟩, ⟨_, rfl, rfl⟩, ⟨_, rfl, rfl⟩, ⟨_, rfl, rfl⟩, ⟨_, rfl, rfl⟩, trivial⟩ rfl rfl (by decide) (by decide) rfl dX7_move_58 (fun H locs hw => ?_)
        refine lv_iload_n (pc := 61) E.1 E.2.1 dX7_move_61 rfl (lv_at hl 0 rfl) ?_
        obtain rfl := Option.some.inj hf
        exact x_reti (pc := 62) E hr hk hw dX7_move_62
      · have hf := x_pos q9 hf
        refine lv_iconst (v := (-1)) (pc := 30) E.1 E.2.1 dX7_move_30 (by decide) ?_
        obtain rfl := Option.some.inj hf
        exact x_reti (pc := 31) E hr hk hw dX7_move_31
set_option maxHeartbeats 4000000 in
set_option maxRecDepth 100000 in
theorem c_X7_move (l : Launch) (G : xG) (ad : Nat → Nat) (s : S7) (x1 : Int32) (x2 : Int32) {z : Int32 × S7} (hf : f_X7_move s x1 x2 = some z) : xC l yX7_move cX7_move 4 (some .int) (rm_X7_move) G [.ref (ad 0), .int x1, .int x2] (cells7 G ad s) (some (.int z.1)) (cells7 G ad z.2) :=
  x_met (by decide) rfl (Nat.le_of_ble_eq_true rfl) (fun p e sS m below meth c E hr hk ls hl hw => w_X7_move_p0 E hr hk s x1 x2 z hw hl hf)
set_option maxHeartbeats 4000000 in
set_option maxRecDepth 100000 in
theorem w_X7_insure_p0 {p : Program} {l : Launch} {e : Env} {sS : State} {m : MethodId} {args : Array Value} {below : List Frame} {meth : Method} {c : Code} {G : xG} {W0 : va_W} {ad : Nat → Nat}   (E : xE p sS m args c cX7_insure 3 RX7 G (x_in W0)) (hr : meth.sig.returnType = (some .int)) (hk : meth.locks = false)  : ∀ (s' : S7) (x1' : Int32) (x2' : Int32) (z : Int32 × S7) {H : Heap} {locs : List Loc} {ls : Array Slot}, xW G (x_in W0) sS.heap (cells7 G ad s') H locs → lv_has ls 3 [(0, .ref (ad 0)), (1, .int x1'), (2, .int x2')] → f_X7_insure  s' x1' x2' = some z → W p l e (rm_X7_insure) sS m args below meth c H locs 0 0 (MQ below (xQ G W0 (cells7 G ad z.2) (some (.int z.1))) args sS 0 0 (x_in W0)) (F0 m 0 ls []) := by
  intro s x1 x2 z H locs ls hw hl hf
  unfold f_X7_insure at hf
  refine lv_aload_n (pc := 0) E.1 E.2.1 dX7_insure_0 rfl (lv_at hl 0 rfl) ?_
  refine xg_X7_19 (pc := 1) (v := .ref (ad 3)) E hw 0 rfl rfl dX7_insure_1 ?_
  refine lv_iload_n (pc := 4) E.1 E.2.1 dX7_insure_4 rfl (lv_at hl 1 rfl) ?_
  obtain ⟨v1, g2, hf⟩ := x_bind hf
  refine x_callV (pc := 5) (As := [.int x1]) (rest := []) (st1 := [.int v1]) (ws' := (cells7 G ad s)) E hw hl (c_X0_hasFleet l G (fun k => ad (k + 3)) (g7_book s) x1 g2) xv_X7_95 xd_X0_hasFleet rfl rfl ⟨Nat.le_of_ble_eq_true rfl, Nat.le_of_ble_eq_true rfl⟩ [3, 4, 5, 6] [0, 1, 2, 7, 8, 9, 10, 11, 12, 13, 14, 15, 16, 17, 18, 19, 20, 21, 22, 23, 24, 25, 26, 27, 28, 29, 30] (by decide) ⟨rfl, rfl, rfl, rfl, trivial⟩ (q0 := 3) rfl rfl rfl rfl (Nat.le_of_ble_eq_true rfl) (nw := 31) ⟨rfl, rfl, rfl, rfl, trivial⟩ ⟨⟨_, rfl, rfl⟩, ⟨_, rfl, rfl⟩, ⟨_, rfl, rfl⟩, ⟨_, rfl, rfl⟩, ⟨_, rfl, rfl⟩, ⟨_, rfl, rfl⟩, ⟨_, rfl, rfl⟩, ⟨_, rfl, rfl⟩, ⟨_, rfl, rfl⟩, ⟨_, rfl, rfl⟩, ⟨_, rfl, rfl⟩, ⟨_, rfl, rfl⟩, ⟨_, rfl, rfl⟩, ⟨_, rfl, rfl⟩, ⟨_, rfl, rfl⟩, ⟨_, rfl, rfl⟩, ⟨_, rfl, rfl⟩, ⟨_, rfl, rfl⟩, ⟨_, rfl, rfl⟩, ⟨_, rfl, rfl⟩, ⟨_, rfl, rfl⟩, ⟨_, rfl, rfl⟩, ⟨_, rfl, rfl⟩, ⟨_, rfl, rfl⟩, ⟨_, rfl, rfl⟩, ⟨_, rfl, rfl⟩, ⟨_, rfl, rfl⟩, trivial⟩ rfl rfl (by decide) (by decide) rfl dX7_insure_5 (fun H locs hw => ?_)
  refine lv_if_eq (tgt := 30) (pc := 8) E.1 E.2.1 dX7_insure_8 (by decide) (fun q3 => ?_) (fun q3 => ?_)
  · have hf := x_pos q3 hf
    refine lv_iconst (v := (-1)) (pc := 30) E.1 E.2.1 dX7_insure_30 (by decide) ?_
    obtain rfl := Option.some.inj hf
    exact x_reti (pc := 31) E hr hk hw dX7_insure_31
  · have hf := x_neg q3 hf
    refine lv_iload_n (pc := 11) E.1 E.2.1 dX7_insure_11 rfl (lv_at hl 2 rfl) ?_
    obtain ⟨v4, g5, hf⟩ := x_bind hf
    refine x_callS0 (pc := 12) (As := [.int x2]) (rest := []) (st1 := [.int v4]) E hw hl (c_X7_isYear l G  x2 g5) xs_X7_109 xd_X7_isYear rfl rfl ⟨Nat.le_of_ble_eq_true rfl, Nat.le_of_ble_eq_true rfl⟩ rfl rfl (Nat.le_of_ble_eq_true rfl) rfl dX7_insure_12 (fun H locs hw => ?_)
    refine lv_if_eq (tgt := 30) (pc := 15) E.1 E.2.1 dX7_insure_15 (by decide) (fun q6 => ?_) (fun q6 => ?_)
    · have hf := x_pos q6 hf
      refine lv_iconst (v := (-1)) (pc := 30) E.1 E.2.1 dX7_insure_30 (by decide) ?_
      obtain rfl := Option.some.inj hf
      exact x_reti (pc := 31) E hr hk hw dX7_insure_31
    · have hf := x_neg q6 hf
      refine lv_aload_n (pc := 18) E.1 E.2.1 dX7_insure_18 rfl (lv_at hl 0 rfl) ?_
      refine xg_X7_19 (pc := 19) (v := .ref (ad 3)) E hw 0 rfl rfl dX7_insure_19 ?_
      refine lv_iload_n (pc := 22) E.1 E.2.1 dX7_insure_22 rfl (lv_at hl 1 rfl) ?_
      refine lv_iload_n (pc := 23) E.1 E.2.1 dX7_insure_23 rfl (lv_at hl 2 rfl) ?_
      obtain ⟨v7, g8, hf⟩ := x_bind hf
      refine x_callV (pc := 24) (As := [.int x1, .int x2]) (rest := []) (st1 := [.int v7]) (ws' := (cells7 G ad s)) E hw hl (c_X0_isInsured l G (fun k => ad (k + 3)) (g7_book s) x1 x2 g8) xv_X7_112 xd_X0_isInsured rfl rfl ⟨Nat.le_of_ble_eq_true rfl, Nat.le_of_ble_eq_true rfl⟩ [3, 4, 5, 6] [0, 1, 2, 7, 8, 9, 10, 11, 12, 13, 14, 15, 16, 17, 18, 19, 20, 21, 22, 23, 24, 25, 26, 27, 28, 29, 30] (by decide) ⟨rfl, rfl, rfl, rfl, trivial⟩ (q0 := 3) rfl rfl rfl rfl (Nat.le_of_ble_eq_true rfl) (nw := 31) ⟨rfl, rfl, rfl, rfl, trivial⟩ ⟨⟨_, rfl, rfl⟩, ⟨_, rfl, rfl⟩, ⟨_, rfl, rfl⟩, ⟨_, rfl, rfl⟩, ⟨_, rfl, rfl⟩, ⟨_, rfl, rfl⟩, ⟨_, rfl, rfl⟩, ⟨_, rfl, rfl⟩, ⟨_, rfl, rfl⟩, ⟨_, rfl, rfl⟩, ⟨_, rfl, rfl⟩, ⟨_, rfl, rfl⟩, ⟨_, rfl, rfl⟩, ⟨_, rfl, rfl⟩, ⟨_, rfl, rfl⟩, ⟨_, rfl, rfl⟩, ⟨_, rfl, rfl⟩, ⟨_, rfl, rfl⟩, ⟨_, rfl, rfl⟩, ⟨_, rfl, rfl⟩, ⟨_, rfl, rfl⟩, ⟨_, rfl, rfl⟩, ⟨_, rfl, rfl⟩, ⟨_, rfl, rfl⟩, ⟨_, rfl, rfl⟩, ⟨_, rfl, rfl⟩, ⟨_, rfl, rfl⟩, trivial⟩ rfl rfl (by decide) (by decide) rfl dX7_insure_24 (fun H locs hw => ?_)
      refine lv_if_eq (tgt := 32) (pc := 27) E.1 E.2.1 dX7_insure_27 (by decide) (fun q9 => ?_) (fun q9 => ?_)
      · have hf := x_pos q9 hf
        refine lv_aload_n (pc := 32) E.1 E.2.1 dX7_insure_32 rfl (lv_at hl 0 rfl) ?_
        refine xg_X7_29 (pc := 33) (v := .ref (ad 11)) E hw 0 rfl rfl dX7_insure_33 ?_
        refine lv_aload_n (pc := 36) E.1 E.2.1 dX7_insure_36 rfl (lv_at hl 0 rfl) ?_
        refine xg_X7_19 (pc := 37) (v := .ref (ad 3)) E hw 0 rfl rfl dX7_insure_37 ?_
        obtain ⟨v10, g11, hf⟩ := x_bind hf
        refine x_callV (pc := 40) (As := [.ref (ad 3)]) (rest := []) (st1 := []) (ws' := (cells7c G ad (g7_tape s) (g7_book s) (g7_trial s) v10 (g7_ledger s) (g7_pen s) (g7_told s) (g7_ratesNow s))) E hw hl (c_X2_keep l G (fun k => ad (k + 11)) (fun k => ad (k + 3)) (g7_past s) (g7_book s) g11) xv_X7_88 xd_X2_keep rfl rfl ⟨Nat.le_of_ble_eq_true rfl, Nat.le_of_ble_eq_true rfl⟩ [11, 12, 3, 4, 5, 6] [0, 1, 2, 7, 8, 9, 10, 13, 14, 15, 16, 17, 18, 19, 20, 21, 22, 23, 24, 25, 26, 27, 28, 29, 30] (by decide) ⟨rfl, rfl, rfl, rfl, rfl, rfl, trivial⟩ (q0 := 11) rfl rfl rfl rfl (Nat.le_of_ble_eq_true rfl) (nw := 31) ⟨rfl, rfl, rfl, rfl, rfl, rfl, trivial⟩ ⟨⟨_, rfl, rfl⟩, ⟨_, rfl, rfl⟩, ⟨_, rfl, rfl⟩, ⟨_, rfl, rfl⟩, ⟨_, rfl, rfl⟩, ⟨_, rfl, rfl⟩, ⟨_, rfl, rfl⟩, ⟨_, rfl, rfl⟩, ⟨_, rfl, rfl⟩, ⟨_, rfl, rfl⟩, ⟨_, rfl, rfl⟩, ⟨_, rfl, rfl⟩, ⟨_, rfl, rfl⟩, ⟨_, rfl, rfl⟩, ⟨_, rfl, rfl⟩, ⟨_, rfl, rfl⟩, ⟨_, rfl, rfl⟩, ⟨_, rfl, rfl⟩, ⟨_, rfl, rfl⟩, ⟨_, rfl, rfl⟩, ⟨_, rfl, rfl⟩, ⟨_, rfl, rfl⟩, ⟨_, rfl, rfl⟩, ⟨_, rfl, rfl⟩, ⟨_, rfl, rfl⟩, trivial⟩ rfl rfl (by decide) (by decide) rfl dX7_insure_40 (fun H locs hw => ?_)
        refine lv_aload_n (pc := 43) E.1 E.2.1 dX7_insure_43 rfl (lv_at hl 0 rfl) ?_
        refine xg_X7_19 (pc := 44) (v := .ref (ad 3)) E hw 0 rfl rfl dX7_insure_44 ?_
        refine lv_iload_n (pc := 47) E.1 E.2.1 dX7_insure_47 rfl (lv_at hl 1 rfl) ?_
        refine lv_aload_n (pc := 48) E.1 E.2.1 dX7_insure_48 rfl (lv_at hl 0 rfl) ?_
        refine xg_X7_19 (pc := 49) (v := .ref (ad 3)) E hw 0 rfl rfl dX7_insure_49 ?_
        refine lv_iload_n (pc := 52) E.1 E.2.1 dX7_insure_52 rfl (lv_at hl 1 rfl) ?_
        obtain ⟨v12, g13, hf⟩ := x_bind hf
        refine x_callV (pc := 53) (As := [.int x1]) (rest := [.int x1, .ref (ad 3)]) (st1 := [.int v12, .int x1, .ref (ad 3)]) (ws' := (cells7c G ad (g7_tape s) (g7_book s) (g7_trial s) v10 (g7_ledger s) (g7_pen s) (g7_told s) (g7_ratesNow s))) E hw hl (c_X0_yearsOf l G (fun k => ad (k + 3)) (g7_book s) x1 g13) xv_X7_116 xd_X0_yearsOf rfl rfl ⟨Nat.le_of_ble_eq_true rfl, Nat.le_of_ble_eq_true rfl⟩ [3, 4, 5, 6] [0, 1, 2, 7, 8, 9, 10, 11, 12, 13, 14, 15, 16, 17, 18, 19, 20, 21, 22, 23, 24, 25, 26, 27, 28, 29, 30] (by decide) ⟨rfl, rfl, rfl, rfl, trivial⟩ (q0 := 3) rfl rfl rfl rfl (Nat.le_of_ble_eq_true rfl) (nw := 31) ⟨rfl, rfl, rfl, rfl, trivial⟩ ⟨⟨_, rfl, rfl⟩, ⟨_, rfl, rfl⟩, ⟨_, rfl, rfl⟩, ⟨_, rfl, rfl⟩, ⟨_, rfl, rfl⟩, ⟨_, rfl, rfl⟩, ⟨_, rfl, rfl⟩, ⟨_, rfl, rfl⟩, ⟨_, rfl, rfl⟩, ⟨_, rfl, rfl⟩, ⟨_, rfl, rfl⟩, ⟨_, rfl, rfl⟩, ⟨_, rfl, rfl⟩, ⟨_, rfl, rfl⟩, ⟨_, rfl, rfl⟩, ⟨_, rfl, rfl⟩, ⟨_, rfl, rfl⟩, ⟨_, rfl, rfl⟩, ⟨_, rfl, rfl⟩, ⟨_, rfl, rfl⟩, ⟨_, rfl, rfl⟩, ⟨_, rfl, rfl⟩, ⟨_, rfl, rfl⟩, ⟨_, rfl, rfl⟩, ⟨_, rfl, rfl⟩, ⟨_, rfl, rfl⟩, ⟨_, rfl, rfl⟩, trivial⟩ rfl rfl (by decide) (by decide) rfl dX7_insure_53 (fun H locs hw => ?_)
        refine lv_iconst (v := 1) (pc := 56) E.1 E.2.1 dX7_insure_56 (by decide) ?_
        refine lv_iload_n (pc := 57) E.1 E.2.1 dX7_insure_57 rfl (lv_at hl 2 rfl) ?_
        refine lv_ishl (pc := 58) E.1 E.2.1 dX7_insure_58 ?_
        refine lv_ior (pc := 59) E.1 E.2.1 dX7_insure_59 ?_
        obtain ⟨v14, g15, hf⟩ := x_bind hf
        refine x_callV (pc := 60) (As := [.int x1, .int (v12 ||| ((1 : Int32) <<< (x2 &&& 31)))]) (rest := []) (st1 := []) (ws' := (cells7c G ad (g7_tape s) v14 (g7_trial s) v10 (g7_ledger s) (g7_pen s) (g7_told s) (g7_ratesNow s))) E hw hl (c_X0_putYears l G (fun k => ad (k + 3)) (g7_book s) x1 (v12 ||| ((1 : Int32) <<< (x2 &&& 31))) g15) xv_X7_119 xd_X0_putYears rfl rfl ⟨Nat.le_of_ble_eq_true rfl, Nat.le_of_ble_eq_true rfl⟩ [3, 4, 5, 6] [0, 1, 2, 7, 8, 9, 10, 11, 12, 13, 14, 15, 16, 17, 18, 19, 20, 21, 22, 23, 24, 25, 26, 27, 28, 29, 30] (by decide) ⟨rfl, rfl, rfl, rfl, trivial⟩ (q0 := 3) rfl rfl rfl rfl (Nat.le_of_ble_eq_true rfl) (nw := 31) ⟨rfl, rfl, rfl, rfl, trivial⟩ ⟨⟨_, rfl, rfl⟩, ⟨_, rfl, rfl⟩, ⟨_, rfl, rfl⟩, ⟨_, rfl, rfl⟩, ⟨_, rfl, rfl⟩, ⟨_, rfl, rfl⟩, ⟨_, rfl, rfl⟩, ⟨_, rfl, rfl⟩, ⟨_, rfl, rfl⟩, ⟨_, rfl, rfl⟩, ⟨_, rfl, rfl⟩, ⟨_, rfl, rfl⟩, ⟨_, rfl, rfl⟩, ⟨_, rfl, rfl⟩, ⟨_, rfl, rfl⟩, ⟨_, rfl, rfl⟩, ⟨_, rfl, rfl⟩, ⟨_, rfl, rfl⟩, ⟨_, rfl, rfl⟩, ⟨_, rfl, rfl⟩, ⟨_, rfl, rfl⟩, ⟨_, rfl, rfl⟩, ⟨_, rfl, rfl⟩, ⟨_, rfl, rfl⟩, ⟨_, rfl, rfl⟩, ⟨_, rfl, rfl⟩, ⟨_, rfl, rfl⟩, trivial⟩ rfl rfl (by decide) (by decide) rfl dX7_insure_60 (fun H locs hw => ?_)
        refine lv_aload_n (pc := 63) E.1 E.2.1 dX7_insure_63 rfl (lv_at hl 0 rfl) ?_
        refine xg_X7_19 (pc := 64) (v := .ref (ad 3)) E hw 0 rfl rfl dX7_insure_64 ?_
        refine lv_iload_n (pc := 67) E.1 E.2.1 dX7_insure_67 rfl (lv_at hl 1 rfl) ?_
        obtain ⟨v16, g17, hf⟩ := x_bind hf
        refine x_callV (pc := 68) (As := [.int x1]) (rest := []) (st1 := [.int v16]) (ws' := (cells7c G ad (g7_tape s) v14 (g7_trial s) v10 (g7_ledger s) (g7_pen s) (g7_told s) (g7_ratesNow s))) E hw hl (c_X0_yearsOf l G (fun k => ad (k + 3)) v14 x1 g17) xv_X7_116 xd_X0_yearsOf rfl rfl ⟨Nat.le_of_ble_eq_true rfl, Nat.le_of_ble_eq_true rfl⟩ [3, 4, 5, 6] [0, 1, 2, 7, 8, 9, 10, 11, 12, 13, 14, 15, 16, 17, 18, 19, 20, 21, 22, 23, 24, 25, 26, 27, 28, 29, 30] (by decide) ⟨rfl, rfl, rfl, rfl, trivial⟩ (q0 := 3) rfl rfl rfl rfl (Nat.le_of_ble_eq_true rfl) (nw := 31) ⟨rfl, rfl, rfl, rfl, trivial⟩ ⟨⟨_, rfl, rfl⟩, ⟨_, rfl, rfl⟩, ⟨_, rfl, rfl⟩, ⟨_, rfl, rfl⟩, ⟨_, rfl, rfl⟩, ⟨_, rfl, rfl⟩, ⟨_, rfl, rfl⟩, ⟨_, rfl, rfl⟩, ⟨_, rfl, rfl⟩, ⟨_, rfl, rfl⟩, ⟨_, rfl, rfl⟩, ⟨_, rfl, rfl⟩, ⟨_, rfl, rfl⟩, ⟨_, rfl, rfl⟩, ⟨_, rfl, rfl⟩, ⟨_, rfl, rfl⟩, ⟨_, rfl, rfl⟩, ⟨_, rfl, rfl⟩, ⟨_, rfl, rfl⟩, ⟨_, rfl, rfl⟩, ⟨_, rfl, rfl⟩, ⟨_, rfl, rfl⟩, ⟨_, rfl, rfl⟩, ⟨_, rfl, rfl⟩, ⟨_, rfl, rfl⟩, ⟨_, rfl, rfl⟩, ⟨_, rfl, rfl⟩, trivial⟩ rfl rfl (by decide) (by decide) rfl dX7_insure_68 (fun H locs hw => ?_)
        obtain ⟨v18, g19, hf⟩ := x_bind hf
        refine x_callSX0 (pc := 71) (As := [.int v16]) (rest := []) (st1 := [.int v18]) E hw hl (c_J6_bitCount_0f7a4 l G  v16 g19) wq_635 wq_637 wq_636 wq_110 xe_J6_bitCount_0f7a4 rfl rfl ⟨Nat.le_of_ble_eq_true rfl, Nat.le_of_ble_eq_true rfl⟩ rfl rfl (Nat.le_of_ble_eq_true rfl) rfl dX7_insure_71 (fun H locs hw => ?_)
        obtain rfl := Option.some.inj hf
        exact x_reti (pc := 74) E hr hk hw dX7_insure_74
      · have hf := x_neg q9 hf
        refine lv_iconst (v := (-1)) (pc := 30) E.1 E.2.1 dX7_insure_30 (by decide) ?_
        obtain rfl := Option.some.inj hf
        exact x_reti (pc := 31) E hr hk hw dX7_insure_31
set_option maxHeartbeats 4000000 in
set_option maxRecDepth 100000 in
theorem c_X7_insure (l : Launch) (G : xG) (ad : Nat → Nat) (s : S7) (x1 : Int32) (x2 : Int32) {z : Int32 × S7} (hf : f_X7_insure s x1 x2 = some z) : xC l yX7_insure cX7_insure 3 (some .int) (rm_X7_insure) G [.ref (ad 0), .int x1, .int x2] (cells7 G ad s) (some (.int z.1)) (cells7 G ad z.2) :=
  x_met (by decide) rfl (Nat.le_of_ble_eq_true rfl) (fun p e sS m below meth c E hr hk ls hl hw => w_X7_insure_p0 E hr hk s x1 x2 z hw hl hf)
set_option maxHeartbeats 4000000 in
set_option maxRecDepth 100000 in
theorem w_X7_lapse_p0 {p : Program} {l : Launch} {e : Env} {sS : State} {m : MethodId} {args : Array Value} {below : List Frame} {meth : Method} {c : Code} {G : xG} {W0 : va_W} {ad : Nat → Nat}   (E : xE p sS m args c cX7_lapse 3 RX7 G (x_in W0)) (hr : meth.sig.returnType = (some .int)) (hk : meth.locks = false)  : ∀ (s' : S7) (x1' : Int32) (x2' : Int32) (z : Int32 × S7) {H : Heap} {locs : List Loc} {ls : Array Slot}, xW G (x_in W0) sS.heap (cells7 G ad s') H locs → lv_has ls 3 [(0, .ref (ad 0)), (1, .int x1'), (2, .int x2')] → f_X7_lapse  s' x1' x2' = some z → W p l e (rm_X7_lapse) sS m args below meth c H locs 0 0 (MQ below (xQ G W0 (cells7 G ad z.2) (some (.int z.1))) args sS 0 0 (x_in W0)) (F0 m 0 ls []) := by
  intro s x1 x2 z H locs ls hw hl hf
  unfold f_X7_lapse at hf
  refine lv_aload_n (pc := 0) E.1 E.2.1 dX7_lapse_0 rfl (lv_at hl 0 rfl) ?_
  refine xg_X7_19 (pc := 1) (v := .ref (ad 3)) E hw 0 rfl rfl dX7_lapse_1 ?_
  refine lv_iload_n (pc := 4) E.1 E.2.1 dX7_lapse_4 rfl (lv_at hl 1 rfl) ?_
  obtain ⟨v1, g2, hf⟩ := x_bind hf
  refine x_callV (pc := 5) (As := [.int x1]) (rest := []) (st1 := [.int v1]) (ws' := (cells7 G ad s)) E hw hl (c_X0_hasFleet l G (fun k => ad (k + 3)) (g7_book s) x1 g2) xv_X7_95 xd_X0_hasFleet rfl rfl ⟨Nat.le_of_ble_eq_true rfl, Nat.le_of_ble_eq_true rfl⟩ [3, 4, 5, 6] [0, 1, 2, 7, 8, 9, 10, 11, 12, 13, 14, 15, 16, 17, 18, 19, 20, 21, 22, 23, 24, 25, 26, 27, 28, 29, 30] (by decide) ⟨rfl, rfl, rfl, rfl, trivial⟩ (q0 := 3) rfl rfl rfl rfl (Nat.le_of_ble_eq_true rfl) (nw := 31) ⟨rfl, rfl, rfl, rfl, trivial⟩ ⟨⟨_, rfl, rfl⟩, ⟨_, rfl, rfl⟩, ⟨_, rfl, rfl⟩, ⟨_, rfl, rfl⟩, ⟨_, rfl, rfl⟩, ⟨_, rfl, rfl⟩, ⟨_, rfl, rfl⟩, ⟨_, rfl, rfl⟩, ⟨_, rfl, rfl⟩, ⟨_, rfl, rfl⟩, ⟨_, rfl, rfl⟩, ⟨_, rfl, rfl⟩, ⟨_, rfl, rfl⟩, ⟨_, rfl, rfl⟩, ⟨_, rfl, rfl⟩, ⟨_, rfl, rfl⟩, ⟨_, rfl, rfl⟩, ⟨_, rfl, rfl⟩, ⟨_, rfl, rfl⟩, ⟨_, rfl, rfl⟩, ⟨_, rfl, rfl⟩, ⟨_, rfl, rfl⟩, ⟨_, rfl, rfl⟩, ⟨_, rfl, rfl⟩, ⟨_, rfl, rfl⟩, ⟨_, rfl, rfl⟩, ⟨_, rfl, rfl⟩, trivial⟩ rfl rfl (by decide) (by decide) rfl dX7_lapse_5 (fun H locs hw => ?_)
  refine lv_if_eq (tgt := 30) (pc := 8) E.1 E.2.1 dX7_lapse_8 (by decide) (fun q3 => ?_) (fun q3 => ?_)
  · have hf := x_pos q3 hf
    refine lv_iconst (v := (-1)) (pc := 30) E.1 E.2.1 dX7_lapse_30 (by decide) ?_
    obtain rfl := Option.some.inj hf
    exact x_reti (pc := 31) E hr hk hw dX7_lapse_31
  · have hf := x_neg q3 hf
    refine lv_iload_n (pc := 11) E.1 E.2.1 dX7_lapse_11 rfl (lv_at hl 2 rfl) ?_
    obtain ⟨v4, g5, hf⟩ := x_bind hf
    refine x_callS0 (pc := 12) (As := [.int x2]) (rest := []) (st1 := [.int v4]) E hw hl (c_X7_isYear l G  x2 g5) xs_X7_109 xd_X7_isYear rfl rfl ⟨Nat.le_of_ble_eq_true rfl, Nat.le_of_ble_eq_true rfl⟩ rfl rfl (Nat.le_of_ble_eq_true rfl) rfl dX7_lapse_12 (fun H locs hw => ?_)
    refine lv_if_eq (tgt := 30) (pc := 15) E.1 E.2.1 dX7_lapse_15 (by decide) (fun q6 => ?_) (fun q6 => ?_)
    · have hf := x_pos q6 hf
      refine lv_iconst (v := (-1)) (pc := 30) E.1 E.2.1 dX7_lapse_30 (by decide) ?_
      obtain rfl := Option.some.inj hf
      exact x_reti (pc := 31) E hr hk hw dX7_lapse_31
    · have hf := x_neg q6 hf
      refine lv_aload_n (pc := 18) E.1 E.2.1 dX7_lapse_18 rfl (lv_at hl 0 rfl) ?_
      refine xg_X7_19 (pc := 19) (v := .ref (ad 3)) E hw 0 rfl rfl dX7_lapse_19 ?_
      refine lv_iload_n (pc := 22) E.1 E.2.1 dX7_lapse_22 rfl (lv_at hl 1 rfl) ?_
      refine lv_iload_n (pc := 23) E.1 E.2.1 dX7_lapse_23 rfl (lv_at hl 2 rfl) ?_
      obtain ⟨v7, g8, hf⟩ := x_bind hf
      refine x_callV (pc := 24) (As := [.int x1, .int x2]) (rest := []) (st1 := [.int v7]) (ws' := (cells7 G ad s)) E hw hl (c_X0_isInsured l G (fun k => ad (k + 3)) (g7_book s) x1 x2 g8) xv_X7_112 xd_X0_isInsured rfl rfl ⟨Nat.le_of_ble_eq_true rfl, Nat.le_of_ble_eq_true rfl⟩ [3, 4, 5, 6] [0, 1, 2, 7, 8, 9, 10, 11, 12, 13, 14, 15, 16, 17, 18, 19, 20, 21, 22, 23, 24, 25, 26, 27, 28, 29, 30] (by decide) ⟨rfl, rfl, rfl, rfl, trivial⟩ (q0 := 3) rfl rfl rfl rfl (Nat.le_of_ble_eq_true rfl) (nw := 31) ⟨rfl, rfl, rfl, rfl, trivial⟩ ⟨⟨_, rfl, rfl⟩, ⟨_, rfl, rfl⟩, ⟨_, rfl, rfl⟩, ⟨_, rfl, rfl⟩, ⟨_, rfl, rfl⟩, ⟨_, rfl, rfl⟩, ⟨_, rfl, rfl⟩, ⟨_, rfl, rfl⟩, ⟨_, rfl, rfl⟩, ⟨_, rfl, rfl⟩, ⟨_, rfl, rfl⟩, ⟨_, rfl, rfl⟩, ⟨_, rfl, rfl⟩, ⟨_, rfl, rfl⟩, ⟨_, rfl, rfl⟩, ⟨_, rfl, rfl⟩, ⟨_, rfl, rfl⟩, ⟨_, rfl, rfl⟩, ⟨_, rfl, rfl⟩, ⟨_, rfl, rfl⟩, ⟨_, rfl, rfl⟩, ⟨_, rfl, rfl⟩, ⟨_, rfl, rfl⟩, ⟨_, rfl, rfl⟩, ⟨_, rfl, rfl⟩, ⟨_, rfl, rfl⟩, ⟨_, rfl, rfl⟩, trivial⟩ rfl rfl (by decide) (by decide) rfl dX7_lapse_24 (fun H locs hw => ?_)
      refine lv_if_ne (tgt := 32) (pc := 27) E.1 E.2.1 dX7_lapse_27 (by decide) (fun q9 => ?_) (fun q9 => ?_)
      · have hf := x_neg q9 hf
        refine lv_aload_n (pc := 32) E.1 E.2.1 dX7_lapse_32 rfl (lv_at hl 0 rfl) ?_
        refine xg_X7_29 (pc := 33) (v := .ref (ad 11)) E hw 0 rfl rfl dX7_lapse_33 ?_
        refine lv_aload_n (pc := 36) E.1 E.2.1 dX7_lapse_36 rfl (lv_at hl 0 rfl) ?_
        refine xg_X7_19 (pc := 37) (v := .ref (ad 3)) E hw 0 rfl rfl dX7_lapse_37 ?_
        obtain ⟨v10, g11, hf⟩ := x_bind hf
        refine x_callV (pc := 40) (As := [.ref (ad 3)]) (rest := []) (st1 := []) (ws' := (cells7c G ad (g7_tape s) (g7_book s) (g7_trial s) v10 (g7_ledger s) (g7_pen s) (g7_told s) (g7_ratesNow s))) E hw hl (c_X2_keep l G (fun k => ad (k + 11)) (fun k => ad (k + 3)) (g7_past s) (g7_book s) g11) xv_X7_88 xd_X2_keep rfl rfl ⟨Nat.le_of_ble_eq_true rfl, Nat.le_of_ble_eq_true rfl⟩ [11, 12, 3, 4, 5, 6] [0, 1, 2, 7, 8, 9, 10, 13, 14, 15, 16, 17, 18, 19, 20, 21, 22, 23, 24, 25, 26, 27, 28, 29, 30] (by decide) ⟨rfl, rfl, rfl, rfl, rfl, rfl, trivial⟩ (q0 := 11) rfl rfl rfl rfl (Nat.le_of_ble_eq_true rfl) (nw := 31) ⟨rfl, rfl, rfl, rfl, rfl, rfl, trivial⟩ ⟨⟨_, rfl, rfl⟩, ⟨_, rfl, rfl⟩, ⟨_, rfl, rfl⟩, ⟨_, rfl, rfl⟩, ⟨_, rfl, rfl⟩, ⟨_, rfl, rfl⟩, ⟨_, rfl, rfl⟩, ⟨_, rfl, rfl⟩, ⟨_, rfl, rfl⟩, ⟨_, rfl, rfl⟩, ⟨_, rfl, rfl⟩, ⟨_, rfl, rfl⟩, ⟨_, rfl, rfl⟩, ⟨_, rfl, rfl⟩, ⟨_, rfl, rfl⟩, ⟨_, rfl, rfl⟩, ⟨_, rfl, rfl⟩, ⟨_, rfl, rfl⟩, ⟨_, rfl, rfl⟩, ⟨_, rfl, rfl⟩, ⟨_, rfl, rfl⟩, ⟨_, rfl, rfl⟩, ⟨_, rfl, rfl⟩, ⟨_, rfl, rfl⟩, ⟨_, rfl, rfl⟩, trivial⟩ rfl rfl (by decide) (by decide) rfl dX7_lapse_40 (fun H locs hw => ?_)
        refine lv_aload_n (pc := 43) E.1 E.2.1 dX7_lapse_43 rfl (lv_at hl 0 rfl) ?_
        refine xg_X7_19 (pc := 44) (v := .ref (ad 3)) E hw 0 rfl rfl dX7_lapse_44 ?_
        refine lv_iload_n (pc := 47) E.1 E.2.1 dX7_lapse_47 rfl (lv_at hl 1 rfl) ?_
        refine lv_iconst (v := 1) (pc := 48) E.1 E.2.1 dX7_lapse_48 (by decide) ?_
        refine lv_iload_n (pc := 49) E.1 E.2.1 dX7_lapse_49 rfl (lv_at hl 2 rfl) ?_
        refine lv_ishl (pc := 50) E.1 E.2.1 dX7_lapse_50 ?_
        obtain ⟨v12, g13, hf⟩ := x_bind hf
        refine x_callV (pc := 51) (As := [.int x1, .int ((1 : Int32) <<< (x2 &&& 31))]) (rest := []) (st1 := [.int v12.1]) (ws' := (cells7c G ad (g7_tape s) v12.2 (g7_trial s) v10 (g7_ledger s) (g7_pen s) (g7_told s) (g7_ratesNow s))) E hw hl (c_X0_endYears l G (fun k => ad (k + 3)) (g7_book s) x1 ((1 : Int32) <<< (x2 &&& 31)) g13) xv_X7_127 xd_X0_endYears rfl rfl ⟨Nat.le_of_ble_eq_true rfl, Nat.le_of_ble_eq_true rfl⟩ [3, 4, 5, 6] [0, 1, 2, 7, 8, 9, 10, 11, 12, 13, 14, 15, 16, 17, 18, 19, 20, 21, 22, 23, 24, 25, 26, 27, 28, 29, 30] (by decide) ⟨rfl, rfl, rfl, rfl, trivial⟩ (q0 := 3) rfl rfl rfl rfl (Nat.le_of_ble_eq_true rfl) (nw := 31) ⟨rfl, rfl, rfl, rfl, trivial⟩ ⟨⟨_, rfl, rfl⟩, ⟨_, rfl, rfl⟩, ⟨_, rfl, rfl⟩, ⟨_, rfl, rfl⟩, ⟨_, rfl, rfl⟩, ⟨_, rfl, rfl⟩, ⟨_, rfl, rfl⟩, ⟨_, rfl, rfl⟩, ⟨_, rfl, rfl⟩, ⟨_, rfl, rfl⟩, ⟨_, rfl, rfl⟩, ⟨_, rfl, rfl⟩, ⟨_, rfl, rfl⟩, ⟨_, rfl, rfl⟩, ⟨_, rfl, rfl⟩, ⟨_, rfl, rfl⟩, ⟨_, rfl, rfl⟩, ⟨_, rfl, rfl⟩, ⟨_, rfl, rfl⟩, ⟨_, rfl, rfl⟩, ⟨_, rfl, rfl⟩, ⟨_, rfl, rfl⟩, ⟨_, rfl, rfl⟩, ⟨_, rfl, rfl⟩, ⟨_, rfl, rfl⟩, ⟨_, rfl, rfl⟩, ⟨_, rfl, rfl⟩, trivial⟩ rfl rfl (by decide) (by decide) rfl dX7_lapse_51 (fun H locs hw => ?_)
        obtain rfl := Option.some.inj hf
        exact x_reti (pc := 54) E hr hk hw dX7_lapse_54
      · have hf := x_pos q9 hf
        refine lv_iconst (v := (-1)) (pc := 30) E.1 E.2.1 dX7_lapse_30 (by decide) ?_
        obtain rfl := Option.some.inj hf
        exact x_reti (pc := 31) E hr hk hw dX7_lapse_31
set_option maxHeartbeats 4000000 in
set_option maxRecDepth 100000 in
theorem c_X7_lapse (l : Launch) (G : xG) (ad : Nat → Nat) (s : S7) (x1 : Int32) (x2 : Int32) {z : Int32 × S7} (hf : f_X7_lapse s x1 x2 = some z) : xC l yX7_lapse cX7_lapse 3 (some .int) (rm_X7_lapse) G [.ref (ad 0), .int x1, .int x2] (cells7 G ad s) (some (.int z.1)) (cells7 G ad z.2) :=
  x_met (by decide) rfl (Nat.le_of_ble_eq_true rfl) (fun p e sS m below meth c E hr hk ls hl hw => w_X7_lapse_p0 E hr hk s x1 x2 z hw hl hf)
set_option maxHeartbeats 4000000 in
set_option maxRecDepth 100000 in
theorem w_X7_forget_p0 {p : Program} {l : Launch} {e : Env} {sS : State} {m : MethodId} {args : Array Value} {below : List Frame} {meth : Method} {c : Code} {G : xG} {W0 : va_W} {ad : Nat → Nat}   (E : xE p sS m args c cX7_forget 3 RX7 G (x_in W0)) (hr : meth.sig.returnType = (some .int)) (hk : meth.locks = false)  : ∀ (s' : S7) (x1' : Int32) (z : Int32 × S7) {H : Heap} {locs : List Loc} {ls : Array Slot}, xW G (x_in W0) sS.heap (cells7 G ad s') H locs → lv_has ls 3 [(0, .ref (ad 0)), (1, .int x1')] → f_X7_forget  s' x1' = some z → W p l e (rm_X7_forget) sS m args below meth c H locs 0 0 (MQ below (xQ G W0 (cells7 G ad z.2) (some (.int z.1))) args sS 0 0 (x_in W0)) (F0 m 0 ls []) := by
  intro s x1 z H locs ls hw hl hf
  unfold f_X7_forget at hf
  refine lv_iload_n (pc := 0) E.1 E.2.1 dX7_forget_0 rfl (lv_at hl 1 rfl) ?_
  obtain ⟨v1, g2, hf⟩ := x_bind hf
  refine x_callS0 (pc := 1) (As := [.int x1]) (rest := []) (st1 := [.int v1]) E hw hl (c_X7_isYear l G  x1 g2) xs_X7_109 xd_X7_isYear rfl rfl ⟨Nat.le_of_ble_eq_true rfl, Nat.le_of_ble_eq_true rfl⟩ rfl rfl (Nat.le_of_ble_eq_true rfl) rfl dX7_forget_1 (fun H locs hw => ?_)
  refine lv_if_eq (tgt := 18) (pc := 4) E.1 E.2.1 dX7_forget_4 (by decide) (fun q3 => ?_) (fun q3 => ?_)
  · have hf := x_pos q3 hf
    refine lv_iconst (v := (-1)) (pc := 18) E.1 E.2.1 dX7_forget_18 (by decide) ?_
    obtain rfl := Option.some.inj hf
    exact x_reti (pc := 19) E hr hk hw dX7_forget_19
  · have hf := x_neg q3 hf
    refine lv_aload_n (pc := 7) E.1 E.2.1 dX7_forget_7 rfl (lv_at hl 0 rfl) ?_
    refine xg_X7_19 (pc := 8) (v := .ref (ad 3)) E hw 0 rfl rfl dX7_forget_8 ?_
    refine lv_iload_n (pc := 11) E.1 E.2.1 dX7_forget_11 rfl (lv_at hl 1 rfl) ?_
    obtain ⟨v4, g5, hf⟩ := x_bind hf
    refine x_callV (pc := 12) (As := [.int x1]) (rest := []) (st1 := [.int v4]) (ws' := (cells7 G ad s)) E hw hl (c_X0_countInsured l G (fun k => ad (k + 3)) (g7_book s) x1 g5) xv_X7_130 xd_X0_countInsured rfl rfl ⟨Nat.le_of_ble_eq_true rfl, Nat.le_of_ble_eq_true rfl⟩ [3, 4, 5, 6] [0, 1, 2, 7, 8, 9, 10, 11, 12, 13, 14, 15, 16, 17, 18, 19, 20, 21, 22, 23, 24, 25, 26, 27, 28, 29, 30] (by decide) ⟨rfl, rfl, rfl, rfl, trivial⟩ (q0 := 3) rfl rfl rfl rfl (Nat.le_of_ble_eq_true rfl) (nw := 31) ⟨rfl, rfl, rfl, rfl, trivial⟩ ⟨⟨_, rfl, rfl⟩, ⟨_, rfl, rfl⟩, ⟨_, rfl, rfl⟩, ⟨_, rfl, rfl⟩, ⟨_, rfl, rfl⟩, ⟨_, rfl, rfl⟩, ⟨_, rfl, rfl⟩, ⟨_, rfl, rfl⟩, ⟨_, rfl, rfl⟩, ⟨_, rfl, rfl⟩, ⟨_, rfl, rfl⟩, ⟨_, rfl, rfl⟩, ⟨_, rfl, rfl⟩, ⟨_, rfl, rfl⟩, ⟨_, rfl, rfl⟩, ⟨_, rfl, rfl⟩, ⟨_, rfl, rfl⟩, ⟨_, rfl, rfl⟩, ⟨_, rfl, rfl⟩, ⟨_, rfl, rfl⟩, ⟨_, rfl, rfl⟩, ⟨_, rfl, rfl⟩, ⟨_, rfl, rfl⟩, ⟨_, rfl, rfl⟩, ⟨_, rfl, rfl⟩, ⟨_, rfl, rfl⟩, ⟨_, rfl, rfl⟩, trivial⟩ rfl rfl (by decide) (by decide) rfl dX7_forget_12 (fun H locs hw => ?_)
    refine lv_if_ne (tgt := 20) (pc := 15) E.1 E.2.1 dX7_forget_15 (by decide) (fun q6 => ?_) (fun q6 => ?_)
    · have hf := x_neg q6 hf
      refine lv_aload_n (pc := 20) E.1 E.2.1 dX7_forget_20 rfl (lv_at hl 0 rfl) ?_
      refine xg_X7_29 (pc := 21) (v := .ref (ad 11)) E hw 0 rfl rfl dX7_forget_21 ?_
      refine lv_aload_n (pc := 24) E.1 E.2.1 dX7_forget_24 rfl (lv_at hl 0 rfl) ?_
      refine xg_X7_19 (pc := 25) (v := .ref (ad 3)) E hw 0 rfl rfl dX7_forget_25 ?_
      obtain ⟨v7, g8, hf⟩ := x_bind hf
      refine x_callV (pc := 28) (As := [.ref (ad 3)]) (rest := []) (st1 := []) (ws' := (cells7c G ad (g7_tape s) (g7_book s) (g7_trial s) v7 (g7_ledger s) (g7_pen s) (g7_told s) (g7_ratesNow s))) E hw hl (c_X2_keep l G (fun k => ad (k + 11)) (fun k => ad (k + 3)) (g7_past s) (g7_book s) g8) xv_X7_88 xd_X2_keep rfl rfl ⟨Nat.le_of_ble_eq_true rfl, Nat.le_of_ble_eq_true rfl⟩ [11, 12, 3, 4, 5, 6] [0, 1, 2, 7, 8, 9, 10, 13, 14, 15, 16, 17, 18, 19, 20, 21, 22, 23, 24, 25, 26, 27, 28, 29, 30] (by decide) ⟨rfl, rfl, rfl, rfl, rfl, rfl, trivial⟩ (q0 := 11) rfl rfl rfl rfl (Nat.le_of_ble_eq_true rfl) (nw := 31) ⟨rfl, rfl, rfl, rfl, rfl, rfl, trivial⟩ ⟨⟨_, rfl, rfl⟩, ⟨_, rfl, rfl⟩, ⟨_, rfl, rfl⟩, ⟨_, rfl, rfl⟩, ⟨_, rfl, rfl⟩, ⟨_, rfl, rfl⟩, ⟨_, rfl, rfl⟩, ⟨_, rfl, rfl⟩, ⟨_, rfl, rfl⟩, ⟨_, rfl, rfl⟩, ⟨_, rfl, rfl⟩, ⟨_, rfl, rfl⟩, ⟨_, rfl, rfl⟩, ⟨_, rfl, rfl⟩, ⟨_, rfl, rfl⟩, ⟨_, rfl, rfl⟩, ⟨_, rfl, rfl⟩, ⟨_, rfl, rfl⟩, ⟨_, rfl, rfl⟩, ⟨_, rfl, rfl⟩, ⟨_, rfl, rfl⟩, ⟨_, rfl, rfl⟩, ⟨_, rfl, rfl⟩, ⟨_, rfl, rfl⟩, ⟨_, rfl, rfl⟩, trivial⟩ rfl rfl (by decide) (by decide) rfl dX7_forget_28 (fun H locs hw => ?_)
      refine lv_aload_n (pc := 31) E.1 E.2.1 dX7_forget_31 rfl (lv_at hl 0 rfl) ?_
      refine xg_X7_19 (pc := 32) (v := .ref (ad 3)) E hw 0 rfl rfl dX7_forget_32 ?_
      refine lv_iload_n (pc := 35) E.1 E.2.1 dX7_forget_35 rfl (lv_at hl 1 rfl) ?_
      obtain ⟨v9, g10, hf⟩ := x_bind hf
      refine x_callV (pc := 36) (As := [.int x1]) (rest := []) (st1 := [.int v9]) (ws' := (cells7c G ad (g7_tape s) (g7_book s) (g7_trial s) v7 (g7_ledger s) (g7_pen s) (g7_told s) (g7_ratesNow s))) E hw hl (c_X0_countInsured l G (fun k => ad (k + 3)) (g7_book s) x1 g10) xv_X7_130 xd_X0_countInsured rfl rfl ⟨Nat.le_of_ble_eq_true rfl, Nat.le_of_ble_eq_true rfl⟩ [3, 4, 5, 6] [0, 1, 2, 7, 8, 9, 10, 11, 12, 13, 14, 15, 16, 17, 18, 19, 20, 21, 22, 23, 24, 25, 26, 27, 28, 29, 30] (by decide) ⟨rfl, rfl, rfl, rfl, trivial⟩ (q0 := 3) rfl rfl rfl rfl (Nat.le_of_ble_eq_true rfl) (nw := 31) ⟨rfl, rfl, rfl, rfl, trivial⟩ ⟨⟨_, rfl, rfl⟩, ⟨_, rfl, rfl⟩, ⟨_, rfl, rfl⟩, ⟨_, rfl, rfl⟩, ⟨_, rfl, rfl⟩, ⟨_, rfl, rfl⟩, ⟨_, rfl, rfl⟩, ⟨_, rfl, rfl⟩, ⟨_, rfl, rfl⟩, ⟨_, rfl, rfl⟩, ⟨_, rfl, rfl⟩, ⟨_, rfl, rfl⟩, ⟨_, rfl, rfl⟩, ⟨_, rfl, rfl⟩, ⟨_, rfl, rfl⟩, ⟨_, rfl, rfl⟩, ⟨_, rfl, rfl⟩, ⟨_, rfl, rfl⟩, ⟨_, rfl, rfl⟩, ⟨_, rfl, rfl⟩, ⟨_, rfl, rfl⟩, ⟨_, rfl, rfl⟩, ⟨_, rfl, rfl⟩, ⟨_, rfl, rfl⟩, ⟨_, rfl, rfl⟩, ⟨_, rfl, rfl⟩, ⟨_, rfl, rfl⟩, trivial⟩ rfl rfl (by decide) (by decide) rfl dX7_forget_36 (fun H locs hw => ?_)
      refine lv_istore_n (lv' := [(2, .int v9), (0, .ref (ad 0)), (1, .int x1)]) (pc := 39) E.1 E.2.1 dX7_forget_39 rfl hl (by decide) rfl (fun ls hl => ?_)
      refine lv_aload_n (pc := 40) E.1 E.2.1 dX7_forget_40 rfl (lv_at hl 1 rfl) ?_
      refine xg_X7_19 (pc := 41) (v := .ref (ad 3)) E hw 0 rfl rfl dX7_forget_41 ?_
      refine lv_iconst (v := 1) (pc := 44) E.1 E.2.1 dX7_forget_44 (by decide) ?_
      refine lv_iload_n (pc := 45) E.1 E.2.1 dX7_forget_45 rfl (lv_at hl 2 rfl) ?_
      refine lv_ishl (pc := 46) E.1 E.2.1 dX7_forget_46 ?_
      obtain ⟨v11, g12, hf⟩ := x_bind hf
      refine x_callV (pc := 47) (As := [.int ((1 : Int32) <<< (x1 &&& 31))]) (rest := []) (st1 := []) (ws' := (cells7c G ad (g7_tape s) v11 (g7_trial s) v7 (g7_ledger s) (g7_pen s) (g7_told s) (g7_ratesNow s))) E hw hl (c_X0_endYearsOfAll l G (fun k => ad (k + 3)) (g7_book s) ((1 : Int32) <<< (x1 &&& 31)) g12) xv_X7_133 xd_X0_endYearsOfAll rfl rfl ⟨Nat.le_of_ble_eq_true rfl, Nat.le_of_ble_eq_true rfl⟩ [3, 4, 5, 6] [0, 1, 2, 7, 8, 9, 10, 11, 12, 13, 14, 15, 16, 17, 18, 19, 20, 21, 22, 23, 24, 25, 26, 27, 28, 29, 30] (by decide) ⟨rfl, rfl, rfl, rfl, trivial⟩ (q0 := 3) rfl rfl rfl rfl (Nat.le_of_ble_eq_true rfl) (nw := 31) ⟨rfl, rfl, rfl, rfl, trivial⟩ ⟨⟨_, rfl, rfl⟩, ⟨_, rfl, rfl⟩, ⟨_, rfl, rfl⟩, ⟨_, rfl, rfl⟩, ⟨_, rfl, rfl⟩, ⟨_, rfl, rfl⟩, ⟨_, rfl, rfl⟩, ⟨_, rfl, rfl⟩, ⟨_, rfl, rfl⟩, ⟨_, rfl, rfl⟩, ⟨_, rfl, rfl⟩, ⟨_, rfl, rfl⟩, ⟨_, rfl, rfl⟩, ⟨_, rfl, rfl⟩, ⟨_, rfl, rfl⟩, ⟨_, rfl, rfl⟩, ⟨_, rfl, rfl⟩, ⟨_, rfl, rfl⟩, ⟨_, rfl, rfl⟩, ⟨_, rfl, rfl⟩, ⟨_, rfl, rfl⟩, ⟨_, rfl, rfl⟩, ⟨_, rfl, rfl⟩, ⟨_, rfl, rfl⟩, ⟨_, rfl, rfl⟩, ⟨_, rfl, rfl⟩, ⟨_, rfl, rfl⟩, trivial⟩ rfl rfl (by decide) (by decide) rfl dX7_forget_47 (fun H locs hw => ?_)
      refine lv_iload_n (pc := 50) E.1 E.2.1 dX7_forget_50 rfl (lv_at hl 0 rfl) ?_
      obtain rfl := Option.some.inj hf
      exact x_reti (pc := 51) E hr hk hw dX7_forget_51
    · have hf := x_pos q6 hf
      refine lv_iconst (v := (-1)) (pc := 18) E.1 E.2.1 dX7_forget_18 (by decide) ?_
      obtain rfl := Option.some.inj hf
      exact x_reti (pc := 19) E hr hk hw dX7_forget_19
set_option maxHeartbeats 4000000 in
set_option maxRecDepth 100000 in
theorem c_X7_forget (l : Launch) (G : xG) (ad : Nat → Nat) (s : S7) (x1 : Int32) {z : Int32 × S7} (hf : f_X7_forget s x1 = some z) : xC l yX7_forget cX7_forget 3 (some .int) (rm_X7_forget) G [.ref (ad 0), .int x1] (cells7 G ad s) (some (.int z.1)) (cells7 G ad z.2) :=
  x_met (by decide) rfl (Nat.le_of_ble_eq_true rfl) (fun p e sS m below meth c E hr hk ls hl hw => w_X7_forget_p0 E hr hk s x1 z hw hl hf)
set_option maxHeartbeats 4000000 in
set_option maxRecDepth 100000 in
theorem w_X7_claim_p0 {p : Program} {l : Launch} {e : Env} {sS : State} {m : MethodId} {args : Array Value} {below : List Frame} {meth : Method} {c : Code} {G : xG} {W0 : va_W} {ad : Nat → Nat}   (E : xE p sS m args c cX7_claim 4 RX7 G (x_in W0)) (hr : meth.sig.returnType = (some .int)) (hk : meth.locks = false)  : ∀ (s' : S7) (x1' : Int32) (x2' : Int32) (x3' : Int32) (z : Int32 × S7) {H : Heap} {locs : List Loc} {ls : Array Slot}, xW G (x_in W0) sS.heap (cells7 G ad s') H locs → lv_has ls 4 [(0, .ref (ad 0)), (1, .int x1'), (2, .int x2'), (3, .int x3')] → f_X7_claim  s' x1' x2' x3' = some z → W p l e (rm_X7_claim) sS m args below meth c H locs 0 0 (MQ below (xQ G W0 (cells7 G ad z.2) (some (.int z.1))) args sS 0 0 (x_in W0)) (F0 m 0 ls []) := by
  intro s x1 x2 x3 z H locs ls hw hl hf
  unfold f_X7_claim at hf
  refine lv_aload_n (pc := 0) E.1 E.2.1 dX7_claim_0 rfl (lv_at hl 0 rfl) ?_
  refine xg_X7_19 (pc := 1) (v := .ref (ad 3)) E hw 0 rfl rfl dX7_claim_1 ?_
  refine lv_iload_n (pc := 4) E.1 E.2.1 dX7_claim_4 rfl (lv_at hl 1 rfl) ?_
  obtain ⟨v1, g2, hf⟩ := x_bind hf
  refine x_callV (pc := 5) (As := [.int x1]) (rest := []) (st1 := [.int v1]) (ws' := (cells7 G ad s)) E hw hl (c_X0_hasFleet l G (fun k => ad (k + 3)) (g7_book s) x1 g2) xv_X7_95 xd_X0_hasFleet rfl rfl ⟨Nat.le_of_ble_eq_true rfl, Nat.le_of_ble_eq_true rfl⟩ [3, 4, 5, 6] [0, 1, 2, 7, 8, 9, 10, 11, 12, 13, 14, 15, 16, 17, 18, 19, 20, 21, 22, 23, 24, 25, 26, 27, 28, 29, 30] (by decide) ⟨rfl, rfl, rfl, rfl, trivial⟩ (q0 := 3) rfl rfl rfl rfl (Nat.le_of_ble_eq_true rfl) (nw := 31) ⟨rfl, rfl, rfl, rfl, trivial⟩ ⟨⟨_, rfl, rfl⟩, ⟨_, rfl, rfl⟩, ⟨_, rfl, rfl⟩, ⟨_, rfl, rfl⟩, ⟨_, rfl, rfl⟩, ⟨_, rfl, rfl⟩, ⟨_, rfl, rfl⟩, ⟨_, rfl, rfl⟩, ⟨_, rfl, rfl⟩, ⟨_, rfl, rfl⟩, ⟨_, rfl, rfl⟩, ⟨_, rfl, rfl⟩, ⟨_, rfl, rfl⟩, ⟨_, rfl, rfl⟩, ⟨_, rfl, rfl⟩, ⟨_, rfl, rfl⟩, ⟨_, rfl, rfl⟩, ⟨_, rfl, rfl⟩, ⟨_, rfl, rfl⟩, ⟨_, rfl, rfl⟩, ⟨_, rfl, rfl⟩, ⟨_, rfl, rfl⟩, ⟨_, rfl, rfl⟩, ⟨_, rfl, rfl⟩, ⟨_, rfl, rfl⟩, ⟨_, rfl, rfl⟩, ⟨_, rfl, rfl⟩, trivial⟩ rfl rfl (by decide) (by decide) rfl dX7_claim_5 (fun H locs hw => ?_)
  refine lv_if_eq (tgt := 37) (pc := 8) E.1 E.2.1 dX7_claim_8 (by decide) (fun q3 => ?_) (fun q3 => ?_)
  · have hf := x_pos q3 hf
    refine lv_iconst (v := (-1)) (pc := 37) E.1 E.2.1 dX7_claim_37 (by decide) ?_
    obtain rfl := Option.some.inj hf
    exact x_reti (pc := 38) E hr hk hw dX7_claim_38
  · have hf := x_neg q3 hf
    refine lv_iload_n (pc := 11) E.1 E.2.1 dX7_claim_11 rfl (lv_at hl 2 rfl) ?_
    obtain ⟨v4, g5, hf⟩ := x_bind hf
    refine x_callS0 (pc := 12) (As := [.int x2]) (rest := []) (st1 := [.int v4]) E hw hl (c_X7_isYear l G  x2 g5) xs_X7_109 xd_X7_isYear rfl rfl ⟨Nat.le_of_ble_eq_true rfl, Nat.le_of_ble_eq_true rfl⟩ rfl rfl (Nat.le_of_ble_eq_true rfl) rfl dX7_claim_12 (fun H locs hw => ?_)
    refine lv_if_eq (tgt := 37) (pc := 15) E.1 E.2.1 dX7_claim_15 (by decide) (fun q6 => ?_) (fun q6 => ?_)
    · have hf := x_pos q6 hf
      refine lv_iconst (v := (-1)) (pc := 37) E.1 E.2.1 dX7_claim_37 (by decide) ?_
      obtain rfl := Option.some.inj hf
      exact x_reti (pc := 38) E hr hk hw dX7_claim_38
    · have hf := x_neg q6 hf
      refine lv_iload_n (pc := 18) E.1 E.2.1 dX7_claim_18 rfl (lv_at hl 3 rfl) ?_
      obtain ⟨v7, g8, hf⟩ := x_bind hf
      refine x_callS0 (pc := 19) (As := [.int x3]) (rest := []) (st1 := [.int v7]) E hw hl (c_X7_isAmount l G  x3 g8) xs_X7_136 xd_X7_isAmount rfl rfl ⟨Nat.le_of_ble_eq_true rfl, Nat.le_of_ble_eq_true rfl⟩ rfl rfl (Nat.le_of_ble_eq_true rfl) rfl dX7_claim_19 (fun H locs hw => ?_)
      refine lv_if_eq (tgt := 37) (pc := 22) E.1 E.2.1 dX7_claim_22 (by decide) (fun q9 => ?_) (fun q9 => ?_)
      · have hf := x_pos q9 hf
        refine lv_iconst (v := (-1)) (pc := 37) E.1 E.2.1 dX7_claim_37 (by decide) ?_
        obtain rfl := Option.some.inj hf
        exact x_reti (pc := 38) E hr hk hw dX7_claim_38
      · have hf := x_neg q9 hf
        refine lv_aload_n (pc := 25) E.1 E.2.1 dX7_claim_25 rfl (lv_at hl 0 rfl) ?_
        refine xg_X7_19 (pc := 26) (v := .ref (ad 3)) E hw 0 rfl rfl dX7_claim_26 ?_
        refine lv_iload_n (pc := 29) E.1 E.2.1 dX7_claim_29 rfl (lv_at hl 1 rfl) ?_
        refine lv_iload_n (pc := 30) E.1 E.2.1 dX7_claim_30 rfl (lv_at hl 2 rfl) ?_
        obtain ⟨v10, g11, hf⟩ := x_bind hf
        refine x_callV (pc := 31) (As := [.int x1, .int x2]) (rest := []) (st1 := [.int v10]) (ws' := (cells7 G ad s)) E hw hl (c_X0_canClaim l G (fun k => ad (k + 3)) (g7_book s) x1 x2 g11) xv_X7_139 xd_X0_canClaim rfl rfl ⟨Nat.le_of_ble_eq_true rfl, Nat.le_of_ble_eq_true rfl⟩ [3, 4, 5, 6] [0, 1, 2, 7, 8, 9, 10, 11, 12, 13, 14, 15, 16, 17, 18, 19, 20, 21, 22, 23, 24, 25, 26, 27, 28, 29, 30] (by decide) ⟨rfl, rfl, rfl, rfl, trivial⟩ (q0 := 3) rfl rfl rfl rfl (Nat.le_of_ble_eq_true rfl) (nw := 31) ⟨rfl, rfl, rfl, rfl, trivial⟩ ⟨⟨_, rfl, rfl⟩, ⟨_, rfl, rfl⟩, ⟨_, rfl, rfl⟩, ⟨_, rfl, rfl⟩, ⟨_, rfl, rfl⟩, ⟨_, rfl, rfl⟩, ⟨_, rfl, rfl⟩, ⟨_, rfl, rfl⟩, ⟨_, rfl, rfl⟩, ⟨_, rfl, rfl⟩, ⟨_, rfl, rfl⟩, ⟨_, rfl, rfl⟩, ⟨_, rfl, rfl⟩, ⟨_, rfl, rfl⟩, ⟨_, rfl, rfl⟩, ⟨_, rfl, rfl⟩, ⟨_, rfl, rfl⟩, ⟨_, rfl, rfl⟩, ⟨_, rfl, rfl⟩, ⟨_, rfl, rfl⟩, ⟨_, rfl, rfl⟩, ⟨_, rfl, rfl⟩, ⟨_, rfl, rfl⟩, ⟨_, rfl, rfl⟩, ⟨_, rfl, rfl⟩, ⟨_, rfl, rfl⟩, ⟨_, rfl, rfl⟩, trivial⟩ rfl rfl (by decide) (by decide) rfl dX7_claim_31 (fun H locs hw => ?_)
        refine lv_if_ne (tgt := 39) (pc := 34) E.1 E.2.1 dX7_claim_34 (by decide) (fun q12 => ?_) (fun q12 => ?_)
        · have hf := x_neg q12 hf
          refine lv_aload_n (pc := 39) E.1 E.2.1 dX7_claim_39 rfl (lv_at hl 0 rfl) ?_
          refine xg_X7_29 (pc := 40) (v := .ref (ad 11)) E hw 0 rfl rfl dX7_claim_40 ?_
          refine lv_aload_n (pc := 43) E.1 E.2.1 dX7_claim_43 rfl (lv_at hl 0 rfl) ?_
          refine xg_X7_19 (pc := 44) (v := .ref (ad 3)) E hw 0 rfl rfl dX7_claim_44 ?_
          obtain ⟨v13, g14, hf⟩ := x_bind hf
          refine x_callV (pc := 47) (As := [.ref (ad 3)]) (rest := []) (st1 := []) (ws' := (cells7c G ad (g7_tape s) (g7_book s) (g7_trial s) v13 (g7_ledger s) (g7_pen s) (g7_told s) (g7_ratesNow s))) E hw hl (c_X2_keep l G (fun k => ad (k + 11)) (fun k => ad (k + 3)) (g7_past s) (g7_book s) g14) xv_X7_88 xd_X2_keep rfl rfl ⟨Nat.le_of_ble_eq_true rfl, Nat.le_of_ble_eq_true rfl⟩ [11, 12, 3, 4, 5, 6] [0, 1, 2, 7, 8, 9, 10, 13, 14, 15, 16, 17, 18, 19, 20, 21, 22, 23, 24, 25, 26, 27, 28, 29, 30] (by decide) ⟨rfl, rfl, rfl, rfl, rfl, rfl, trivial⟩ (q0 := 11) rfl rfl rfl rfl (Nat.le_of_ble_eq_true rfl) (nw := 31) ⟨rfl, rfl, rfl, rfl, rfl, rfl, trivial⟩ ⟨⟨_, rfl, rfl⟩, ⟨_, rfl, rfl⟩, ⟨_, rfl, rfl⟩, ⟨_, rfl, rfl⟩, ⟨_, rfl, rfl⟩, ⟨_, rfl, rfl⟩, ⟨_, rfl, rfl⟩, ⟨_, rfl, rfl⟩, ⟨_, rfl, rfl⟩, ⟨_, rfl, rfl⟩, ⟨_, rfl, rfl⟩, ⟨_, rfl, rfl⟩, ⟨_, rfl, rfl⟩, ⟨_, rfl, rfl⟩, ⟨_, rfl, rfl⟩, ⟨_, rfl, rfl⟩, ⟨_, rfl, rfl⟩, ⟨_, rfl, rfl⟩, ⟨_, rfl, rfl⟩, ⟨_, rfl, rfl⟩, ⟨_, rfl, rfl⟩, ⟨_, rfl, rfl⟩, ⟨_, rfl, rfl⟩, ⟨_, rfl, rfl⟩, ⟨_, rfl, rfl⟩, trivial⟩ rfl rfl (by decide) (by decide) rfl dX7_claim_47 (fun H locs hw => ?_)
          refine lv_aload_n (pc := 50) E.1 E.2.1 dX7_claim_50 rfl (lv_at hl 0 rfl) ?_
          refine xg_X7_19 (pc := 51) (v := .ref (ad 3)) E hw 0 rfl rfl dX7_claim_51 ?_
          refine lv_iload_n (pc := 54) E.1 E.2.1 dX7_claim_54 rfl (lv_at hl 1 rfl) ?_
          refine lv_iload_n (pc := 55) E.1 E.2.1 dX7_claim_55 rfl (lv_at hl 2 rfl) ?_
          refine lv_iload_n (pc := 56) E.1 E.2.1 dX7_claim_56 rfl (lv_at hl 3 rfl) ?_
          obtain ⟨v15, g16, hf⟩ := x_bind hf
          refine x_callV (pc := 57) (As := [.int x1, .int x2, .int x3]) (rest := []) (st1 := [.int v15.1]) (ws' := (cells7c G ad (g7_tape s) v15.2 (g7_trial s) v13 (g7_ledger s) (g7_pen s) (g7_told s) (g7_ratesNow s))) E hw hl (c_X0_addClaim l G (fun k => ad (k + 3)) (g7_book s) x1 x2 x3 g16) xv_X7_142 xd_X0_addClaim rfl rfl ⟨Nat.le_of_ble_eq_true rfl, Nat.le_of_ble_eq_true rfl⟩ [3, 4, 5, 6] [0, 1, 2, 7, 8, 9, 10, 11, 12, 13, 14, 15, 16, 17, 18, 19, 20, 21, 22, 23, 24, 25, 26, 27, 28, 29, 30] (by decide) ⟨rfl, rfl, rfl, rfl, trivial⟩ (q0 := 3) rfl rfl rfl rfl (Nat.le_of_ble_eq_true rfl) (nw := 31) ⟨rfl, rfl, rfl, rfl, trivial⟩ ⟨⟨_, rfl, rfl⟩, ⟨_, rfl, rfl⟩, ⟨_, rfl, rfl⟩, ⟨_, rfl, rfl⟩, ⟨_, rfl, rfl⟩, ⟨_, rfl, rfl⟩, ⟨_, rfl, rfl⟩, ⟨_, rfl, rfl⟩, ⟨_, rfl, rfl⟩, ⟨_, rfl, rfl⟩, ⟨_, rfl, rfl⟩, ⟨_, rfl, rfl⟩, ⟨_, rfl, rfl⟩, ⟨_, rfl, rfl⟩, ⟨_, rfl, rfl⟩, ⟨_, rfl, rfl⟩, ⟨_, rfl, rfl⟩, ⟨_, rfl, rfl⟩, ⟨_, rfl, rfl⟩, ⟨_, rfl, rfl⟩, ⟨_, rfl, rfl⟩, ⟨_, rfl, rfl⟩, ⟨_, rfl, rfl⟩, ⟨_, rfl, rfl⟩, ⟨_, rfl, rfl⟩, ⟨_, rfl, rfl⟩, ⟨_, rfl, rfl⟩, trivial⟩ rfl rfl (by decide) (by decide) rfl dX7_claim_57 (fun H locs hw => ?_)
          obtain rfl := Option.some.inj hf
          exact x_reti (pc := 60) E hr hk hw dX7_claim_60
        · have hf := x_pos q12 hf
          refine lv_iconst (v := (-1)) (pc := 37) E.1 E.2.1 dX7_claim_37 (by decide) ?_
          obtain rfl := Option.some.inj hf
          exact x_reti (pc := 38) E hr hk hw dX7_claim_38
set_option maxHeartbeats 4000000 in
set_option maxRecDepth 100000 in
theorem c_X7_claim (l : Launch) (G : xG) (ad : Nat → Nat) (s : S7) (x1 : Int32) (x2 : Int32) (x3 : Int32) {z : Int32 × S7} (hf : f_X7_claim s x1 x2 x3 = some z) : xC l yX7_claim cX7_claim 4 (some .int) (rm_X7_claim) G [.ref (ad 0), .int x1, .int x2, .int x3] (cells7 G ad s) (some (.int z.1)) (cells7 G ad z.2) :=
  x_met (by decide) rfl (Nat.le_of_ble_eq_true rfl) (fun p e sS m below meth c E hr hk ls hl hw => w_X7_claim_p0 E hr hk s x1 x2 x3 z hw hl hf)
set_option maxHeartbeats 4000000 in
set_option maxRecDepth 100000 in
theorem w_X7_waive_p0 {p : Program} {l : Launch} {e : Env} {sS : State} {m : MethodId} {args : Array Value} {below : List Frame} {meth : Method} {c : Code} {G : xG} {W0 : va_W} {ad : Nat → Nat}   (E : xE p sS m args c cX7_waive 2 RX7 G (x_in W0)) (hr : meth.sig.returnType = (some .boolean)) (hk : meth.locks = false)  : ∀ (s' : S7) (x1' : Int32) (z : Int32 × S7) {H : Heap} {locs : List Loc} {ls : Array Slot}, xW G (x_in W0) sS.heap (cells7 G ad s') H locs → lv_has ls 2 [(0, .ref (ad 0)), (1, .int x1')] → f_X7_waive  s' x1' = some z → W p l e (rm_X7_waive) sS m args below meth c H locs 0 0 (MQ below (xQ G W0 (cells7 G ad z.2) (some (.int z.1))) args sS 0 0 (x_in W0)) (F0 m 0 ls []) := by
  intro s x1 z H locs ls hw hl hf
  unfold f_X7_waive at hf
  refine lv_aload_n (pc := 0) E.1 E.2.1 dX7_waive_0 rfl (lv_at hl 0 rfl) ?_
  refine xg_X7_19 (pc := 1) (v := .ref (ad 3)) E hw 0 rfl rfl dX7_waive_1 ?_
  refine lv_iload_n (pc := 4) E.1 E.2.1 dX7_waive_4 rfl (lv_at hl 1 rfl) ?_
  obtain ⟨v1, g2, hf⟩ := x_bind hf
  refine x_callV (pc := 5) (As := [.int x1]) (rest := []) (st1 := [.int v1]) (ws' := (cells7 G ad s)) E hw hl (c_X0_hasClaim l G (fun k => ad (k + 3)) (g7_book s) x1 g2) xv_X7_146 xd_X0_hasClaim rfl rfl ⟨Nat.le_of_ble_eq_true rfl, Nat.le_of_ble_eq_true rfl⟩ [3, 4, 5, 6] [0, 1, 2, 7, 8, 9, 10, 11, 12, 13, 14, 15, 16, 17, 18, 19, 20, 21, 22, 23, 24, 25, 26, 27, 28, 29, 30] (by decide) ⟨rfl, rfl, rfl, rfl, trivial⟩ (q0 := 3) rfl rfl rfl rfl (Nat.le_of_ble_eq_true rfl) (nw := 31) ⟨rfl, rfl, rfl, rfl, trivial⟩ ⟨⟨_, rfl, rfl⟩, ⟨_, rfl, rfl⟩, ⟨_, rfl, rfl⟩, ⟨_, rfl, rfl⟩, ⟨_, rfl, rfl⟩, ⟨_, rfl, rfl⟩, ⟨_, rfl, rfl⟩, ⟨_, rfl, rfl⟩, ⟨_, rfl, rfl⟩, ⟨_, rfl, rfl⟩, ⟨_, rfl, rfl⟩, ⟨_, rfl, rfl⟩, ⟨_, rfl, rfl⟩, ⟨_, rfl, rfl⟩, ⟨_, rfl, rfl⟩, ⟨_, rfl, rfl⟩, ⟨_, rfl, rfl⟩, ⟨_, rfl, rfl⟩, ⟨_, rfl, rfl⟩, ⟨_, rfl, rfl⟩, ⟨_, rfl, rfl⟩, ⟨_, rfl, rfl⟩, ⟨_, rfl, rfl⟩, ⟨_, rfl, rfl⟩, ⟨_, rfl, rfl⟩, ⟨_, rfl, rfl⟩, ⟨_, rfl, rfl⟩, trivial⟩ rfl rfl (by decide) (by decide) rfl dX7_waive_5 (fun H locs hw => ?_)
  refine lv_if_ne (tgt := 13) (pc := 8) E.1 E.2.1 dX7_waive_8 (by decide) (fun q3 => ?_) (fun q3 => ?_)
  · have hf := x_neg q3 hf
    refine lv_aload_n (pc := 13) E.1 E.2.1 dX7_waive_13 rfl (lv_at hl 0 rfl) ?_
    refine xg_X7_29 (pc := 14) (v := .ref (ad 11)) E hw 0 rfl rfl dX7_waive_14 ?_
    refine lv_aload_n (pc := 17) E.1 E.2.1 dX7_waive_17 rfl (lv_at hl 0 rfl) ?_
    refine xg_X7_19 (pc := 18) (v := .ref (ad 3)) E hw 0 rfl rfl dX7_waive_18 ?_
    obtain ⟨v4, g5, hf⟩ := x_bind hf
    refine x_callV (pc := 21) (As := [.ref (ad 3)]) (rest := []) (st1 := []) (ws' := (cells7c G ad (g7_tape s) (g7_book s) (g7_trial s) v4 (g7_ledger s) (g7_pen s) (g7_told s) (g7_ratesNow s))) E hw hl (c_X2_keep l G (fun k => ad (k + 11)) (fun k => ad (k + 3)) (g7_past s) (g7_book s) g5) xv_X7_88 xd_X2_keep rfl rfl ⟨Nat.le_of_ble_eq_true rfl, Nat.le_of_ble_eq_true rfl⟩ [11, 12, 3, 4, 5, 6] [0, 1, 2, 7, 8, 9, 10, 13, 14, 15, 16, 17, 18, 19, 20, 21, 22, 23, 24, 25, 26, 27, 28, 29, 30] (by decide) ⟨rfl, rfl, rfl, rfl, rfl, rfl, trivial⟩ (q0 := 11) rfl rfl rfl rfl (Nat.le_of_ble_eq_true rfl) (nw := 31) ⟨rfl, rfl, rfl, rfl, rfl, rfl, trivial⟩ ⟨⟨_, rfl, rfl⟩, ⟨_, rfl, rfl⟩, ⟨_, rfl, rfl⟩, ⟨_, rfl, rfl⟩, ⟨_, rfl, rfl⟩, ⟨_, rfl, rfl⟩, ⟨_, rfl, rfl⟩, ⟨_, rfl, rfl⟩, ⟨_, rfl, rfl⟩, ⟨_, rfl, rfl⟩, ⟨_, rfl, rfl⟩, ⟨_, rfl, rfl⟩, ⟨_, rfl, rfl⟩, ⟨_, rfl, rfl⟩, ⟨_, rfl, rfl⟩, ⟨_, rfl, rfl⟩, ⟨_, rfl, rfl⟩, ⟨_, rfl, rfl⟩, ⟨_, rfl, rfl⟩, ⟨_, rfl, rfl⟩, ⟨_, rfl, rfl⟩, ⟨_, rfl, rfl⟩, ⟨_, rfl, rfl⟩, ⟨_, rfl, rfl⟩, ⟨_, rfl, rfl⟩, trivial⟩ rfl rfl (by decide) (by decide) rfl dX7_waive_21 (fun H locs hw => ?_)
    refine lv_aload_n (pc := 24) E.1 E.2.1 dX7_waive_24 rfl (lv_at hl 0 rfl) ?_
    refine xg_X7_19 (pc := 25) (v := .ref (ad 3)) E hw 0 rfl rfl dX7_waive_25 ?_
    refine lv_iload_n (pc := 28) E.1 E.2.1 dX7_waive_28 rfl (lv_at hl 1 rfl) ?_
    obtain ⟨v6, g7, hf⟩ := x_bind hf
    refine x_callV (pc := 29) (As := [.int x1]) (rest := []) (st1 := []) (ws' := (cells7c G ad (g7_tape s) v6 (g7_trial s) v4 (g7_ledger s) (g7_pen s) (g7_told s) (g7_ratesNow s))) E hw hl (c_X0_dropClaim l G (fun k => ad (k + 3)) (g7_book s) x1 g7) xv_X7_149 xd_X0_dropClaim rfl rfl ⟨Nat.le_of_ble_eq_true rfl, Nat.le_of_ble_eq_true rfl⟩ [3, 4, 5, 6] [0, 1, 2, 7, 8, 9, 10, 11, 12, 13, 14, 15, 16, 17, 18, 19, 20, 21, 22, 23, 24, 25, 26, 27, 28, 29, 30] (by decide) ⟨rfl, rfl, rfl, rfl, trivial⟩ (q0 := 3) rfl rfl rfl rfl (Nat.le_of_ble_eq_true rfl) (nw := 31) ⟨rfl, rfl, rfl, rfl, trivial⟩ ⟨⟨_, rfl, rfl⟩, ⟨_, rfl, rfl⟩, ⟨_, rfl, rfl⟩, ⟨_, rfl, rfl⟩, ⟨_, rfl, rfl⟩, ⟨_, rfl, rfl⟩, ⟨_, rfl, rfl⟩, ⟨_, rfl, rfl⟩, ⟨_, rfl, rfl⟩, ⟨_, rfl, rfl⟩, ⟨_, rfl, rfl⟩, ⟨_, rfl, rfl⟩, ⟨_, rfl, rfl⟩, ⟨_, rfl, rfl⟩, ⟨_, rfl, rfl⟩, ⟨_, rfl, rfl⟩, ⟨_, rfl, rfl⟩, ⟨_, rfl, rfl⟩, ⟨_, rfl, rfl⟩, ⟨_, rfl, rfl⟩, ⟨_, rfl, rfl⟩, ⟨_, rfl, rfl⟩, ⟨_, rfl, rfl⟩, ⟨_, rfl, rfl⟩, ⟨_, rfl, rfl⟩, ⟨_, rfl, rfl⟩, ⟨_, rfl, rfl⟩, trivial⟩ rfl rfl (by decide) (by decide) rfl dX7_waive_29 (fun H locs hw => ?_)
    refine lv_iconst (v := 1) (pc := 32) E.1 E.2.1 dX7_waive_32 (by decide) ?_
    obtain rfl := Option.some.inj hf
    exact x_retz (pc := 33) (v := 1) (r := 1) E hr hk hw (by decide) dX7_waive_33
  · have hf := x_pos q3 hf
    refine lv_iconst (v := 0) (pc := 11) E.1 E.2.1 dX7_waive_11 (by decide) ?_
    obtain rfl := Option.some.inj hf
    exact x_retz (pc := 12) (v := 0) (r := 0) E hr hk hw (by decide) dX7_waive_12
set_option maxHeartbeats 4000000 in
set_option maxRecDepth 100000 in
theorem c_X7_waive (l : Launch) (G : xG) (ad : Nat → Nat) (s : S7) (x1 : Int32) {z : Int32 × S7} (hf : f_X7_waive s x1 = some z) : xC l yX7_waive cX7_waive 2 (some .boolean) (rm_X7_waive) G [.ref (ad 0), .int x1] (cells7 G ad s) (some (.int z.1)) (cells7 G ad z.2) :=
  x_met (by decide) rfl (Nat.le_of_ble_eq_true rfl) (fun p e sS m below meth c E hr hk ls hl hw => w_X7_waive_p0 E hr hk s x1 z hw hl hf)
set_option maxHeartbeats 4000000 in
set_option maxRecDepth 100000 in
theorem w_X7_amend_p0 {p : Program} {l : Launch} {e : Env} {sS : State} {m : MethodId} {args : Array Value} {below : List Frame} {meth : Method} {c : Code} {G : xG} {W0 : va_W} {ad : Nat → Nat}   (E : xE p sS m args c cX7_amend 4 RX7 G (x_in W0)) (hr : meth.sig.returnType = (some .int)) (hk : meth.locks = false)  : ∀ (s' : S7) (x1' : Int32) (x2' : Int32) (z : Int32 × S7) {H : Heap} {locs : List Loc} {ls : Array Slot}, xW G (x_in W0) sS.heap (cells7 G ad s') H locs → lv_has ls 4 [(0, .ref (ad 0)), (1, .int x1'), (2, .int x2')] → f_X7_amend  s' x1' x2' = some z → W p l e (rm_X7_amend) sS m args below meth c H locs 0 0 (MQ below (xQ G W0 (cells7 G ad z.2) (some (.int z.1))) args sS 0 0 (x_in W0)) (F0 m 0 ls []) := by
  intro s x1 x2 z H locs ls hw hl hf
  unfold f_X7_amend at hf
  refine lv_aload_n (pc := 0) E.1 E.2.1 dX7_amend_0 rfl (lv_at hl 0 rfl) ?_
  refine xg_X7_19 (pc := 1) (v := .ref (ad 3)) E hw 0 rfl rfl dX7_amend_1 ?_
  refine lv_iload_n (pc := 4) E.1 E.2.1 dX7_amend_4 rfl (lv_at hl 1 rfl) ?_
  obtain ⟨v1, g2, hf⟩ := x_bind hf
  refine x_callV (pc := 5) (As := [.int x1]) (rest := []) (st1 := [.int v1]) (ws' := (cells7 G ad s)) E hw hl (c_X0_hasClaim l G (fun k => ad (k + 3)) (g7_book s) x1 g2) xv_X7_146 xd_X0_hasClaim rfl rfl ⟨Nat.le_of_ble_eq_true rfl, Nat.le_of_ble_eq_true rfl⟩ [3, 4, 5, 6] [0, 1, 2, 7, 8, 9, 10, 11, 12, 13, 14, 15, 16, 17, 18, 19, 20, 21, 22, 23, 24, 25, 26, 27, 28, 29, 30] (by decide) ⟨rfl, rfl, rfl, rfl, trivial⟩ (q0 := 3) rfl rfl rfl rfl (Nat.le_of_ble_eq_true rfl) (nw := 31) ⟨rfl, rfl, rfl, rfl, trivial⟩ ⟨⟨_, rfl, rfl⟩, ⟨_, rfl, rfl⟩, ⟨_, rfl, rfl⟩, ⟨_, rfl, rfl⟩, ⟨_, rfl, rfl⟩, ⟨_, rfl, rfl⟩, ⟨_, rfl, rfl⟩, ⟨_, rfl, rfl⟩, ⟨_, rfl, rfl⟩, ⟨_, rfl, rfl⟩, ⟨_, rfl, rfl⟩, ⟨_, rfl, rfl⟩, ⟨_, rfl, rfl⟩, ⟨_, rfl, rfl⟩, ⟨_, rfl, rfl⟩, ⟨_, rfl, rfl⟩, ⟨_, rfl, rfl⟩, ⟨_, rfl, rfl⟩, ⟨_, rfl, rfl⟩, ⟨_, rfl, rfl⟩, ⟨_, rfl, rfl⟩, ⟨_, rfl, rfl⟩, ⟨_, rfl, rfl⟩, ⟨_, rfl, rfl⟩, ⟨_, rfl, rfl⟩, ⟨_, rfl, rfl⟩, ⟨_, rfl, rfl⟩, trivial⟩ rfl rfl (by decide) (by decide) rfl dX7_amend_5 (fun H locs hw => ?_)
  refine lv_if_eq (tgt := 30) (pc := 8) E.1 E.2.1 dX7_amend_8 (by decide) (fun q3 => ?_) (fun q3 => ?_)
  · have hf := x_pos q3 hf
    refine lv_iconst (v := (-1)) (pc := 30) E.1 E.2.1 dX7_amend_30 (by decide) ?_
    obtain rfl := Option.some.inj hf
    exact x_reti (pc := 31) E hr hk hw dX7_amend_31
  · have hf := x_neg q3 hf
    refine lv_iload_n (pc := 11) E.1 E.2.1 dX7_amend_11 rfl (lv_at hl 2 rfl) ?_
    obtain ⟨v4, g5, hf⟩ := x_bind hf
    refine x_callS0 (pc := 12) (As := [.int x2]) (rest := []) (st1 := [.int v4]) E hw hl (c_X7_isAmount l G  x2 g5) xs_X7_136 xd_X7_isAmount rfl rfl ⟨Nat.le_of_ble_eq_true rfl, Nat.le_of_ble_eq_true rfl⟩ rfl rfl (Nat.le_of_ble_eq_true rfl) rfl dX7_amend_12 (fun H locs hw => ?_)
    refine lv_if_eq (tgt := 30) (pc := 15) E.1 E.2.1 dX7_amend_15 (by decide) (fun q6 => ?_) (fun q6 => ?_)
    · have hf := x_pos q6 hf
      refine lv_iconst (v := (-1)) (pc := 30) E.1 E.2.1 dX7_amend_30 (by decide) ?_
      obtain rfl := Option.some.inj hf
      exact x_reti (pc := 31) E hr hk hw dX7_amend_31
    · have hf := x_neg q6 hf
      refine lv_aload_n (pc := 18) E.1 E.2.1 dX7_amend_18 rfl (lv_at hl 0 rfl) ?_
      refine xg_X7_19 (pc := 19) (v := .ref (ad 3)) E hw 0 rfl rfl dX7_amend_19 ?_
      refine lv_iload_n (pc := 22) E.1 E.2.1 dX7_amend_22 rfl (lv_at hl 1 rfl) ?_
      obtain ⟨v7, g8, hf⟩ := x_bind hf
      refine x_callV (pc := 23) (As := [.int x1]) (rest := []) (st1 := [.int v7]) (ws' := (cells7 G ad s)) E hw hl (c_X0_amountOf l G (fun k => ad (k + 3)) (g7_book s) x1 g8) xv_X7_152 xd_X0_amountOf rfl rfl ⟨Nat.le_of_ble_eq_true rfl, Nat.le_of_ble_eq_true rfl⟩ [3, 4, 5, 6] [0, 1, 2, 7, 8, 9, 10, 11, 12, 13, 14, 15, 16, 17, 18, 19, 20, 21, 22, 23, 24, 25, 26, 27, 28, 29, 30] (by decide) ⟨rfl, rfl, rfl, rfl, trivial⟩ (q0 := 3) rfl rfl rfl rfl (Nat.le_of_ble_eq_true rfl) (nw := 31) ⟨rfl, rfl, rfl, rfl, trivial⟩ ⟨⟨_, rfl, rfl⟩, ⟨_, rfl, rfl⟩, ⟨_, rfl, rfl⟩, ⟨_, rfl, rfl⟩, ⟨_, rfl, rfl⟩, ⟨_, rfl, rfl⟩, ⟨_, rfl, rfl⟩, ⟨_, rfl, rfl⟩, ⟨_, rfl, rfl⟩, ⟨_, rfl, rfl⟩, ⟨_, rfl, rfl⟩, ⟨_, rfl, rfl⟩, ⟨_, rfl, rfl⟩, ⟨_, rfl, rfl⟩, ⟨_, rfl, rfl⟩, ⟨_, rfl, rfl⟩, ⟨_, rfl, rfl⟩, ⟨_, rfl, rfl⟩, ⟨_, rfl, rfl⟩, ⟨_, rfl, rfl⟩, ⟨_, rfl, rfl⟩, ⟨_, rfl, rfl⟩, ⟨_, rfl, rfl⟩, ⟨_, rfl, rfl⟩, ⟨_, rfl, rfl⟩, ⟨_, rfl, rfl⟩, ⟨_, rfl, rfl⟩, trivial⟩ rfl rfl (by decide) (by decide) rfl dX7_amend_23 (fun H locs hw => ?_)
      refine lv_iload_n (pc := 26) E.1 E.2.1 dX7_amend_26 rfl (lv_at hl 2 rfl) ?_
      refine lv_icmp_ne (tgt := 32) (pc := 27) E.1 E.2.1 dX7_amend_27 (by decide) (fun q9 => ?_) (fun q9 => ?_)
      · have hf := x_neg q9 hf
        refine lv_aload_n (pc := 32) E.1 E.2.1 dX7_amend_32 rfl (lv_at hl 0 rfl) ?_
        refine xg_X7_29 (pc := 33) (v := .ref (ad 11)) E hw 0 rfl rfl dX7_amend_33 ?_
        refine lv_aload_n (pc := 36) E.1 E.2.1 dX7_amend_36 rfl (lv_at hl 0 rfl) ?_
        refine xg_X7_19 (pc := 37) (v := .ref (ad 3)) E hw 0 rfl rfl dX7_amend_37 ?_
        obtain ⟨v10, g11, hf⟩ := x_bind hf
        refine x_callV (pc := 40) (As := [.ref (ad 3)]) (rest := []) (st1 := []) (ws' := (cells7c G ad (g7_tape s) (g7_book s) (g7_trial s) v10 (g7_ledger s) (g7_pen s) (g7_told s) (g7_ratesNow s))) E hw hl (c_X2_keep l G (fun k => ad (k + 11)) (fun k => ad (k + 3)) (g7_past s) (g7_book s) g11) xv_X7_88 xd_X2_keep rfl rfl ⟨Nat.le_of_ble_eq_true rfl, Nat.le_of_ble_eq_true rfl⟩ [11, 12, 3, 4, 5, 6] [0, 1, 2, 7, 8, 9, 10, 13, 14, 15, 16, 17, 18, 19, 20, 21, 22, 23, 24, 25, 26, 27, 28, 29, 30] (by decide) ⟨rfl, rfl, rfl, rfl, rfl, rfl, trivial⟩ (q0 := 11) rfl rfl rfl rfl (Nat.le_of_ble_eq_true rfl) (nw := 31) ⟨rfl, rfl, rfl, rfl, rfl, rfl, trivial⟩ ⟨⟨_, rfl, rfl⟩, ⟨_, rfl, rfl⟩, ⟨_, rfl, rfl⟩, ⟨_, rfl, rfl⟩, ⟨_, rfl, rfl⟩, ⟨_, rfl, rfl⟩, ⟨_, rfl, rfl⟩, ⟨_, rfl, rfl⟩, ⟨_, rfl, rfl⟩, ⟨_, rfl, rfl⟩, ⟨_, rfl, rfl⟩, ⟨_, rfl, rfl⟩, ⟨_, rfl, rfl⟩, ⟨_, rfl, rfl⟩, ⟨_, rfl, rfl⟩, ⟨_, rfl, rfl⟩, ⟨_, rfl, rfl⟩, ⟨_, rfl, rfl⟩, ⟨_, rfl, rfl⟩, ⟨_, rfl, rfl⟩, ⟨_, rfl, rfl⟩, ⟨_, rfl, rfl⟩, ⟨_, rfl, rfl⟩, ⟨_, rfl, rfl⟩, ⟨_, rfl, rfl⟩, trivial⟩ rfl rfl (by decide) (by decide) rfl dX7_amend_40 (fun H locs hw => ?_)
        refine lv_aload_n (pc := 43) E.1 E.2.1 dX7_amend_43 rfl (lv_at hl 0 rfl) ?_
        refine xg_X7_19 (pc := 44) (v := .ref (ad 3)) E hw 0 rfl rfl dX7_amend_44 ?_
        refine lv_iload_n (pc := 47) E.1 E.2.1 dX7_amend_47 rfl (lv_at hl 1 rfl) ?_
        obtain ⟨v12, g13, hf⟩ := x_bind hf
        refine x_callV (pc := 48) (As := [.int x1]) (rest := []) (st1 := [.int v12]) (ws' := (cells7c G ad (g7_tape s) (g7_book s) (g7_trial s) v10 (g7_ledger s) (g7_pen s) (g7_told s) (g7_ratesNow s))) E hw hl (c_X0_amountOf l G (fun k => ad (k + 3)) (g7_book s) x1 g13) xv_X7_152 xd_X0_amountOf rfl rfl ⟨Nat.le_of_ble_eq_true rfl, Nat.le_of_ble_eq_true rfl⟩ [3, 4, 5, 6] [0, 1, 2, 7, 8, 9, 10, 11, 12, 13, 14, 15, 16, 17, 18, 19, 20, 21, 22, 23, 24, 25, 26, 27, 28, 29, 30] (by decide) ⟨rfl, rfl, rfl, rfl, trivial⟩ (q0 := 3) rfl rfl rfl rfl (Nat.le_of_ble_eq_true rfl) (nw := 31) ⟨rfl, rfl, rfl, rfl, trivial⟩ ⟨⟨_, rfl, rfl⟩, ⟨_, rfl, rfl⟩, ⟨_, rfl, rfl⟩, ⟨_, rfl, rfl⟩, ⟨_, rfl, rfl⟩, ⟨_, rfl, rfl⟩, ⟨_, rfl, rfl⟩, ⟨_, rfl, rfl⟩, ⟨_, rfl, rfl⟩, ⟨_, rfl, rfl⟩, ⟨_, rfl, rfl⟩, ⟨_, rfl, rfl⟩, ⟨_, rfl, rfl⟩, ⟨_, rfl, rfl⟩, ⟨_, rfl, rfl⟩, ⟨_, rfl, rfl⟩, ⟨_, rfl, rfl⟩, ⟨_, rfl, rfl⟩, ⟨_, rfl, rfl⟩, ⟨_, rfl, rfl⟩, ⟨_, rfl, rfl⟩, ⟨_, rfl, rfl⟩, ⟨_, rfl, rfl⟩, ⟨_, rfl, rfl⟩, ⟨_, rfl, rfl⟩, ⟨_, rfl, rfl⟩, ⟨_, rfl, rfl⟩, trivial⟩ rfl rfl (by decide) (by decide) rfl dX7_amend_48 (fun H locs hw => ?_)
        refine lv_istore_n (lv' := [(3, .int v12), (0, .ref (ad 0)), (1, .int x1), (2, .int x2)]) (pc := 51) E.1 E.2.1 dX7_amend_51 rfl hl (by decide) rfl (fun ls hl => ?_)
        refine lv_aload_n (pc := 52) E.1 E.2.1 dX7_amend_52 rfl (lv_at hl 1 rfl) ?_
        refine xg_X7_19 (pc := 53) (v := .ref (ad 3)) E hw 0 rfl rfl dX7_amend_53 ?_
        refine lv_iload_n (pc := 56) E.1 E.2.1 dX7_amend_56 rfl (lv_at hl 2 rfl) ?_
        refine lv_iload_n (pc := 57) E.1 E.2.1 dX7_amend_57 rfl (lv_at hl 3 rfl) ?_
        obtain ⟨v14, g15, hf⟩ := x_bind hf
        refine x_callV (pc := 58) (As := [.int x1, .int x2]) (rest := []) (st1 := []) (ws' := (cells7c G ad (g7_tape s) v14 (g7_trial s) v10 (g7_ledger s) (g7_pen s) (g7_told s) (g7_ratesNow s))) E hw hl (c_X0_putAmount l G (fun k => ad (k + 3)) (g7_book s) x1 x2 g15) xv_X7_155 xd_X0_putAmount rfl rfl ⟨Nat.le_of_ble_eq_true rfl, Nat.le_of_ble_eq_true rfl⟩ [3, 4, 5, 6] [0, 1, 2, 7, 8, 9, 10, 11, 12, 13, 14, 15, 16, 17, 18, 19, 20, 21, 22, 23, 24, 25, 26, 27, 28, 29, 30] (by decide) ⟨rfl, rfl, rfl, rfl, trivial⟩ (q0 := 3) rfl rfl rfl rfl (Nat.le_of_ble_eq_true rfl) (nw := 31) ⟨rfl, rfl, rfl, rfl, trivial⟩ ⟨⟨_, rfl, rfl⟩, ⟨_, rfl, rfl⟩, ⟨_, rfl, rfl⟩, ⟨_, rfl, rfl⟩, ⟨_, rfl, rfl⟩, ⟨_, rfl, rfl⟩, ⟨_, rfl, rfl⟩, ⟨_, rfl, rfl⟩, ⟨_, rfl, rfl⟩, ⟨_, rfl, rfl⟩, ⟨_, rfl, rfl⟩, ⟨_, rfl, rfl⟩, ⟨_, rfl, rfl⟩, ⟨_, rfl, rfl⟩, ⟨_, rfl, rfl⟩, ⟨_, rfl, rfl⟩, ⟨_, rfl, rfl⟩, ⟨_, rfl, rfl⟩, ⟨_, rfl, rfl⟩, ⟨_, rfl, rfl⟩, ⟨_, rfl, rfl⟩, ⟨_, rfl, rfl⟩, ⟨_, rfl, rfl⟩, ⟨_, rfl, rfl⟩, ⟨_, rfl, rfl⟩, ⟨_, rfl, rfl⟩, ⟨_, rfl, rfl⟩, trivial⟩ rfl rfl (by decide) (by decide) rfl dX7_amend_58 (fun H locs hw => ?_)
        refine lv_iload_n (pc := 61) E.1 E.2.1 dX7_amend_61 rfl (lv_at hl 0 rfl) ?_
        obtain rfl := Option.some.inj hf
        exact x_reti (pc := 62) E hr hk hw dX7_amend_62
      · have hf := x_pos q9 hf
        refine lv_iconst (v := (-1)) (pc := 30) E.1 E.2.1 dX7_amend_30 (by decide) ?_
        obtain rfl := Option.some.inj hf
        exact x_reti (pc := 31) E hr hk hw dX7_amend_31
set_option maxHeartbeats 4000000 in
set_option maxRecDepth 100000 in
theorem c_X7_amend (l : Launch) (G : xG) (ad : Nat → Nat) (s : S7) (x1 : Int32) (x2 : Int32) {z : Int32 × S7} (hf : f_X7_amend s x1 x2 = some z) : xC l yX7_amend cX7_amend 4 (some .int) (rm_X7_amend) G [.ref (ad 0), .int x1, .int x2] (cells7 G ad s) (some (.int z.1)) (cells7 G ad z.2) :=
  x_met (by decide) rfl (Nat.le_of_ble_eq_true rfl) (fun p e sS m below meth c E hr hk ls hl hw => w_X7_amend_p0 E hr hk s x1 x2 z hw hl hf)
set_option maxHeartbeats 4000000 in
set_option maxRecDepth 100000 in
theorem w_X7_join_p0 {p : Program} {l : Launch} {e : Env} {sS : State} {m : MethodId} {args : Array Value} {below : List Frame} {meth : Method} {c : Code} {G : xG} {W0 : va_W} {ad : Nat → Nat}   (E : xE p sS m args c cX7_join 3 RX7 G (x_in W0)) (hr : meth.sig.returnType = (some .int)) (hk : meth.locks = false)  : ∀ (s' : S7) (x1' : Int32) (x2' : Int32) (z : Int32 × S7) {H : Heap} {locs : List Loc} {ls : Array Slot}, xW G (x_in W0) sS.heap (cells7 G ad s') H locs → lv_has ls 3 [(0, .ref (ad 0)), (1, .int x1'), (2, .int x2')] → f_X7_join  s' x1' x2' = some z → W p l e (rm_X7_join) sS m args below meth c H locs 0 0 (MQ below (xQ G W0 (cells7 G ad z.2) (some (.int z.1))) args sS 0 0 (x_in W0)) (F0 m 0 ls []) := by
  intro s x1 x2 z H locs ls hw hl hf
  unfold f_X7_join at hf
  refine lv_iload_n (pc := 0) E.1 E.2.1 dX7_join_0 rfl (lv_at hl 1 rfl) ?_
  obtain ⟨v1, g2, hf⟩ := x_bind hf
  refine x_callS0 (pc := 1) (As := [.int x1]) (rest := []) (st1 := [.int v1]) E hw hl (c_X7_isClass l G  x1 g2) xs_X7_84 xd_X7_isClass rfl rfl ⟨Nat.le_of_ble_eq_true rfl, Nat.le_of_ble_eq_true rfl⟩ rfl rfl (Nat.le_of_ble_eq_true rfl) rfl dX7_join_1 (fun H locs hw => ?_)
  refine lv_if_eq (tgt := 30) (pc := 4) E.1 E.2.1 dX7_join_4 (by decide) (fun q3 => ?_) (fun q3 => ?_)
  · have hf := x_pos q3 hf
    refine lv_iconst (v := (-1)) (pc := 30) E.1 E.2.1 dX7_join_30 (by decide) ?_
    obtain rfl := Option.some.inj hf
    exact x_reti (pc := 31) E hr hk hw dX7_join_31
  · have hf := x_neg q3 hf
    refine lv_iload_n (pc := 7) E.1 E.2.1 dX7_join_7 rfl (lv_at hl 2 rfl) ?_
    obtain ⟨v4, g5, hf⟩ := x_bind hf
    refine x_callS0 (pc := 8) (As := [.int x2]) (rest := []) (st1 := [.int v4]) E hw hl (c_X7_isClass l G  x2 g5) xs_X7_84 xd_X7_isClass rfl rfl ⟨Nat.le_of_ble_eq_true rfl, Nat.le_of_ble_eq_true rfl⟩ rfl rfl (Nat.le_of_ble_eq_true rfl) rfl dX7_join_8 (fun H locs hw => ?_)
    refine lv_if_eq (tgt := 30) (pc := 11) E.1 E.2.1 dX7_join_11 (by decide) (fun q6 => ?_) (fun q6 => ?_)
    · have hf := x_pos q6 hf
      refine lv_iconst (v := (-1)) (pc := 30) E.1 E.2.1 dX7_join_30 (by decide) ?_
      obtain rfl := Option.some.inj hf
      exact x_reti (pc := 31) E hr hk hw dX7_join_31
    · have hf := x_neg q6 hf
      refine lv_iload_n (pc := 14) E.1 E.2.1 dX7_join_14 rfl (lv_at hl 1 rfl) ?_
      refine lv_iload_n (pc := 15) E.1 E.2.1 dX7_join_15 rfl (lv_at hl 2 rfl) ?_
      refine lv_icmp_eq (tgt := 30) (pc := 16) E.1 E.2.1 dX7_join_16 (by decide) (fun q7 => ?_) (fun q7 => ?_)
      · have hf := x_pos q7 hf
        refine lv_iconst (v := (-1)) (pc := 30) E.1 E.2.1 dX7_join_30 (by decide) ?_
        obtain rfl := Option.some.inj hf
        exact x_reti (pc := 31) E hr hk hw dX7_join_31
      · have hf := x_neg q7 hf
        refine lv_aload_n (pc := 19) E.1 E.2.1 dX7_join_19 rfl (lv_at hl 0 rfl) ?_
        refine xg_X7_19 (pc := 20) (v := .ref (ad 3)) E hw 0 rfl rfl dX7_join_20 ?_
        refine lv_iload_n (pc := 23) E.1 E.2.1 dX7_join_23 rfl (lv_at hl 1 rfl) ?_
        obtain ⟨v8, g9, hf⟩ := x_bind hf
        refine x_callV (pc := 24) (As := [.int x1]) (rest := []) (st1 := [.int v8]) (ws' := (cells7 G ad s)) E hw hl (c_X0_fleetsIn l G (fun k => ad (k + 3)) (g7_book s) x1 g9) xv_X7_158 xd_X0_fleetsIn rfl rfl ⟨Nat.le_of_ble_eq_true rfl, Nat.le_of_ble_eq_true rfl⟩ [3, 4, 5, 6] [0, 1, 2, 7, 8, 9, 10, 11, 12, 13, 14, 15, 16, 17, 18, 19, 20, 21, 22, 23, 24, 25, 26, 27, 28, 29, 30] (by decide) ⟨rfl, rfl, rfl, rfl, trivial⟩ (q0 := 3) rfl rfl rfl rfl (Nat.le_of_ble_eq_true rfl) (nw := 31) ⟨rfl, rfl, rfl, rfl, trivial⟩ ⟨⟨_, rfl, rfl⟩, ⟨_, rfl, rfl⟩, ⟨_, rfl, rfl⟩, ⟨_, rfl, rfl⟩, ⟨_, rfl, rfl⟩, ⟨_, rfl, rfl⟩, ⟨_, rfl, rfl⟩, ⟨_, rfl, rfl⟩, ⟨_, rfl, rfl⟩, ⟨_, rfl, rfl⟩, ⟨_, rfl, rfl⟩, ⟨_, rfl, rfl⟩, ⟨_, rfl, rfl⟩, ⟨_, rfl, rfl⟩, ⟨_, rfl, rfl⟩, ⟨_, rfl, rfl⟩, ⟨_, rfl, rfl⟩, ⟨_, rfl, rfl⟩, ⟨_, rfl, rfl⟩, ⟨_, rfl, rfl⟩, ⟨_, rfl, rfl⟩, ⟨_, rfl, rfl⟩, ⟨_, rfl, rfl⟩, ⟨_, rfl, rfl⟩, ⟨_, rfl, rfl⟩, ⟨_, rfl, rfl⟩, ⟨_, rfl, rfl⟩, trivial⟩ rfl rfl (by decide) (by decide) rfl dX7_join_24 (fun H locs hw => ?_)
        refine lv_if_ne (tgt := 32) (pc := 27) E.1 E.2.1 dX7_join_27 (by decide) (fun q10 => ?_) (fun q10 => ?_)
        · have hf := x_neg q10 hf
          refine lv_aload_n (pc := 32) E.1 E.2.1 dX7_join_32 rfl (lv_at hl 0 rfl) ?_
          refine xg_X7_29 (pc := 33) (v := .ref (ad 11)) E hw 0 rfl rfl dX7_join_33 ?_
          refine lv_aload_n (pc := 36) E.1 E.2.1 dX7_join_36 rfl (lv_at hl 0 rfl) ?_
          refine xg_X7_19 (pc := 37) (v := .ref (ad 3)) E hw 0 rfl rfl dX7_join_37 ?_
          obtain ⟨v11, g12, hf⟩ := x_bind hf
          refine x_callV (pc := 40) (As := [.ref (ad 3)]) (rest := []) (st1 := []) (ws' := (cells7c G ad (g7_tape s) (g7_book s) (g7_trial s) v11 (g7_ledger s) (g7_pen s) (g7_told s) (g7_ratesNow s))) E hw hl (c_X2_keep l G (fun k => ad (k + 11)) (fun k => ad (k + 3)) (g7_past s) (g7_book s) g12) xv_X7_88 xd_X2_keep rfl rfl ⟨Nat.le_of_ble_eq_true rfl, Nat.le_of_ble_eq_true rfl⟩ [11, 12, 3, 4, 5, 6] [0, 1, 2, 7, 8, 9, 10, 13, 14, 15, 16, 17, 18, 19, 20, 21, 22, 23, 24, 25, 26, 27, 28, 29, 30] (by decide) ⟨rfl, rfl, rfl, rfl, rfl, rfl, trivial⟩ (q0 := 11) rfl rfl rfl rfl (Nat.le_of_ble_eq_true rfl) (nw := 31) ⟨rfl, rfl, rfl, rfl, rfl, rfl, trivial⟩ ⟨⟨_, rfl, rfl⟩, ⟨_, rfl, rfl⟩, ⟨_, rfl, rfl⟩, ⟨_, rfl, rfl⟩, ⟨_, rfl, rfl⟩, ⟨_, rfl, rfl⟩, ⟨_, rfl, rfl⟩, ⟨_, rfl, rfl⟩, ⟨_, rfl, rfl⟩, ⟨_, rfl, rfl⟩, ⟨_, rfl, rfl⟩, ⟨_, rfl, rfl⟩, ⟨_, rfl, rfl⟩, ⟨_, rfl, rfl⟩, ⟨_, rfl, rfl⟩, ⟨_, rfl, rfl⟩, ⟨_, rfl, rfl⟩, ⟨_, rfl, rfl⟩, ⟨_, rfl, rfl⟩, ⟨_, rfl, rfl⟩, ⟨_, rfl, rfl⟩, ⟨_, rfl, rfl⟩, ⟨_, rfl, rfl⟩, ⟨_, rfl, rfl⟩, ⟨_, rfl, rfl⟩, trivial⟩ rfl rfl (by decide) (by decide) rfl dX7_join_40 (fun H locs hw => ?_)
          refine lv_aload_n (pc := 43) E.1 E.2.1 dX7_join_43 rfl (lv_at hl 0 rfl) ?_
          refine xg_X7_19 (pc := 44) (v := .ref (ad 3)) E hw 0 rfl rfl dX7_join_44 ?_
          refine lv_iload_n (pc := 47) E.1 E.2.1 dX7_join_47 rfl (lv_at hl 1 rfl) ?_
          refine lv_iload_n (pc := 48) E.1 E.2.1 dX7_join_48 rfl (lv_at hl 2 rfl) ?_
          obtain ⟨v13, g14, hf⟩ := x_bind hf
          refine x_callV (pc := 49) (As := [.int x1, .int x2]) (rest := []) (st1 := [.int v13.1]) (ws' := (cells7c G ad (g7_tape s) v13.2 (g7_trial s) v11 (g7_ledger s) (g7_pen s) (g7_told s) (g7_ratesNow s))) E hw hl (c_X0_moveAll l G (fun k => ad (k + 3)) (g7_book s) x1 x2 g14) xv_X7_161 xd_X0_moveAll rfl rfl ⟨Nat.le_of_ble_eq_true rfl, Nat.le_of_ble_eq_true rfl⟩ [3, 4, 5, 6] [0, 1, 2, 7, 8, 9, 10, 11, 12, 13, 14, 15, 16, 17, 18, 19, 20, 21, 22, 23, 24, 25, 26, 27, 28, 29, 30] (by decide) ⟨rfl, rfl, rfl, rfl, trivial⟩ (q0 := 3) rfl rfl rfl rfl (Nat.le_of_ble_eq_true rfl) (nw := 31) ⟨rfl, rfl, rfl, rfl, trivial⟩ ⟨⟨_, rfl, rfl⟩, ⟨_, rfl, rfl⟩, ⟨_, rfl, rfl⟩, ⟨_, rfl, rfl⟩, ⟨_, rfl, rfl⟩, ⟨_, rfl, rfl⟩, ⟨_, rfl, rfl⟩, ⟨_, rfl, rfl⟩, ⟨_, rfl, rfl⟩, ⟨_, rfl, rfl⟩, ⟨_, rfl, rfl⟩, ⟨_, rfl, rfl⟩, ⟨_, rfl, rfl⟩, ⟨_, rfl, rfl⟩, ⟨_, rfl, rfl⟩, ⟨_, rfl, rfl⟩, ⟨_, rfl, rfl⟩, ⟨_, rfl, rfl⟩, ⟨_, rfl, rfl⟩, ⟨_, rfl, rfl⟩, ⟨_, rfl, rfl⟩, ⟨_, rfl, rfl⟩, ⟨_, rfl, rfl⟩, ⟨_, rfl, rfl⟩, ⟨_, rfl, rfl⟩, ⟨_, rfl, rfl⟩, ⟨_, rfl, rfl⟩, trivial⟩ rfl rfl (by decide) (by decide) rfl dX7_join_49 (fun H locs hw => ?_)
          obtain rfl := Option.some.inj hf
          exact x_reti (pc := 52) E hr hk hw dX7_join_52
        · have hf := x_pos q10 hf
          refine lv_iconst (v := (-1)) (pc := 30) E.1 E.2.1 dX7_join_30 (by decide) ?_
          obtain rfl := Option.some.inj hf
          exact x_reti (pc := 31) E hr hk hw dX7_join_31
set_option maxHeartbeats 4000000 in
set_option maxRecDepth 100000 in
theorem c_X7_join (l : Launch) (G : xG) (ad : Nat → Nat) (s : S7) (x1 : Int32) (x2 : Int32) {z : Int32 × S7} (hf : f_X7_join s x1 x2 = some z) : xC l yX7_join cX7_join 3 (some .int) (rm_X7_join) G [.ref (ad 0), .int x1, .int x2] (cells7 G ad s) (some (.int z.1)) (cells7 G ad z.2) :=
  x_met (by decide) rfl (Nat.le_of_ble_eq_true rfl) (fun p e sS m below meth c E hr hk ls hl hw => w_X7_join_p0 E hr hk s x1 x2 z hw hl hf)
set_option maxHeartbeats 4000000 in
set_option maxRecDepth 100000 in
theorem w_X7_swap_p0 {p : Program} {l : Launch} {e : Env} {sS : State} {m : MethodId} {args : Array Value} {below : List Frame} {meth : Method} {c : Code} {G : xG} {W0 : va_W} {ad : Nat → Nat}   (E : xE p sS m args c cX7_swap 3 RX7 G (x_in W0)) (hr : meth.sig.returnType = (some .boolean)) (hk : meth.locks = false)  : ∀ (s' : S7) (x1' : Int32) (x2' : Int32) (z : Int32 × S7) {H : Heap} {locs : List Loc} {ls : Array Slot}, xW G (x_in W0) sS.heap (cells7 G ad s') H locs → lv_has ls 3 [(0, .ref (ad 0)), (1, .int x1'), (2, .int x2')] → f_X7_swap  s' x1' x2' = some z → W p l e (rm_X7_swap) sS m args below meth c H locs 0 0 (MQ below (xQ G W0 (cells7 G ad z.2) (some (.int z.1))) args sS 0 0 (x_in W0)) (F0 m 0 ls []) := by
  intro s x1 x2 z H locs ls hw hl hf
  unfold f_X7_swap at hf
  refine lv_aload_n (pc := 0) E.1 E.2.1 dX7_swap_0 rfl (lv_at hl 0 rfl) ?_
  refine xg_X7_19 (pc := 1) (v := .ref (ad 3)) E hw 0 rfl rfl dX7_swap_1 ?_
  refine lv_iload_n (pc := 4) E.1 E.2.1 dX7_swap_4 rfl (lv_at hl 1 rfl) ?_
  obtain ⟨v1, g2, hf⟩ := x_bind hf
  refine x_callV (pc := 5) (As := [.int x1]) (rest := []) (st1 := [.int v1]) (ws' := (cells7 G ad s)) E hw hl (c_X0_hasFleet l G (fun k => ad (k + 3)) (g7_book s) x1 g2) xv_X7_95 xd_X0_hasFleet rfl rfl ⟨Nat.le_of_ble_eq_true rfl, Nat.le_of_ble_eq_true rfl⟩ [3, 4, 5, 6] [0, 1, 2, 7, 8, 9, 10, 11, 12, 13, 14, 15, 16, 17, 18, 19, 20, 21, 22, 23, 24, 25, 26, 27, 28, 29, 30] (by decide) ⟨rfl, rfl, rfl, rfl, trivial⟩ (q0 := 3) rfl rfl rfl rfl (Nat.le_of_ble_eq_true rfl) (nw := 31) ⟨rfl, rfl, rfl, rfl, trivial⟩ ⟨⟨_, rfl, rfl⟩, ⟨_, rfl, rfl⟩, ⟨_, rfl, rfl⟩, ⟨_, rfl, rfl⟩, ⟨_, rfl, rfl⟩, ⟨_, rfl, rfl⟩, ⟨_, rfl, rfl⟩, ⟨_, rfl, rfl⟩, ⟨_, rfl, rfl⟩, ⟨_, rfl, rfl⟩, ⟨_, rfl, rfl⟩, ⟨_, rfl, rfl⟩, ⟨_, rfl, rfl⟩, ⟨_, rfl, rfl⟩, ⟨_, rfl, rfl⟩, ⟨_, rfl, rfl⟩, ⟨_, rfl, rfl⟩, ⟨_, rfl, rfl⟩, ⟨_, rfl, rfl⟩, ⟨_, rfl, rfl⟩, ⟨_, rfl, rfl⟩, ⟨_, rfl, rfl⟩, ⟨_, rfl, rfl⟩, ⟨_, rfl, rfl⟩, ⟨_, rfl, rfl⟩, ⟨_, rfl, rfl⟩, ⟨_, rfl, rfl⟩, trivial⟩ rfl rfl (by decide) (by decide) rfl dX7_swap_5 (fun H locs hw => ?_)
  refine lv_if_eq (tgt := 27) (pc := 8) E.1 E.2.1 dX7_swap_8 (by decide) (fun q3 => ?_) (fun q3 => ?_)
  · have hf := x_pos q3 hf
    refine lv_iconst (v := 0) (pc := 27) E.1 E.2.1 dX7_swap_27 (by decide) ?_
    obtain rfl := Option.some.inj hf
    exact x_retz (pc := 28) (v := 0) (r := 0) E hr hk hw (by decide) dX7_swap_28
  · have hf := x_neg q3 hf
    refine lv_aload_n (pc := 11) E.1 E.2.1 dX7_swap_11 rfl (lv_at hl 0 rfl) ?_
    refine xg_X7_19 (pc := 12) (v := .ref (ad 3)) E hw 0 rfl rfl dX7_swap_12 ?_
    refine lv_iload_n (pc := 15) E.1 E.2.1 dX7_swap_15 rfl (lv_at hl 2 rfl) ?_
    obtain ⟨v4, g5, hf⟩ := x_bind hf
    refine x_callV (pc := 16) (As := [.int x2]) (rest := []) (st1 := [.int v4]) (ws' := (cells7 G ad s)) E hw hl (c_X0_hasFleet l G (fun k => ad (k + 3)) (g7_book s) x2 g5) xv_X7_95 xd_X0_hasFleet rfl rfl ⟨Nat.le_of_ble_eq_true rfl, Nat.le_of_ble_eq_true rfl⟩ [3, 4, 5, 6] [0, 1, 2, 7, 8, 9, 10, 11, 12, 13, 14, 15, 16, 17, 18, 19, 20, 21, 22, 23, 24, 25, 26, 27, 28, 29, 30] (by decide) ⟨rfl, rfl, rfl, rfl, trivial⟩ (q0 := 3) rfl rfl rfl rfl (Nat.le_of_ble_eq_true rfl) (nw := 31) ⟨rfl, rfl, rfl, rfl, trivial⟩ ⟨⟨_, rfl, rfl⟩, ⟨_, rfl, rfl⟩, ⟨_, rfl, rfl⟩, ⟨_, rfl, rfl⟩, ⟨_, rfl, rfl⟩, ⟨_, rfl, rfl⟩, ⟨_, rfl, rfl⟩, ⟨_, rfl, rfl⟩, ⟨_, rfl, rfl⟩, ⟨_, rfl, rfl⟩, ⟨_, rfl, rfl⟩, ⟨_, rfl, rfl⟩, ⟨_, rfl, rfl⟩, ⟨_, rfl, rfl⟩, ⟨_, rfl, rfl⟩, ⟨_, rfl, rfl⟩, ⟨_, rfl, rfl⟩, ⟨_, rfl, rfl⟩, ⟨_, rfl, rfl⟩, ⟨_, rfl, rfl⟩, ⟨_, rfl, rfl⟩, ⟨_, rfl, rfl⟩, ⟨_, rfl, rfl⟩, ⟨_, rfl, rfl⟩, ⟨_, rfl, rfl⟩, ⟨_, rfl, rfl⟩, ⟨_, rfl, rfl⟩, trivial⟩ rfl rfl (by decide) (by decide) rfl dX7_swap_16 (fun H locs hw => ?_)
    refine lv_if_eq (tgt := 27) (pc := 19) E.1 E.2.1 dX7_swap_19 (by decide) (fun q6 => ?_) (fun q6 => ?_)
    · have hf := x_pos q6 hf
      refine lv_iconst (v := 0) (pc := 27) E.1 E.2.1 dX7_swap_27 (by decide) ?_
      obtain rfl := Option.some.inj hf
      exact x_retz (pc := 28) (v := 0) (r := 0) E hr hk hw (by decide) dX7_swap_28
    · have hf := x_neg q6 hf
      refine lv_iload_n (pc := 22) E.1 E.2.1 dX7_swap_22 rfl (lv_at hl 1 rfl) ?_
      refine lv_iload_n (pc := 23) E.1 E.2.1 dX7_swap_23 rfl (lv_at hl 2 rfl) ?_
      refine lv_icmp_ne (tgt := 29) (pc := 24) E.1 E.2.1 dX7_swap_24 (by decide) (fun q7 => ?_) (fun q7 => ?_)
      · have hf := x_neg q7 hf
        refine lv_aload_n (pc := 29) E.1 E.2.1 dX7_swap_29 rfl (lv_at hl 0 rfl) ?_
        refine xg_X7_29 (pc := 30) (v := .ref (ad 11)) E hw 0 rfl rfl dX7_swap_30 ?_
        refine lv_aload_n (pc := 33) E.1 E.2.1 dX7_swap_33 rfl (lv_at hl 0 rfl) ?_
        refine xg_X7_19 (pc := 34) (v := .ref (ad 3)) E hw 0 rfl rfl dX7_swap_34 ?_
        obtain ⟨v8, g9, hf⟩ := x_bind hf
        refine x_callV (pc := 37) (As := [.ref (ad 3)]) (rest := []) (st1 := []) (ws' := (cells7c G ad (g7_tape s) (g7_book s) (g7_trial s) v8 (g7_ledger s) (g7_pen s) (g7_told s) (g7_ratesNow s))) E hw hl (c_X2_keep l G (fun k => ad (k + 11)) (fun k => ad (k + 3)) (g7_past s) (g7_book s) g9) xv_X7_88 xd_X2_keep rfl rfl ⟨Nat.le_of_ble_eq_true rfl, Nat.le_of_ble_eq_true rfl⟩ [11, 12, 3, 4, 5, 6] [0, 1, 2, 7, 8, 9, 10, 13, 14, 15, 16, 17, 18, 19, 20, 21, 22, 23, 24, 25, 26, 27, 28, 29, 30] (by decide) ⟨rfl, rfl, rfl, rfl, rfl, rfl, trivial⟩ (q0 := 11) rfl rfl rfl rfl (Nat.le_of_ble_eq_true rfl) (nw := 31) ⟨rfl, rfl, rfl, rfl, rfl, rfl, trivial⟩ ⟨⟨_, rfl, rfl⟩, ⟨_, rfl, rfl⟩, ⟨_, rfl, rfl⟩, ⟨_, rfl, rfl⟩, ⟨_, rfl, rfl⟩, ⟨_, rfl, rfl⟩, ⟨_, rfl, rfl⟩, ⟨_, rfl, rfl⟩, ⟨_, rfl, rfl⟩, ⟨_, rfl, rfl⟩, ⟨_, rfl, rfl⟩, ⟨_, rfl, rfl⟩, ⟨_, rfl, rfl⟩, ⟨_, rfl, rfl⟩, ⟨_, rfl, rfl⟩, ⟨_, rfl, rfl⟩, ⟨_, rfl, rfl⟩, ⟨_, rfl, rfl⟩, ⟨_, rfl, rfl⟩, ⟨_, rfl, rfl⟩, ⟨_, rfl, rfl⟩, ⟨_, rfl, rfl⟩, ⟨_, rfl, rfl⟩, ⟨_, rfl, rfl⟩, ⟨_, rfl, rfl⟩, trivial⟩ rfl rfl (by decide) (by decide) rfl dX7_swap_37 (fun H locs hw => ?_)
        refine lv_aload_n (pc := 40) E.1 E.2.1 dX7_swap_40 rfl (lv_at hl 0 rfl) ?_
        refine xg_X7_19 (pc := 41) (v := .ref (ad 3)) E hw 0 rfl rfl dX7_swap_41 ?_
        refine lv_iload_n (pc := 44) E.1 E.2.1 dX7_swap_44 rfl (lv_at hl 1 rfl) ?_
        refine lv_iload_n (pc := 45) E.1 E.2.1 dX7_swap_45 rfl (lv_at hl 2 rfl) ?_
        obtain ⟨v10, g11, hf⟩ := x_bind hf
        refine x_callV (pc := 46) (As := [.int x1, .int x2]) (rest := []) (st1 := []) (ws' := (cells7c G ad (g7_tape s) v10 (g7_trial s) v8 (g7_ledger s) (g7_pen s) (g7_told s) (g7_ratesNow s))) E hw hl (c_X0_exchange l G (fun k => ad (k + 3)) (g7_book s) x1 x2 g11) xv_X7_164 xd_X0_exchange rfl rfl ⟨Nat.le_of_ble_eq_true rfl, Nat.le_of_ble_eq_true rfl⟩ [3, 4, 5, 6] [0, 1, 2, 7, 8, 9, 10, 11, 12, 13, 14, 15, 16, 17, 18, 19, 20, 21, 22, 23, 24, 25, 26, 27, 28, 29, 30] (by decide) ⟨rfl, rfl, rfl, rfl, trivial⟩ (q0 := 3) rfl rfl rfl rfl (Nat.le_of_ble_eq_true rfl) (nw := 31) ⟨rfl, rfl, rfl, rfl, trivial⟩ ⟨⟨_, rfl, rfl⟩, ⟨_, rfl, rfl⟩, ⟨_, rfl, rfl⟩, ⟨_, rfl, rfl⟩, ⟨_, rfl, rfl⟩, ⟨_, rfl, rfl⟩, ⟨_, rfl, rfl⟩, ⟨_, rfl, rfl⟩, ⟨_, rfl, rfl⟩, ⟨_, rfl, rfl⟩, ⟨_, rfl, rfl⟩, ⟨_, rfl, rfl⟩, ⟨_, rfl, rfl⟩, ⟨_, rfl, rfl⟩, ⟨_, rfl, rfl⟩, ⟨_, rfl, rfl⟩, ⟨_, rfl, rfl⟩, ⟨_, rfl, rfl⟩, ⟨_, rfl, rfl⟩, ⟨_, rfl, rfl⟩, ⟨_, rfl, rfl⟩, ⟨_, rfl, rfl⟩, ⟨_, rfl, rfl⟩, ⟨_, rfl, rfl⟩, ⟨_, rfl, rfl⟩, ⟨_, rfl, rfl⟩, ⟨_, rfl, rfl⟩, trivial⟩ rfl rfl (by decide) (by decide) rfl dX7_swap_46 (fun H locs hw => ?_)
        refine lv_iconst (v := 1) (pc := 49) E.1 E.2.1 dX7_swap_49 (by decide) ?_
        obtain rfl := Option.some.inj hf
        exact x_retz (pc := 50) (v := 1) (r := 1) E hr hk hw (by decide) dX7_swap_50
      · have hf := x_pos q7 hf
        refine lv_iconst (v := 0) (pc := 27) E.1 E.2.1 dX7_swap_27 (by decide) ?_
        obtain rfl := Option.some.inj hf
        exact x_retz (pc := 28) (v := 0) (r := 0) E hr hk hw (by decide) dX7_swap_28
set_option maxHeartbeats 4000000 in
set_option maxRecDepth 100000 in
theorem c_X7_swap (l : Launch) (G : xG) (ad : Nat → Nat) (s : S7) (x1 : Int32) (x2 : Int32) {z : Int32 × S7} (hf : f_X7_swap s x1 x2 = some z) : xC l yX7_swap cX7_swap 3 (some .boolean) (rm_X7_swap) G [.ref (ad 0), .int x1, .int x2] (cells7 G ad s) (some (.int z.1)) (cells7 G ad z.2) :=
  x_met (by decide) rfl (Nat.le_of_ble_eq_true rfl) (fun p e sS m below meth c E hr hk ls hl hw => w_X7_swap_p0 E hr hk s x1 x2 z hw hl hf)
set_option maxHeartbeats 4000000 in
set_option maxRecDepth 100000 in
theorem w_X7_scale_p0 {p : Program} {l : Launch} {e : Env} {sS : State} {m : MethodId} {args : Array Value} {below : List Frame} {meth : Method} {c : Code} {G : xG} {W0 : va_W} {ad : Nat → Nat}   (E : xE p sS m args c cX7_scale 4 RX7 G (x_in W0)) (hr : meth.sig.returnType = (some .int)) (hk : meth.locks = false)  : ∀ (s' : S7) (x1' : Int32) (x2' : Int32) (z : Int32 × S7) {H : Heap} {locs : List Loc} {ls : Array Slot}, xW G (x_in W0) sS.heap (cells7 G ad s') H locs → lv_has ls 4 [(0, .ref (ad 0)), (1, .int x1'), (2, .int x2')] → f_X7_scale  s' x1' x2' = some z → W p l e (rm_X7_scale) sS m args below meth c H locs 0 0 (MQ below (xQ G W0 (cells7 G ad z.2) (some (.int z.1))) args sS 0 0 (x_in W0)) (F0 m 0 ls []) := by
  intro s x1 x2 z H locs ls hw hl hf
  unfold f_X7_scale at hf
  refine lv_aload_n (pc := 0) E.1 E.2.1 dX7_scale_0 rfl (lv_at hl 0 rfl) ?_
  refine xg_X7_19 (pc := 1) (v := .ref (ad 3)) E hw 0 rfl rfl dX7_scale_1 ?_
  refine lv_iload_n (pc := 4) E.1 E.2.1 dX7_scale_4 rfl (lv_at hl 1 rfl) ?_
  obtain ⟨v1, g2, hf⟩ := x_bind hf
  refine x_callV (pc := 5) (As := [.int x1]) (rest := []) (st1 := [.int v1]) (ws' := (cells7 G ad s)) E hw hl (c_X0_hasFleet l G (fun k => ad (k + 3)) (g7_book s) x1 g2) xv_X7_95 xd_X0_hasFleet rfl rfl ⟨Nat.le_of_ble_eq_true rfl, Nat.le_of_ble_eq_true rfl⟩ [3, 4, 5, 6] [0, 1, 2, 7, 8, 9, 10, 11, 12, 13, 14, 15, 16, 17, 18, 19, 20, 21, 22, 23, 24, 25, 26, 27, 28, 29, 30] (by decide) ⟨rfl, rfl, rfl, rfl, trivial⟩ (q0 := 3) rfl rfl rfl rfl (Nat.le_of_ble_eq_true rfl) (nw := 31) ⟨rfl, rfl, rfl, rfl, trivial⟩ ⟨⟨_, rfl, rfl⟩, ⟨_, rfl, rfl⟩, ⟨_, rfl, rfl⟩, ⟨_, rfl, rfl⟩, ⟨_, rfl, rfl⟩, ⟨_, rfl, rfl⟩, ⟨_, rfl, rfl⟩, ⟨_, rfl, rfl⟩, ⟨_, rfl, rfl⟩, ⟨_, rfl, rfl⟩, ⟨_, rfl, rfl⟩, ⟨_, rfl, rfl⟩, ⟨_, rfl, rfl⟩, ⟨_, rfl, rfl⟩, ⟨_, rfl, rfl⟩, ⟨_, rfl, rfl⟩, ⟨_, rfl, rfl⟩, ⟨_, rfl, rfl⟩, ⟨_, rfl, rfl⟩, ⟨_, rfl, rfl⟩, ⟨_, rfl, rfl⟩, ⟨_, rfl, rfl⟩, ⟨_, rfl, rfl⟩, ⟨_, rfl, rfl⟩, ⟨_, rfl, rfl⟩, ⟨_, rfl, rfl⟩, ⟨_, rfl, rfl⟩, trivial⟩ rfl rfl (by decide) (by decide) rfl dX7_scale_5 (fun H locs hw => ?_)
  refine lv_if_eq (tgt := 23) (pc := 8) E.1 E.2.1 dX7_scale_8 (by decide) (fun q3 => ?_) (fun q3 => ?_)
  · have hf := x_pos q3 hf
    refine lv_iconst (v := (-1)) (pc := 23) E.1 E.2.1 dX7_scale_23 (by decide) ?_
    obtain rfl := Option.some.inj hf
    exact x_reti (pc := 24) E hr hk hw dX7_scale_24
  · have hf := x_neg q3 hf
    refine lv_iload_n (pc := 11) E.1 E.2.1 dX7_scale_11 rfl (lv_at hl 2 rfl) ?_
    refine lv_iconst (v := 1) (pc := 12) E.1 E.2.1 dX7_scale_12 (by decide) ?_
    refine lv_icmp_lt (tgt := 23) (pc := 13) E.1 E.2.1 dX7_scale_13 (by decide) (fun q4 => ?_) (fun q4 => ?_)
    · have hf := x_pos q4 hf
      refine lv_iconst (v := (-1)) (pc := 23) E.1 E.2.1 dX7_scale_23 (by decide) ?_
      obtain rfl := Option.some.inj hf
      exact x_reti (pc := 24) E hr hk hw dX7_scale_24
    · have hf := x_neg q4 hf
      refine lv_iload_n (pc := 16) E.1 E.2.1 dX7_scale_16 rfl (lv_at hl 2 rfl) ?_
      refine lv_sipush (v := 900) (pc := 17) E.1 E.2.1 dX7_scale_17 (by decide) ?_
      refine lv_icmp_le (tgt := 25) (pc := 20) E.1 E.2.1 dX7_scale_20 (by decide) (fun q5 => ?_) (fun q5 => ?_)
      · have hf := x_pos q5 hf
        refine lv_aload_n (pc := 25) E.1 E.2.1 dX7_scale_25 rfl (lv_at hl 0 rfl) ?_
        refine xg_X7_23 (pc := 26) (v := .ref (ad 7)) E hw 0 rfl rfl dX7_scale_26 ?_
        refine lv_aload_n (pc := 29) E.1 E.2.1 dX7_scale_29 rfl (lv_at hl 0 rfl) ?_
        refine xg_X7_19 (pc := 30) (v := .ref (ad 3)) E hw 0 rfl rfl dX7_scale_30 ?_
        obtain ⟨v6, g7, hf⟩ := x_bind hf
        refine x_callV (pc := 33) (As := [.ref (ad 3)]) (rest := []) (st1 := []) (ws' := (cells7c G ad (g7_tape s) (g7_book s) v6 (g7_past s) (g7_ledger s) (g7_pen s) (g7_told s) (g7_ratesNow s))) E hw hl (c_X0_copyFrom l G (fun k => ad (k + 7)) (fun k => ad (k + 3)) (g7_trial s) (g7_book s) g7) xv_X7_73 xd_X0_copyFrom rfl rfl ⟨Nat.le_of_ble_eq_true rfl, Nat.le_of_ble_eq_true rfl⟩ [7, 8, 9, 10, 3, 4, 5, 6] [0, 1, 2, 11, 12, 13, 14, 15, 16, 17, 18, 19, 20, 21, 22, 23, 24, 25, 26, 27, 28, 29, 30] (by decide) ⟨rfl, rfl, rfl, rfl, rfl, rfl, rfl, rfl, trivial⟩ (q0 := 7) rfl rfl rfl rfl (Nat.le_of_ble_eq_true rfl) (nw := 31) ⟨rfl, rfl, rfl, rfl, rfl, rfl, rfl, rfl, trivial⟩ ⟨⟨_, rfl, rfl⟩, ⟨_, rfl, rfl⟩, ⟨_, rfl, rfl⟩, ⟨_, rfl, rfl⟩, ⟨_, rfl, rfl⟩, ⟨_, rfl, rfl⟩, ⟨_, rfl, rfl⟩, ⟨_, rfl, rfl⟩, ⟨_, rfl, rfl⟩, ⟨_, rfl, rfl⟩, ⟨_, rfl, rfl⟩, ⟨_, rfl, rfl⟩, ⟨_, rfl, rfl⟩, ⟨_, rfl, rfl⟩, ⟨_, rfl, rfl⟩, ⟨_, rfl, rfl⟩, ⟨_, rfl, rfl⟩, ⟨_, rfl, rfl⟩, ⟨_, rfl, rfl⟩, ⟨_, rfl, rfl⟩, ⟨_, rfl, rfl⟩, ⟨_, rfl, rfl⟩, ⟨_, rfl, rfl⟩, trivial⟩ rfl rfl (by decide) (by decide) rfl dX7_scale_33 (fun H locs hw => ?_)
        refine lv_aload_n (pc := 36) E.1 E.2.1 dX7_scale_36 rfl (lv_at hl 0 rfl) ?_
        refine xg_X7_23 (pc := 37) (v := .ref (ad 7)) E hw 0 rfl rfl dX7_scale_37 ?_
        refine lv_iload_n (pc := 40) E.1 E.2.1 dX7_scale_40 rfl (lv_at hl 1 rfl) ?_
        refine lv_iload_n (pc := 41) E.1 E.2.1 dX7_scale_41 rfl (lv_at hl 2 rfl) ?_
        obtain ⟨v8, g9, hf⟩ := x_bind hf
        refine x_callV (pc := 42) (As := [.int x1, .int x2]) (rest := []) (st1 := [.int v8.1]) (ws' := (cells7c G ad (g7_tape s) (g7_book s) v8.2 (g7_past s) (g7_ledger s) (g7_pen s) (g7_told s) (g7_ratesNow s))) E hw hl (c_X0_scaleAmounts l G (fun k => ad (k + 7)) v6 x1 x2 g9) xv_X7_167 xd_X0_scaleAmounts rfl rfl ⟨Nat.le_of_ble_eq_true rfl, Nat.le_of_ble_eq_true rfl⟩ [7, 8, 9, 10] [0, 1, 2, 3, 4, 5, 6, 11, 12, 13, 14, 15, 16, 17, 18, 19, 20, 21, 22, 23, 24, 25, 26, 27, 28, 29, 30] (by decide) ⟨rfl, rfl, rfl, rfl, trivial⟩ (q0 := 7) rfl rfl rfl rfl (Nat.le_of_ble_eq_true rfl) (nw := 31) ⟨rfl, rfl, rfl, rfl, trivial⟩ ⟨⟨_, rfl, rfl⟩, ⟨_, rfl, rfl⟩, ⟨_, rfl, rfl⟩, ⟨_, rfl, rfl⟩, ⟨_, rfl, rfl⟩, ⟨_, rfl, rfl⟩, ⟨_, rfl, rfl⟩, ⟨_, rfl, rfl⟩, ⟨_, rfl, rfl⟩, ⟨_, rfl, rfl⟩, ⟨_, rfl, rfl⟩, ⟨_, rfl, rfl⟩, ⟨_, rfl, rfl⟩, ⟨_, rfl, rfl⟩, ⟨_, rfl, rfl⟩, ⟨_, rfl, rfl⟩, ⟨_, rfl, rfl⟩, ⟨_, rfl, rfl⟩, ⟨_, rfl, rfl⟩, ⟨_, rfl, rfl⟩, ⟨_, rfl, rfl⟩, ⟨_, rfl, rfl⟩, ⟨_, rfl, rfl⟩, ⟨_, rfl, rfl⟩, ⟨_, rfl, rfl⟩, ⟨_, rfl, rfl⟩, ⟨_, rfl, rfl⟩, trivial⟩ rfl rfl (by decide) (by decide) rfl dX7_scale_42 (fun H locs hw => ?_)
        refine lv_istore_n (lv' := [(3, .int v8.1), (0, .ref (ad 0)), (1, .int x1), (2, .int x2)]) (pc := 45) E.1 E.2.1 dX7_scale_45 rfl hl (by decide) rfl (fun ls hl => ?_)
        refine lv_iload_n (pc := 46) E.1 E.2.1 dX7_scale_46 rfl (lv_at hl 0 rfl) ?_
        refine lv_if_ne (tgt := 52) (pc := 47) E.1 E.2.1 dX7_scale_47 (by decide) (fun q10 => ?_) (fun q10 => ?_)
        · have hf := x_neg q10 hf
          refine lv_aload_n (pc := 52) E.1 E.2.1 dX7_scale_52 rfl (lv_at hl 1 rfl) ?_
          refine xg_X7_29 (pc := 53) (v := .ref (ad 11)) E hw 0 rfl rfl dX7_scale_53 ?_
          refine lv_aload_n (pc := 56) E.1 E.2.1 dX7_scale_56 rfl (lv_at hl 1 rfl) ?_
          refine xg_X7_19 (pc := 57) (v := .ref (ad 3)) E hw 0 rfl rfl dX7_scale_57 ?_
          obtain ⟨v11, g12, hf⟩ := x_bind hf
          refine x_callV (pc := 60) (As := [.ref (ad 3)]) (rest := []) (st1 := []) (ws' := (cells7c G ad (g7_tape s) (g7_book s) v8.2 v11 (g7_ledger s) (g7_pen s) (g7_told s) (g7_ratesNow s))) E hw hl (c_X2_keep l G (fun k => ad (k + 11)) (fun k => ad (k + 3)) (g7_past s) (g7_book s) g12) xv_X7_88 xd_X2_keep rfl rfl ⟨Nat.le_of_ble_eq_true rfl, Nat.le_of_ble_eq_true rfl⟩ [11, 12, 3, 4, 5, 6] [0, 1, 2, 7, 8, 9, 10, 13, 14, 15, 16, 17, 18, 19, 20, 21, 22, 23, 24, 25, 26, 27, 28, 29, 30] (by decide) ⟨rfl, rfl, rfl, rfl, rfl, rfl, trivial⟩ (q0 := 11) rfl rfl rfl rfl (Nat.le_of_ble_eq_true rfl) (nw := 31) ⟨rfl, rfl, rfl, rfl, rfl, rfl, trivial⟩ ⟨⟨_, rfl, rfl⟩, ⟨_, rfl, rfl⟩, ⟨_, rfl, rfl⟩, ⟨_, rfl, rfl⟩, ⟨_, rfl, rfl⟩, ⟨_, rfl, rfl⟩, ⟨_, rfl, rfl⟩, ⟨_, rfl, rfl⟩, ⟨_, rfl, rfl⟩, ⟨_, rfl, rfl⟩, ⟨_, rfl, rfl⟩, ⟨_, rfl, rfl⟩, ⟨_, rfl, rfl⟩, ⟨_, rfl, rfl⟩, ⟨_, rfl, rfl⟩, ⟨_, rfl, rfl⟩, ⟨_, rfl, rfl⟩, ⟨_, rfl, rfl⟩, ⟨_, rfl, rfl⟩, ⟨_, rfl, rfl⟩, ⟨_, rfl, rfl⟩, ⟨_, rfl, rfl⟩, ⟨_, rfl, rfl⟩, ⟨_, rfl, rfl⟩, ⟨_, rfl, rfl⟩, trivial⟩ rfl rfl (by decide) (by decide) rfl dX7_scale_60 (fun H locs hw => ?_)
          refine lv_aload_n (pc := 63) E.1 E.2.1 dX7_scale_63 rfl (lv_at hl 1 rfl) ?_
          refine xg_X7_19 (pc := 64) (v := .ref (ad 3)) E hw 0 rfl rfl dX7_scale_64 ?_
          refine lv_aload_n (pc := 67) E.1 E.2.1 dX7_scale_67 rfl (lv_at hl 1 rfl) ?_
          refine xg_X7_23 (pc := 68) (v := .ref (ad 7)) E hw 0 rfl rfl dX7_scale_68 ?_
          obtain ⟨v13, g14, hf⟩ := x_bind hf
          refine x_callV (pc := 71) (As := [.ref (ad 7)]) (rest := []) (st1 := []) (ws' := (cells7c G ad (g7_tape s) v13 v8.2 v11 (g7_ledger s) (g7_pen s) (g7_told s) (g7_ratesNow s))) E hw hl (c_X0_copyFrom l G (fun k => ad (k + 3)) (fun k => ad (k + 7)) (g7_book s) v8.2 g14) xv_X7_73 xd_X0_copyFrom rfl rfl ⟨Nat.le_of_ble_eq_true rfl, Nat.le_of_ble_eq_true rfl⟩ [3, 4, 5, 6, 7, 8, 9, 10] [0, 1, 2, 11, 12, 13, 14, 15, 16, 17, 18, 19, 20, 21, 22, 23, 24, 25, 26, 27, 28, 29, 30] (by decide) ⟨rfl, rfl, rfl, rfl, rfl, rfl, rfl, rfl, trivial⟩ (q0 := 3) rfl rfl rfl rfl (Nat.le_of_ble_eq_true rfl) (nw := 31) ⟨rfl, rfl, rfl, rfl, rfl, rfl, rfl, rfl, trivial⟩ ⟨⟨_, rfl, rfl⟩, ⟨_, rfl, rfl⟩, ⟨_, rfl, rfl⟩, ⟨_, rfl, rfl⟩, ⟨_, rfl, rfl⟩, ⟨_, rfl, rfl⟩, ⟨_, rfl, rfl⟩, ⟨_, rfl, rfl⟩, ⟨_, rfl, rfl⟩, ⟨_, rfl, rfl⟩, ⟨_, rfl, rfl⟩, ⟨_, rfl, rfl⟩, ⟨_, rfl, rfl⟩, ⟨_, rfl, rfl⟩, ⟨_, rfl, rfl⟩, ⟨_, rfl, rfl⟩, ⟨_, rfl, rfl⟩, ⟨_, rfl, rfl⟩, ⟨_, rfl, rfl⟩, ⟨_, rfl, rfl⟩, ⟨_, rfl, rfl⟩, ⟨_, rfl, rfl⟩, ⟨_, rfl, rfl⟩, trivial⟩ rfl rfl (by decide) (by decide) rfl dX7_scale_71 (fun H locs hw => ?_)
          refine lv_iload_n (pc := 74) E.1 E.2.1 dX7_scale_74 rfl (lv_at hl 0 rfl) ?_
          obtain rfl := Option.some.inj hf
          exact x_reti (pc := 75) E hr hk hw dX7_scale_75
        · have hf := x_pos q10 hf
          refine lv_iconst (v := (-1)) (pc := 50) E.1 E.2.1 dX7_scale_50 (by decide) ?_
          obtain rfl := Option.some.inj hf
          exact x_reti (pc := 51) E hr hk hw dX7_scale_51
      · have hf := x_neg q5 hf
        refine lv_iconst (v := (-1)) (pc := 23) E.1 E.2.1 dX7_scale_23 (by decide) ?_
        obtain rfl := Option.some.inj hf
        exact x_reti (pc := 24) E hr hk hw dX7_scale_24
set_option maxHeartbeats 4000000 in
set_option maxRecDepth 100000 in
theorem c_X7_scale (l : Launch) (G : xG) (ad : Nat → Nat) (s : S7) (x1 : Int32) (x2 : Int32) {z : Int32 × S7} (hf : f_X7_scale s x1 x2 = some z) : xC l yX7_scale cX7_scale 4 (some .int) (rm_X7_scale) G [.ref (ad 0), .int x1, .int x2] (cells7 G ad s) (some (.int z.1)) (cells7 G ad z.2) :=
  x_met (by decide) rfl (Nat.le_of_ble_eq_true rfl) (fun p e sS m below meth c E hr hk ls hl hw => w_X7_scale_p0 E hr hk s x1 x2 z hw hl hf)
set_option maxHeartbeats 4000000 in
set_option maxRecDepth 100000 in
theorem w_X7_split_p0 {p : Program} {l : Launch} {e : Env} {sS : State} {m : MethodId} {args : Array Value} {below : List Frame} {meth : Method} {c : Code} {G : xG} {W0 : va_W} {ad : Nat → Nat}   (E : xE p sS m args c cX7_split 4 RX7 G (x_in W0)) (hr : meth.sig.returnType = (some .int)) (hk : meth.locks = false)  : ∀ (s' : S7) (x1' : Int32) (x2' : Int32) (z : Int32 × S7) {H : Heap} {locs : List Loc} {ls : Array Slot}, xW G (x_in W0) sS.heap (cells7 G ad s') H locs → lv_has ls 4 [(0, .ref (ad 0)), (1, .int x1'), (2, .int x2')] → f_X7_split  s' x1' x2' = some z → W p l e (rm_X7_split) sS m args below meth c H locs 0 0 (MQ below (xQ G W0 (cells7 G ad z.2) (some (.int z.1))) args sS 0 0 (x_in W0)) (F0 m 0 ls []) := by
  intro s x1 x2 z H locs ls hw hl hf
  unfold f_X7_split at hf
  refine lv_aload_n (pc := 0) E.1 E.2.1 dX7_split_0 rfl (lv_at hl 0 rfl) ?_
  refine xg_X7_19 (pc := 1) (v := .ref (ad 3)) E hw 0 rfl rfl dX7_split_1 ?_
  refine lv_iload_n (pc := 4) E.1 E.2.1 dX7_split_4 rfl (lv_at hl 1 rfl) ?_
  obtain ⟨v1, g2, hf⟩ := x_bind hf
  refine x_callV (pc := 5) (As := [.int x1]) (rest := []) (st1 := [.int v1]) (ws' := (cells7 G ad s)) E hw hl (c_X0_hasFleet l G (fun k => ad (k + 3)) (g7_book s) x1 g2) xv_X7_95 xd_X0_hasFleet rfl rfl ⟨Nat.le_of_ble_eq_true rfl, Nat.le_of_ble_eq_true rfl⟩ [3, 4, 5, 6] [0, 1, 2, 7, 8, 9, 10, 11, 12, 13, 14, 15, 16, 17, 18, 19, 20, 21, 22, 23, 24, 25, 26, 27, 28, 29, 30] (by decide) ⟨rfl, rfl, rfl, rfl, trivial⟩ (q0 := 3) rfl rfl rfl rfl (Nat.le_of_ble_eq_true rfl) (nw := 31) ⟨rfl, rfl, rfl, rfl, trivial⟩ ⟨⟨_, rfl, rfl⟩, ⟨_, rfl, rfl⟩, ⟨_, rfl, rfl⟩, ⟨_, rfl, rfl⟩, ⟨_, rfl, rfl⟩, ⟨_, rfl, rfl⟩, ⟨_, rfl, rfl⟩, ⟨_, rfl, rfl⟩, ⟨_, rfl, rfl⟩, ⟨_, rfl, rfl⟩, ⟨_, rfl, rfl⟩, ⟨_, rfl, rfl⟩, ⟨_, rfl, rfl⟩, ⟨_, rfl, rfl⟩, ⟨_, rfl, rfl⟩, ⟨_, rfl, rfl⟩, ⟨_, rfl, rfl⟩, ⟨_, rfl, rfl⟩, ⟨_, rfl, rfl⟩, ⟨_, rfl, rfl⟩, ⟨_, rfl, rfl⟩, ⟨_, rfl, rfl⟩, ⟨_, rfl, rfl⟩, ⟨_, rfl, rfl⟩, ⟨_, rfl, rfl⟩, ⟨_, rfl, rfl⟩, ⟨_, rfl, rfl⟩, trivial⟩ rfl rfl (by decide) (by decide) rfl dX7_split_5 (fun H locs hw => ?_)
  refine lv_if_eq (tgt := 23) (pc := 8) E.1 E.2.1 dX7_split_8 (by decide) (fun q3 => ?_) (fun q3 => ?_)
  · have hf := x_pos q3 hf
    refine lv_iconst (v := (-1)) (pc := 23) E.1 E.2.1 dX7_split_23 (by decide) ?_
    obtain rfl := Option.some.inj hf
    exact x_reti (pc := 24) E hr hk hw dX7_split_24
  · have hf := x_neg q3 hf
    refine lv_aload_n (pc := 11) E.1 E.2.1 dX7_split_11 rfl (lv_at hl 0 rfl) ?_
    refine xg_X7_19 (pc := 12) (v := .ref (ad 3)) E hw 0 rfl rfl dX7_split_12 ?_
    refine xg_X7_80 (pc := 15) (v := .int (g0_fleets (g7_book s))) E hw 3 rfl rfl dX7_split_15 ?_
    refine lv_bipush (v := 8) (pc := 18) E.1 E.2.1 dX7_split_18 (by decide) ?_
    refine lv_icmp_lt (tgt := 25) (pc := 20) E.1 E.2.1 dX7_split_20 (by decide) (fun q4 => ?_) (fun q4 => ?_)
    · have hf := x_pos q4 hf
      refine lv_aload_n (pc := 25) E.1 E.2.1 dX7_split_25 rfl (lv_at hl 0 rfl) ?_
      refine xg_X7_19 (pc := 26) (v := .ref (ad 3)) E hw 0 rfl rfl dX7_split_26 ?_
      refine lv_iload_n (pc := 29) E.1 E.2.1 dX7_split_29 rfl (lv_at hl 1 rfl) ?_
      obtain ⟨v5, g6, hf⟩ := x_bind hf
      refine x_callV (pc := 30) (As := [.int x1]) (rest := []) (st1 := [.int v5]) (ws' := (cells7 G ad s)) E hw hl (c_X0_yearsOf l G (fun k => ad (k + 3)) (g7_book s) x1 g6) xv_X7_116 xd_X0_yearsOf rfl rfl ⟨Nat.le_of_ble_eq_true rfl, Nat.le_of_ble_eq_true rfl⟩ [3, 4, 5, 6] [0, 1, 2, 7, 8, 9, 10, 11, 12, 13, 14, 15, 16, 17, 18, 19, 20, 21, 22, 23, 24, 25, 26, 27, 28, 29, 30] (by decide) ⟨rfl, rfl, rfl, rfl, trivial⟩ (q0 := 3) rfl rfl rfl rfl (Nat.le_of_ble_eq_true rfl) (nw := 31) ⟨rfl, rfl, rfl, rfl, trivial⟩ ⟨⟨_, rfl, rfl⟩, ⟨_, rfl, rfl⟩, ⟨_, rfl, rfl⟩, ⟨_, rfl, rfl⟩, ⟨_, rfl, rfl⟩, ⟨_, rfl, rfl⟩, ⟨_, rfl, rfl⟩, ⟨_, rfl, rfl⟩, ⟨_, rfl, rfl⟩, ⟨_, rfl, rfl⟩, ⟨_, rfl, rfl⟩, ⟨_, rfl, rfl⟩, ⟨_, rfl, rfl⟩, ⟨_, rfl, rfl⟩, ⟨_, rfl, rfl⟩, ⟨_, rfl, rfl⟩, ⟨_, rfl, rfl⟩, ⟨_, rfl, rfl⟩, ⟨_, rfl, rfl⟩, ⟨_, rfl, rfl⟩, ⟨_, rfl, rfl⟩, ⟨_, rfl, rfl⟩, ⟨_, rfl, rfl⟩, ⟨_, rfl, rfl⟩, ⟨_, rfl, rfl⟩, ⟨_, rfl, rfl⟩, ⟨_, rfl, rfl⟩, trivial⟩ rfl rfl (by decide) (by decide) rfl dX7_split_30 (fun H locs hw => ?_)
      refine lv_istore_n (lv' := [(3, .int v5), (0, .ref (ad 0)), (1, .int x1), (2, .int x2)]) (pc := 33) E.1 E.2.1 dX7_split_33 rfl hl (by decide) rfl (fun ls hl => ?_)
      refine lv_iload_n (pc := 34) E.1 E.2.1 dX7_split_34 rfl (lv_at hl 3 rfl) ?_
      refine lv_if_eq (tgt := 51) (pc := 35) E.1 E.2.1 dX7_split_35 (by decide) (fun q7 => ?_) (fun q7 => ?_)
      · have hf := x_pos q7 hf
        refine lv_iconst (v := (-1)) (pc := 51) E.1 E.2.1 dX7_split_51 (by decide) ?_
        obtain rfl := Option.some.inj hf
        exact x_reti (pc := 52) E hr hk hw dX7_split_52
      · have hf := x_neg q7 hf
        refine lv_iload_n (pc := 38) E.1 E.2.1 dX7_split_38 rfl (lv_at hl 3 rfl) ?_
        refine lv_iload_n (pc := 39) E.1 E.2.1 dX7_split_39 rfl (lv_at hl 0 rfl) ?_
        refine lv_icmp_eq (tgt := 51) (pc := 40) E.1 E.2.1 dX7_split_40 (by decide) (fun q8 => ?_) (fun q8 => ?_)
        · have hf := x_pos q8 hf
          refine lv_iconst (v := (-1)) (pc := 51) E.1 E.2.1 dX7_split_51 (by decide) ?_
          obtain rfl := Option.some.inj hf
          exact x_reti (pc := 52) E hr hk hw dX7_split_52
        · have hf := x_neg q8 hf
          refine lv_iload_n (pc := 43) E.1 E.2.1 dX7_split_43 rfl (lv_at hl 3 rfl) ?_
          refine lv_iload_n (pc := 44) E.1 E.2.1 dX7_split_44 rfl (lv_at hl 0 rfl) ?_
          refine lv_iconst (v := (-1)) (pc := 45) E.1 E.2.1 dX7_split_45 (by decide) ?_
          refine lv_ixor (pc := 46) E.1 E.2.1 dX7_split_46 ?_
          refine lv_iand (pc := 47) E.1 E.2.1 dX7_split_47 ?_
          refine lv_if_eq (tgt := 53) (pc := 48) E.1 E.2.1 dX7_split_48 (by decide) (fun q9 => ?_) (fun q9 => ?_)
          · have hf := x_pos q9 hf
            refine lv_aload_n (pc := 53) E.1 E.2.1 dX7_split_53 rfl (lv_at hl 1 rfl) ?_
            refine xg_X7_29 (pc := 54) (v := .ref (ad 11)) E hw 0 rfl rfl dX7_split_54 ?_
            refine lv_aload_n (pc := 57) E.1 E.2.1 dX7_split_57 rfl (lv_at hl 1 rfl) ?_
            refine xg_X7_19 (pc := 58) (v := .ref (ad 3)) E hw 0 rfl rfl dX7_split_58 ?_
            obtain ⟨v10, g11, hf⟩ := x_bind hf
            refine x_callV (pc := 61) (As := [.ref (ad 3)]) (rest := []) (st1 := []) (ws' := (cells7c G ad (g7_tape s) (g7_book s) (g7_trial s) v10 (g7_ledger s) (g7_pen s) (g7_told s) (g7_ratesNow s))) E hw hl (c_X2_keep l G (fun k => ad (k + 11)) (fun k => ad (k + 3)) (g7_past s) (g7_book s) g11) xv_X7_88 xd_X2_keep rfl rfl ⟨Nat.le_of_ble_eq_true rfl, Nat.le_of_ble_eq_true rfl⟩ [11, 12, 3, 4, 5, 6] [0, 1, 2, 7, 8, 9, 10, 13, 14, 15, 16, 17, 18, 19, 20, 21, 22, 23, 24, 25, 26, 27, 28, 29, 30] (by decide) ⟨rfl, rfl, rfl, rfl, rfl, rfl, trivial⟩ (q0 := 11) rfl rfl rfl rfl (Nat.le_of_ble_eq_true rfl) (nw := 31) ⟨rfl, rfl, rfl, rfl, rfl, rfl, trivial⟩ ⟨⟨_, rfl, rfl⟩, ⟨_, rfl, rfl⟩, ⟨_, rfl, rfl⟩, ⟨_, rfl, rfl⟩, ⟨_, rfl, rfl⟩, ⟨_, rfl, rfl⟩, ⟨_, rfl, rfl⟩, ⟨_, rfl, rfl⟩, ⟨_, rfl, rfl⟩, ⟨_, rfl, rfl⟩, ⟨_, rfl, rfl⟩, ⟨_, rfl, rfl⟩, ⟨_, rfl, rfl⟩, ⟨_, rfl, rfl⟩, ⟨_, rfl, rfl⟩, ⟨_, rfl, rfl⟩, ⟨_, rfl, rfl⟩, ⟨_, rfl, rfl⟩, ⟨_, rfl, rfl⟩, ⟨_, rfl, rfl⟩, ⟨_, rfl, rfl⟩, ⟨_, rfl, rfl⟩, ⟨_, rfl, rfl⟩, ⟨_, rfl, rfl⟩, ⟨_, rfl, rfl⟩, trivial⟩ rfl rfl (by decide) (by decide) rfl dX7_split_61 (fun H locs hw => ?_)
            refine lv_aload_n (pc := 64) E.1 E.2.1 dX7_split_64 rfl (lv_at hl 1 rfl) ?_
            refine xg_X7_19 (pc := 65) (v := .ref (ad 3)) E hw 0 rfl rfl dX7_split_65 ?_
            refine lv_iload_n (pc := 68) E.1 E.2.1 dX7_split_68 rfl (lv_at hl 2 rfl) ?_
            refine lv_iload_n (pc := 69) E.1 E.2.1 dX7_split_69 rfl (lv_at hl 3 rfl) ?_
            obtain ⟨v12, g13, hf⟩ := x_bind hf
            refine x_callV (pc := 70) (As := [.int x1, .int x2]) (rest := []) (st1 := [.int v12.1]) (ws' := (cells7c G ad (g7_tape s) v12.2 (g7_trial s) v10 (g7_ledger s) (g7_pen s) (g7_told s) (g7_ratesNow s))) E hw hl (c_X0_splitOff l G (fun k => ad (k + 3)) (g7_book s) x1 x2 g13) xv_X7_170 xd_X0_splitOff rfl rfl ⟨Nat.le_of_ble_eq_true rfl, Nat.le_of_ble_eq_true rfl⟩ [3, 4, 5, 6] [0, 1, 2, 7, 8, 9, 10, 11, 12, 13, 14, 15, 16, 17, 18, 19, 20, 21, 22, 23, 24, 25, 26, 27, 28, 29, 30] (by decide) ⟨rfl, rfl, rfl, rfl, trivial⟩ (q0 := 3) rfl rfl rfl rfl (Nat.le_of_ble_eq_true rfl) (nw := 31) ⟨rfl, rfl, rfl, rfl, trivial⟩ ⟨⟨_, rfl, rfl⟩, ⟨_, rfl, rfl⟩, ⟨_, rfl, rfl⟩, ⟨_, rfl, rfl⟩, ⟨_, rfl, rfl⟩, ⟨_, rfl, rfl⟩, ⟨_, rfl, rfl⟩, ⟨_, rfl, rfl⟩, ⟨_, rfl, rfl⟩, ⟨_, rfl, rfl⟩, ⟨_, rfl, rfl⟩, ⟨_, rfl, rfl⟩, ⟨_, rfl, rfl⟩, ⟨_, rfl, rfl⟩, ⟨_, rfl, rfl⟩, ⟨_, rfl, rfl⟩, ⟨_, rfl, rfl⟩, ⟨_, rfl, rfl⟩, ⟨_, rfl, rfl⟩, ⟨_, rfl, rfl⟩, ⟨_, rfl, rfl⟩, ⟨_, rfl, rfl⟩, ⟨_, rfl, rfl⟩, ⟨_, rfl, rfl⟩, ⟨_, rfl, rfl⟩, ⟨_, rfl, rfl⟩, ⟨_, rfl, rfl⟩, trivial⟩ rfl rfl (by decide) (by decide) rfl dX7_split_70 (fun H locs hw => ?_)
            obtain rfl := Option.some.inj hf
            exact x_reti (pc := 73) E hr hk hw dX7_split_73
          · have hf := x_neg q9 hf
            refine lv_iconst (v := (-1)) (pc := 51) E.1 E.2.1 dX7_split_51 (by decide) ?_
            obtain rfl := Option.some.inj hf
            exact x_reti (pc := 52) E hr hk hw dX7_split_52
    · have hf := x_neg q4 hf
      refine lv_iconst (v := (-1)) (pc := 23) E.1 E.2.1 dX7_split_23 (by decide) ?_
      obtain rfl := Option.some.inj hf
      exact x_reti (pc := 24) E hr hk hw dX7_split_24
set_option maxHeartbeats 4000000 in
set_option maxRecDepth 100000 in
theorem c_X7_split (l : Launch) (G : xG) (ad : Nat → Nat) (s : S7) (x1 : Int32) (x2 : Int32) {z : Int32 × S7} (hf : f_X7_split s x1 x2 = some z) : xC l yX7_split cX7_split 4 (some .int) (rm_X7_split) G [.ref (ad 0), .int x1, .int x2] (cells7 G ad s) (some (.int z.1)) (cells7 G ad z.2) :=
  x_met (by decide) rfl (Nat.le_of_ble_eq_true rfl) (fun p e sS m below meth c E hr hk ls hl hw => w_X7_split_p0 E hr hk s x1 x2 z hw hl hf)
set_option maxHeartbeats 4000000 in
set_option maxRecDepth 100000 in
theorem w_X7_merge_p0 {p : Program} {l : Launch} {e : Env} {sS : State} {m : MethodId} {args : Array Value} {below : List Frame} {meth : Method} {c : Code} {G : xG} {W0 : va_W} {ad : Nat → Nat}   (E : xE p sS m args c cX7_merge 3 RX7 G (x_in W0)) (hr : meth.sig.returnType = (some .int)) (hk : meth.locks = false)  : ∀ (s' : S7) (x1' : Int32) (x2' : Int32) (z : Int32 × S7) {H : Heap} {locs : List Loc} {ls : Array Slot}, xW G (x_in W0) sS.heap (cells7 G ad s') H locs → lv_has ls 3 [(0, .ref (ad 0)), (1, .int x1'), (2, .int x2')] → f_X7_merge  s' x1' x2' = some z → W p l e (rm_X7_merge) sS m args below meth c H locs 0 0 (MQ below (xQ G W0 (cells7 G ad z.2) (some (.int z.1))) args sS 0 0 (x_in W0)) (F0 m 0 ls []) := by
  intro s x1 x2 z H locs ls hw hl hf
  unfold f_X7_merge at hf
  refine lv_aload_n (pc := 0) E.1 E.2.1 dX7_merge_0 rfl (lv_at hl 0 rfl) ?_
  refine xg_X7_19 (pc := 1) (v := .ref (ad 3)) E hw 0 rfl rfl dX7_merge_1 ?_
  refine lv_iload_n (pc := 4) E.1 E.2.1 dX7_merge_4 rfl (lv_at hl 1 rfl) ?_
  obtain ⟨v1, g2, hf⟩ := x_bind hf
  refine x_callV (pc := 5) (As := [.int x1]) (rest := []) (st1 := [.int v1]) (ws' := (cells7 G ad s)) E hw hl (c_X0_hasFleet l G (fun k => ad (k + 3)) (g7_book s) x1 g2) xv_X7_95 xd_X0_hasFleet rfl rfl ⟨Nat.le_of_ble_eq_true rfl, Nat.le_of_ble_eq_true rfl⟩ [3, 4, 5, 6] [0, 1, 2, 7, 8, 9, 10, 11, 12, 13, 14, 15, 16, 17, 18, 19, 20, 21, 22, 23, 24, 25, 26, 27, 28, 29, 30] (by decide) ⟨rfl, rfl, rfl, rfl, trivial⟩ (q0 := 3) rfl rfl rfl rfl (Nat.le_of_ble_eq_true rfl) (nw := 31) ⟨rfl, rfl, rfl, rfl, trivial⟩ ⟨⟨_, rfl, rfl⟩, ⟨_, rfl, rfl⟩, ⟨_, rfl, rfl⟩, ⟨_, rfl, rfl⟩, ⟨_, rfl, rfl⟩, ⟨_, rfl, rfl⟩, ⟨_, rfl, rfl⟩, ⟨_, rfl, rfl⟩, ⟨_, rfl, rfl⟩, ⟨_, rfl, rfl⟩, ⟨_, rfl, rfl⟩, ⟨_, rfl, rfl⟩, ⟨_, rfl, rfl⟩, ⟨_, rfl, rfl⟩, ⟨_, rfl, rfl⟩, ⟨_, rfl, rfl⟩, ⟨_, rfl, rfl⟩, ⟨_, rfl, rfl⟩, ⟨_, rfl, rfl⟩, ⟨_, rfl, rfl⟩, ⟨_, rfl, rfl⟩, ⟨_, rfl, rfl⟩, ⟨_, rfl, rfl⟩, ⟨_, rfl, rfl⟩, ⟨_, rfl, rfl⟩, ⟨_, rfl, rfl⟩, ⟨_, rfl, rfl⟩, trivial⟩ rfl rfl (by decide) (by decide) rfl dX7_merge_5 (fun H locs hw => ?_)
  refine lv_if_eq (tgt := 47) (pc := 8) E.1 E.2.1 dX7_merge_8 (by decide) (fun q3 => ?_) (fun q3 => ?_)
  · have hf := x_pos q3 hf
    refine lv_iconst (v := (-1)) (pc := 47) E.1 E.2.1 dX7_merge_47 (by decide) ?_
    obtain rfl := Option.some.inj hf
    exact x_reti (pc := 48) E hr hk hw dX7_merge_48
  · have hf := x_neg q3 hf
    refine lv_aload_n (pc := 11) E.1 E.2.1 dX7_merge_11 rfl (lv_at hl 0 rfl) ?_
    refine xg_X7_19 (pc := 12) (v := .ref (ad 3)) E hw 0 rfl rfl dX7_merge_12 ?_
    refine lv_iload_n (pc := 15) E.1 E.2.1 dX7_merge_15 rfl (lv_at hl 2 rfl) ?_
    obtain ⟨v4, g5, hf⟩ := x_bind hf
    refine x_callV (pc := 16) (As := [.int x2]) (rest := []) (st1 := [.int v4]) (ws' := (cells7 G ad s)) E hw hl (c_X0_hasFleet l G (fun k => ad (k + 3)) (g7_book s) x2 g5) xv_X7_95 xd_X0_hasFleet rfl rfl ⟨Nat.le_of_ble_eq_true rfl, Nat.le_of_ble_eq_true rfl⟩ [3, 4, 5, 6] [0, 1, 2, 7, 8, 9, 10, 11, 12, 13, 14, 15, 16, 17, 18, 19, 20, 21, 22, 23, 24, 25, 26, 27, 28, 29, 30] (by decide) ⟨rfl, rfl, rfl, rfl, trivial⟩ (q0 := 3) rfl rfl rfl rfl (Nat.le_of_ble_eq_true rfl) (nw := 31) ⟨rfl, rfl, rfl, rfl, trivial⟩ ⟨⟨_, rfl, rfl⟩, ⟨_, rfl, rfl⟩, ⟨_, rfl, rfl⟩, ⟨_, rfl, rfl⟩, ⟨_, rfl, rfl⟩, ⟨_, rfl, rfl⟩, ⟨_, rfl, rfl⟩, ⟨_, rfl, rfl⟩, ⟨_, rfl, rfl⟩, ⟨_, rfl, rfl⟩, ⟨_, rfl, rfl⟩, ⟨_, rfl, rfl⟩, ⟨_, rfl, rfl⟩, ⟨_, rfl, rfl⟩, ⟨_, rfl, rfl⟩, ⟨_, rfl, rfl⟩, ⟨_, rfl, rfl⟩, ⟨_, rfl, rfl⟩, ⟨_, rfl, rfl⟩, ⟨_, rfl, rfl⟩, ⟨_, rfl, rfl⟩, ⟨_, rfl, rfl⟩, ⟨_, rfl, rfl⟩, ⟨_, rfl, rfl⟩, ⟨_, rfl, rfl⟩, ⟨_, rfl, rfl⟩, ⟨_, rfl, rfl⟩, trivial⟩ rfl rfl (by decide) (by decide) rfl dX7_merge_16 (fun H locs hw => ?_)
    refine lv_if_eq (tgt := 47) (pc := 19) E.1 E.2.1 dX7_merge_19 (by decide) (fun q6 => ?_) (fun q6 => ?_)
    · have hf := x_pos q6 hf
      refine lv_iconst (v := (-1)) (pc := 47) E.1 E.2.1 dX7_merge_47 (by decide) ?_
      obtain rfl := Option.some.inj hf
      exact x_reti (pc := 48) E hr hk hw dX7_merge_48
    · have hf := x_neg q6 hf
      refine lv_iload_n (pc := 22) E.1 E.2.1 dX7_merge_22 rfl (lv_at hl 1 rfl) ?_
      refine lv_iload_n (pc := 23) E.1 E.2.1 dX7_merge_23 rfl (lv_at hl 2 rfl) ?_
      refine lv_icmp_eq (tgt := 47) (pc := 24) E.1 E.2.1 dX7_merge_24 (by decide) (fun q7 => ?_) (fun q7 => ?_)
      · have hf := x_pos q7 hf
        refine lv_iconst (v := (-1)) (pc := 47) E.1 E.2.1 dX7_merge_47 (by decide) ?_
        obtain rfl := Option.some.inj hf
        exact x_reti (pc := 48) E hr hk hw dX7_merge_48
      · have hf := x_neg q7 hf
        refine lv_aload_n (pc := 27) E.1 E.2.1 dX7_merge_27 rfl (lv_at hl 0 rfl) ?_
        refine xg_X7_19 (pc := 28) (v := .ref (ad 3)) E hw 0 rfl rfl dX7_merge_28 ?_
        refine lv_iload_n (pc := 31) E.1 E.2.1 dX7_merge_31 rfl (lv_at hl 1 rfl) ?_
        obtain ⟨v8, g9, hf⟩ := x_bind hf
        refine x_callV (pc := 32) (As := [.int x1]) (rest := []) (st1 := [.int v8]) (ws' := (cells7 G ad s)) E hw hl (c_X0_yearsOf l G (fun k => ad (k + 3)) (g7_book s) x1 g9) xv_X7_116 xd_X0_yearsOf rfl rfl ⟨Nat.le_of_ble_eq_true rfl, Nat.le_of_ble_eq_true rfl⟩ [3, 4, 5, 6] [0, 1, 2, 7, 8, 9, 10, 11, 12, 13, 14, 15, 16, 17, 18, 19, 20, 21, 22, 23, 24, 25, 26, 27, 28, 29, 30] (by decide) ⟨rfl, rfl, rfl, rfl, trivial⟩ (q0 := 3) rfl rfl rfl rfl (Nat.le_of_ble_eq_true rfl) (nw := 31) ⟨rfl, rfl, rfl, rfl, trivial⟩ ⟨⟨_, rfl, rfl⟩, ⟨_, rfl, rfl⟩, ⟨_, rfl, rfl⟩, ⟨_, rfl, rfl⟩, ⟨_, rfl, rfl⟩, ⟨_, rfl, rfl⟩, ⟨_, rfl, rfl⟩, ⟨_, rfl, rfl⟩, ⟨_, rfl, rfl⟩, ⟨_, rfl, rfl⟩, ⟨_, rfl, rfl⟩, ⟨_, rfl, rfl⟩, ⟨_, rfl, rfl⟩, ⟨_, rfl, rfl⟩, ⟨_, rfl, rfl⟩, ⟨_, rfl, rfl⟩, ⟨_, rfl, rfl⟩, ⟨_, rfl, rfl⟩, ⟨_, rfl, rfl⟩, ⟨_, rfl, rfl⟩, ⟨_, rfl, rfl⟩, ⟨_, rfl, rfl⟩, ⟨_, rfl, rfl⟩, ⟨_, rfl, rfl⟩, ⟨_, rfl, rfl⟩, ⟨_, rfl, rfl⟩, ⟨_, rfl, rfl⟩, trivial⟩ rfl rfl (by decide) (by decide) rfl dX7_merge_32 (fun H locs hw => ?_)
        refine lv_aload_n (pc := 35) E.1 E.2.1 dX7_merge_35 rfl (lv_at hl 0 rfl) ?_
        refine xg_X7_19 (pc := 36) (v := .ref (ad 3)) E hw 0 rfl rfl dX7_merge_36 ?_
        refine lv_iload_n (pc := 39) E.1 E.2.1 dX7_merge_39 rfl (lv_at hl 2 rfl) ?_
        obtain ⟨v10, g11, hf⟩ := x_bind hf
        refine x_callV (pc := 40) (As := [.int x2]) (rest := [.int v8]) (st1 := [.int v10, .int v8]) (ws' := (cells7 G ad s)) E hw hl (c_X0_yearsOf l G (fun k => ad (k + 3)) (g7_book s) x2 g11) xv_X7_116 xd_X0_yearsOf rfl rfl ⟨Nat.le_of_ble_eq_true rfl, Nat.le_of_ble_eq_true rfl⟩ [3, 4, 5, 6] [0, 1, 2, 7, 8, 9, 10, 11, 12, 13, 14, 15, 16, 17, 18, 19, 20, 21, 22, 23, 24, 25, 26, 27, 28, 29, 30] (by decide) ⟨rfl, rfl, rfl, rfl, trivial⟩ (q0 := 3) rfl rfl rfl rfl (Nat.le_of_ble_eq_true rfl) (nw := 31) ⟨rfl, rfl, rfl, rfl, trivial⟩ ⟨⟨_, rfl, rfl⟩, ⟨_, rfl, rfl⟩, ⟨_, rfl, rfl⟩, ⟨_, rfl, rfl⟩, ⟨_, rfl, rfl⟩, ⟨_, rfl, rfl⟩, ⟨_, rfl, rfl⟩, ⟨_, rfl, rfl⟩, ⟨_, rfl, rfl⟩, ⟨_, rfl, rfl⟩, ⟨_, rfl, rfl⟩, ⟨_, rfl, rfl⟩, ⟨_, rfl, rfl⟩, ⟨_, rfl, rfl⟩, ⟨_, rfl, rfl⟩, ⟨_, rfl, rfl⟩, ⟨_, rfl, rfl⟩, ⟨_, rfl, rfl⟩, ⟨_, rfl, rfl⟩, ⟨_, rfl, rfl⟩, ⟨_, rfl, rfl⟩, ⟨_, rfl, rfl⟩, ⟨_, rfl, rfl⟩, ⟨_, rfl, rfl⟩, ⟨_, rfl, rfl⟩, ⟨_, rfl, rfl⟩, ⟨_, rfl, rfl⟩, trivial⟩ rfl rfl (by decide) (by decide) rfl dX7_merge_40 (fun H locs hw => ?_)
        refine lv_iand (pc := 43) E.1 E.2.1 dX7_merge_43 ?_
        refine lv_if_eq (tgt := 49) (pc := 44) E.1 E.2.1 dX7_merge_44 (by decide) (fun q12 => ?_) (fun q12 => ?_)
        · have hf := x_pos q12 hf
          refine lv_aload_n (pc := 49) E.1 E.2.1 dX7_merge_49 rfl (lv_at hl 0 rfl) ?_
          refine xg_X7_29 (pc := 50) (v := .ref (ad 11)) E hw 0 rfl rfl dX7_merge_50 ?_
          refine lv_aload_n (pc := 53) E.1 E.2.1 dX7_merge_53 rfl (lv_at hl 0 rfl) ?_
          refine xg_X7_19 (pc := 54) (v := .ref (ad 3)) E hw 0 rfl rfl dX7_merge_54 ?_
          obtain ⟨v13, g14, hf⟩ := x_bind hf
          refine x_callV (pc := 57) (As := [.ref (ad 3)]) (rest := []) (st1 := []) (ws' := (cells7c G ad (g7_tape s) (g7_book s) (g7_trial s) v13 (g7_ledger s) (g7_pen s) (g7_told s) (g7_ratesNow s))) E hw hl (c_X2_keep l G (fun k => ad (k + 11)) (fun k => ad (k + 3)) (g7_past s) (g7_book s) g14) xv_X7_88 xd_X2_keep rfl rfl ⟨Nat.le_of_ble_eq_true rfl, Nat.le_of_ble_eq_true rfl⟩ [11, 12, 3, 4, 5, 6] [0, 1, 2, 7, 8, 9, 10, 13, 14, 15, 16, 17, 18, 19, 20, 21, 22, 23, 24, 25, 26, 27, 28, 29, 30] (by decide) ⟨rfl, rfl, rfl, rfl, rfl, rfl, trivial⟩ (q0 := 11) rfl rfl rfl rfl (Nat.le_of_ble_eq_true rfl) (nw := 31) ⟨rfl, rfl, rfl, rfl, rfl, rfl, trivial⟩ ⟨⟨_, rfl, rfl⟩, ⟨_, rfl, rfl⟩, ⟨_, rfl, rfl⟩, ⟨_, rfl, rfl⟩, ⟨_, rfl, rfl⟩, ⟨_, rfl, rfl⟩, ⟨_, rfl, rfl⟩, ⟨_, rfl, rfl⟩, ⟨_, rfl, rfl⟩, ⟨_, rfl, rfl⟩, ⟨_, rfl, rfl⟩, ⟨_, rfl, rfl⟩, ⟨_, rfl, rfl⟩, ⟨_, rfl, rfl⟩, ⟨_, rfl, rfl⟩, ⟨_, rfl, rfl⟩, ⟨_, rfl, rfl⟩, ⟨_, rfl, rfl⟩, ⟨_, rfl, rfl⟩, ⟨_, rfl, rfl⟩, ⟨_, rfl, rfl⟩, ⟨_, rfl, rfl⟩, ⟨_, rfl, rfl⟩, ⟨_, rfl, rfl⟩, ⟨_, rfl, rfl⟩, trivial⟩ rfl rfl (by decide) (by decide) rfl dX7_merge_57 (fun H locs hw => ?_)
          refine lv_aload_n (pc := 60) E.1 E.2.1 dX7_merge_60 rfl (lv_at hl 0 rfl) ?_
          refine xg_X7_19 (pc := 61) (v := .ref (ad 3)) E hw 0 rfl rfl dX7_merge_61 ?_
          refine lv_iload_n (pc := 64) E.1 E.2.1 dX7_merge_64 rfl (lv_at hl 1 rfl) ?_
          refine lv_iload_n (pc := 65) E.1 E.2.1 dX7_merge_65 rfl (lv_at hl 2 rfl) ?_
          obtain ⟨v15, g16, hf⟩ := x_bind hf
          refine x_callV (pc := 66) (As := [.int x1, .int x2]) (rest := []) (st1 := [.int v15.1]) (ws' := (cells7c G ad (g7_tape s) v15.2 (g7_trial s) v13 (g7_ledger s) (g7_pen s) (g7_told s) (g7_ratesNow s))) E hw hl (c_X0_mergeInto l G (fun k => ad (k + 3)) (g7_book s) x1 x2 g16) xv_X7_173 xd_X0_mergeInto rfl rfl ⟨Nat.le_of_ble_eq_true rfl, Nat.le_of_ble_eq_true rfl⟩ [3, 4, 5, 6] [0, 1, 2, 7, 8, 9, 10, 11, 12, 13, 14, 15, 16, 17, 18, 19, 20, 21, 22, 23, 24, 25, 26, 27, 28, 29, 30] (by decide) ⟨rfl, rfl, rfl, rfl, trivial⟩ (q0 := 3) rfl rfl rfl rfl (Nat.le_of_ble_eq_true rfl) (nw := 31) ⟨rfl, rfl, rfl, rfl, trivial⟩ ⟨⟨_, rfl, rfl⟩, ⟨_, rfl, rfl⟩, ⟨_, rfl, rfl⟩, ⟨_, rfl, rfl⟩, ⟨_, rfl, rfl⟩, ⟨_, rfl, rfl⟩, ⟨_, rfl, rfl⟩, ⟨_, rfl, rfl⟩, ⟨_, rfl, rfl⟩, ⟨_, rfl, rfl⟩, ⟨_, rfl, rfl⟩, ⟨_, rfl, rfl⟩, ⟨_, rfl, rfl⟩, ⟨_, rfl, rfl⟩, ⟨_, rfl, rfl⟩, ⟨_, rfl, rfl⟩, ⟨_, rfl, rfl⟩, ⟨_, rfl, rfl⟩, ⟨_, rfl, rfl⟩, ⟨_, rfl, rfl⟩, ⟨_, rfl, rfl⟩, ⟨_, rfl, rfl⟩, ⟨_, rfl, rfl⟩, ⟨_, rfl, rfl⟩, ⟨_, rfl, rfl⟩, ⟨_, rfl, rfl⟩, ⟨_, rfl, rfl⟩, trivial⟩ rfl rfl (by decide) (by decide) rfl dX7_merge_66 (fun H locs hw => ?_)
          obtain rfl := Option.some.inj hf
          exact x_reti (pc := 69) E hr hk hw dX7_merge_69
        · have hf := x_neg q12 hf
          refine lv_iconst (v := (-1)) (pc := 47) E.1 E.2.1 dX7_merge_47 (by decide) ?_
          obtain rfl := Option.some.inj hf
          exact x_reti (pc := 48) E hr hk hw dX7_merge_48
set_option maxHeartbeats 4000000 in
set_option maxRecDepth 100000 in
theorem c_X7_merge (l : Launch) (G : xG) (ad : Nat → Nat) (s : S7) (x1 : Int32) (x2 : Int32) {z : Int32 × S7} (hf : f_X7_merge s x1 x2 = some z) : xC l yX7_merge cX7_merge 3 (some .int) (rm_X7_merge) G [.ref (ad 0), .int x1, .int x2] (cells7 G ad s) (some (.int z.1)) (cells7 G ad z.2) :=
  x_met (by decide) rfl (Nat.le_of_ble_eq_true rfl) (fun p e sS m below meth c E hr hk ls hl hw => w_X7_merge_p0 E hr hk s x1 x2 z hw hl hf)
set_option maxHeartbeats 4000000 in
set_option maxRecDepth 100000 in
theorem w_X7_cap_p0 {p : Program} {l : Launch} {e : Env} {sS : State} {m : MethodId} {args : Array Value} {below : List Frame} {meth : Method} {c : Code} {G : xG} {W0 : va_W} {ad : Nat → Nat}   (E : xE p sS m args c cX7_cap 3 RX7 G (x_in W0)) (hr : meth.sig.returnType = (some .int)) (hk : meth.locks = false)  : ∀ (s' : S7) (x1' : Int32) (z : Int32 × S7) {H : Heap} {locs : List Loc} {ls : Array Slot}, xW G (x_in W0) sS.heap (cells7 G ad s') H locs → lv_has ls 3 [(0, .ref (ad 0)), (1, .int x1')] → f_X7_cap  s' x1' = some z → W p l e (rm_X7_cap) sS m args below meth c H locs 0 0 (MQ below (xQ G W0 (cells7 G ad z.2) (some (.int z.1))) args sS 0 0 (x_in W0)) (F0 m 0 ls []) := by
  intro s x1 z H locs ls hw hl hf
  unfold f_X7_cap at hf
  refine lv_iload_n (pc := 0) E.1 E.2.1 dX7_cap_0 rfl (lv_at hl 1 rfl) ?_
  obtain ⟨v1, g2, hf⟩ := x_bind hf
  refine x_callS0 (pc := 1) (As := [.int x1]) (rest := []) (st1 := [.int v1]) E hw hl (c_X7_isAmount l G  x1 g2) xs_X7_136 xd_X7_isAmount rfl rfl ⟨Nat.le_of_ble_eq_true rfl, Nat.le_of_ble_eq_true rfl⟩ rfl rfl (Nat.le_of_ble_eq_true rfl) rfl dX7_cap_1 (fun H locs hw => ?_)
  refine lv_if_eq (tgt := 18) (pc := 4) E.1 E.2.1 dX7_cap_4 (by decide) (fun q3 => ?_) (fun q3 => ?_)
  · have hf := x_pos q3 hf
    refine lv_iconst (v := (-1)) (pc := 18) E.1 E.2.1 dX7_cap_18 (by decide) ?_
    obtain rfl := Option.some.inj hf
    exact x_reti (pc := 19) E hr hk hw dX7_cap_19
  · have hf := x_neg q3 hf
    refine lv_iload_n (pc := 7) E.1 E.2.1 dX7_cap_7 rfl (lv_at hl 1 rfl) ?_
    refine lv_aload_n (pc := 8) E.1 E.2.1 dX7_cap_8 rfl (lv_at hl 0 rfl) ?_
    refine xg_X7_19 (pc := 9) (v := .ref (ad 3)) E hw 0 rfl rfl dX7_cap_9 ?_
    refine xg_X7_176 (pc := 12) (v := .int (g0_cap (g7_book s))) E hw 3 rfl rfl dX7_cap_12 ?_
    refine lv_icmp_ne (tgt := 20) (pc := 15) E.1 E.2.1 dX7_cap_15 (by decide) (fun q4 => ?_) (fun q4 => ?_)
    · have hf := x_neg q4 hf
      refine lv_aload_n (pc := 20) E.1 E.2.1 dX7_cap_20 rfl (lv_at hl 0 rfl) ?_
      refine xg_X7_29 (pc := 21) (v := .ref (ad 11)) E hw 0 rfl rfl dX7_cap_21 ?_
      refine lv_aload_n (pc := 24) E.1 E.2.1 dX7_cap_24 rfl (lv_at hl 0 rfl) ?_
      refine xg_X7_19 (pc := 25) (v := .ref (ad 3)) E hw 0 rfl rfl dX7_cap_25 ?_
      obtain ⟨v5, g6, hf⟩ := x_bind hf
      refine x_callV (pc := 28) (As := [.ref (ad 3)]) (rest := []) (st1 := []) (ws' := (cells7c G ad (g7_tape s) (g7_book s) (g7_trial s) v5 (g7_ledger s) (g7_pen s) (g7_told s) (g7_ratesNow s))) E hw hl (c_X2_keep l G (fun k => ad (k + 11)) (fun k => ad (k + 3)) (g7_past s) (g7_book s) g6) xv_X7_88 xd_X2_keep rfl rfl ⟨Nat.le_of_ble_eq_true rfl, Nat.le_of_ble_eq_true rfl⟩ [11, 12, 3, 4, 5, 6] [0, 1, 2, 7, 8, 9, 10, 13, 14, 15, 16, 17, 18, 19, 20, 21, 22, 23, 24, 25, 26, 27, 28, 29, 30] (by decide) ⟨rfl, rfl, rfl, rfl, rfl, rfl, trivial⟩ (q0 := 11) rfl rfl rfl rfl (Nat.le_of_ble_eq_true rfl) (nw := 31) ⟨rfl, rfl, rfl, rfl, rfl, rfl, trivial⟩ ⟨⟨_, rfl, rfl⟩, ⟨_, rfl, rfl⟩, ⟨_, rfl, rfl⟩, ⟨_, rfl, rfl⟩, ⟨_, rfl, rfl⟩, ⟨_, rfl, rfl⟩, ⟨_, rfl, rfl⟩, ⟨_, rfl, rfl⟩, ⟨_, rfl, rfl⟩, ⟨_, rfl, rfl⟩, ⟨_, rfl, rfl⟩, ⟨_, rfl, rfl⟩, ⟨_, rfl, rfl⟩, ⟨_, rfl, rfl⟩, ⟨_, rfl, rfl⟩, ⟨_, rfl, rfl⟩, ⟨_, rfl, rfl⟩, ⟨_, rfl, rfl⟩, ⟨_, rfl, rfl⟩, ⟨_, rfl, rfl⟩, ⟨_, rfl, rfl⟩, ⟨_, rfl, rfl⟩, ⟨_, rfl, rfl⟩, ⟨_, rfl, rfl⟩, ⟨_, rfl, rfl⟩, trivial⟩ rfl rfl (by decide) (by decide) rfl dX7_cap_28 (fun H locs hw => ?_)
      refine lv_aload_n (pc := 31) E.1 E.2.1 dX7_cap_31 rfl (lv_at hl 0 rfl) ?_
      refine xg_X7_19 (pc := 32) (v := .ref (ad 3)) E hw 0 rfl rfl dX7_cap_32 ?_
      refine xg_X7_176 (pc := 35) (v := .int (g0_cap (g7_book s))) E hw 3 rfl rfl dX7_cap_35 ?_
      refine lv_istore_n (lv' := [(2, .int (g0_cap (g7_book s))), (0, .ref (ad 0)), (1, .int x1)]) (pc := 38) E.1 E.2.1 dX7_cap_38 rfl hl (by decide) rfl (fun ls hl => ?_)
      refine lv_aload_n (pc := 39) E.1 E.2.1 dX7_cap_39 rfl (lv_at hl 1 rfl) ?_
      refine xg_X7_19 (pc := 40) (v := .ref (ad 3)) E hw 0 rfl rfl dX7_cap_40 ?_
      refine lv_iload_n (pc := 43) E.1 E.2.1 dX7_cap_43 rfl (lv_at hl 2 rfl) ?_
      refine xp_X7_176 (pc := 44) (v := .int x1) (ws' := (cells7c G ad (g7_tape s) (u0_cap (g7_book s) x1) (g7_trial s) v5 (g7_ledger s) (g7_pen s) (g7_told s) (g7_ratesNow s))) E hw 3 rfl rfl rfl (Nat.le_of_ble_eq_true rfl) rfl dX7_cap_44 (fun H locs hw => ?_)
      refine lv_iload_n (pc := 47) E.1 E.2.1 dX7_cap_47 rfl (lv_at hl 0 rfl) ?_
      obtain rfl := Option.some.inj hf
      exact x_reti (pc := 48) E hr hk hw dX7_cap_48
    · have hf := x_pos q4 hf
      refine lv_iconst (v := (-1)) (pc := 18) E.1 E.2.1 dX7_cap_18 (by decide) ?_
      obtain rfl := Option.some.inj hf
      exact x_reti (pc := 19) E hr hk hw dX7_cap_19
set_option maxHeartbeats 4000000 in
set_option maxRecDepth 100000 in
theorem c_X7_cap (l : Launch) (G : xG) (ad : Nat → Nat) (s : S7) (x1 : Int32) {z : Int32 × S7} (hf : f_X7_cap s x1 = some z) : xC l yX7_cap cX7_cap 3 (some .int) (rm_X7_cap) G [.ref (ad 0), .int x1] (cells7 G ad s) (some (.int z.1)) (cells7 G ad z.2) :=
  x_met (by decide) rfl (Nat.le_of_ble_eq_true rfl) (fun p e sS m below meth c E hr hk ls hl hw => w_X7_cap_p0 E hr hk s x1 z hw hl hf)
set_option maxHeartbeats 4000000 in
set_option maxRecDepth 100000 in
theorem w_X7_steady_p0 {p : Program} {l : Launch} {e : Env} {sS : State} {m : MethodId} {args : Array Value} {below : List Frame} {meth : Method} {c : Code} {G : xG} {W0 : va_W} {ad : Nat → Nat}   (E : xE p sS m args c cX7_steady 3 RX7 G (x_in W0)) (hr : meth.sig.returnType = (some .int)) (hk : meth.locks = false)  : ∀ (s' : S7) (x1' : Int32) (z : Int32 × S7) {H : Heap} {locs : List Loc} {ls : Array Slot}, xW G (x_in W0) sS.heap (cells7 G ad s') H locs → lv_has ls 3 [(0, .ref (ad 0)), (1, .int x1')] → f_X7_steady  s' x1' = some z → W p l e (rm_X7_steady) sS m args below meth c H locs 0 0 (MQ below (xQ G W0 (cells7 G ad z.2) (some (.int z.1))) args sS 0 0 (x_in W0)) (F0 m 0 ls []) := by
  intro s x1 z H locs ls hw hl hf
  unfold f_X7_steady at hf
  refine lv_iload_n (pc := 0) E.1 E.2.1 dX7_steady_0 rfl (lv_at hl 1 rfl) ?_
  refine lv_if_lt (tgt := 21) (pc := 1) E.1 E.2.1 dX7_steady_1 (by decide) (fun q1 => ?_) (fun q1 => ?_)
  · have hf := x_pos q1 hf
    refine lv_iconst (v := (-1)) (pc := 21) E.1 E.2.1 dX7_steady_21 (by decide) ?_
    obtain rfl := Option.some.inj hf
    exact x_reti (pc := 22) E hr hk hw dX7_steady_22
  · have hf := x_neg q1 hf
    refine lv_iload_n (pc := 4) E.1 E.2.1 dX7_steady_4 rfl (lv_at hl 1 rfl) ?_
    refine lv_bipush (v := 50) (pc := 5) E.1 E.2.1 dX7_steady_5 (by decide) ?_
    refine lv_icmp_gt (tgt := 21) (pc := 7) E.1 E.2.1 dX7_steady_7 (by decide) (fun q2 => ?_) (fun q2 => ?_)
    · have hf := x_pos q2 hf
      refine lv_iconst (v := (-1)) (pc := 21) E.1 E.2.1 dX7_steady_21 (by decide) ?_
      obtain rfl := Option.some.inj hf
      exact x_reti (pc := 22) E hr hk hw dX7_steady_22
    · have hf := x_neg q2 hf
      refine lv_iload_n (pc := 10) E.1 E.2.1 dX7_steady_10 rfl (lv_at hl 1 rfl) ?_
      refine lv_aload_n (pc := 11) E.1 E.2.1 dX7_steady_11 rfl (lv_at hl 0 rfl) ?_
      refine xg_X7_19 (pc := 12) (v := .ref (ad 3)) E hw 0 rfl rfl dX7_steady_12 ?_
      refine xg_X7_179 (pc := 15) (v := .int (g0_steady (g7_book s))) E hw 3 rfl rfl dX7_steady_15 ?_
      refine lv_icmp_ne (tgt := 23) (pc := 18) E.1 E.2.1 dX7_steady_18 (by decide) (fun q3 => ?_) (fun q3 => ?_)
      · have hf := x_neg q3 hf
        refine lv_aload_n (pc := 23) E.1 E.2.1 dX7_steady_23 rfl (lv_at hl 0 rfl) ?_
        refine xg_X7_29 (pc := 24) (v := .ref (ad 11)) E hw 0 rfl rfl dX7_steady_24 ?_
        refine lv_aload_n (pc := 27) E.1 E.2.1 dX7_steady_27 rfl (lv_at hl 0 rfl) ?_
        refine xg_X7_19 (pc := 28) (v := .ref (ad 3)) E hw 0 rfl rfl dX7_steady_28 ?_
        obtain ⟨v4, g5, hf⟩ := x_bind hf
        refine x_callV (pc := 31) (As := [.ref (ad 3)]) (rest := []) (st1 := []) (ws' := (cells7c G ad (g7_tape s) (g7_book s) (g7_trial s) v4 (g7_ledger s) (g7_pen s) (g7_told s) (g7_ratesNow s))) E hw hl (c_X2_keep l G (fun k => ad (k + 11)) (fun k => ad (k + 3)) (g7_past s) (g7_book s) g5) xv_X7_88 xd_X2_keep rfl rfl ⟨Nat.le_of_ble_eq_true rfl, Nat.le_of_ble_eq_true rfl⟩ [11, 12, 3, 4, 5, 6] [0, 1, 2, 7, 8, 9, 10, 13, 14, 15, 16, 17, 18, 19, 20, 21, 22, 23, 24, 25, 26, 27, 28, 29, 30] (by decide) ⟨rfl, rfl, rfl, rfl, rfl, rfl, trivial⟩ (q0 := 11) rfl rfl rfl rfl (Nat.le_of_ble_eq_true rfl) (nw := 31) ⟨rfl, rfl, rfl, rfl, rfl, rfl, trivial⟩ ⟨⟨_, rfl, rfl⟩, ⟨_, rfl, rfl⟩, ⟨_, rfl, rfl⟩, ⟨_, rfl, rfl⟩, ⟨_, rfl, rfl⟩, ⟨_, rfl, rfl⟩, ⟨_, rfl, rfl⟩, ⟨_, rfl, rfl⟩, ⟨_, rfl, rfl⟩, ⟨_, rfl, rfl⟩, ⟨_, rfl, rfl⟩, ⟨_, rfl, rfl⟩, ⟨_, rfl, rfl⟩, ⟨_, rfl, rfl⟩, ⟨_, rfl, rfl⟩, ⟨_, rfl, rfl⟩, ⟨_, rfl, rfl⟩, ⟨_, rfl, rfl⟩, ⟨_, rfl, rfl⟩, ⟨_, rfl, rfl⟩, ⟨_, rfl, rfl⟩, ⟨_, rfl, rfl⟩, ⟨_, rfl, rfl⟩, ⟨_, rfl, rfl⟩, ⟨_, rfl, rfl⟩, trivial⟩ rfl rfl (by decide) (by decide) rfl dX7_steady_31 (fun H locs hw => ?_)
        refine lv_aload_n (pc := 34) E.1 E.2.1 dX7_steady_34 rfl (lv_at hl 0 rfl) ?_
        refine xg_X7_19 (pc := 35) (v := .ref (ad 3)) E hw 0 rfl rfl dX7_steady_35 ?_
        refine xg_X7_179 (pc := 38) (v := .int (g0_steady (g7_book s))) E hw 3 rfl rfl dX7_steady_38 ?_
        refine lv_istore_n (lv' := [(2, .int (g0_steady (g7_book s))), (0, .ref (ad 0)), (1, .int x1)]) (pc := 41) E.1 E.2.1 dX7_steady_41 rfl hl (by decide) rfl (fun ls hl => ?_)
        refine lv_aload_n (pc := 42) E.1 E.2.1 dX7_steady_42 rfl (lv_at hl 1 rfl) ?_
        refine xg_X7_19 (pc := 43) (v := .ref (ad 3)) E hw 0 rfl rfl dX7_steady_43 ?_
        refine lv_iload_n (pc := 46) E.1 E.2.1 dX7_steady_46 rfl (lv_at hl 2 rfl) ?_
        refine xp_X7_179 (pc := 47) (v := .int x1) (ws' := (cells7c G ad (g7_tape s) (u0_steady (g7_book s) x1) (g7_trial s) v4 (g7_ledger s) (g7_pen s) (g7_told s) (g7_ratesNow s))) E hw 3 rfl rfl rfl (Nat.le_of_ble_eq_true rfl) rfl dX7_steady_47 (fun H locs hw => ?_)
        refine lv_iload_n (pc := 50) E.1 E.2.1 dX7_steady_50 rfl (lv_at hl 0 rfl) ?_
        obtain rfl := Option.some.inj hf
        exact x_reti (pc := 51) E hr hk hw dX7_steady_51
      · have hf := x_pos q3 hf
        refine lv_iconst (v := (-1)) (pc := 21) E.1 E.2.1 dX7_steady_21 (by decide) ?_
        obtain rfl := Option.some.inj hf
        exact x_reti (pc := 22) E hr hk hw dX7_steady_22
set_option maxHeartbeats 4000000 in
set_option maxRecDepth 100000 in
theorem c_X7_steady (l : Launch) (G : xG) (ad : Nat → Nat) (s : S7) (x1 : Int32) {z : Int32 × S7} (hf : f_X7_steady s x1 = some z) : xC l yX7_steady cX7_steady 3 (some .int) (rm_X7_steady) G [.ref (ad 0), .int x1] (cells7 G ad s) (some (.int z.1)) (cells7 G ad z.2) :=
  x_met (by decide) rfl (Nat.le_of_ble_eq_true rfl) (fun p e sS m below meth c E hr hk ls hl hw => w_X7_steady_p0 E hr hk s x1 z hw hl hf)
set_option maxHeartbeats 4000000 in
set_option maxRecDepth 100000 in
theorem w_X7_undo_p0 {p : Program} {l : Launch} {e : Env} {sS : State} {m : MethodId} {args : Array Value} {below : List Frame} {meth : Method} {c : Code} {G : xG} {W0 : va_W} {ad : Nat → Nat}   (E : xE p sS m args c cX7_undo 1 RX7 G (x_in W0)) (hr : meth.sig.returnType = (some .int)) (hk : meth.locks = false)  : ∀ (s' : S7) (z : Int32 × S7) {H : Heap} {locs : List Loc} {ls : Array Slot}, xW G (x_in W0) sS.heap (cells7 G ad s') H locs → lv_has ls 1 [(0, .ref (ad 0))] → f_X7_undo  s' = some z → W p l e (rm_X7_undo) sS m args below meth c H locs 0 0 (MQ below (xQ G W0 (cells7 G ad z.2) (some (.int z.1))) args sS 0 0 (x_in W0)) (F0 m 0 ls []) := by
  intro s z H locs ls hw hl hf
  unfold f_X7_undo at hf
  refine lv_aload_n (pc := 0) E.1 E.2.1 dX7_undo_0 rfl (lv_at hl 0 rfl) ?_
  refine xg_X7_29 (pc := 1) (v := .ref (ad 11)) E hw 0 rfl rfl dX7_undo_1 ?_
  obtain ⟨v1, g2, hf⟩ := x_bind hf
  refine x_callV (pc := 4) (As := []) (rest := []) (st1 := [.int v1]) (ws' := (cells7 G ad s)) E hw hl (c_X2_size l G (fun k => ad (k + 11)) (g7_past s) g2) xv_X7_182 xd_X2_size rfl rfl ⟨Nat.le_of_ble_eq_true rfl, Nat.le_of_ble_eq_true rfl⟩ [11, 12] [0, 1, 2, 3, 4, 5, 6, 7, 8, 9, 10, 13, 14, 15, 16, 17, 18, 19, 20, 21, 22, 23, 24, 25, 26, 27, 28, 29, 30] (by decide) ⟨rfl, rfl, trivial⟩ (q0 := 11) rfl rfl rfl rfl (Nat.le_of_ble_eq_true rfl) (nw := 31) ⟨rfl, rfl, trivial⟩ ⟨⟨_, rfl, rfl⟩, ⟨_, rfl, rfl⟩, ⟨_, rfl, rfl⟩, ⟨_, rfl, rfl⟩, ⟨_, rfl, rfl⟩, ⟨_, rfl, rfl⟩, ⟨_, rfl, rfl⟩, ⟨_, rfl, rfl⟩, ⟨_, rfl, rfl⟩, ⟨_, rfl, rfl⟩, ⟨_, rfl, rfl⟩, ⟨_, rfl, rfl⟩, ⟨_, rfl, rfl⟩, ⟨_, rfl, rfl⟩, ⟨_, rfl, rfl⟩, ⟨_, rfl, rfl⟩, ⟨_, rfl, rfl⟩, ⟨_, rfl, rfl⟩, ⟨_, rfl, rfl⟩, ⟨_, rfl, rfl⟩, ⟨_, rfl, rfl⟩, ⟨_, rfl, rfl⟩, ⟨_, rfl, rfl⟩, ⟨_, rfl, rfl⟩, ⟨_, rfl, rfl⟩, ⟨_, rfl, rfl⟩, ⟨_, rfl, rfl⟩, ⟨_, rfl, rfl⟩, ⟨_, rfl, rfl⟩, trivial⟩ rfl rfl (by decide) (by decide) rfl dX7_undo_4 (fun H locs hw => ?_)
  refine lv_if_ne (tgt := 12) (pc := 7) E.1 E.2.1 dX7_undo_7 (by decide) (fun q3 => ?_) (fun q3 => ?_)
  · have hf := x_neg q3 hf
    refine lv_aload_n (pc := 12) E.1 E.2.1 dX7_undo_12 rfl (lv_at hl 0 rfl) ?_
    refine xg_X7_29 (pc := 13) (v := .ref (ad 11)) E hw 0 rfl rfl dX7_undo_13 ?_
    refine lv_aload_n (pc := 16) E.1 E.2.1 dX7_undo_16 rfl (lv_at hl 0 rfl) ?_
    refine xg_X7_19 (pc := 17) (v := .ref (ad 3)) E hw 0 rfl rfl dX7_undo_17 ?_
    obtain ⟨v4, g5, hf⟩ := x_bind hf
    refine x_callV (pc := 20) (As := [.ref (ad 3)]) (rest := []) (st1 := []) (ws' := (cells7c G ad (g7_tape s) v4.2 (g7_trial s) v4.1 (g7_ledger s) (g7_pen s) (g7_told s) (g7_ratesNow s))) E hw hl (c_X2_takeBack l G (fun k => ad (k + 11)) (fun k => ad (k + 3)) (g7_past s) (g7_book s) g5) xv_X7_183 xd_X2_takeBack rfl rfl ⟨Nat.le_of_ble_eq_true rfl, Nat.le_of_ble_eq_true rfl⟩ [11, 12, 3, 4, 5, 6] [0, 1, 2, 7, 8, 9, 10, 13, 14, 15, 16, 17, 18, 19, 20, 21, 22, 23, 24, 25, 26, 27, 28, 29, 30] (by decide) ⟨rfl, rfl, rfl, rfl, rfl, rfl, trivial⟩ (q0 := 11) rfl rfl rfl rfl (Nat.le_of_ble_eq_true rfl) (nw := 31) ⟨rfl, rfl, rfl, rfl, rfl, rfl, trivial⟩ ⟨⟨_, rfl, rfl⟩, ⟨_, rfl, rfl⟩, ⟨_, rfl, rfl⟩, ⟨_, rfl, rfl⟩, ⟨_, rfl, rfl⟩, ⟨_, rfl, rfl⟩, ⟨_, rfl, rfl⟩, ⟨_, rfl, rfl⟩, ⟨_, rfl, rfl⟩, ⟨_, rfl, rfl⟩, ⟨_, rfl, rfl⟩, ⟨_, rfl, rfl⟩, ⟨_, rfl, rfl⟩, ⟨_, rfl, rfl⟩, ⟨_, rfl, rfl⟩, ⟨_, rfl, rfl⟩, ⟨_, rfl, rfl⟩, ⟨_, rfl, rfl⟩, ⟨_, rfl, rfl⟩, ⟨_, rfl, rfl⟩, ⟨_, rfl, rfl⟩, ⟨_, rfl, rfl⟩, ⟨_, rfl, rfl⟩, ⟨_, rfl, rfl⟩, ⟨_, rfl, rfl⟩, trivial⟩ rfl rfl (by decide) (by decide) rfl dX7_undo_20 (fun H locs hw => ?_)
    refine lv_aload_n (pc := 23) E.1 E.2.1 dX7_undo_23 rfl (lv_at hl 0 rfl) ?_
    refine xg_X7_29 (pc := 24) (v := .ref (ad 11)) E hw 0 rfl rfl dX7_undo_24 ?_
    obtain ⟨v6, g7, hf⟩ := x_bind hf
    refine x_callV (pc := 27) (As := []) (rest := []) (st1 := [.int v6]) (ws' := (cells7c G ad (g7_tape s) v4.2 (g7_trial s) v4.1 (g7_ledger s) (g7_pen s) (g7_told s) (g7_ratesNow s))) E hw hl (c_X2_size l G (fun k => ad (k + 11)) v4.1 g7) xv_X7_182 xd_X2_size rfl rfl ⟨Nat.le_of_ble_eq_true rfl, Nat.le_of_ble_eq_true rfl⟩ [11, 12] [0, 1, 2, 3, 4, 5, 6, 7, 8, 9, 10, 13, 14, 15, 16, 17, 18, 19, 20, 21, 22, 23, 24, 25, 26, 27, 28, 29, 30] (by decide) ⟨rfl, rfl, trivial⟩ (q0 := 11) rfl rfl rfl rfl (Nat.le_of_ble_eq_true rfl) (nw := 31) ⟨rfl, rfl, trivial⟩ ⟨⟨_, rfl, rfl⟩, ⟨_, rfl, rfl⟩, ⟨_, rfl, rfl⟩, ⟨_, rfl, rfl⟩, ⟨_, rfl, rfl⟩, ⟨_, rfl, rfl⟩, ⟨_, rfl, rfl⟩, ⟨_, rfl, rfl⟩, ⟨_, rfl, rfl⟩, ⟨_, rfl, rfl⟩, ⟨_, rfl, rfl⟩, ⟨_, rfl, rfl⟩, ⟨_, rfl, rfl⟩, ⟨_, rfl, rfl⟩, ⟨_, rfl, rfl⟩, ⟨_, rfl, rfl⟩, ⟨_, rfl, rfl⟩, ⟨_, rfl, rfl⟩, ⟨_, rfl, rfl⟩, ⟨_, rfl, rfl⟩, ⟨_, rfl, rfl⟩, ⟨_, rfl, rfl⟩, ⟨_, rfl, rfl⟩, ⟨_, rfl, rfl⟩, ⟨_, rfl, rfl⟩, ⟨_, rfl, rfl⟩, ⟨_, rfl, rfl⟩, ⟨_, rfl, rfl⟩, ⟨_, rfl, rfl⟩, trivial⟩ rfl rfl (by decide) (by decide) rfl dX7_undo_27 (fun H locs hw => ?_)
    obtain rfl := Option.some.inj hf
    exact x_reti (pc := 30) E hr hk hw dX7_undo_30
  · have hf := x_pos q3 hf
    refine lv_iconst (v := (-1)) (pc := 10) E.1 E.2.1 dX7_undo_10 (by decide) ?_
    obtain rfl := Option.some.inj hf
    exact x_reti (pc := 11) E hr hk hw dX7_undo_11
set_option maxHeartbeats 4000000 in
set_option maxRecDepth 100000 in
theorem c_X7_undo (l : Launch) (G : xG) (ad : Nat → Nat) (s : S7) {z : Int32 × S7} (hf : f_X7_undo s = some z) : xC l yX7_undo cX7_undo 1 (some .int) (rm_X7_undo) G [.ref (ad 0)] (cells7 G ad s) (some (.int z.1)) (cells7 G ad z.2) :=
  x_met (by decide) rfl (Nat.le_of_ble_eq_true rfl) (fun p e sS m below meth c E hr hk ls hl hw => w_X7_undo_p0 E hr hk s z hw hl hf)
set_option maxHeartbeats 4000000 in
set_option maxRecDepth 100000 in
theorem w_X7_of_p0 {p : Program} {l : Launch} {e : Env} {sS : State} {m : MethodId} {args : Array Value} {below : List Frame} {meth : Method} {c : Code} {G : xG} {W0 : va_W} {ad : Nat → Nat}   (E : xE p sS m args c cX7_of 3 RX7 G (x_in W0)) (hr : meth.sig.returnType = (some .int)) (hk : meth.locks = false)  : ∀ (s' : S7) (x1' : Int32) (x2' : Int32) (z : Int32 × S7) {H : Heap} {locs : List Loc} {ls : Array Slot}, xW G (x_in W0) sS.heap (cells7 G ad s') H locs → lv_has ls 3 [(0, .ref (ad 0)), (1, .int x1'), (2, .int x2')] → f_X7_of  s' x1' x2' = some z → W p l e (rm_X7_of) sS m args below meth c H locs 0 0 (MQ below (xQ G W0 (cells7 G ad z.2) (some (.int z.1))) args sS 0 0 (x_in W0)) (F0 m 0 ls []) := by
  intro s x1 x2 z H locs ls hw hl hf
  unfold f_X7_of at hf
  refine lv_aload_n (pc := 0) E.1 E.2.1 dX7_of_0 rfl (lv_at hl 0 rfl) ?_
  refine xg_X7_19 (pc := 1) (v := .ref (ad 3)) E hw 0 rfl rfl dX7_of_1 ?_
  refine lv_iload_n (pc := 4) E.1 E.2.1 dX7_of_4 rfl (lv_at hl 1 rfl) ?_
  obtain ⟨v1, g2, hf⟩ := x_bind hf
  refine x_callV (pc := 5) (As := [.int x1]) (rest := []) (st1 := [.int v1]) (ws' := (cells7 G ad s)) E hw hl (c_X0_hasFleet l G (fun k => ad (k + 3)) (g7_book s) x1 g2) xv_X7_95 xd_X0_hasFleet rfl rfl ⟨Nat.le_of_ble_eq_true rfl, Nat.le_of_ble_eq_true rfl⟩ [3, 4, 5, 6] [0, 1, 2, 7, 8, 9, 10, 11, 12, 13, 14, 15, 16, 17, 18, 19, 20, 21, 22, 23, 24, 25, 26, 27, 28, 29, 30] (by decide) ⟨rfl, rfl, rfl, rfl, trivial⟩ (q0 := 3) rfl rfl rfl rfl (Nat.le_of_ble_eq_true rfl) (nw := 31) ⟨rfl, rfl, rfl, rfl, trivial⟩ ⟨⟨_, rfl, rfl⟩, ⟨_, rfl, rfl⟩, ⟨_, rfl, rfl⟩, ⟨_, rfl, rfl⟩, ⟨_, rfl, rfl⟩, ⟨_, rfl, rfl⟩, ⟨_, rfl, rfl⟩, ⟨_, rfl, rfl⟩, ⟨_, rfl, rfl⟩, ⟨_, rfl, rfl⟩, ⟨_, rfl, rfl⟩, ⟨_, rfl, rfl⟩, ⟨_, rfl, rfl⟩, ⟨_, rfl, rfl⟩, ⟨_, rfl, rfl⟩, ⟨_, rfl, rfl⟩, ⟨_, rfl, rfl⟩, ⟨_, rfl, rfl⟩, ⟨_, rfl, rfl⟩, ⟨_, rfl, rfl⟩, ⟨_, rfl, rfl⟩, ⟨_, rfl, rfl⟩, ⟨_, rfl, rfl⟩, ⟨_, rfl, rfl⟩, ⟨_, rfl, rfl⟩, ⟨_, rfl, rfl⟩, ⟨_, rfl, rfl⟩, trivial⟩ rfl rfl (by decide) (by decide) rfl dX7_of_5 (fun H locs hw => ?_)
  refine lv_if_ne (tgt := 13) (pc := 8) E.1 E.2.1 dX7_of_8 (by decide) (fun q3 => ?_) (fun q3 => ?_)
  · have hf := x_neg q3 hf
    refine lv_aload_n (pc := 13) E.1 E.2.1 dX7_of_13 rfl (lv_at hl 0 rfl) ?_
    refine xg_X7_36 (pc := 14) (v := .ref (ad 13)) E hw 0 rfl rfl dX7_of_14 ?_
    refine lv_aload_n (pc := 17) E.1 E.2.1 dX7_of_17 rfl (lv_at hl 0 rfl) ?_
    refine xg_X7_19 (pc := 18) (v := .ref (ad 3)) E hw 0 rfl rfl dX7_of_18 ?_
    obtain ⟨v4, g5, hf⟩ := x_bind hf
    refine x_callV (pc := 21) (As := [.ref (ad 3)]) (rest := []) (st1 := []) (ws' := (cells7c G ad (g7_tape s) (g7_book s) (g7_trial s) (g7_past s) v4 (g7_pen s) (g7_told s) (g7_ratesNow s))) E hw hl (c_X1_reckon l G (fun k => ad (k + 13)) (fun k => ad (k + 3)) (g7_ledger s) (g7_book s) g5) xv_X7_186 xd_X1_reckon rfl rfl ⟨Nat.le_of_ble_eq_true rfl, Nat.le_of_ble_eq_true rfl⟩ [13, 14, 15, 16, 17, 18, 19, 20, 21, 22, 23, 24, 25, 26, 27, 3, 4, 5, 6] [0, 1, 2, 7, 8, 9, 10, 11, 12, 28, 29, 30] (by decide) ⟨rfl, rfl, rfl, rfl, rfl, rfl, rfl, rfl, rfl, rfl, rfl, rfl, rfl, rfl, rfl, rfl, rfl, rfl, rfl, trivial⟩ (q0 := 13) rfl rfl rfl rfl (Nat.le_of_ble_eq_true rfl) (nw := 31) ⟨rfl, rfl, rfl, rfl, rfl, rfl, rfl, rfl, rfl, rfl, rfl, rfl, rfl, rfl, rfl, rfl, rfl, rfl, rfl, trivial⟩ ⟨⟨_, rfl, rfl⟩, ⟨_, rfl, rfl⟩, ⟨_, rfl, rfl⟩, ⟨_, rfl, rfl⟩, ⟨_, rfl, rfl⟩, ⟨_, rfl, rfl⟩, ⟨_, rfl, rfl⟩, ⟨_, rfl, rfl⟩, ⟨_, rfl, rfl⟩, ⟨_, rfl, rfl⟩, ⟨_, rfl, rfl⟩, ⟨_, rfl, rfl⟩, trivial⟩ rfl rfl (by decide) (by decide) rfl dX7_of_21 (fun H locs hw => ?_)
    refine lv_iload_n (pc := 24) E.1 E.2.1 dX7_of_24 rfl (lv_at hl 2 rfl) ?_
    by_cases q6 : x2 = 0
    · have hf := x_pos q6 hf
      refine x_swi (pc := 25) (v := 0) (tgt := 72) E q6 dX7_of_25 (by decide) (by decide) rfl (by decide) ?_
      refine lv_aload_n (pc := 72) E.1 E.2.1 dX7_of_72 rfl (lv_at hl 0 rfl) ?_
      refine xg_X7_19 (pc := 73) (v := .ref (ad 3)) E hw 0 rfl rfl dX7_of_73 ?_
      refine lv_iload_n (pc := 76) E.1 E.2.1 dX7_of_76 rfl (lv_at hl 1 rfl) ?_
      obtain ⟨v7, g8, hf⟩ := x_bind hf
      refine x_callV (pc := 77) (As := [.int x1]) (rest := []) (st1 := [.int v7]) (ws' := (cells7c G ad (g7_tape s) (g7_book s) (g7_trial s) (g7_past s) v4 (g7_pen s) (g7_told s) (g7_ratesNow s))) E hw hl (c_X0_classOf l G (fun k => ad (k + 3)) (g7_book s) x1 g8) xv_X7_101 xd_X0_classOf rfl rfl ⟨Nat.le_of_ble_eq_true rfl, Nat.le_of_ble_eq_true rfl⟩ [3, 4, 5, 6] [0, 1, 2, 7, 8, 9, 10, 11, 12, 13, 14, 15, 16, 17, 18, 19, 20, 21, 22, 23, 24, 25, 26, 27, 28, 29, 30] (by decide) ⟨rfl, rfl, rfl, rfl, trivial⟩ (q0 := 3) rfl rfl rfl rfl (Nat.le_of_ble_eq_true rfl) (nw := 31) ⟨rfl, rfl, rfl, rfl, trivial⟩ ⟨⟨_, rfl, rfl⟩, ⟨_, rfl, rfl⟩, ⟨_, rfl, rfl⟩, ⟨_, rfl, rfl⟩, ⟨_, rfl, rfl⟩, ⟨_, rfl, rfl⟩, ⟨_, rfl, rfl⟩, ⟨_, rfl, rfl⟩, ⟨_, rfl, rfl⟩, ⟨_, rfl, rfl⟩, ⟨_, rfl, rfl⟩, ⟨_, rfl, rfl⟩, ⟨_, rfl, rfl⟩, ⟨_, rfl, rfl⟩, ⟨_, rfl, rfl⟩, ⟨_, rfl, rfl⟩, ⟨_, rfl, rfl⟩, ⟨_, rfl, rfl⟩, ⟨_, rfl, rfl⟩, ⟨_, rfl, rfl⟩, ⟨_, rfl, rfl⟩, ⟨_, rfl, rfl⟩, ⟨_, rfl, rfl⟩, ⟨_, rfl, rfl⟩, ⟨_, rfl, rfl⟩, ⟨_, rfl, rfl⟩, ⟨_, rfl, rfl⟩, trivial⟩ rfl rfl (by decide) (by decide) rfl dX7_of_77 (fun H locs hw => ?_)
      obtain rfl := Option.some.inj hf
      exact x_reti (pc := 80) E hr hk hw dX7_of_80
    · have hf := x_neg q6 hf
      by_cases q9 : x2 = 1
      · have hf := x_pos q9 hf
        refine x_swi (pc := 25) (v := 1) (tgt := 81) E q9 dX7_of_25 (by decide) (by decide) rfl (by decide) ?_
        refine lv_aload_n (pc := 81) E.1 E.2.1 dX7_of_81 rfl (lv_at hl 0 rfl) ?_
        refine xg_X7_19 (pc := 82) (v := .ref (ad 3)) E hw 0 rfl rfl dX7_of_82 ?_
        refine lv_iload_n (pc := 85) E.1 E.2.1 dX7_of_85 rfl (lv_at hl 1 rfl) ?_
        obtain ⟨v10, g11, hf⟩ := x_bind hf
        refine x_callV (pc := 86) (As := [.int x1]) (rest := []) (st1 := [.int v10]) (ws' := (cells7c G ad (g7_tape s) (g7_book s) (g7_trial s) (g7_past s) v4 (g7_pen s) (g7_told s) (g7_ratesNow s))) E hw hl (c_X0_yearsOf l G (fun k => ad (k + 3)) (g7_book s) x1 g11) xv_X7_116 xd_X0_yearsOf rfl rfl ⟨Nat.le_of_ble_eq_true rfl, Nat.le_of_ble_eq_true rfl⟩ [3, 4, 5, 6] [0, 1, 2, 7, 8, 9, 10, 11, 12, 13, 14, 15, 16, 17, 18, 19, 20, 21, 22, 23, 24, 25, 26, 27, 28, 29, 30] (by decide) ⟨rfl, rfl, rfl, rfl, trivial⟩ (q0 := 3) rfl rfl rfl rfl (Nat.le_of_ble_eq_true rfl) (nw := 31) ⟨rfl, rfl, rfl, rfl, trivial⟩ ⟨⟨_, rfl, rfl⟩, ⟨_, rfl, rfl⟩, ⟨_, rfl, rfl⟩, ⟨_, rfl, rfl⟩, ⟨_, rfl, rfl⟩, ⟨_, rfl, rfl⟩, ⟨_, rfl, rfl⟩, ⟨_, rfl, rfl⟩, ⟨_, rfl, rfl⟩, ⟨_, rfl, rfl⟩, ⟨_, rfl, rfl⟩, ⟨_, rfl, rfl⟩, ⟨_, rfl, rfl⟩, ⟨_, rfl, rfl⟩, ⟨_, rfl, rfl⟩, ⟨_, rfl, rfl⟩, ⟨_, rfl, rfl⟩, ⟨_, rfl, rfl⟩, ⟨_, rfl, rfl⟩, ⟨_, rfl, rfl⟩, ⟨_, rfl, rfl⟩, ⟨_, rfl, rfl⟩, ⟨_, rfl, rfl⟩, ⟨_, rfl, rfl⟩, ⟨_, rfl, rfl⟩, ⟨_, rfl, rfl⟩, ⟨_, rfl, rfl⟩, trivial⟩ rfl rfl (by decide) (by decide) rfl dX7_of_86 (fun H locs hw => ?_)
        obtain rfl := Option.some.inj hf
        exact x_reti (pc := 89) E hr hk hw dX7_of_89
      · have hf := x_neg q9 hf
        by_cases q12 : x2 = 2
        · have hf := x_pos q12 hf
          refine x_swi (pc := 25) (v := 2) (tgt := 90) E q12 dX7_of_25 (by decide) (by decide) rfl (by decide) ?_
          refine lv_aload_n (pc := 90) E.1 E.2.1 dX7_of_90 rfl (lv_at hl 0 rfl) ?_
          refine xg_X7_36 (pc := 91) (v := .ref (ad 13)) E hw 0 rfl rfl dX7_of_91 ?_
          refine lv_iload_n (pc := 94) E.1 E.2.1 dX7_of_94 rfl (lv_at hl 1 rfl) ?_
          obtain ⟨v13, g14, hf⟩ := x_bind hf
          refine x_callV (pc := 95) (As := [.int x1]) (rest := []) (st1 := [.int v13]) (ws' := (cells7c G ad (g7_tape s) (g7_book s) (g7_trial s) (g7_past s) v4 (g7_pen s) (g7_told s) (g7_ratesNow s))) E hw hl (c_X1_spanOf l G (fun k => ad (k + 13)) v4 x1 g14) xv_X7_189 xd_X1_spanOf rfl rfl ⟨Nat.le_of_ble_eq_true rfl, Nat.le_of_ble_eq_true rfl⟩ [13, 14, 15, 16, 17, 18, 19, 20, 21, 22, 23, 24, 25, 26, 27] [0, 1, 2, 3, 4, 5, 6, 7, 8, 9, 10, 11, 12, 28, 29, 30] (by decide) ⟨rfl, rfl, rfl, rfl, rfl, rfl, rfl, rfl, rfl, rfl, rfl, rfl, rfl, rfl, rfl, trivial⟩ (q0 := 13) rfl rfl rfl rfl (Nat.le_of_ble_eq_true rfl) (nw := 31) ⟨rfl, rfl, rfl, rfl, rfl, rfl, rfl, rfl, rfl, rfl, rfl, rfl, rfl, rfl, rfl, trivial⟩ ⟨⟨_, rfl, rfl⟩, ⟨_, rfl, rfl⟩, ⟨_, rfl, rfl⟩, ⟨_, rfl, rfl⟩, ⟨_, rfl, rfl⟩, ⟨_, rfl, rfl⟩, ⟨_, rfl, rfl⟩, ⟨_, rfl, rfl⟩, ⟨_, rfl, rfl⟩, ⟨_, rfl, rfl⟩, ⟨_, rfl, rfl⟩, ⟨_, rfl, rfl⟩, ⟨_, rfl, rfl⟩, ⟨_, rfl, rfl⟩, ⟨_, rfl, rfl⟩, ⟨_, rfl, rfl⟩, trivial⟩ rfl rfl (by decide) (by decide) rfl dX7_of_95 (fun H locs hw => ?_)
          obtain rfl := Option.some.inj hf
          exact x_reti (pc := 98) E hr hk hw dX7_of_98
        · have hf := x_neg q12 hf
          by_cases q15 : x2 = 3
          · have hf := x_pos q15 hf
            refine x_swi (pc := 25) (v := 3) (tgt := 99) E q15 dX7_of_25 (by decide) (by decide) rfl (by decide) ?_
            refine lv_aload_n (pc := 99) E.1 E.2.1 dX7_of_99 rfl (lv_at hl 0 rfl) ?_
            refine xg_X7_36 (pc := 100) (v := .ref (ad 13)) E hw 0 rfl rfl dX7_of_100 ?_
            refine lv_iload_n (pc := 103) E.1 E.2.1 dX7_of_103 rfl (lv_at hl 1 rfl) ?_
            obtain ⟨v16, g17, hf⟩ := x_bind hf
            refine x_callV (pc := 104) (As := [.int x1]) (rest := []) (st1 := [.int v16]) (ws' := (cells7c G ad (g7_tape s) (g7_book s) (g7_trial s) (g7_past s) v4 (g7_pen s) (g7_told s) (g7_ratesNow s))) E hw hl (c_X1_sumOf l G (fun k => ad (k + 13)) v4 x1 g17) xv_X7_192 xd_X1_sumOf rfl rfl ⟨Nat.le_of_ble_eq_true rfl, Nat.le_of_ble_eq_true rfl⟩ [13, 14, 15, 16, 17, 18, 19, 20, 21, 22, 23, 24, 25, 26, 27] [0, 1, 2, 3, 4, 5, 6, 7, 8, 9, 10, 11, 12, 28, 29, 30] (by decide) ⟨rfl, rfl, rfl, rfl, rfl, rfl, rfl, rfl, rfl, rfl, rfl, rfl, rfl, rfl, rfl, trivial⟩ (q0 := 13) rfl rfl rfl rfl (Nat.le_of_ble_eq_true rfl) (nw := 31) ⟨rfl, rfl, rfl, rfl, rfl, rfl, rfl, rfl, rfl, rfl, rfl, rfl, rfl, rfl, rfl, trivial⟩ ⟨⟨_, rfl, rfl⟩, ⟨_, rfl, rfl⟩, ⟨_, rfl, rfl⟩, ⟨_, rfl, rfl⟩, ⟨_, rfl, rfl⟩, ⟨_, rfl, rfl⟩, ⟨_, rfl, rfl⟩, ⟨_, rfl, rfl⟩, ⟨_, rfl, rfl⟩, ⟨_, rfl, rfl⟩, ⟨_, rfl, rfl⟩, ⟨_, rfl, rfl⟩, ⟨_, rfl, rfl⟩, ⟨_, rfl, rfl⟩, ⟨_, rfl, rfl⟩, ⟨_, rfl, rfl⟩, trivial⟩ rfl rfl (by decide) (by decide) rfl dX7_of_104 (fun H locs hw => ?_)
            obtain rfl := Option.some.inj hf
            exact x_reti (pc := 107) E hr hk hw dX7_of_107
          · have hf := x_neg q15 hf
            by_cases q18 : x2 = 4
            · have hf := x_pos q18 hf
              refine x_swi (pc := 25) (v := 4) (tgt := 108) E q18 dX7_of_25 (by decide) (by decide) rfl (by decide) ?_
              refine lv_aload_n (pc := 108) E.1 E.2.1 dX7_of_108 rfl (lv_at hl 0 rfl) ?_
              refine xg_X7_36 (pc := 109) (v := .ref (ad 13)) E hw 0 rfl rfl dX7_of_109 ?_
              refine lv_iload_n (pc := 112) E.1 E.2.1 dX7_of_112 rfl (lv_at hl 1 rfl) ?_
              obtain ⟨v19, g20, hf⟩ := x_bind hf
              refine x_callV (pc := 113) (As := [.int x1]) (rest := []) (st1 := [.int v19]) (ws' := (cells7c G ad (g7_tape s) (g7_book s) (g7_trial s) (g7_past s) v4 (g7_pen s) (g7_told s) (g7_ratesNow s))) E hw hl (c_X1_squaresOf l G (fun k => ad (k + 13)) v4 x1 g20) xv_X7_195 xd_X1_squaresOf rfl rfl ⟨Nat.le_of_ble_eq_true rfl, Nat.le_of_ble_eq_true rfl⟩ [13, 14, 15, 16, 17, 18, 19, 20, 21, 22, 23, 24, 25, 26, 27] [0, 1, 2, 3, 4, 5, 6, 7, 8, 9, 10, 11, 12, 28, 29, 30] (by decide) ⟨rfl, rfl, rfl, rfl, rfl, rfl, rfl, rfl, rfl, rfl, rfl, rfl, rfl, rfl, rfl, trivial⟩ (q0 := 13) rfl rfl rfl rfl (Nat.le_of_ble_eq_true rfl) (nw := 31) ⟨rfl, rfl, rfl, rfl, rfl, rfl, rfl, rfl, rfl, rfl, rfl, rfl, rfl, rfl, rfl, trivial⟩ ⟨⟨_, rfl, rfl⟩, ⟨_, rfl, rfl⟩, ⟨_, rfl, rfl⟩, ⟨_, rfl, rfl⟩, ⟨_, rfl, rfl⟩, ⟨_, rfl, rfl⟩, ⟨_, rfl, rfl⟩, ⟨_, rfl, rfl⟩, ⟨_, rfl, rfl⟩, ⟨_, rfl, rfl⟩, ⟨_, rfl, rfl⟩, ⟨_, rfl, rfl⟩, ⟨_, rfl, rfl⟩, ⟨_, rfl, rfl⟩, ⟨_, rfl, rfl⟩, ⟨_, rfl, rfl⟩, trivial⟩ rfl rfl (by decide) (by decide) rfl dX7_of_113 (fun H locs hw => ?_)
              obtain rfl := Option.some.inj hf
              exact x_reti (pc := 116) E hr hk hw dX7_of_116
            · have hf := x_neg q18 hf
              by_cases q21 : x2 = 5
              · have hf := x_pos q21 hf
                refine x_swi (pc := 25) (v := 5) (tgt := 117) E q21 dX7_of_25 (by decide) (by decide) rfl (by decide) ?_
                refine lv_aload_n (pc := 117) E.1 E.2.1 dX7_of_117 rfl (lv_at hl 0 rfl) ?_
                refine xg_X7_19 (pc := 118) (v := .ref (ad 3)) E hw 0 rfl rfl dX7_of_118 ?_
                refine lv_iload_n (pc := 121) E.1 E.2.1 dX7_of_121 rfl (lv_at hl 1 rfl) ?_
                obtain ⟨v22, g23, hf⟩ := x_bind hf
                refine x_callV (pc := 122) (As := [.int x1]) (rest := []) (st1 := [.int v22]) (ws' := (cells7c G ad (g7_tape s) (g7_book s) (g7_trial s) (g7_past s) v4 (g7_pen s) (g7_told s) (g7_ratesNow s))) E hw hl (c_X0_claimsWith l G (fun k => ad (k + 3)) (g7_book s) x1 g23) xv_X7_198 xd_X0_claimsWith rfl rfl ⟨Nat.le_of_ble_eq_true rfl, Nat.le_of_ble_eq_true rfl⟩ [3, 4, 5, 6] [0, 1, 2, 7, 8, 9, 10, 11, 12, 13, 14, 15, 16, 17, 18, 19, 20, 21, 22, 23, 24, 25, 26, 27, 28, 29, 30] (by decide) ⟨rfl, rfl, rfl, rfl, trivial⟩ (q0 := 3) rfl rfl rfl rfl (Nat.le_of_ble_eq_true rfl) (nw := 31) ⟨rfl, rfl, rfl, rfl, trivial⟩ ⟨⟨_, rfl, rfl⟩, ⟨_, rfl, rfl⟩, ⟨_, rfl, rfl⟩, ⟨_, rfl, rfl⟩, ⟨_, rfl, rfl⟩, ⟨_, rfl, rfl⟩, ⟨_, rfl, rfl⟩, ⟨_, rfl, rfl⟩, ⟨_, rfl, rfl⟩, ⟨_, rfl, rfl⟩, ⟨_, rfl, rfl⟩, ⟨_, rfl, rfl⟩, ⟨_, rfl, rfl⟩, ⟨_, rfl, rfl⟩, ⟨_, rfl, rfl⟩, ⟨_, rfl, rfl⟩, ⟨_, rfl, rfl⟩, ⟨_, rfl, rfl⟩, ⟨_, rfl, rfl⟩, ⟨_, rfl, rfl⟩, ⟨_, rfl, rfl⟩, ⟨_, rfl, rfl⟩, ⟨_, rfl, rfl⟩, ⟨_, rfl, rfl⟩, ⟨_, rfl, rfl⟩, ⟨_, rfl, rfl⟩, ⟨_, rfl, rfl⟩, trivial⟩ rfl rfl (by decide) (by decide) rfl dX7_of_122 (fun H locs hw => ?_)
                obtain rfl := Option.some.inj hf
                exact x_reti (pc := 125) E hr hk hw dX7_of_125
              · have hf := x_neg q21 hf
                by_cases q24 : x2 = 6
                · have hf := x_pos q24 hf
                  refine x_swi (pc := 25) (v := 6) (tgt := 126) E q24 dX7_of_25 (by decide) (by decide) rfl (by decide) ?_
                  refine lv_aload_n (pc := 126) E.1 E.2.1 dX7_of_126 rfl (lv_at hl 0 rfl) ?_
                  refine xg_X7_19 (pc := 127) (v := .ref (ad 3)) E hw 0 rfl rfl dX7_of_127 ?_
                  refine lv_iload_n (pc := 130) E.1 E.2.1 dX7_of_130 rfl (lv_at hl 1 rfl) ?_
                  obtain ⟨v25, g26, hf⟩ := x_bind hf
                  refine x_callV (pc := 131) (As := [.int x1]) (rest := []) (st1 := [.int v25]) (ws' := (cells7c G ad (g7_tape s) (g7_book s) (g7_trial s) (g7_past s) v4 (g7_pen s) (g7_told s) (g7_ratesNow s))) E hw hl (c_X0_claimsAboveCap l G (fun k => ad (k + 3)) (g7_book s) x1 g26) xv_X7_201 xd_X0_claimsAboveCap rfl rfl ⟨Nat.le_of_ble_eq_true rfl, Nat.le_of_ble_eq_true rfl⟩ [3, 4, 5, 6] [0, 1, 2, 7, 8, 9, 10, 11, 12, 13, 14, 15, 16, 17, 18, 19, 20, 21, 22, 23, 24, 25, 26, 27, 28, 29, 30] (by decide) ⟨rfl, rfl, rfl, rfl, trivial⟩ (q0 := 3) rfl rfl rfl rfl (Nat.le_of_ble_eq_true rfl) (nw := 31) ⟨rfl, rfl, rfl, rfl, trivial⟩ ⟨⟨_, rfl, rfl⟩, ⟨_, rfl, rfl⟩, ⟨_, rfl, rfl⟩, ⟨_, rfl, rfl⟩, ⟨_, rfl, rfl⟩, ⟨_, rfl, rfl⟩, ⟨_, rfl, rfl⟩, ⟨_, rfl, rfl⟩, ⟨_, rfl, rfl⟩, ⟨_, rfl, rfl⟩, ⟨_, rfl, rfl⟩, ⟨_, rfl, rfl⟩, ⟨_, rfl, rfl⟩, ⟨_, rfl, rfl⟩, ⟨_, rfl, rfl⟩, ⟨_, rfl, rfl⟩, ⟨_, rfl, rfl⟩, ⟨_, rfl, rfl⟩, ⟨_, rfl, rfl⟩, ⟨_, rfl, rfl⟩, ⟨_, rfl, rfl⟩, ⟨_, rfl, rfl⟩, ⟨_, rfl, rfl⟩, ⟨_, rfl, rfl⟩, ⟨_, rfl, rfl⟩, ⟨_, rfl, rfl⟩, ⟨_, rfl, rfl⟩, trivial⟩ rfl rfl (by decide) (by decide) rfl dX7_of_131 (fun H locs hw => ?_)
                  obtain rfl := Option.some.inj hf
                  exact x_reti (pc := 134) E hr hk hw dX7_of_134
                · have hf := x_neg q24 hf
                  by_cases q27 : x2 = 7
                  · have hf := x_pos q27 hf
                    refine x_swi (pc := 25) (v := 7) (tgt := 135) E q27 dX7_of_25 (by decide) (by decide) rfl (by decide) ?_
                    refine lv_aload_n (pc := 135) E.1 E.2.1 dX7_of_135 rfl (lv_at hl 0 rfl) ?_
                    refine xg_X7_36 (pc := 136) (v := .ref (ad 13)) E hw 0 rfl rfl dX7_of_136 ?_
                    refine lv_iload_n (pc := 139) E.1 E.2.1 dX7_of_139 rfl (lv_at hl 1 rfl) ?_
                    obtain ⟨v28, g29, hf⟩ := x_bind hf
                    refine x_callV (pc := 140) (As := [.int x1]) (rest := []) (st1 := [.int v28]) (ws' := (cells7c G ad (g7_tape s) (g7_book s) (g7_trial s) (g7_past s) v4 (g7_pen s) (g7_told s) (g7_ratesNow s))) E hw hl (c_X1_shareOf l G (fun k => ad (k + 13)) v4 x1 g29) xv_X7_204 xd_X1_shareOf rfl rfl ⟨Nat.le_of_ble_eq_true rfl, Nat.le_of_ble_eq_true rfl⟩ [13, 14, 15, 16, 17, 18, 19, 20, 21, 22, 23, 24, 25, 26, 27] [0, 1, 2, 3, 4, 5, 6, 7, 8, 9, 10, 11, 12, 28, 29, 30] (by decide) ⟨rfl, rfl, rfl, rfl, rfl, rfl, rfl, rfl, rfl, rfl, rfl, rfl, rfl, rfl, rfl, trivial⟩ (q0 := 13) rfl rfl rfl rfl (Nat.le_of_ble_eq_true rfl) (nw := 31) ⟨rfl, rfl, rfl, rfl, rfl, rfl, rfl, rfl, rfl, rfl, rfl, rfl, rfl, rfl, rfl, trivial⟩ ⟨⟨_, rfl, rfl⟩, ⟨_, rfl, rfl⟩, ⟨_, rfl, rfl⟩, ⟨_, rfl, rfl⟩, ⟨_, rfl, rfl⟩, ⟨_, rfl, rfl⟩, ⟨_, rfl, rfl⟩, ⟨_, rfl, rfl⟩, ⟨_, rfl, rfl⟩, ⟨_, rfl, rfl⟩, ⟨_, rfl, rfl⟩, ⟨_, rfl, rfl⟩, ⟨_, rfl, rfl⟩, ⟨_, rfl, rfl⟩, ⟨_, rfl, rfl⟩, ⟨_, rfl, rfl⟩, trivial⟩ rfl rfl (by decide) (by decide) rfl dX7_of_140 (fun H locs hw => ?_)
                    obtain rfl := Option.some.inj hf
                    exact x_reti (pc := 143) E hr hk hw dX7_of_143
                  · have hf := x_neg q27 hf
                    refine x_swo (pc := 25) (n := 8) (tgt := 144) E (lt_s (lt_s (lt_s (lt_s (lt_s (lt_s (lt_s (lt_s lt_0 q6) q9) q12) q15) q18) q21) q24) q27) (by decide) dX7_of_25 (by decide) ?_
                    refine lv_iconst (v := (-1)) (pc := 144) E.1 E.2.1 dX7_of_144 (by decide) ?_
                    obtain rfl := Option.some.inj hf
                    exact x_reti (pc := 145) E hr hk hw dX7_of_145
  · have hf := x_pos q3 hf
    refine lv_iconst (v := (-1)) (pc := 11) E.1 E.2.1 dX7_of_11 (by decide) ?_
    obtain rfl := Option.some.inj hf
    exact x_reti (pc := 12) E hr hk hw dX7_of_12
set_option maxHeartbeats 4000000 in
set_option maxRecDepth 100000 in
theorem c_X7_of (l : Launch) (G : xG) (ad : Nat → Nat) (s : S7) (x1 : Int32) (x2 : Int32) {z : Int32 × S7} (hf : f_X7_of s x1 x2 = some z) : xC l yX7_of cX7_of 3 (some .int) (rm_X7_of) G [.ref (ad 0), .int x1, .int x2] (cells7 G ad s) (some (.int z.1)) (cells7 G ad z.2) :=
  x_met (by decide) rfl (Nat.le_of_ble_eq_true rfl) (fun p e sS m below meth c E hr hk ls hl hw => w_X7_of_p0 E hr hk s x1 x2 z hw hl hf)
set_option maxHeartbeats 4000000 in
set_option maxRecDepth 100000 in
theorem w_X7_loss_p0 {p : Program} {l : Launch} {e : Env} {sS : State} {m : MethodId} {args : Array Value} {below : List Frame} {meth : Method} {c : Code} {G : xG} {W0 : va_W} {ad : Nat → Nat}   (E : xE p sS m args c cX7_loss 3 RX7 G (x_in W0)) (hr : meth.sig.returnType = (some .int)) (hk : meth.locks = false)  : ∀ (s' : S7) (x1' : Int32) (x2' : Int32) (z : Int32 × S7) {H : Heap} {locs : List Loc} {ls : Array Slot}, xW G (x_in W0) sS.heap (cells7 G ad s') H locs → lv_has ls 3 [(0, .ref (ad 0)), (1, .int x1'), (2, .int x2')] → f_X7_loss  s' x1' x2' = some z → W p l e (rm_X7_loss) sS m args below meth c H locs 0 0 (MQ below (xQ G W0 (cells7 G ad z.2) (some (.int z.1))) args sS 0 0 (x_in W0)) (F0 m 0 ls []) := by
  intro s x1 x2 z H locs ls hw hl hf
  unfold f_X7_loss at hf
  refine lv_aload_n (pc := 0) E.1 E.2.1 dX7_loss_0 rfl (lv_at hl 0 rfl) ?_
  refine xg_X7_19 (pc := 1) (v := .ref (ad 3)) E hw 0 rfl rfl dX7_loss_1 ?_
  refine lv_iload_n (pc := 4) E.1 E.2.1 dX7_loss_4 rfl (lv_at hl 1 rfl) ?_
  obtain ⟨v1, g2, hf⟩ := x_bind hf
  refine x_callV (pc := 5) (As := [.int x1]) (rest := []) (st1 := [.int v1]) (ws' := (cells7 G ad s)) E hw hl (c_X0_hasFleet l G (fun k => ad (k + 3)) (g7_book s) x1 g2) xv_X7_95 xd_X0_hasFleet rfl rfl ⟨Nat.le_of_ble_eq_true rfl, Nat.le_of_ble_eq_true rfl⟩ [3, 4, 5, 6] [0, 1, 2, 7, 8, 9, 10, 11, 12, 13, 14, 15, 16, 17, 18, 19, 20, 21, 22, 23, 24, 25, 26, 27, 28, 29, 30] (by decide) ⟨rfl, rfl, rfl, rfl, trivial⟩ (q0 := 3) rfl rfl rfl rfl (Nat.le_of_ble_eq_true rfl) (nw := 31) ⟨rfl, rfl, rfl, rfl, trivial⟩ ⟨⟨_, rfl, rfl⟩, ⟨_, rfl, rfl⟩, ⟨_, rfl, rfl⟩, ⟨_, rfl, rfl⟩, ⟨_, rfl, rfl⟩, ⟨_, rfl, rfl⟩, ⟨_, rfl, rfl⟩, ⟨_, rfl, rfl⟩, ⟨_, rfl, rfl⟩, ⟨_, rfl, rfl⟩, ⟨_, rfl, rfl⟩, ⟨_, rfl, rfl⟩, ⟨_, rfl, rfl⟩, ⟨_, rfl, rfl⟩, ⟨_, rfl, rfl⟩, ⟨_, rfl, rfl⟩, ⟨_, rfl, rfl⟩, ⟨_, rfl, rfl⟩, ⟨_, rfl, rfl⟩, ⟨_, rfl, rfl⟩, ⟨_, rfl, rfl⟩, ⟨_, rfl, rfl⟩, ⟨_, rfl, rfl⟩, ⟨_, rfl, rfl⟩, ⟨_, rfl, rfl⟩, ⟨_, rfl, rfl⟩, ⟨_, rfl, rfl⟩, trivial⟩ rfl rfl (by decide) (by decide) rfl dX7_loss_5 (fun H locs hw => ?_)
  refine lv_if_eq (tgt := 18) (pc := 8) E.1 E.2.1 dX7_loss_8 (by decide) (fun q3 => ?_) (fun q3 => ?_)
  · have hf := x_pos q3 hf
    refine lv_iconst (v := (-1)) (pc := 18) E.1 E.2.1 dX7_loss_18 (by decide) ?_
    obtain rfl := Option.some.inj hf
    exact x_reti (pc := 19) E hr hk hw dX7_loss_19
  · have hf := x_neg q3 hf
    refine lv_iload_n (pc := 11) E.1 E.2.1 dX7_loss_11 rfl (lv_at hl 2 rfl) ?_
    obtain ⟨v4, g5, hf⟩ := x_bind hf
    refine x_callS0 (pc := 12) (As := [.int x2]) (rest := []) (st1 := [.int v4]) E hw hl (c_X7_isYear l G  x2 g5) xs_X7_109 xd_X7_isYear rfl rfl ⟨Nat.le_of_ble_eq_true rfl, Nat.le_of_ble_eq_true rfl⟩ rfl rfl (Nat.le_of_ble_eq_true rfl) rfl dX7_loss_12 (fun H locs hw => ?_)
    refine lv_if_ne (tgt := 20) (pc := 15) E.1 E.2.1 dX7_loss_15 (by decide) (fun q6 => ?_) (fun q6 => ?_)
    · have hf := x_neg q6 hf
      refine lv_aload_n (pc := 20) E.1 E.2.1 dX7_loss_20 rfl (lv_at hl 0 rfl) ?_
      refine xg_X7_19 (pc := 21) (v := .ref (ad 3)) E hw 0 rfl rfl dX7_loss_21 ?_
      refine lv_iload_n (pc := 24) E.1 E.2.1 dX7_loss_24 rfl (lv_at hl 1 rfl) ?_
      refine lv_iload_n (pc := 25) E.1 E.2.1 dX7_loss_25 rfl (lv_at hl 2 rfl) ?_
      obtain ⟨v7, g8, hf⟩ := x_bind hf
      refine x_callV (pc := 26) (As := [.int x1, .int x2]) (rest := []) (st1 := [.int v7]) (ws' := (cells7 G ad s)) E hw hl (c_X0_isInsured l G (fun k => ad (k + 3)) (g7_book s) x1 x2 g8) xv_X7_112 xd_X0_isInsured rfl rfl ⟨Nat.le_of_ble_eq_true rfl, Nat.le_of_ble_eq_true rfl⟩ [3, 4, 5, 6] [0, 1, 2, 7, 8, 9, 10, 11, 12, 13, 14, 15, 16, 17, 18, 19, 20, 21, 22, 23, 24, 25, 26, 27, 28, 29, 30] (by decide) ⟨rfl, rfl, rfl, rfl, trivial⟩ (q0 := 3) rfl rfl rfl rfl (Nat.le_of_ble_eq_true rfl) (nw := 31) ⟨rfl, rfl, rfl, rfl, trivial⟩ ⟨⟨_, rfl, rfl⟩, ⟨_, rfl, rfl⟩, ⟨_, rfl, rfl⟩, ⟨_, rfl, rfl⟩, ⟨_, rfl, rfl⟩, ⟨_, rfl, rfl⟩, ⟨_, rfl, rfl⟩, ⟨_, rfl, rfl⟩, ⟨_, rfl, rfl⟩, ⟨_, rfl, rfl⟩, ⟨_, rfl, rfl⟩, ⟨_, rfl, rfl⟩, ⟨_, rfl, rfl⟩, ⟨_, rfl, rfl⟩, ⟨_, rfl, rfl⟩, ⟨_, rfl, rfl⟩, ⟨_, rfl, rfl⟩, ⟨_, rfl, rfl⟩, ⟨_, rfl, rfl⟩, ⟨_, rfl, rfl⟩, ⟨_, rfl, rfl⟩, ⟨_, rfl, rfl⟩, ⟨_, rfl, rfl⟩, ⟨_, rfl, rfl⟩, ⟨_, rfl, rfl⟩, ⟨_, rfl, rfl⟩, ⟨_, rfl, rfl⟩, trivial⟩ rfl rfl (by decide) (by decide) rfl dX7_loss_26 (fun H locs hw => ?_)
      refine lv_if_ne (tgt := 35) (pc := 29) E.1 E.2.1 dX7_loss_29 (by decide) (fun q9 => ?_) (fun q9 => ?_)
      · have hf := x_neg q9 hf
        refine lv_aload_n (pc := 35) E.1 E.2.1 dX7_loss_35 rfl (lv_at hl 0 rfl) ?_
        refine xg_X7_36 (pc := 36) (v := .ref (ad 13)) E hw 0 rfl rfl dX7_loss_36 ?_
        refine lv_aload_n (pc := 39) E.1 E.2.1 dX7_loss_39 rfl (lv_at hl 0 rfl) ?_
        refine xg_X7_19 (pc := 40) (v := .ref (ad 3)) E hw 0 rfl rfl dX7_loss_40 ?_
        obtain ⟨v10, g11, hf⟩ := x_bind hf
        refine x_callV (pc := 43) (As := [.ref (ad 3)]) (rest := []) (st1 := []) (ws' := (cells7c G ad (g7_tape s) (g7_book s) (g7_trial s) (g7_past s) v10 (g7_pen s) (g7_told s) (g7_ratesNow s))) E hw hl (c_X1_reckon l G (fun k => ad (k + 13)) (fun k => ad (k + 3)) (g7_ledger s) (g7_book s) g11) xv_X7_186 xd_X1_reckon rfl rfl ⟨Nat.le_of_ble_eq_true rfl, Nat.le_of_ble_eq_true rfl⟩ [13, 14, 15, 16, 17, 18, 19, 20, 21, 22, 23, 24, 25, 26, 27, 3, 4, 5, 6] [0, 1, 2, 7, 8, 9, 10, 11, 12, 28, 29, 30] (by decide) ⟨rfl, rfl, rfl, rfl, rfl, rfl, rfl, rfl, rfl, rfl, rfl, rfl, rfl, rfl, rfl, rfl, rfl, rfl, rfl, trivial⟩ (q0 := 13) rfl rfl rfl rfl (Nat.le_of_ble_eq_true rfl) (nw := 31) ⟨rfl, rfl, rfl, rfl, rfl, rfl, rfl, rfl, rfl, rfl, rfl, rfl, rfl, rfl, rfl, rfl, rfl, rfl, rfl, trivial⟩ ⟨⟨_, rfl, rfl⟩, ⟨_, rfl, rfl⟩, ⟨_, rfl, rfl⟩, ⟨_, rfl, rfl⟩, ⟨_, rfl, rfl⟩, ⟨_, rfl, rfl⟩, ⟨_, rfl, rfl⟩, ⟨_, rfl, rfl⟩, ⟨_, rfl, rfl⟩, ⟨_, rfl, rfl⟩, ⟨_, rfl, rfl⟩, ⟨_, rfl, rfl⟩, trivial⟩ rfl rfl (by decide) (by decide) rfl dX7_loss_43 (fun H locs hw => ?_)
        refine lv_aload_n (pc := 46) E.1 E.2.1 dX7_loss_46 rfl (lv_at hl 0 rfl) ?_
        refine xg_X7_36 (pc := 47) (v := .ref (ad 13)) E hw 0 rfl rfl dX7_loss_47 ?_
        refine lv_iload_n (pc := 50) E.1 E.2.1 dX7_loss_50 rfl (lv_at hl 1 rfl) ?_
        refine lv_iload_n (pc := 51) E.1 E.2.1 dX7_loss_51 rfl (lv_at hl 2 rfl) ?_
        obtain ⟨v12, g13, hf⟩ := x_bind hf
        refine x_callV (pc := 52) (As := [.int x1, .int x2]) (rest := []) (st1 := [.int v12]) (ws' := (cells7c G ad (g7_tape s) (g7_book s) (g7_trial s) (g7_past s) v10 (g7_pen s) (g7_told s) (g7_ratesNow s))) E hw hl (c_X1_lossOf l G (fun k => ad (k + 13)) v10 x1 x2 g13) xv_X7_207 xd_X1_lossOf rfl rfl ⟨Nat.le_of_ble_eq_true rfl, Nat.le_of_ble_eq_true rfl⟩ [13, 14, 15, 16, 17, 18, 19, 20, 21, 22, 23, 24, 25, 26, 27] [0, 1, 2, 3, 4, 5, 6, 7, 8, 9, 10, 11, 12, 28, 29, 30] (by decide) ⟨rfl, rfl, rfl, rfl, rfl, rfl, rfl, rfl, rfl, rfl, rfl, rfl, rfl, rfl, rfl, trivial⟩ (q0 := 13) rfl rfl rfl rfl (Nat.le_of_ble_eq_true rfl) (nw := 31) ⟨rfl, rfl, rfl, rfl, rfl, rfl, rfl, rfl, rfl, rfl, rfl, rfl, rfl, rfl, rfl, trivial⟩ ⟨⟨_, rfl, rfl⟩, ⟨_, rfl, rfl⟩, ⟨_, rfl, rfl⟩, ⟨_, rfl, rfl⟩, ⟨_, rfl, rfl⟩, ⟨_, rfl, rfl⟩, ⟨_, rfl, rfl⟩, ⟨_, rfl, rfl⟩, ⟨_, rfl, rfl⟩, ⟨_, rfl, rfl⟩, ⟨_, rfl, rfl⟩, ⟨_, rfl, rfl⟩, ⟨_, rfl, rfl⟩, ⟨_, rfl, rfl⟩, ⟨_, rfl, rfl⟩, ⟨_, rfl, rfl⟩, trivial⟩ rfl rfl (by decide) (by decide) rfl dX7_loss_52 (fun H locs hw => ?_)
        obtain rfl := Option.some.inj hf
        exact x_reti (pc := 55) E hr hk hw dX7_loss_55
      · have hf := x_pos q9 hf
        refine lv_bipush (v := (-2)) (pc := 32) E.1 E.2.1 dX7_loss_32 (by decide) ?_
        obtain rfl := Option.some.inj hf
        exact x_reti (pc := 34) E hr hk hw dX7_loss_34
    · have hf := x_pos q6 hf
      refine lv_iconst (v := (-1)) (pc := 18) E.1 E.2.1 dX7_loss_18 (by decide) ?_
      obtain rfl := Option.some.inj hf
      exact x_reti (pc := 19) E hr hk hw dX7_loss_19
set_option maxHeartbeats 4000000 in
set_option maxRecDepth 100000 in
theorem c_X7_loss (l : Launch) (G : xG) (ad : Nat → Nat) (s : S7) (x1 : Int32) (x2 : Int32) {z : Int32 × S7} (hf : f_X7_loss s x1 x2 = some z) : xC l yX7_loss cX7_loss 3 (some .int) (rm_X7_loss) G [.ref (ad 0), .int x1, .int x2] (cells7 G ad s) (some (.int z.1)) (cells7 G ad z.2) :=
  x_met (by decide) rfl (Nat.le_of_ble_eq_true rfl) (fun p e sS m below meth c E hr hk ls hl hw => w_X7_loss_p0 E hr hk s x1 x2 z hw hl hf)
set_option maxHeartbeats 4000000 in
set_option maxRecDepth 100000 in
theorem w_X7_claimOf_p0 {p : Program} {l : Launch} {e : Env} {sS : State} {m : MethodId} {args : Array Value} {below : List Frame} {meth : Method} {c : Code} {G : xG} {W0 : va_W} {ad : Nat → Nat}   (E : xE p sS m args c cX7_claimOf 3 RX7 G (x_in W0)) (hr : meth.sig.returnType = (some .int)) (hk : meth.locks = false)  : ∀ (s' : S7) (x1' : Int32) (x2' : Int32) (z : Int32) {H : Heap} {locs : List Loc} {ls : Array Slot}, xW G (x_in W0) sS.heap (cells7 G ad s') H locs → lv_has ls 3 [(0, .ref (ad 0)), (1, .int x1'), (2, .int x2')] → f_X7_claimOf  s' x1' x2' = some z → W p l e (rm_X7_claimOf) sS m args below meth c H locs 0 0 (MQ below (xQ G W0 (cells7 G ad s') (some (.int z))) args sS 0 0 (x_in W0)) (F0 m 0 ls []) := by
  intro s x1 x2 z H locs ls hw hl hf
  unfold f_X7_claimOf at hf
  refine lv_aload_n (pc := 0) E.1 E.2.1 dX7_claimOf_0 rfl (lv_at hl 0 rfl) ?_
  refine xg_X7_19 (pc := 1) (v := .ref (ad 3)) E hw 0 rfl rfl dX7_claimOf_1 ?_
  refine lv_iload_n (pc := 4) E.1 E.2.1 dX7_claimOf_4 rfl (lv_at hl 1 rfl) ?_
  obtain ⟨v1, g2, hf⟩ := x_bind hf
  refine x_callV (pc := 5) (As := [.int x1]) (rest := []) (st1 := [.int v1]) (ws' := (cells7 G ad s)) E hw hl (c_X0_hasClaim l G (fun k => ad (k + 3)) (g7_book s) x1 g2) xv_X7_146 xd_X0_hasClaim rfl rfl ⟨Nat.le_of_ble_eq_true rfl, Nat.le_of_ble_eq_true rfl⟩ [3, 4, 5, 6] [0, 1, 2, 7, 8, 9, 10, 11, 12, 13, 14, 15, 16, 17, 18, 19, 20, 21, 22, 23, 24, 25, 26, 27, 28, 29, 30] (by decide) ⟨rfl, rfl, rfl, rfl, trivial⟩ (q0 := 3) rfl rfl rfl rfl (Nat.le_of_ble_eq_true rfl) (nw := 31) ⟨rfl, rfl, rfl, rfl, trivial⟩ ⟨⟨_, rfl, rfl⟩, ⟨_, rfl, rfl⟩, ⟨_, rfl, rfl⟩, ⟨_, rfl, rfl⟩, ⟨_, rfl, rfl⟩, ⟨_, rfl, rfl⟩, ⟨_, rfl, rfl⟩, ⟨_, rfl, rfl⟩, ⟨_, rfl, rfl⟩, ⟨_, rfl, rfl⟩, ⟨_, rfl, rfl⟩, ⟨_, rfl, rfl⟩, ⟨_, rfl, rfl⟩, ⟨_, rfl, rfl⟩, ⟨_, rfl, rfl⟩, ⟨_, rfl, rfl⟩, ⟨_, rfl, rfl⟩, ⟨_, rfl, rfl⟩, ⟨_, rfl, rfl⟩, ⟨_, rfl, rfl⟩, ⟨_, rfl, rfl⟩, ⟨_, rfl, rfl⟩, ⟨_, rfl, rfl⟩, ⟨_, rfl, rfl⟩, ⟨_, rfl, rfl⟩, ⟨_, rfl, rfl⟩, ⟨_, rfl, rfl⟩, trivial⟩ rfl rfl (by decide) (by decide) rfl dX7_claimOf_5 (fun H locs hw => ?_)
  refine lv_if_ne (tgt := 13) (pc := 8) E.1 E.2.1 dX7_claimOf_8 (by decide) (fun q3 => ?_) (fun q3 => ?_)
  · have hf := x_neg q3 hf
    refine lv_iload_n (pc := 13) E.1 E.2.1 dX7_claimOf_13 rfl (lv_at hl 2 rfl) ?_
    by_cases q4 : x2 = 0
    · have hf := x_pos q4 hf
      refine x_swi (pc := 14) (v := 0) (tgt := 44) E q4 dX7_claimOf_14 (by decide) (by decide) rfl (by decide) ?_
      refine lv_aload_n (pc := 44) E.1 E.2.1 dX7_claimOf_44 rfl (lv_at hl 0 rfl) ?_
      refine xg_X7_19 (pc := 45) (v := .ref (ad 3)) E hw 0 rfl rfl dX7_claimOf_45 ?_
      refine lv_iload_n (pc := 48) E.1 E.2.1 dX7_claimOf_48 rfl (lv_at hl 1 rfl) ?_
      obtain ⟨v5, g6, hf⟩ := x_bind hf
      refine x_callV (pc := 49) (As := [.int x1]) (rest := []) (st1 := [.int v5]) (ws' := (cells7 G ad s)) E hw hl (c_X0_fleetOf l G (fun k => ad (k + 3)) (g7_book s) x1 g6) xv_X7_210 xd_X0_fleetOf rfl rfl ⟨Nat.le_of_ble_eq_true rfl, Nat.le_of_ble_eq_true rfl⟩ [3, 4, 5, 6] [0, 1, 2, 7, 8, 9, 10, 11, 12, 13, 14, 15, 16, 17, 18, 19, 20, 21, 22, 23, 24, 25, 26, 27, 28, 29, 30] (by decide) ⟨rfl, rfl, rfl, rfl, trivial⟩ (q0 := 3) rfl rfl rfl rfl (Nat.le_of_ble_eq_true rfl) (nw := 31) ⟨rfl, rfl, rfl, rfl, trivial⟩ ⟨⟨_, rfl, rfl⟩, ⟨_, rfl, rfl⟩, ⟨_, rfl, rfl⟩, ⟨_, rfl, rfl⟩, ⟨_, rfl, rfl⟩, ⟨_, rfl, rfl⟩, ⟨_, rfl, rfl⟩, ⟨_, rfl, rfl⟩, ⟨_, rfl, rfl⟩, ⟨_, rfl, rfl⟩, ⟨_, rfl, rfl⟩, ⟨_, rfl, rfl⟩, ⟨_, rfl, rfl⟩, ⟨_, rfl, rfl⟩, ⟨_, rfl, rfl⟩, ⟨_, rfl, rfl⟩, ⟨_, rfl, rfl⟩, ⟨_, rfl, rfl⟩, ⟨_, rfl, rfl⟩, ⟨_, rfl, rfl⟩, ⟨_, rfl, rfl⟩, ⟨_, rfl, rfl⟩, ⟨_, rfl, rfl⟩, ⟨_, rfl, rfl⟩, ⟨_, rfl, rfl⟩, ⟨_, rfl, rfl⟩, ⟨_, rfl, rfl⟩, trivial⟩ rfl rfl (by decide) (by decide) rfl dX7_claimOf_49 (fun H locs hw => ?_)
      obtain rfl := Option.some.inj hf
      exact x_reti (pc := 52) E hr hk hw dX7_claimOf_52
    · have hf := x_neg q4 hf
      by_cases q7 : x2 = 1
      · have hf := x_pos q7 hf
        refine x_swi (pc := 14) (v := 1) (tgt := 53) E q7 dX7_claimOf_14 (by decide) (by decide) rfl (by decide) ?_
        refine lv_aload_n (pc := 53) E.1 E.2.1 dX7_claimOf_53 rfl (lv_at hl 0 rfl) ?_
        refine xg_X7_19 (pc := 54) (v := .ref (ad 3)) E hw 0 rfl rfl dX7_claimOf_54 ?_
        refine lv_iload_n (pc := 57) E.1 E.2.1 dX7_claimOf_57 rfl (lv_at hl 1 rfl) ?_
        obtain ⟨v8, g9, hf⟩ := x_bind hf
        refine x_callV (pc := 58) (As := [.int x1]) (rest := []) (st1 := [.int v8]) (ws' := (cells7 G ad s)) E hw hl (c_X0_yearOf l G (fun k => ad (k + 3)) (g7_book s) x1 g9) xv_X7_213 xd_X0_yearOf rfl rfl ⟨Nat.le_of_ble_eq_true rfl, Nat.le_of_ble_eq_true rfl⟩ [3, 4, 5, 6] [0, 1, 2, 7, 8, 9, 10, 11, 12, 13, 14, 15, 16, 17, 18, 19, 20, 21, 22, 23, 24, 25, 26, 27, 28, 29, 30] (by decide) ⟨rfl, rfl, rfl, rfl, trivial⟩ (q0 := 3) rfl rfl rfl rfl (Nat.le_of_ble_eq_true rfl) (nw := 31) ⟨rfl, rfl, rfl, rfl, trivial⟩ ⟨⟨_, rfl, rfl⟩, ⟨_, rfl, rfl⟩, ⟨_, rfl, rfl⟩, ⟨_, rfl, rfl⟩, ⟨_, rfl, rfl⟩, ⟨_, rfl, rfl⟩, ⟨_, rfl, rfl⟩, ⟨_, rfl, rfl⟩, ⟨_, rfl, rfl⟩, ⟨_, rfl, rfl⟩, ⟨_, rfl, rfl⟩, ⟨_, rfl, rfl⟩, ⟨_, rfl, rfl⟩, ⟨_, rfl, rfl⟩, ⟨_, rfl, rfl⟩, ⟨_, rfl, rfl⟩, ⟨_, rfl, rfl⟩, ⟨_, rfl, rfl⟩, ⟨_, rfl, rfl⟩, ⟨_, rfl, rfl⟩, ⟨_, rfl, rfl⟩, ⟨_, rfl, rfl⟩, ⟨_, rfl, rfl⟩, ⟨_, rfl, rfl⟩, ⟨_, rfl, rfl⟩, ⟨_, rfl, rfl⟩, ⟨_, rfl, rfl⟩, trivial⟩ rfl rfl (by decide) (by decide) rfl dX7_claimOf_58 (fun H locs hw => ?_)
        obtain rfl := Option.some.inj hf
        exact x_reti (pc := 61) E hr hk hw dX7_claimOf_61
      · have hf := x_neg q7 hf
        by_cases q10 : x2 = 2
        · have hf := x_pos q10 hf
          refine x_swi (pc := 14) (v := 2) (tgt := 62) E q10 dX7_claimOf_14 (by decide) (by decide) rfl (by decide) ?_
          refine lv_aload_n (pc := 62) E.1 E.2.1 dX7_claimOf_62 rfl (lv_at hl 0 rfl) ?_
          refine xg_X7_19 (pc := 63) (v := .ref (ad 3)) E hw 0 rfl rfl dX7_claimOf_63 ?_
          refine lv_iload_n (pc := 66) E.1 E.2.1 dX7_claimOf_66 rfl (lv_at hl 1 rfl) ?_
          obtain ⟨v11, g12, hf⟩ := x_bind hf
          refine x_callV (pc := 67) (As := [.int x1]) (rest := []) (st1 := [.int v11]) (ws' := (cells7 G ad s)) E hw hl (c_X0_amountOf l G (fun k => ad (k + 3)) (g7_book s) x1 g12) xv_X7_152 xd_X0_amountOf rfl rfl ⟨Nat.le_of_ble_eq_true rfl, Nat.le_of_ble_eq_true rfl⟩ [3, 4, 5, 6] [0, 1, 2, 7, 8, 9, 10, 11, 12, 13, 14, 15, 16, 17, 18, 19, 20, 21, 22, 23, 24, 25, 26, 27, 28, 29, 30] (by decide) ⟨rfl, rfl, rfl, rfl, trivial⟩ (q0 := 3) rfl rfl rfl rfl (Nat.le_of_ble_eq_true rfl) (nw := 31) ⟨rfl, rfl, rfl, rfl, trivial⟩ ⟨⟨_, rfl, rfl⟩, ⟨_, rfl, rfl⟩, ⟨_, rfl, rfl⟩, ⟨_, rfl, rfl⟩, ⟨_, rfl, rfl⟩, ⟨_, rfl, rfl⟩, ⟨_, rfl, rfl⟩, ⟨_, rfl, rfl⟩, ⟨_, rfl, rfl⟩, ⟨_, rfl, rfl⟩, ⟨_, rfl, rfl⟩, ⟨_, rfl, rfl⟩, ⟨_, rfl, rfl⟩, ⟨_, rfl, rfl⟩, ⟨_, rfl, rfl⟩, ⟨_, rfl, rfl⟩, ⟨_, rfl, rfl⟩, ⟨_, rfl, rfl⟩, ⟨_, rfl, rfl⟩, ⟨_, rfl, rfl⟩, ⟨_, rfl, rfl⟩, ⟨_, rfl, rfl⟩, ⟨_, rfl, rfl⟩, ⟨_, rfl, rfl⟩, ⟨_, rfl, rfl⟩, ⟨_, rfl, rfl⟩, ⟨_, rfl, rfl⟩, trivial⟩ rfl rfl (by decide) (by decide) rfl dX7_claimOf_67 (fun H locs hw => ?_)
          obtain rfl := Option.some.inj hf
          exact x_reti (pc := 70) E hr hk hw dX7_claimOf_70
        · have hf := x_neg q10 hf
          by_cases q13 : x2 = 3
          · have hf := x_pos q13 hf
            refine x_swi (pc := 14) (v := 3) (tgt := 71) E q13 dX7_claimOf_14 (by decide) (by decide) rfl (by decide) ?_
            refine lv_aload_n (pc := 71) E.1 E.2.1 dX7_claimOf_71 rfl (lv_at hl 0 rfl) ?_
            refine xg_X7_19 (pc := 72) (v := .ref (ad 3)) E hw 0 rfl rfl dX7_claimOf_72 ?_
            refine lv_iload_n (pc := 75) E.1 E.2.1 dX7_claimOf_75 rfl (lv_at hl 1 rfl) ?_
            obtain ⟨v14, g15, hf⟩ := x_bind hf
            refine x_callV (pc := 76) (As := [.int x1]) (rest := []) (st1 := [.int v14]) (ws' := (cells7 G ad s)) E hw hl (c_X0_countedOf l G (fun k => ad (k + 3)) (g7_book s) x1 g15) xv_X7_216 xd_X0_countedOf rfl rfl ⟨Nat.le_of_ble_eq_true rfl, Nat.le_of_ble_eq_true rfl⟩ [3, 4, 5, 6] [0, 1, 2, 7, 8, 9, 10, 11, 12, 13, 14, 15, 16, 17, 18, 19, 20, 21, 22, 23, 24, 25, 26, 27, 28, 29, 30] (by decide) ⟨rfl, rfl, rfl, rfl, trivial⟩ (q0 := 3) rfl rfl rfl rfl (Nat.le_of_ble_eq_true rfl) (nw := 31) ⟨rfl, rfl, rfl, rfl, trivial⟩ ⟨⟨_, rfl, rfl⟩, ⟨_, rfl, rfl⟩, ⟨_, rfl, rfl⟩, ⟨_, rfl, rfl⟩, ⟨_, rfl, rfl⟩, ⟨_, rfl, rfl⟩, ⟨_, rfl, rfl⟩, ⟨_, rfl, rfl⟩, ⟨_, rfl, rfl⟩, ⟨_, rfl, rfl⟩, ⟨_, rfl, rfl⟩, ⟨_, rfl, rfl⟩, ⟨_, rfl, rfl⟩, ⟨_, rfl, rfl⟩, ⟨_, rfl, rfl⟩, ⟨_, rfl, rfl⟩, ⟨_, rfl, rfl⟩, ⟨_, rfl, rfl⟩, ⟨_, rfl, rfl⟩, ⟨_, rfl, rfl⟩, ⟨_, rfl, rfl⟩, ⟨_, rfl, rfl⟩, ⟨_, rfl, rfl⟩, ⟨_, rfl, rfl⟩, ⟨_, rfl, rfl⟩, ⟨_, rfl, rfl⟩, ⟨_, rfl, rfl⟩, trivial⟩ rfl rfl (by decide) (by decide) rfl dX7_claimOf_76 (fun H locs hw => ?_)
            obtain rfl := Option.some.inj hf
            exact x_reti (pc := 79) E hr hk hw dX7_claimOf_79
          · have hf := x_neg q13 hf
            refine x_swo (pc := 14) (n := 4) (tgt := 80) E (lt_s (lt_s (lt_s (lt_s lt_0 q4) q7) q10) q13) (by decide) dX7_claimOf_14 (by decide) ?_
            refine lv_iconst (v := (-1)) (pc := 80) E.1 E.2.1 dX7_claimOf_80 (by decide) ?_
            obtain rfl := Option.some.inj hf
            exact x_reti (pc := 81) E hr hk hw dX7_claimOf_81
  · have hf := x_pos q3 hf
    refine lv_iconst (v := (-1)) (pc := 11) E.1 E.2.1 dX7_claimOf_11 (by decide) ?_
    obtain rfl := Option.some.inj hf
    exact x_reti (pc := 12) E hr hk hw dX7_claimOf_12
set_option maxHeartbeats 4000000 in
set_option maxRecDepth 100000 in
theorem c_X7_claimOf (l : Launch) (G : xG) (ad : Nat → Nat) (s : S7) (x1 : Int32) (x2 : Int32) {z : Int32} (hf : f_X7_claimOf s x1 x2 = some z) : xC l yX7_claimOf cX7_claimOf 3 (some .int) (rm_X7_claimOf) G [.ref (ad 0), .int x1, .int x2] (cells7 G ad s) (some (.int z)) (cells7 G ad s) :=
  x_met (by decide) rfl (Nat.le_of_ble_eq_true rfl) (fun p e sS m below meth c E hr hk ls hl hw => w_X7_claimOf_p0 E hr hk s x1 x2 z hw hl hf)
set_option maxHeartbeats 4000000 in
set_option maxRecDepth 100000 in
theorem w_X7_group_p0 {p : Program} {l : Launch} {e : Env} {sS : State} {m : MethodId} {args : Array Value} {below : List Frame} {meth : Method} {c : Code} {G : xG} {W0 : va_W} {ad : Nat → Nat}   (E : xE p sS m args c cX7_group 4 RX7 G (x_in W0)) (hr : meth.sig.returnType = (some .int)) (hk : meth.locks = false)  : ∀ (s' : S7) (x1' : Int32) (x2' : Int32) (z : Int32 × S7) {H : Heap} {locs : List Loc} {ls : Array Slot}, xW G (x_in W0) sS.heap (cells7 G ad s') H locs → lv_has ls 4 [(0, .ref (ad 0)), (1, .int x1'), (2, .int x2')] → f_X7_group  s' x1' x2' = some z → W p l e (rm_X7_group) sS m args below meth c H locs 0 0 (MQ below (xQ G W0 (cells7 G ad z.2) (some (.int z.1))) args sS 0 0 (x_in W0)) (F0 m 0 ls []) := by
  intro s x1 x2 z H locs ls hw hl hf
  unfold f_X7_group at hf
  refine lv_iload_n (pc := 0) E.1 E.2.1 dX7_group_0 rfl (lv_at hl 1 rfl) ?_
  obtain ⟨v1, g2, hf⟩ := x_bind hf
  refine x_callS0 (pc := 1) (As := [.int x1]) (rest := []) (st1 := [.int v1]) E hw hl (c_X7_isClass l G  x1 g2) xs_X7_84 xd_X7_isClass rfl rfl ⟨Nat.le_of_ble_eq_true rfl, Nat.le_of_ble_eq_true rfl⟩ rfl rfl (Nat.le_of_ble_eq_true rfl) rfl dX7_group_1 (fun H locs hw => ?_)
  refine lv_if_ne (tgt := 9) (pc := 4) E.1 E.2.1 dX7_group_4 (by decide) (fun q3 => ?_) (fun q3 => ?_)
  · have hf := x_neg q3 hf
    refine lv_aload_n (pc := 9) E.1 E.2.1 dX7_group_9 rfl (lv_at hl 0 rfl) ?_
    refine xg_X7_36 (pc := 10) (v := .ref (ad 13)) E hw 0 rfl rfl dX7_group_10 ?_
    refine lv_aload_n (pc := 13) E.1 E.2.1 dX7_group_13 rfl (lv_at hl 0 rfl) ?_
    refine xg_X7_19 (pc := 14) (v := .ref (ad 3)) E hw 0 rfl rfl dX7_group_14 ?_
    obtain ⟨v4, g5, hf⟩ := x_bind hf
    refine x_callV (pc := 17) (As := [.ref (ad 3)]) (rest := []) (st1 := []) (ws' := (cells7c G ad (g7_tape s) (g7_book s) (g7_trial s) (g7_past s) v4 (g7_pen s) (g7_told s) (g7_ratesNow s))) E hw hl (c_X1_reckon l G (fun k => ad (k + 13)) (fun k => ad (k + 3)) (g7_ledger s) (g7_book s) g5) xv_X7_186 xd_X1_reckon rfl rfl ⟨Nat.le_of_ble_eq_true rfl, Nat.le_of_ble_eq_true rfl⟩ [13, 14, 15, 16, 17, 18, 19, 20, 21, 22, 23, 24, 25, 26, 27, 3, 4, 5, 6] [0, 1, 2, 7, 8, 9, 10, 11, 12, 28, 29, 30] (by decide) ⟨rfl, rfl, rfl, rfl, rfl, rfl, rfl, rfl, rfl, rfl, rfl, rfl, rfl, rfl, rfl, rfl, rfl, rfl, rfl, trivial⟩ (q0 := 13) rfl rfl rfl rfl (Nat.le_of_ble_eq_true rfl) (nw := 31) ⟨rfl, rfl, rfl, rfl, rfl, rfl, rfl, rfl, rfl, rfl, rfl, rfl, rfl, rfl, rfl, rfl, rfl, rfl, rfl, trivial⟩ ⟨⟨_, rfl, rfl⟩, ⟨_, rfl, rfl⟩, ⟨_, rfl, rfl⟩, ⟨_, rfl, rfl⟩, ⟨_, rfl, rfl⟩, ⟨_, rfl, rfl⟩, ⟨_, rfl, rfl⟩, ⟨_, rfl, rfl⟩, ⟨_, rfl, rfl⟩, ⟨_, rfl, rfl⟩, ⟨_, rfl, rfl⟩, ⟨_, rfl, rfl⟩, trivial⟩ rfl rfl (by decide) (by decide) rfl dX7_group_17 (fun H locs hw => ?_)
    refine lv_aload_n (pc := 20) E.1 E.2.1 dX7_group_20 rfl (lv_at hl 0 rfl) ?_
    refine xg_X7_36 (pc := 21) (v := .ref (ad 13)) E hw 0 rfl rfl dX7_group_21 ?_
    refine lv_iload_n (pc := 24) E.1 E.2.1 dX7_group_24 rfl (lv_at hl 1 rfl) ?_
    obtain ⟨v6, g7, hf⟩ := x_bind hf
    refine x_callV (pc := 25) (As := [.int x1]) (rest := []) (st1 := [.ref (ad (v6 + 13))]) (ws' := (cells7c G ad (g7_tape s) (g7_book s) (g7_trial s) (g7_past s) v4 (g7_pen s) (g7_told s) (g7_ratesNow s))) E hw hl (c_X1_poolOf l G (fun k => ad (k + 13)) v4 x1 g7) xv_X7_219 xd_X1_poolOf rfl rfl ⟨Nat.le_of_ble_eq_true rfl, Nat.le_of_ble_eq_true rfl⟩ [13, 14, 15, 16, 17, 18, 19, 20, 21, 22, 23, 24, 25, 26, 27] [0, 1, 2, 3, 4, 5, 6, 7, 8, 9, 10, 11, 12, 28, 29, 30] (by decide) ⟨rfl, rfl, rfl, rfl, rfl, rfl, rfl, rfl, rfl, rfl, rfl, rfl, rfl, rfl, rfl, trivial⟩ (q0 := 13) rfl rfl rfl rfl (Nat.le_of_ble_eq_true rfl) (nw := 31) ⟨rfl, rfl, rfl, rfl, rfl, rfl, rfl, rfl, rfl, rfl, rfl, rfl, rfl, rfl, rfl, trivial⟩ ⟨⟨_, rfl, rfl⟩, ⟨_, rfl, rfl⟩, ⟨_, rfl, rfl⟩, ⟨_, rfl, rfl⟩, ⟨_, rfl, rfl⟩, ⟨_, rfl, rfl⟩, ⟨_, rfl, rfl⟩, ⟨_, rfl, rfl⟩, ⟨_, rfl, rfl⟩, ⟨_, rfl, rfl⟩, ⟨_, rfl, rfl⟩, ⟨_, rfl, rfl⟩, ⟨_, rfl, rfl⟩, ⟨_, rfl, rfl⟩, ⟨_, rfl, rfl⟩, ⟨_, rfl, rfl⟩, trivial⟩ rfl rfl (by decide) (by decide) rfl dX7_group_25 (fun H locs hw => ?_)
    by_cases q8 : v6 = 7
    · have hf := x_pos q8 hf
      rw [q8]
      refine lv_astore_n (lv' := [(3, .ref (ad 20)), (0, .ref (ad 0)), (1, .int x1), (2, .int x2)]) (pc := 28) E.1 E.2.1 dX7_group_28 rfl hl (by decide) rfl (fun ls hl => ?_)
      refine lv_iload_n (pc := 29) E.1 E.2.1 dX7_group_29 rfl (lv_at hl 3 rfl) ?_
      by_cases q9 : x2 = 0
      · have hf := x_pos q9 hf
        refine x_swi (pc := 30) (v := 0) (tgt := 68) E q9 dX7_group_30 (by decide) (by decide) rfl (by decide) ?_
        refine lv_aload_n (pc := 68) E.1 E.2.1 dX7_group_68 rfl (lv_at hl 0 rfl) ?_
        refine xg_X7_223 (pc := 69) (v := .int (g4_fleets (g1_poolA v4))) E hw 20 rfl rfl dX7_group_69 ?_
        obtain rfl := Option.some.inj hf
        exact x_reti (pc := 72) E hr hk hw dX7_group_72
      · have hf := x_neg q9 hf
        by_cases q10 : x2 = 1
        · have hf := x_pos q10 hf
          refine x_swi (pc := 30) (v := 1) (tgt := 73) E q10 dX7_group_30 (by decide) (by decide) rfl (by decide) ?_
          refine lv_aload_n (pc := 73) E.1 E.2.1 dX7_group_73 rfl (lv_at hl 0 rfl) ?_
          refine xg_X7_226 (pc := 74) (v := .int (g4_span (g1_poolA v4))) E hw 20 rfl rfl dX7_group_74 ?_
          obtain rfl := Option.some.inj hf
          exact x_reti (pc := 77) E hr hk hw dX7_group_77
        · have hf := x_neg q10 hf
          by_cases q11 : x2 = 2
          · have hf := x_pos q11 hf
            refine x_swi (pc := 30) (v := 2) (tgt := 78) E q11 dX7_group_30 (by decide) (by decide) rfl (by decide) ?_
            refine lv_aload_n (pc := 78) E.1 E.2.1 dX7_group_78 rfl (lv_at hl 0 rfl) ?_
            refine xg_X7_229 (pc := 79) (v := .int (g4_sum (g1_poolA v4))) E hw 20 rfl rfl dX7_group_79 ?_
            obtain rfl := Option.some.inj hf
            exact x_reti (pc := 82) E hr hk hw dX7_group_82
          · have hf := x_neg q11 hf
            by_cases q12 : x2 = 3
            · have hf := x_pos q12 hf
              refine x_swi (pc := 30) (v := 3) (tgt := 83) E q12 dX7_group_30 (by decide) (by decide) rfl (by decide) ?_
              refine lv_aload_n (pc := 83) E.1 E.2.1 dX7_group_83 rfl (lv_at hl 0 rfl) ?_
              refine xg_X7_226 (pc := 84) (v := .int (g4_span (g1_poolA v4))) E hw 20 rfl rfl dX7_group_84 ?_
              refine lv_if_ne (tgt := 95) (pc := 87) E.1 E.2.1 dX7_group_87 (by decide) (fun q13 => ?_) (fun q13 => ?_)
              · have hf := x_neg q13 hf
                refine lv_aload_n (pc := 95) E.1 E.2.1 dX7_group_95 rfl (lv_at hl 0 rfl) ?_
                refine lv_aload_n (pc := 96) E.1 E.2.1 dX7_group_96 rfl (lv_at hl 1 rfl) ?_
                refine xg_X7_19 (pc := 97) (v := .ref (ad 3)) E hw 0 rfl rfl dX7_group_97 ?_
                refine xg_X7_179 (pc := 100) (v := .int (g0_steady (g7_book s))) E hw 3 rfl rfl dX7_group_100 ?_
                obtain ⟨v14, g15, hf⟩ := x_bind hf
                refine x_callV (pc := 103) (As := [.int (g0_steady (g7_book s))]) (rest := []) (st1 := [.int v14]) (ws' := (cells7c G ad (g7_tape s) (g7_book s) (g7_trial s) (g7_past s) v4 (g7_pen s) (g7_told s) (g7_ratesNow s))) E hw hl (c_X4_steadiness l G (fun k => ad (k + 20)) (g1_poolA v4) (g0_steady (g7_book s)) g15) xv_X7_232 xd_X4_steadiness rfl rfl ⟨Nat.le_of_ble_eq_true rfl, Nat.le_of_ble_eq_true rfl⟩ [20, 21] [0, 1, 2, 3, 4, 5, 6, 7, 8, 9, 10, 11, 12, 13, 14, 15, 16, 17, 18, 19, 22, 23, 24, 25, 26, 27, 28, 29, 30] (by decide) ⟨rfl, rfl, trivial⟩ (q0 := 20) rfl rfl rfl rfl (Nat.le_of_ble_eq_true rfl) (nw := 31) ⟨rfl, rfl, trivial⟩ ⟨⟨_, rfl, rfl⟩, ⟨_, rfl, rfl⟩, ⟨_, rfl, rfl⟩, ⟨_, rfl, rfl⟩, ⟨_, rfl, rfl⟩, ⟨_, rfl, rfl⟩, ⟨_, rfl, rfl⟩, ⟨_, rfl, rfl⟩, ⟨_, rfl, rfl⟩, ⟨_, rfl, rfl⟩, ⟨_, rfl, rfl⟩, ⟨_, rfl, rfl⟩, ⟨_, rfl, rfl⟩, ⟨_, rfl, rfl⟩, ⟨_, rfl, rfl⟩, ⟨_, rfl, rfl⟩, ⟨_, rfl, rfl⟩, ⟨_, rfl, rfl⟩, ⟨_, rfl, rfl⟩, ⟨_, rfl, rfl⟩, ⟨_, rfl, rfl⟩, ⟨_, rfl, rfl⟩, ⟨_, rfl, rfl⟩, ⟨_, rfl, rfl⟩, ⟨_, rfl, rfl⟩, ⟨_, rfl, rfl⟩, ⟨_, rfl, rfl⟩, ⟨_, rfl, rfl⟩, ⟨_, rfl, rfl⟩, trivial⟩ rfl rfl (by decide) (by decide) rfl dX7_group_103 (fun H locs hw => ?_)
                obtain rfl := Option.some.inj hf
                exact x_reti (pc := 106) E hr hk hw dX7_group_106
              · have hf := x_pos q13 hf
                refine lv_bipush (v := (-2)) (pc := 90) E.1 E.2.1 dX7_group_90 (by decide) ?_
                refine lv_goto (tgt := 106) (pc := 92) E.1 E.2.1 dX7_group_92 (by decide) ?_
                obtain rfl := Option.some.inj hf
                exact x_reti (pc := 106) E hr hk hw dX7_group_106
            · have hf := x_neg q12 hf
              by_cases q16 : x2 = 4
              · have hf := x_pos q16 hf
                refine x_swi (pc := 30) (v := 4) (tgt := 107) E q16 dX7_group_30 (by decide) (by decide) rfl (by decide) ?_
                refine lv_aload_n (pc := 107) E.1 E.2.1 dX7_group_107 rfl (lv_at hl 1 rfl) ?_
                refine xg_X7_19 (pc := 108) (v := .ref (ad 3)) E hw 0 rfl rfl dX7_group_108 ?_
                refine lv_iload_n (pc := 111) E.1 E.2.1 dX7_group_111 rfl (lv_at hl 2 rfl) ?_
                obtain ⟨v17, g18, hf⟩ := x_bind hf
                refine x_callV (pc := 112) (As := [.int x1]) (rest := []) (st1 := [.int v17]) (ws' := (cells7c G ad (g7_tape s) (g7_book s) (g7_trial s) (g7_past s) v4 (g7_pen s) (g7_told s) (g7_ratesNow s))) E hw hl (c_X0_fleetsIn l G (fun k => ad (k + 3)) (g7_book s) x1 g18) xv_X7_158 xd_X0_fleetsIn rfl rfl ⟨Nat.le_of_ble_eq_true rfl, Nat.le_of_ble_eq_true rfl⟩ [3, 4, 5, 6] [0, 1, 2, 7, 8, 9, 10, 11, 12, 13, 14, 15, 16, 17, 18, 19, 20, 21, 22, 23, 24, 25, 26, 27, 28, 29, 30] (by decide) ⟨rfl, rfl, rfl, rfl, trivial⟩ (q0 := 3) rfl rfl rfl rfl (Nat.le_of_ble_eq_true rfl) (nw := 31) ⟨rfl, rfl, rfl, rfl, trivial⟩ ⟨⟨_, rfl, rfl⟩, ⟨_, rfl, rfl⟩, ⟨_, rfl, rfl⟩, ⟨_, rfl, rfl⟩, ⟨_, rfl, rfl⟩, ⟨_, rfl, rfl⟩, ⟨_, rfl, rfl⟩, ⟨_, rfl, rfl⟩, ⟨_, rfl, rfl⟩, ⟨_, rfl, rfl⟩, ⟨_, rfl, rfl⟩, ⟨_, rfl, rfl⟩, ⟨_, rfl, rfl⟩, ⟨_, rfl, rfl⟩, ⟨_, rfl, rfl⟩, ⟨_, rfl, rfl⟩, ⟨_, rfl, rfl⟩, ⟨_, rfl, rfl⟩, ⟨_, rfl, rfl⟩, ⟨_, rfl, rfl⟩, ⟨_, rfl, rfl⟩, ⟨_, rfl, rfl⟩, ⟨_, rfl, rfl⟩, ⟨_, rfl, rfl⟩, ⟨_, rfl, rfl⟩, ⟨_, rfl, rfl⟩, ⟨_, rfl, rfl⟩, trivial⟩ rfl rfl (by decide) (by decide) rfl dX7_group_112 (fun H locs hw => ?_)
                obtain rfl := Option.some.inj hf
                exact x_reti (pc := 115) E hr hk hw dX7_group_115
              · have hf := x_neg q16 hf
                by_cases q19 : x2 = 5
                · have hf := x_pos q19 hf
                  refine x_swi (pc := 30) (v := 5) (tgt := 116) E q19 dX7_group_30 (by decide) (by decide) rfl (by decide) ?_
                  refine lv_aload_n (pc := 116) E.1 E.2.1 dX7_group_116 rfl (lv_at hl 0 rfl) ?_
                  refine xg_X7_235 (pc := 117) (v := .int (g4_shares (g1_poolA v4))) E hw 20 rfl rfl dX7_group_117 ?_
                  obtain rfl := Option.some.inj hf
                  exact x_reti (pc := 120) E hr hk hw dX7_group_120
                · have hf := x_neg q19 hf
                  refine x_swo (pc := 30) (n := 6) (tgt := 121) E (lt_s (lt_s (lt_s (lt_s (lt_s (lt_s lt_0 q9) q10) q11) q12) q16) q19) (by decide) dX7_group_30 (by decide) ?_
                  refine lv_iconst (v := (-1)) (pc := 121) E.1 E.2.1 dX7_group_121 (by decide) ?_
                  obtain rfl := Option.some.inj hf
                  exact x_reti (pc := 122) E hr hk hw dX7_group_122
    · have hf := x_neg q8 hf
      by_cases q20 : v6 = 9
      · have hf := x_pos q20 hf
        rw [q20]
        refine lv_astore_n (lv' := [(3, .ref (ad 22)), (0, .ref (ad 0)), (1, .int x1), (2, .int x2)]) (pc := 28) E.1 E.2.1 dX7_group_28 rfl hl (by decide) rfl (fun ls hl => ?_)
        refine lv_iload_n (pc := 29) E.1 E.2.1 dX7_group_29 rfl (lv_at hl 3 rfl) ?_
        by_cases q21 : x2 = 0
        · have hf := x_pos q21 hf
          refine x_swi (pc := 30) (v := 0) (tgt := 68) E q21 dX7_group_30 (by decide) (by decide) rfl (by decide) ?_
          refine lv_aload_n (pc := 68) E.1 E.2.1 dX7_group_68 rfl (lv_at hl 0 rfl) ?_
          refine xg_X7_223 (pc := 69) (v := .int (g4_fleets (g1_poolB v4))) E hw 22 rfl rfl dX7_group_69 ?_
          obtain rfl := Option.some.inj hf
          exact x_reti (pc := 72) E hr hk hw dX7_group_72
        · have hf := x_neg q21 hf
          by_cases q22 : x2 = 1
          · have hf := x_pos q22 hf
            refine x_swi (pc := 30) (v := 1) (tgt := 73) E q22 dX7_group_30 (by decide) (by decide) rfl (by decide) ?_
            refine lv_aload_n (pc := 73) E.1 E.2.1 dX7_group_73 rfl (lv_at hl 0 rfl) ?_
            refine xg_X7_226 (pc := 74) (v := .int (g4_span (g1_poolB v4))) E hw 22 rfl rfl dX7_group_74 ?_
            obtain rfl := Option.some.inj hf
            exact x_reti (pc := 77) E hr hk hw dX7_group_77
          · have hf := x_neg q22 hf
            by_cases q23 : x2 = 2
            · have hf := x_pos q23 hf
              refine x_swi (pc := 30) (v := 2) (tgt := 78) E q23 dX7_group_30 (by decide) (by decide) rfl (by decide) ?_
              refine lv_aload_n (pc := 78) E.1 E.2.1 dX7_group_78 rfl (lv_at hl 0 rfl) ?_
              refine xg_X7_229 (pc := 79) (v := .int (g4_sum (g1_poolB v4))) E hw 22 rfl rfl dX7_group_79 ?_
              obtain rfl := Option.some.inj hf
              exact x_reti (pc := 82) E hr hk hw dX7_group_82
            · have hf := x_neg q23 hf
              by_cases q24 : x2 = 3
              · have hf := x_pos q24 hf
                refine x_swi (pc := 30) (v := 3) (tgt := 83) E q24 dX7_group_30 (by decide) (by decide) rfl (by decide) ?_
                refine lv_aload_n (pc := 83) E.1 E.2.1 dX7_group_83 rfl (lv_at hl 0 rfl) ?_
                refine xg_X7_226 (pc := 84) (v := .int (g4_span (g1_poolB v4))) E hw 22 rfl rfl dX7_group_84 ?_
                refine lv_if_ne (tgt := 95) (pc := 87) E.1 E.2.1 dX7_group_87 (by decide) (fun q25 => ?_) (fun q25 => ?_)
                · have hf := x_neg q25 hf
                  refine lv_aload_n (pc := 95) E.1 E.2.1 dX7_group_95 rfl (lv_at hl 0 rfl) ?_
                  refine lv_aload_n (pc := 96) E.1 E.2.1 dX7_group_96 rfl (lv_at hl 1 rfl) ?_
                  refine xg_X7_19 (pc := 97) (v := .ref (ad 3)) E hw 0 rfl rfl dX7_group_97 ?_
                  refine xg_X7_179 (pc := 100) (v := .int (g0_steady (g7_book s))) E hw 3 rfl rfl dX7_group_100 ?_
                  obtain ⟨v26, g27, hf⟩ := x_bind hf
                  refine x_callV (pc := 103) (As := [.int (g0_steady (g7_book s))]) (rest := []) (st1 := [.int v26]) (ws' := (cells7c G ad (g7_tape s) (g7_book s) (g7_trial s) (g7_past s) v4 (g7_pen s) (g7_told s) (g7_ratesNow s))) E hw hl (c_X4_steadiness l G (fun k => ad (k + 22)) (g1_poolB v4) (g0_steady (g7_book s)) g27) xv_X7_232 xd_X4_steadiness rfl rfl ⟨Nat.le_of_ble_eq_true rfl, Nat.le_of_ble_eq_true rfl⟩ [22, 23] [0, 1, 2, 3, 4, 5, 6, 7, 8, 9, 10, 11, 12, 13, 14, 15, 16, 17, 18, 19, 20, 21, 24, 25, 26, 27, 28, 29, 30] (by decide) ⟨rfl, rfl, trivial⟩ (q0 := 22) rfl rfl rfl rfl (Nat.le_of_ble_eq_true rfl) (nw := 31) ⟨rfl, rfl, trivial⟩ ⟨⟨_, rfl, rfl⟩, ⟨_, rfl, rfl⟩, ⟨_, rfl, rfl⟩, ⟨_, rfl, rfl⟩, ⟨_, rfl, rfl⟩, ⟨_, rfl, rfl⟩, ⟨_, rfl, rfl⟩, ⟨_, rfl, rfl⟩, ⟨_, rfl, rfl⟩, ⟨_, rfl, rfl⟩, ⟨_, rfl, rfl⟩, ⟨_, rfl, rfl⟩, ⟨_, rfl, rfl⟩, ⟨_, rfl, rfl⟩, ⟨_, rfl, rfl⟩, ⟨_, rfl, rfl⟩, ⟨_, rfl, rfl⟩, ⟨_, rfl, rfl⟩, ⟨_, rfl, rfl⟩, ⟨_, rfl, rfl⟩, ⟨_, rfl, rfl⟩, ⟨_, rfl, rfl⟩, ⟨_, rfl, rfl⟩, ⟨_, rfl, rfl⟩, ⟨_, rfl, rfl⟩, ⟨_, rfl, rfl⟩, ⟨_, rfl, rfl⟩, ⟨_, rfl, rfl⟩, ⟨_, rfl, rfl⟩, trivial⟩ rfl rfl (by decide) (by decide) rfl dX7_group_103 (fun H locs hw => ?_)
                  obtain rfl := Option.some.inj hf
                  exact x_reti (pc := 106) E hr hk hw dX7_group_106
                · have hf := x_pos q25 hf
                  refine lv_bipush (v := (-2)) (pc := 90) E.1 E.2.1 dX7_group_90 (by decide) ?_
                  refine lv_goto (tgt := 106) (pc := 92) E.1 E.2.1 dX7_group_92 (by decide) ?_
                  obtain rfl := Option.some.inj hf
                  exact x_reti (pc := 106) E hr hk hw dX7_group_106
              · have hf := x_neg q24 hf
                by_cases q28 : x2 = 4
                · have hf := x_pos q28 hf
                  refine x_swi (pc := 30) (v := 4) (tgt := 107) E q28 dX7_group_30 (by decide) (by decide) rfl (by decide) ?_
                  refine lv_aload_n (pc := 107) E.1 E.2.1 dX7_group_107 rfl (lv_at hl 1 rfl) ?_
                  refine xg_X7_19 (pc := 108) (v := .ref (ad 3)) E hw 0 rfl rfl dX7_group_108 ?_
                  refine lv_iload_n (pc := 111) E.1 E.2.1 dX7_group_111 rfl (lv_at hl 2 rfl) ?_
                  obtain ⟨v29, g30, hf⟩ := x_bind hf
                  refine x_callV (pc := 112) (As := [.int x1]) (rest := []) (st1 := [.int v29]) (ws' := (cells7c G ad (g7_tape s) (g7_book s) (g7_trial s) (g7_past s) v4 (g7_pen s) (g7_told s) (g7_ratesNow s))) E hw hl (c_X0_fleetsIn l G (fun k => ad (k + 3)) (g7_book s) x1 g30) xv_X7_158 xd_X0_fleetsIn rfl rfl ⟨Nat.le_of_ble_eq_true rfl, Nat.le_of_ble_eq_true rfl⟩ [3, 4, 5, 6] [0, 1, 2, 7, 8, 9, 10, 11, 12, 13, 14, 15, 16, 17, 18, 19, 20, 21, 22, 23, 24, 25, 26, 27, 28, 29, 30] (by decide) ⟨rfl, rfl, rfl, rfl, trivial⟩ (q0 := 3) rfl rfl rfl rfl (Nat.le_of_ble_eq_true rfl) (nw := 31) ⟨rfl, rfl, rfl, rfl, trivial⟩ ⟨⟨_, rfl, rfl⟩, ⟨_, rfl, rfl⟩, ⟨_, rfl, rfl⟩, ⟨_, rfl, rfl⟩, ⟨_, rfl, rfl⟩, ⟨_, rfl, rfl⟩, ⟨_, rfl, rfl⟩, ⟨_, rfl, rfl⟩, ⟨_, rfl, rfl⟩, ⟨_, rfl, rfl⟩, ⟨_, rfl, rfl⟩, ⟨_, rfl, rfl⟩, ⟨_, rfl, rfl⟩, ⟨_, rfl, rfl⟩, ⟨_, rfl, rfl⟩, ⟨_, rfl, rfl⟩, ⟨_, rfl, rfl⟩, ⟨_, rfl, rfl⟩, ⟨_, rfl, rfl⟩, ⟨_, rfl, rfl⟩, ⟨_, rfl, rfl⟩, ⟨_, rfl, rfl⟩, ⟨_, rfl, rfl⟩, ⟨_, rfl, rfl⟩, ⟨_, rfl, rfl⟩, ⟨_, rfl, rfl⟩, ⟨_, rfl, rfl⟩, trivial⟩ rfl rfl (by decide) (by decide) rfl dX7_group_112 (fun H locs hw => ?_)
                  obtain rfl := Option.some.inj hf
                  exact x_reti (pc := 115) E hr hk hw dX7_group_115
                · have hf := x_neg q28 hf
                  by_cases q31 : x2 = 5
                  · have hf := x_pos q31 hf
                    refine x_swi (pc := 30) (v := 5) (tgt := 116) E q31 dX7_group_30 (by decide) (by decide) rfl (by decide) ?_
                    refine lv_aload_n (pc := 116) E.1 E.2.1 dX7_group_116 rfl (lv_at hl 0 rfl) ?_
                    refine xg_X7_235 (pc := 117) (v := .int (g4_shares (g1_poolB v4))) E hw 22 rfl rfl dX7_group_117 ?_
                    obtain rfl := Option.some.inj hf
                    exact x_reti (pc := 120) E hr hk hw dX7_group_120
                  · have hf := x_neg q31 hf
                    refine x_swo (pc := 30) (n := 6) (tgt := 121) E (lt_s (lt_s (lt_s (lt_s (lt_s (lt_s lt_0 q21) q22) q23) q24) q28) q31) (by decide) dX7_group_30 (by decide) ?_
                    refine lv_iconst (v := (-1)) (pc := 121) E.1 E.2.1 dX7_group_121 (by decide) ?_
                    obtain rfl := Option.some.inj hf
                    exact x_reti (pc := 122) E hr hk hw dX7_group_122
      · have hf := x_neg q20 hf
        by_cases q32 : v6 = 11
        · have hf := x_pos q32 hf
          rw [q32]
          refine lv_astore_n (lv' := [(3, .ref (ad 24)), (0, .ref (ad 0)), (1, .int x1), (2, .int x2)]) (pc := 28) E.1 E.2.1 dX7_group_28 rfl hl (by decide) rfl (fun ls hl => ?_)
          refine lv_iload_n (pc := 29) E.1 E.2.1 dX7_group_29 rfl (lv_at hl 3 rfl) ?_
          by_cases q33 : x2 = 0
          · have hf := x_pos q33 hf
            refine x_swi (pc := 30) (v := 0) (tgt := 68) E q33 dX7_group_30 (by decide) (by decide) rfl (by decide) ?_
            refine lv_aload_n (pc := 68) E.1 E.2.1 dX7_group_68 rfl (lv_at hl 0 rfl) ?_
            refine xg_X7_223 (pc := 69) (v := .int (g4_fleets (g1_poolC v4))) E hw 24 rfl rfl dX7_group_69 ?_
            obtain rfl := Option.some.inj hf
            exact x_reti (pc := 72) E hr hk hw dX7_group_72
          · have hf := x_neg q33 hf
            by_cases q34 : x2 = 1
            · have hf := x_pos q34 hf
              refine x_swi (pc := 30) (v := 1) (tgt := 73) E q34 dX7_group_30 (by decide) (by decide) rfl (by decide) ?_
              refine lv_aload_n (pc := 73) E.1 E.2.1 dX7_group_73 rfl (lv_at hl 0 rfl) ?_
              refine xg_X7_226 (pc := 74) (v := .int (g4_span (g1_poolC v4))) E hw 24 rfl rfl dX7_group_74 ?_
              obtain rfl := Option.some.inj hf
              exact x_reti (pc := 77) E hr hk hw dX7_group_77
            · have hf := x_neg q34 hf
              by_cases q35 : x2 = 2
              · have hf := x_pos q35 hf
                refine x_swi (pc := 30) (v := 2) (tgt := 78) E q35 dX7_group_30 (by decide) (by decide) rfl (by decide) ?_
                refine lv_aload_n (pc := 78) E.1 E.2.1 dX7_group_78 rfl (lv_at hl 0 rfl) ?_
                refine xg_X7_229 (pc := 79) (v := .int (g4_sum (g1_poolC v4))) E hw 24 rfl rfl dX7_group_79 ?_
                obtain rfl := Option.some.inj hf
                exact x_reti (pc := 82) E hr hk hw dX7_group_82
              · have hf := x_neg q35 hf
                by_cases q36 : x2 = 3
                · have hf := x_pos q36 hf
                  refine x_swi (pc := 30) (v := 3) (tgt := 83) E q36 dX7_group_30 (by decide) (by decide) rfl (by decide) ?_
                  refine lv_aload_n (pc := 83) E.1 E.2.1 dX7_group_83 rfl (lv_at hl 0 rfl) ?_
                  refine xg_X7_226 (pc := 84) (v := .int (g4_span (g1_poolC v4))) E hw 24 rfl rfl dX7_group_84 ?_
                  refine lv_if_ne (tgt := 95) (pc := 87) E.1 E.2.1 dX7_group_87 (by decide) (fun q37 => ?_) (fun q37 => ?_)
                  · have hf := x_neg q37 hf
                    refine lv_aload_n (pc := 95) E.1 E.2.1 dX7_group_95 rfl (lv_at hl 0 rfl) ?_
                    refine lv_aload_n (pc := 96) E.1 E.2.1 dX7_group_96 rfl (lv_at hl 1 rfl) ?_
                    refine xg_X7_19 (pc := 97) (v := .ref (ad 3)) E hw 0 rfl rfl dX7_group_97 ?_
                    refine xg_X7_179 (pc := 100) (v := .int (g0_steady (g7_book s))) E hw 3 rfl rfl dX7_group_100 ?_
                    obtain ⟨v38, g39, hf⟩ := x_bind hf
                    refine x_callV (pc := 103) (As := [.int (g0_steady (g7_book s))]) (rest := []) (st1 := [.int v38]) (ws' := (cells7c G ad (g7_tape s) (g7_book s) (g7_trial s) (g7_past s) v4 (g7_pen s) (g7_told s) (g7_ratesNow s))) E hw hl (c_X4_steadiness l G (fun k => ad (k + 24)) (g1_poolC v4) (g0_steady (g7_book s)) g39) xv_X7_232 xd_X4_steadiness rfl rfl ⟨Nat.le_of_ble_eq_true rfl, Nat.le_of_ble_eq_true rfl⟩ [24, 25] [0, 1, 2, 3, 4, 5, 6, 7, 8, 9, 10, 11, 12, 13, 14, 15, 16, 17, 18, 19, 20, 21, 22, 23, 26, 27, 28, 29, 30] (by decide) ⟨rfl, rfl, trivial⟩ (q0 := 24) rfl rfl rfl rfl (Nat.le_of_ble_eq_true rfl) (nw := 31) ⟨rfl, rfl, trivial⟩ ⟨⟨_, rfl, rfl⟩, ⟨_, rfl, rfl⟩, ⟨_, rfl, rfl⟩, ⟨_, rfl, rfl⟩, ⟨_, rfl, rfl⟩, ⟨_, rfl, rfl⟩, ⟨_, rfl, rfl⟩, ⟨_, rfl, rfl⟩, ⟨_, rfl, rfl⟩, ⟨_, rfl, rfl⟩, ⟨_, rfl, rfl⟩, ⟨_, rfl, rfl⟩, ⟨_, rfl, rfl⟩, ⟨_, rfl, rfl⟩, ⟨_, rfl, rfl⟩, ⟨_, rfl, rfl⟩, ⟨_, rfl, rfl⟩, ⟨_, rfl, rfl⟩, ⟨_, rfl, rfl⟩, ⟨_, rfl, rfl⟩, ⟨_, rfl, rfl⟩, ⟨_, rfl, rfl⟩, ⟨_, rfl, rfl⟩, ⟨_, rfl, rfl⟩, ⟨_, rfl, rfl⟩, ⟨_, rfl, rfl⟩, ⟨_, rfl, rfl⟩, ⟨_, rfl, rfl⟩, ⟨_, rfl, rfl⟩, trivial⟩ rfl rfl (by decide) (by decide) rfl dX7_group_103 (fun H locs hw => ?_)
                    obtain rfl := Option.some.inj hf
                    exact x_reti (pc := 106) E hr hk hw dX7_group_106
                  · have hf := x_pos q37 hf
                    refine lv_bipush (v := (-2)) (pc := 90) E.1 E.2.1 dX7_group_90 (by decide) ?_
                    refine lv_goto (tgt := 106) (pc := 92) E.1 E.2.1 dX7_group_92 (by decide) ?_
                    obtain rfl := Option.some.inj hf
                    exact x_reti (pc := 106) E hr hk hw dX7_group_106
                · have hf := x_neg q36 hf
                  by_cases q40 : x2 = 4
                  · have hf := x_pos q40 hf
                    refine x_swi (pc := 30) (v := 4) (tgt := 107) E q40 dX7_group_30 (by decide) (by decide) rfl (by decide) ?_
                    refine lv_aload_n (pc := 107) E.1 E.2.1 dX7_group_107 rfl (lv_at hl 1 rfl) ?_
                    refine xg_X7_19 (pc := 108) (v := .ref (ad 3)) E hw 0 rfl rfl dX7_group_108 ?_
                    refine lv_iload_n (pc := 111) E.1 E.2.1 dX7_group_111 rfl (lv_at hl 2 rfl) ?_
                    obtain ⟨v41, g42, hf⟩ := x_bind hf
                    refine x_callV (pc := 112) (As := [.int x1]) (rest := []) (st1 := [.int v41]) (ws' := (cells7c G ad (g7_tape s) (g7_book s) (g7_trial s) (g7_past s) v4 (g7_pen s) (g7_told s) (g7_ratesNow s))) E hw hl (c_X0_fleetsIn l G (fun k => ad (k + 3)) (g7_book s) x1 g42) xv_X7_158 xd_X0_fleetsIn rfl rfl ⟨Nat.le_of_ble_eq_true rfl, Nat.le_of_ble_eq_true rfl⟩ [3, 4, 5, 6] [0, 1, 2, 7, 8, 9, 10, 11, 12, 13, 14, 15, 16, 17, 18, 19, 20, 21, 22, 23, 24, 25, 26, 27, 28, 29, 30] (by decide) ⟨rfl, rfl, rfl, rfl, trivial⟩ (q0 := 3) rfl rfl rfl rfl (Nat.le_of_ble_eq_true rfl) (nw := 31) ⟨rfl, rfl, rfl, rfl, trivial⟩ ⟨⟨_, rfl, rfl⟩, ⟨_, rfl, rfl⟩, ⟨_, rfl, rfl⟩, ⟨_, rfl, rfl⟩, ⟨_, rfl, rfl⟩, ⟨_, rfl, rfl⟩, ⟨_, rfl, rfl⟩, ⟨_, rfl, rfl⟩, ⟨_, rfl, rfl⟩, ⟨_, rfl, rfl⟩, ⟨_, rfl, rfl⟩, ⟨_, rfl, rfl⟩, ⟨_, rfl, rfl⟩, ⟨_, rfl, rfl⟩, ⟨_, rfl, rfl⟩, ⟨_, rfl, rfl⟩, ⟨_, rfl, rfl⟩, ⟨_, rfl, rfl⟩, ⟨_, rfl, rfl⟩, ⟨_, rfl, rfl⟩, ⟨_, rfl, rfl⟩, ⟨_, rfl, rfl⟩, ⟨_, rfl, rfl⟩, ⟨_, rfl, rfl⟩, ⟨_, rfl, rfl⟩, ⟨_, rfl, rfl⟩, ⟨_, rfl, rfl⟩, trivial⟩ rfl rfl (by decide) (by decide) rfl dX7_group_112 (fun H locs hw => ?_)
                    obtain rfl := Option.some.inj hf
                    exact x_reti (pc := 115) E hr hk hw dX7_group_115
                  · have hf := x_neg q40 hf
                    by_cases q43 : x2 = 5
                    · have hf := x_pos q43 hf
                      refine x_swi (pc := 30) (v := 5) (tgt := 116) E q43 dX7_group_30 (by decide) (by decide) rfl (by decide) ?_
                      refine lv_aload_n (pc := 116) E.1 E.2.1 dX7_group_116 rfl (lv_at hl 0 rfl) ?_
                      refine xg_X7_235 (pc := 117) (v := .int (g4_shares (g1_poolC v4))) E hw 24 rfl rfl dX7_group_117 ?_
                      obtain rfl := Option.some.inj hf
                      exact x_reti (pc := 120) E hr hk hw dX7_group_120
                    · have hf := x_neg q43 hf
                      refine x_swo (pc := 30) (n := 6) (tgt := 121) E (lt_s (lt_s (lt_s (lt_s (lt_s (lt_s lt_0 q33) q34) q35) q36) q40) q43) (by decide) dX7_group_30 (by decide) ?_
                      refine lv_iconst (v := (-1)) (pc := 121) E.1 E.2.1 dX7_group_121 (by decide) ?_
                      obtain rfl := Option.some.inj hf
                      exact x_reti (pc := 122) E hr hk hw dX7_group_122
        · have hf := x_neg q32 hf
          cases hf
  · have hf := x_pos q3 hf
    refine lv_iconst (v := (-1)) (pc := 7) E.1 E.2.1 dX7_group_7 (by decide) ?_
    obtain rfl := Option.some.inj hf
    exact x_reti (pc := 8) E hr hk hw dX7_group_8
set_option maxHeartbeats 4000000 in
set_option maxRecDepth 100000 in
theorem c_X7_group (l : Launch) (G : xG) (ad : Nat → Nat) (s : S7) (x1 : Int32) (x2 : Int32) {z : Int32 × S7} (hf : f_X7_group s x1 x2 = some z) : xC l yX7_group cX7_group 4 (some .int) (rm_X7_group) G [.ref (ad 0), .int x1, .int x2] (cells7 G ad s) (some (.int z.1)) (cells7 G ad z.2) :=
  x_met (by decide) rfl (Nat.le_of_ble_eq_true rfl) (fun p e sS m below meth c E hr hk ls hl hw => w_X7_group_p0 E hr hk s x1 x2 z hw hl hf)
set_option maxHeartbeats 4000000 in
set_option maxRecDepth 100000 in
theorem w_X7_spreadIn_i3_p0 {p : Program} {l : Launch} {e : Env} {sS : State} {m : MethodId} {args : Array Value} {below : List Frame} {meth : Method} {c : Code} {G : xG} {W0 : va_W} {ad : Nat → Nat}   (E : xE p sS m args c cX7_spreadIn 5 RX7 G (x_in W0)) (hr : meth.sig.returnType = (some .long)) (hk : meth.locks = false)  : ∀ (s' : S7) (x2' : Int32) (x3' : Int32) (x4' : Int32) (z : Int64 × S7) {H : Heap} {locs : List Loc} {ls : Array Slot}, xW G (x_in W0) sS.heap (cells7 G ad s') H locs → lv_has ls 5 [(0, .ref (ad 0)), (1, .ref (ad 3)), (2, .int x2'), (3, .int x3'), (4, .int x4')] → f_X7_spreadIn_i3  s' x2' x3' x4' = some z → W p l e (rm_X7_spreadIn_i3) sS m args below meth c H locs 0 0 (MQ below (xQ G W0 (cells7 G ad z.2) (some (.long z.1))) args sS 0 0 (x_in W0)) (F0 m 0 ls []) := by
  intro s x2 x3 x4 z H locs ls hw hl hf
  unfold f_X7_spreadIn_i3 at hf
  refine lv_aload_n (pc := 0) E.1 E.2.1 dX7_spreadIn_0 rfl (lv_at hl 0 rfl) ?_
  refine xg_X7_36 (pc := 1) (v := .ref (ad 13)) E hw 0 rfl rfl dX7_spreadIn_1 ?_
  refine lv_aload_n (pc := 4) E.1 E.2.1 dX7_spreadIn_4 rfl (lv_at hl 1 rfl) ?_
  obtain ⟨v1, g2, hf⟩ := x_bind hf
  refine x_callV (pc := 5) (As := [.ref (ad 3)]) (rest := []) (st1 := []) (ws' := (cells7c G ad (g7_tape s) (g7_book s) (g7_trial s) (g7_past s) v1 (g7_pen s) (g7_told s) (g7_ratesNow s))) E hw hl (c_X1_reckon l G (fun k => ad (k + 13)) (fun k => ad (k + 3)) (g7_ledger s) (g7_book s) g2) xv_X7_186 xd_X1_reckon rfl rfl ⟨Nat.le_of_ble_eq_true rfl, Nat.le_of_ble_eq_true rfl⟩ [13, 14, 15, 16, 17, 18, 19, 20, 21, 22, 23, 24, 25, 26, 27, 3, 4, 5, 6] [0, 1, 2, 7, 8, 9, 10, 11, 12, 28, 29, 30] (by decide) ⟨rfl, rfl, rfl, rfl, rfl, rfl, rfl, rfl, rfl, rfl, rfl, rfl, rfl, rfl, rfl, rfl, rfl, rfl, rfl, trivial⟩ (q0 := 13) rfl rfl rfl rfl (Nat.le_of_ble_eq_true rfl) (nw := 31) ⟨rfl, rfl, rfl, rfl, rfl, rfl, rfl, rfl, rfl, rfl, rfl, rfl, rfl, rfl, rfl, rfl, rfl, rfl, rfl, trivial⟩ ⟨⟨_, rfl, rfl⟩, ⟨_, rfl, rfl⟩, ⟨_, rfl, rfl⟩, ⟨_, rfl, rfl⟩, ⟨_, rfl, rfl⟩, ⟨_, rfl, rfl⟩, ⟨_, rfl, rfl⟩, ⟨_, rfl, rfl⟩, ⟨_, rfl, rfl⟩, ⟨_, rfl, rfl⟩, ⟨_, rfl, rfl⟩, ⟨_, rfl, rfl⟩, trivial⟩ rfl rfl (by decide) (by decide) rfl dX7_spreadIn_5 (fun H locs hw => ?_)
  refine lv_aload_n (pc := 8) E.1 E.2.1 dX7_spreadIn_8 rfl (lv_at hl 0 rfl) ?_
  refine xg_X7_36 (pc := 9) (v := .ref (ad 13)) E hw 0 rfl rfl dX7_spreadIn_9 ?_
  refine lv_iload_n (pc := 12) E.1 E.2.1 dX7_spreadIn_12 rfl (lv_at hl 2 rfl) ?_
  refine lv_iload_n (pc := 13) E.1 E.2.1 dX7_spreadIn_13 rfl (lv_at hl 3 rfl) ?_
  refine lv_aload_n (pc := 14) E.1 E.2.1 dX7_spreadIn_14 rfl (lv_at hl 0 rfl) ?_
  refine xg_X7_50 (pc := 15) (v := .ref (ad 29)) E hw 0 rfl rfl dX7_spreadIn_15 ?_
  obtain ⟨v3, g4, hf⟩ := x_bind hf
  refine x_callV (pc := 18) (As := [.int x2, .int x3, .ref (ad 29)]) (rest := []) (st1 := []) (ws' := (cells7c G ad (g7_tape s) (g7_book s) (g7_trial s) (g7_past s) v1 (g7_pen s) v3 (g7_ratesNow s))) E hw hl (c_X1_putSpread l G (fun k => ad (k + 13)) (fun k => ad (k + 29)) v1 (g7_told s) x2 x3 g4) xv_X7_338 xd_X1_putSpread rfl rfl ⟨Nat.le_of_ble_eq_true rfl, Nat.le_of_ble_eq_true rfl⟩ [13, 14, 15, 16, 17, 18, 19, 20, 21, 22, 23, 24, 25, 26, 27, 29] [0, 1, 2, 3, 4, 5, 6, 7, 8, 9, 10, 11, 12, 28, 30] (by decide) ⟨rfl, rfl, rfl, rfl, rfl, rfl, rfl, rfl, rfl, rfl, rfl, rfl, rfl, rfl, rfl, rfl, trivial⟩ (q0 := 13) rfl rfl rfl rfl (Nat.le_of_ble_eq_true rfl) (nw := 31) ⟨rfl, rfl, rfl, rfl, rfl, rfl, rfl, rfl, rfl, rfl, rfl, rfl, rfl, rfl, rfl, rfl, trivial⟩ ⟨⟨_, rfl, rfl⟩, ⟨_, rfl, rfl⟩, ⟨_, rfl, rfl⟩, ⟨_, rfl, rfl⟩, ⟨_, rfl, rfl⟩, ⟨_, rfl, rfl⟩, ⟨_, rfl, rfl⟩, ⟨_, rfl, rfl⟩, ⟨_, rfl, rfl⟩, ⟨_, rfl, rfl⟩, ⟨_, rfl, rfl⟩, ⟨_, rfl, rfl⟩, ⟨_, rfl, rfl⟩, ⟨_, rfl, rfl⟩, ⟨_, rfl, rfl⟩, trivial⟩ rfl rfl (by decide) (by decide) rfl dX7_spreadIn_18 (fun H locs hw => ?_)
  refine lv_aload_n (pc := 21) E.1 E.2.1 dX7_spreadIn_21 rfl (lv_at hl 0 rfl) ?_
  refine xg_X7_50 (pc := 22) (v := .ref (ad 29)) E hw 0 rfl rfl dX7_spreadIn_22 ?_
  refine lv_iload (pc := 25) E.1 E.2.1 dX7_spreadIn_25 (lv_at hl 4 rfl) ?_
  obtain ⟨v5, g6, hf⟩ := x_bind hf
  refine x_callV (pc := 27) (As := [.int x4]) (rest := []) (st1 := [.long v5]) (ws' := (cells7c G ad (g7_tape s) (g7_book s) (g7_trial s) (g7_past s) v1 (g7_pen s) v3 (g7_ratesNow s))) E hw hl (c_X5_part l G (fun k => ad (k + 29)) v3 x4 g6) xv_X7_248 xd_X5_part rfl rfl ⟨Nat.le_of_ble_eq_true rfl, Nat.le_of_ble_eq_true rfl⟩ [29] [0, 1, 2, 3, 4, 5, 6, 7, 8, 9, 10, 11, 12, 13, 14, 15, 16, 17, 18, 19, 20, 21, 22, 23, 24, 25, 26, 27, 28, 30] (by decide) ⟨rfl, trivial⟩ (q0 := 29) rfl rfl rfl rfl (Nat.le_of_ble_eq_true rfl) (nw := 31) ⟨rfl, trivial⟩ ⟨⟨_, rfl, rfl⟩, ⟨_, rfl, rfl⟩, ⟨_, rfl, rfl⟩, ⟨_, rfl, rfl⟩, ⟨_, rfl, rfl⟩, ⟨_, rfl, rfl⟩, ⟨_, rfl, rfl⟩, ⟨_, rfl, rfl⟩, ⟨_, rfl, rfl⟩, ⟨_, rfl, rfl⟩, ⟨_, rfl, rfl⟩, ⟨_, rfl, rfl⟩, ⟨_, rfl, rfl⟩, ⟨_, rfl, rfl⟩, ⟨_, rfl, rfl⟩, ⟨_, rfl, rfl⟩, ⟨_, rfl, rfl⟩, ⟨_, rfl, rfl⟩, ⟨_, rfl, rfl⟩, ⟨_, rfl, rfl⟩, ⟨_, rfl, rfl⟩, ⟨_, rfl, rfl⟩, ⟨_, rfl, rfl⟩, ⟨_, rfl, rfl⟩, ⟨_, rfl, rfl⟩, ⟨_, rfl, rfl⟩, ⟨_, rfl, rfl⟩, ⟨_, rfl, rfl⟩, ⟨_, rfl, rfl⟩, ⟨_, rfl, rfl⟩, trivial⟩ rfl rfl (by decide) (by decide) rfl dX7_spreadIn_27 (fun H locs hw => ?_)
  obtain rfl := Option.some.inj hf
  exact x_retl (pc := 30) E hr hk hw dX7_spreadIn_30
set_option maxHeartbeats 4000000 in
set_option maxRecDepth 100000 in
theorem c_X7_spreadIn_i3 (l : Launch) (G : xG) (ad : Nat → Nat) (s : S7) (x2 : Int32) (x3 : Int32) (x4 : Int32) {z : Int64 × S7} (hf : f_X7_spreadIn_i3 s x2 x3 x4 = some z) : xC l yX7_spreadIn cX7_spreadIn 5 (some .long) (rm_X7_spreadIn_i3) G [.ref (ad 0), .ref (ad 3), .int x2, .int x3, .int x4] (cells7 G ad s) (some (.long z.1)) (cells7 G ad z.2) :=
  x_met (by decide) rfl (Nat.le_of_ble_eq_true rfl) (fun p e sS m below meth c E hr hk ls hl hw => w_X7_spreadIn_i3_p0 E hr hk s x2 x3 x4 z hw hl hf)
set_option maxHeartbeats 4000000 in
set_option maxRecDepth 100000 in
theorem w_X7_spread_p0 {p : Program} {l : Launch} {e : Env} {sS : State} {m : MethodId} {args : Array Value} {below : List Frame} {meth : Method} {c : Code} {G : xG} {W0 : va_W} {ad : Nat → Nat}   (E : xE p sS m args c cX7_spread 4 RX7 G (x_in W0)) (hr : meth.sig.returnType = (some .long)) (hk : meth.locks = false)  : ∀ (s' : S7) (x1' : Int32) (x2' : Int32) (x3' : Int32) (z : Int64 × S7) {H : Heap} {locs : List Loc} {ls : Array Slot}, xW G (x_in W0) sS.heap (cells7 G ad s') H locs → lv_has ls 4 [(0, .ref (ad 0)), (1, .int x1'), (2, .int x2'), (3, .int x3')] → f_X7_spread  s' x1' x2' x3' = some z → W p l e (rm_X7_spread) sS m args below meth c H locs 0 0 (MQ below (xQ G W0 (cells7 G ad z.2) (some (.long z.1))) args sS 0 0 (x_in W0)) (F0 m 0 ls []) := by
  intro s x1 x2 x3 z H locs ls hw hl hf
  unfold f_X7_spread at hf
  refine lv_iload_n (pc := 0) E.1 E.2.1 dX7_spread_0 rfl (lv_at hl 1 rfl) ?_
  obtain ⟨v1, g2, hf⟩ := x_bind hf
  refine x_callS0 (pc := 1) (As := [.int x1]) (rest := []) (st1 := [.int v1]) E hw hl (c_X7_isClass l G  x1 g2) xs_X7_84 xd_X7_isClass rfl rfl ⟨Nat.le_of_ble_eq_true rfl, Nat.le_of_ble_eq_true rfl⟩ rfl rfl (Nat.le_of_ble_eq_true rfl) rfl dX7_spread_1 (fun H locs hw => ?_)
  refine lv_if_eq (tgt := 21) (pc := 4) E.1 E.2.1 dX7_spread_4 (by decide) (fun q3 => ?_) (fun q3 => ?_)
  · have hf := x_pos q3 hf
    refine lv_ldc2 (v := (-1000000000)) (pc := 21) E.1 E.2.1 E.2.2.2.1 (E.2.2.2.2.1 _ wq_952) dX7_spread_21 ?_
    obtain rfl := Option.some.inj hf
    exact x_retl (pc := 24) E hr hk hw dX7_spread_24
  · have hf := x_neg q3 hf
    refine lv_aload_n (pc := 7) E.1 E.2.1 dX7_spread_7 rfl (lv_at hl 0 rfl) ?_
    refine lv_aload_n (pc := 8) E.1 E.2.1 dX7_spread_8 rfl (lv_at hl 0 rfl) ?_
    refine xg_X7_19 (pc := 9) (v := .ref (ad 3)) E hw 0 rfl rfl dX7_spread_9 ?_
    refine lv_iload_n (pc := 12) E.1 E.2.1 dX7_spread_12 rfl (lv_at hl 1 rfl) ?_
    refine lv_iload_n (pc := 13) E.1 E.2.1 dX7_spread_13 rfl (lv_at hl 2 rfl) ?_
    refine lv_iload_n (pc := 14) E.1 E.2.1 dX7_spread_14 rfl (lv_at hl 3 rfl) ?_
    obtain ⟨v4, g5, hf⟩ := x_bind hf
    refine x_callVA (pc := 15) (As := [.ref (ad 3), .int x1, .int x2, .int x3]) (rest := []) (st1 := [.long v4.1]) (ws' := (cells7 G ad v4.2)) E hw hl (c_X7_spreadIn_i3 l G ad s x1 x2 x3 g5) xv_X7_238 xd_X7_spreadIn rfl rfl ⟨Nat.le_of_ble_eq_true rfl, Nat.le_of_ble_eq_true rfl⟩ (q0 := 0) rfl rfl rfl rfl (Nat.le_of_ble_eq_true rfl) rfl dX7_spread_15 (fun H locs hw => ?_)
    refine lv_goto (tgt := 24) (pc := 18) E.1 E.2.1 dX7_spread_18 (by decide) ?_
    obtain rfl := Option.some.inj hf
    exact x_retl (pc := 24) E hr hk hw dX7_spread_24
set_option maxHeartbeats 4000000 in
set_option maxRecDepth 100000 in
theorem c_X7_spread (l : Launch) (G : xG) (ad : Nat → Nat) (s : S7) (x1 : Int32) (x2 : Int32) (x3 : Int32) {z : Int64 × S7} (hf : f_X7_spread s x1 x2 x3 = some z) : xC l yX7_spread cX7_spread 4 (some .long) (rm_X7_spread) G [.ref (ad 0), .int x1, .int x2, .int x3] (cells7 G ad s) (some (.long z.1)) (cells7 G ad z.2) :=
  x_met (by decide) rfl (Nat.le_of_ble_eq_true rfl) (fun p e sS m below meth c E hr hk ls hl hw => w_X7_spread_p0 E hr hk s x1 x2 x3 z hw hl hf)
set_option maxHeartbeats 4000000 in
set_option maxRecDepth 100000 in
theorem w_X7_whole_p0 {p : Program} {l : Launch} {e : Env} {sS : State} {m : MethodId} {args : Array Value} {below : List Frame} {meth : Method} {c : Code} {G : xG} {W0 : va_W} {ad : Nat → Nat}   (E : xE p sS m args c cX7_whole 2 RX7 G (x_in W0)) (hr : meth.sig.returnType = (some .long)) (hk : meth.locks = false)  : ∀ (s' : S7) (x1' : Int32) (z : Int64 × S7) {H : Heap} {locs : List Loc} {ls : Array Slot}, xW G (x_in W0) sS.heap (cells7 G ad s') H locs → lv_has ls 2 [(0, .ref (ad 0)), (1, .int x1')] → f_X7_whole  s' x1' = some z → W p l e (rm_X7_whole) sS m args below meth c H locs 0 0 (MQ below (xQ G W0 (cells7 G ad z.2) (some (.long z.1))) args sS 0 0 (x_in W0)) (F0 m 0 ls []) := by
  intro s x1 z H locs ls hw hl hf
  unfold f_X7_whole at hf
  refine lv_aload_n (pc := 0) E.1 E.2.1 dX7_whole_0 rfl (lv_at hl 0 rfl) ?_
  refine xg_X7_36 (pc := 1) (v := .ref (ad 13)) E hw 0 rfl rfl dX7_whole_1 ?_
  refine lv_aload_n (pc := 4) E.1 E.2.1 dX7_whole_4 rfl (lv_at hl 0 rfl) ?_
  refine xg_X7_19 (pc := 5) (v := .ref (ad 3)) E hw 0 rfl rfl dX7_whole_5 ?_
  obtain ⟨v1, g2, hf⟩ := x_bind hf
  refine x_callV (pc := 8) (As := [.ref (ad 3)]) (rest := []) (st1 := []) (ws' := (cells7c G ad (g7_tape s) (g7_book s) (g7_trial s) (g7_past s) v1 (g7_pen s) (g7_told s) (g7_ratesNow s))) E hw hl (c_X1_reckon l G (fun k => ad (k + 13)) (fun k => ad (k + 3)) (g7_ledger s) (g7_book s) g2) xv_X7_186 xd_X1_reckon rfl rfl ⟨Nat.le_of_ble_eq_true rfl, Nat.le_of_ble_eq_true rfl⟩ [13, 14, 15, 16, 17, 18, 19, 20, 21, 22, 23, 24, 25, 26, 27, 3, 4, 5, 6] [0, 1, 2, 7, 8, 9, 10, 11, 12, 28, 29, 30] (by decide) ⟨rfl, rfl, rfl, rfl, rfl, rfl, rfl, rfl, rfl, rfl, rfl, rfl, rfl, rfl, rfl, rfl, rfl, rfl, rfl, trivial⟩ (q0 := 13) rfl rfl rfl rfl (Nat.le_of_ble_eq_true rfl) (nw := 31) ⟨rfl, rfl, rfl, rfl, rfl, rfl, rfl, rfl, rfl, rfl, rfl, rfl, rfl, rfl, rfl, rfl, rfl, rfl, rfl, trivial⟩ ⟨⟨_, rfl, rfl⟩, ⟨_, rfl, rfl⟩, ⟨_, rfl, rfl⟩, ⟨_, rfl, rfl⟩, ⟨_, rfl, rfl⟩, ⟨_, rfl, rfl⟩, ⟨_, rfl, rfl⟩, ⟨_, rfl, rfl⟩, ⟨_, rfl, rfl⟩, ⟨_, rfl, rfl⟩, ⟨_, rfl, rfl⟩, ⟨_, rfl, rfl⟩, trivial⟩ rfl rfl (by decide) (by decide) rfl dX7_whole_8 (fun H locs hw => ?_)
  refine lv_aload_n (pc := 11) E.1 E.2.1 dX7_whole_11 rfl (lv_at hl 0 rfl) ?_
  refine xg_X7_36 (pc := 12) (v := .ref (ad 13)) E hw 0 rfl rfl dX7_whole_12 ?_
  refine lv_aload_n (pc := 15) E.1 E.2.1 dX7_whole_15 rfl (lv_at hl 0 rfl) ?_
  refine xg_X7_50 (pc := 16) (v := .ref (ad 29)) E hw 0 rfl rfl dX7_whole_16 ?_
  obtain ⟨v3, g4, hf⟩ := x_bind hf
  refine x_callV (pc := 19) (As := [.ref (ad 29)]) (rest := []) (st1 := []) (ws' := (cells7c G ad (g7_tape s) (g7_book s) (g7_trial s) (g7_past s) v1 (g7_pen s) v3 (g7_ratesNow s))) E hw hl (c_X1_putWhole l G (fun k => ad (k + 13)) (fun k => ad (k + 29)) v1 (g7_told s) g4) xv_X7_244 xd_X1_putWhole rfl rfl ⟨Nat.le_of_ble_eq_true rfl, Nat.le_of_ble_eq_true rfl⟩ [13, 14, 15, 16, 17, 18, 19, 20, 21, 22, 23, 24, 25, 26, 27, 29] [0, 1, 2, 3, 4, 5, 6, 7, 8, 9, 10, 11, 12, 28, 30] (by decide) ⟨rfl, rfl, rfl, rfl, rfl, rfl, rfl, rfl, rfl, rfl, rfl, rfl, rfl, rfl, rfl, rfl, trivial⟩ (q0 := 13) rfl rfl rfl rfl (Nat.le_of_ble_eq_true rfl) (nw := 31) ⟨rfl, rfl, rfl, rfl, rfl, rfl, rfl, rfl, rfl, rfl, rfl, rfl, rfl, rfl, rfl, rfl, trivial⟩ ⟨⟨_, rfl, rfl⟩, ⟨_, rfl, rfl⟩, ⟨_, rfl, rfl⟩, ⟨_, rfl, rfl⟩, ⟨_, rfl, rfl⟩, ⟨_, rfl, rfl⟩, ⟨_, rfl, rfl⟩, ⟨_, rfl, rfl⟩, ⟨_, rfl, rfl⟩, ⟨_, rfl, rfl⟩, ⟨_, rfl, rfl⟩, ⟨_, rfl, rfl⟩, ⟨_, rfl, rfl⟩, ⟨_, rfl, rfl⟩, ⟨_, rfl, rfl⟩, trivial⟩ rfl rfl (by decide) (by decide) rfl dX7_whole_19 (fun H locs hw => ?_)
  refine lv_aload_n (pc := 22) E.1 E.2.1 dX7_whole_22 rfl (lv_at hl 0 rfl) ?_
  refine xg_X7_50 (pc := 23) (v := .ref (ad 29)) E hw 0 rfl rfl dX7_whole_23 ?_
  refine lv_iload_n (pc := 26) E.1 E.2.1 dX7_whole_26 rfl (lv_at hl 1 rfl) ?_
  obtain ⟨v5, g6, hf⟩ := x_bind hf
  refine x_callV (pc := 27) (As := [.int x1]) (rest := []) (st1 := [.long v5]) (ws' := (cells7c G ad (g7_tape s) (g7_book s) (g7_trial s) (g7_past s) v1 (g7_pen s) v3 (g7_ratesNow s))) E hw hl (c_X5_part l G (fun k => ad (k + 29)) v3 x1 g6) xv_X7_248 xd_X5_part rfl rfl ⟨Nat.le_of_ble_eq_true rfl, Nat.le_of_ble_eq_true rfl⟩ [29] [0, 1, 2, 3, 4, 5, 6, 7, 8, 9, 10, 11, 12, 13, 14, 15, 16, 17, 18, 19, 20, 21, 22, 23, 24, 25, 26, 27, 28, 30] (by decide) ⟨rfl, trivial⟩ (q0 := 29) rfl rfl rfl rfl (Nat.le_of_ble_eq_true rfl) (nw := 31) ⟨rfl, trivial⟩ ⟨⟨_, rfl, rfl⟩, ⟨_, rfl, rfl⟩, ⟨_, rfl, rfl⟩, ⟨_, rfl, rfl⟩, ⟨_, rfl, rfl⟩, ⟨_, rfl, rfl⟩, ⟨_, rfl, rfl⟩, ⟨_, rfl, rfl⟩, ⟨_, rfl, rfl⟩, ⟨_, rfl, rfl⟩, ⟨_, rfl, rfl⟩, ⟨_, rfl, rfl⟩, ⟨_, rfl, rfl⟩, ⟨_, rfl, rfl⟩, ⟨_, rfl, rfl⟩, ⟨_, rfl, rfl⟩, ⟨_, rfl, rfl⟩, ⟨_, rfl, rfl⟩, ⟨_, rfl, rfl⟩, ⟨_, rfl, rfl⟩, ⟨_, rfl, rfl⟩, ⟨_, rfl, rfl⟩, ⟨_, rfl, rfl⟩, ⟨_, rfl, rfl⟩, ⟨_, rfl, rfl⟩, ⟨_, rfl, rfl⟩, ⟨_, rfl, rfl⟩, ⟨_, rfl, rfl⟩, ⟨_, rfl, rfl⟩, ⟨_, rfl, rfl⟩, trivial⟩ rfl rfl (by decide) (by decide) rfl dX7_whole_27 (fun H locs hw => ?_)
  obtain rfl := Option.some.inj hf
  exact x_retl (pc := 30) E hr hk hw dX7_whole_30
set_option maxHeartbeats 4000000 in
set_option maxRecDepth 100000 in
theorem c_X7_whole (l : Launch) (G : xG) (ad : Nat → Nat) (s : S7) (x1 : Int32) {z : Int64 × S7} (hf : f_X7_whole s x1 = some z) : xC l yX7_whole cX7_whole 2 (some .long) (rm_X7_whole) G [.ref (ad 0), .int x1] (cells7 G ad s) (some (.long z.1)) (cells7 G ad z.2) :=
  x_met (by decide) rfl (Nat.le_of_ble_eq_true rfl) (fun p e sS m below meth c E hr hk ls hl hw => w_X7_whole_p0 E hr hk s x1 z hw hl hf)
set_option maxHeartbeats 4000000 in
set_option maxRecDepth 100000 in
theorem w_X7_rate_p0 {p : Program} {l : Launch} {e : Env} {sS : State} {m : MethodId} {args : Array Value} {below : List Frame} {meth : Method} {c : Code} {G : xG} {W0 : va_W} {ad : Nat → Nat}   (E : xE p sS m args c cX7_rate 3 RX7 G (x_in W0)) (hr : meth.sig.returnType = (some .long)) (hk : meth.locks = false)  : ∀ (s' : S7) (x1' : Int32) (x2' : Int32) (z : Int64 × S7) {H : Heap} {locs : List Loc} {ls : Array Slot}, xW G (x_in W0) sS.heap (cells7 G ad s') H locs → lv_has ls 3 [(0, .ref (ad 0)), (1, .int x1'), (2, .int x2')] → f_X7_rate  s' x1' x2' = some z → W p l e (rm_X7_rate) sS m args below meth c H locs 0 0 (MQ below (xQ G W0 (cells7 G ad z.2) (some (.long z.1))) args sS 0 0 (x_in W0)) (F0 m 0 ls []) := by
  intro s x1 x2 z H locs ls hw hl hf
  unfold f_X7_rate at hf
  refine lv_aload_n (pc := 0) E.1 E.2.1 dX7_rate_0 rfl (lv_at hl 0 rfl) ?_
  refine xg_X7_36 (pc := 1) (v := .ref (ad 13)) E hw 0 rfl rfl dX7_rate_1 ?_
  refine lv_aload_n (pc := 4) E.1 E.2.1 dX7_rate_4 rfl (lv_at hl 0 rfl) ?_
  refine xg_X7_19 (pc := 5) (v := .ref (ad 3)) E hw 0 rfl rfl dX7_rate_5 ?_
  obtain ⟨v1, g2, hf⟩ := x_bind hf
  refine x_callV (pc := 8) (As := [.ref (ad 3)]) (rest := []) (st1 := []) (ws' := (cells7c G ad (g7_tape s) (g7_book s) (g7_trial s) (g7_past s) v1 (g7_pen s) (g7_told s) (g7_ratesNow s))) E hw hl (c_X1_reckon l G (fun k => ad (k + 13)) (fun k => ad (k + 3)) (g7_ledger s) (g7_book s) g2) xv_X7_186 xd_X1_reckon rfl rfl ⟨Nat.le_of_ble_eq_true rfl, Nat.le_of_ble_eq_true rfl⟩ [13, 14, 15, 16, 17, 18, 19, 20, 21, 22, 23, 24, 25, 26, 27, 3, 4, 5, 6] [0, 1, 2, 7, 8, 9, 10, 11, 12, 28, 29, 30] (by decide) ⟨rfl, rfl, rfl, rfl, rfl, rfl, rfl, rfl, rfl, rfl, rfl, rfl, rfl, rfl, rfl, rfl, rfl, rfl, rfl, trivial⟩ (q0 := 13) rfl rfl rfl rfl (Nat.le_of_ble_eq_true rfl) (nw := 31) ⟨rfl, rfl, rfl, rfl, rfl, rfl, rfl, rfl, rfl, rfl, rfl, rfl, rfl, rfl, rfl, rfl, rfl, rfl, rfl, trivial⟩ ⟨⟨_, rfl, rfl⟩, ⟨_, rfl, rfl⟩, ⟨_, rfl, rfl⟩, ⟨_, rfl, rfl⟩, ⟨_, rfl, rfl⟩, ⟨_, rfl, rfl⟩, ⟨_, rfl, rfl⟩, ⟨_, rfl, rfl⟩, ⟨_, rfl, rfl⟩, ⟨_, rfl, rfl⟩, ⟨_, rfl, rfl⟩, ⟨_, rfl, rfl⟩, trivial⟩ rfl rfl (by decide) (by decide) rfl dX7_rate_8 (fun H locs hw => ?_)
  refine lv_aload_n (pc := 11) E.1 E.2.1 dX7_rate_11 rfl (lv_at hl 0 rfl) ?_
  refine xg_X7_36 (pc := 12) (v := .ref (ad 13)) E hw 0 rfl rfl dX7_rate_12 ?_
  refine lv_iload_n (pc := 15) E.1 E.2.1 dX7_rate_15 rfl (lv_at hl 1 rfl) ?_
  refine lv_aload_n (pc := 16) E.1 E.2.1 dX7_rate_16 rfl (lv_at hl 0 rfl) ?_
  refine xg_X7_50 (pc := 17) (v := .ref (ad 29)) E hw 0 rfl rfl dX7_rate_17 ?_
  obtain ⟨v3, g4, hf⟩ := x_bind hf
  refine x_callV (pc := 20) (As := [.int x1, .ref (ad 29)]) (rest := []) (st1 := []) (ws' := (cells7c G ad (g7_tape s) (g7_book s) (g7_trial s) (g7_past s) v1 (g7_pen s) v3 (g7_ratesNow s))) E hw hl (c_X1_putRate l G (fun k => ad (k + 13)) (fun k => ad (k + 29)) v1 (g7_told s) x1 g4) xv_X7_252 xd_X1_putRate rfl rfl ⟨Nat.le_of_ble_eq_true rfl, Nat.le_of_ble_eq_true rfl⟩ [13, 14, 15, 16, 17, 18, 19, 20, 21, 22, 23, 24, 25, 26, 27, 29] [0, 1, 2, 3, 4, 5, 6, 7, 8, 9, 10, 11, 12, 28, 30] (by decide) ⟨rfl, rfl, rfl, rfl, rfl, rfl, rfl, rfl, rfl, rfl, rfl, rfl, rfl, rfl, rfl, rfl, trivial⟩ (q0 := 13) rfl rfl rfl rfl (Nat.le_of_ble_eq_true rfl) (nw := 31) ⟨rfl, rfl, rfl, rfl, rfl, rfl, rfl, rfl, rfl, rfl, rfl, rfl, rfl, rfl, rfl, rfl, trivial⟩ ⟨⟨_, rfl, rfl⟩, ⟨_, rfl, rfl⟩, ⟨_, rfl, rfl⟩, ⟨_, rfl, rfl⟩, ⟨_, rfl, rfl⟩, ⟨_, rfl, rfl⟩, ⟨_, rfl, rfl⟩, ⟨_, rfl, rfl⟩, ⟨_, rfl, rfl⟩, ⟨_, rfl, rfl⟩, ⟨_, rfl, rfl⟩, ⟨_, rfl, rfl⟩, ⟨_, rfl, rfl⟩, ⟨_, rfl, rfl⟩, ⟨_, rfl, rfl⟩, trivial⟩ rfl rfl (by decide) (by decide) rfl dX7_rate_20 (fun H locs hw => ?_)
  refine lv_aload_n (pc := 23) E.1 E.2.1 dX7_rate_23 rfl (lv_at hl 0 rfl) ?_
  refine xg_X7_50 (pc := 24) (v := .ref (ad 29)) E hw 0 rfl rfl dX7_rate_24 ?_
  refine lv_iload_n (pc := 27) E.1 E.2.1 dX7_rate_27 rfl (lv_at hl 2 rfl) ?_
  obtain ⟨v5, g6, hf⟩ := x_bind hf
  refine x_callV (pc := 28) (As := [.int x2]) (rest := []) (st1 := [.long v5]) (ws' := (cells7c G ad (g7_tape s) (g7_book s) (g7_trial s) (g7_past s) v1 (g7_pen s) v3 (g7_ratesNow s))) E hw hl (c_X5_part l G (fun k => ad (k + 29)) v3 x2 g6) xv_X7_248 xd_X5_part rfl rfl ⟨Nat.le_of_ble_eq_true rfl, Nat.le_of_ble_eq_true rfl⟩ [29] [0, 1, 2, 3, 4, 5, 6, 7, 8, 9, 10, 11, 12, 13, 14, 15, 16, 17, 18, 19, 20, 21, 22, 23, 24, 25, 26, 27, 28, 30] (by decide) ⟨rfl, trivial⟩ (q0 := 29) rfl rfl rfl rfl (Nat.le_of_ble_eq_true rfl) (nw := 31) ⟨rfl, trivial⟩ ⟨⟨_, rfl, rfl⟩, ⟨_, rfl, rfl⟩, ⟨_, rfl, rfl⟩, ⟨_, rfl, rfl⟩, ⟨_, rfl, rfl⟩, ⟨_, rfl, rfl⟩, ⟨_, rfl, rfl⟩, ⟨_, rfl, rfl⟩, ⟨_, rfl, rfl⟩, ⟨_, rfl, rfl⟩, ⟨_, rfl, rfl⟩, ⟨_, rfl, rfl⟩, ⟨_, rfl, rfl⟩, ⟨_, rfl, rfl⟩, ⟨_, rfl, rfl⟩, ⟨_, rfl, rfl⟩, ⟨_, rfl, rfl⟩, ⟨_, rfl, rfl⟩, ⟨_, rfl, rfl⟩, ⟨_, rfl, rfl⟩, ⟨_, rfl, rfl⟩, ⟨_, rfl, rfl⟩, ⟨_, rfl, rfl⟩, ⟨_, rfl, rfl⟩, ⟨_, rfl, rfl⟩, ⟨_, rfl, rfl⟩, ⟨_, rfl, rfl⟩, ⟨_, rfl, rfl⟩, ⟨_, rfl, rfl⟩, ⟨_, rfl, rfl⟩, trivial⟩ rfl rfl (by decide) (by decide) rfl dX7_rate_28 (fun H locs hw => ?_)
  obtain rfl := Option.some.inj hf
  exact x_retl (pc := 31) E hr hk hw dX7_rate_31
set_option maxHeartbeats 4000000 in
set_option maxRecDepth 100000 in
theorem c_X7_rate (l : Launch) (G : xG) (ad : Nat → Nat) (s : S7) (x1 : Int32) (x2 : Int32) {z : Int64 × S7} (hf : f_X7_rate s x1 x2 = some z) : xC l yX7_rate cX7_rate 3 (some .long) (rm_X7_rate) G [.ref (ad 0), .int x1, .int x2] (cells7 G ad s) (some (.long z.1)) (cells7 G ad z.2) :=
  x_met (by decide) rfl (Nat.le_of_ble_eq_true rfl) (fun p e sS m below meth c E hr hk ls hl hw => w_X7_rate_p0 E hr hk s x1 x2 z hw hl hf)
set_option maxHeartbeats 4000000 in
set_option maxRecDepth 100000 in
theorem w_X7_rateIn_i3_p0 {p : Program} {l : Launch} {e : Env} {sS : State} {m : MethodId} {args : Array Value} {below : List Frame} {meth : Method} {c : Code} {G : xG} {W0 : va_W} {ad : Nat → Nat}   (E : xE p sS m args c cX7_rateIn 3 RX7 G (x_in W0)) (hr : meth.sig.returnType = (some .int)) (hk : meth.locks = false)  : ∀ (s' : S7) (x2' : Int32) (z : Int32 × S7) {H : Heap} {locs : List Loc} {ls : Array Slot}, xW G (x_in W0) sS.heap (cells7 G ad s') H locs → lv_has ls 3 [(0, .ref (ad 0)), (1, .ref (ad 3)), (2, .int x2')] → f_X7_rateIn_i3  s' x2' = some z → W p l e (rm_X7_rateIn_i3) sS m args below meth c H locs 0 0 (MQ below (xQ G W0 (cells7 G ad z.2) (some (.int z.1))) args sS 0 0 (x_in W0)) (F0 m 0 ls []) := by
  intro s x2 z H locs ls hw hl hf
  unfold f_X7_rateIn_i3 at hf
  refine lv_aload_n (pc := 0) E.1 E.2.1 dX7_rateIn_0 rfl (lv_at hl 1 rfl) ?_
  refine lv_iload_n (pc := 1) E.1 E.2.1 dX7_rateIn_1 rfl (lv_at hl 2 rfl) ?_
  obtain ⟨v1, g2, hf⟩ := x_bind hf
  refine x_callV (pc := 2) (As := [.int x2]) (rest := []) (st1 := [.int v1]) (ws' := (cells7 G ad s)) E hw hl (c_X0_hasFleet l G (fun k => ad (k + 3)) (g7_book s) x2 g2) xv_X7_95 xd_X0_hasFleet rfl rfl ⟨Nat.le_of_ble_eq_true rfl, Nat.le_of_ble_eq_true rfl⟩ [3, 4, 5, 6] [0, 1, 2, 7, 8, 9, 10, 11, 12, 13, 14, 15, 16, 17, 18, 19, 20, 21, 22, 23, 24, 25, 26, 27, 28, 29, 30] (by decide) ⟨rfl, rfl, rfl, rfl, trivial⟩ (q0 := 3) rfl rfl rfl rfl (Nat.le_of_ble_eq_true rfl) (nw := 31) ⟨rfl, rfl, rfl, rfl, trivial⟩ ⟨⟨_, rfl, rfl⟩, ⟨_, rfl, rfl⟩, ⟨_, rfl, rfl⟩, ⟨_, rfl, rfl⟩, ⟨_, rfl, rfl⟩, ⟨_, rfl, rfl⟩, ⟨_, rfl, rfl⟩, ⟨_, rfl, rfl⟩, ⟨_, rfl, rfl⟩, ⟨_, rfl, rfl⟩, ⟨_, rfl, rfl⟩, ⟨_, rfl, rfl⟩, ⟨_, rfl, rfl⟩, ⟨_, rfl, rfl⟩, ⟨_, rfl, rfl⟩, ⟨_, rfl, rfl⟩, ⟨_, rfl, rfl⟩, ⟨_, rfl, rfl⟩, ⟨_, rfl, rfl⟩, ⟨_, rfl, rfl⟩, ⟨_, rfl, rfl⟩, ⟨_, rfl, rfl⟩, ⟨_, rfl, rfl⟩, ⟨_, rfl, rfl⟩, ⟨_, rfl, rfl⟩, ⟨_, rfl, rfl⟩, ⟨_, rfl, rfl⟩, trivial⟩ rfl rfl (by decide) (by decide) rfl dX7_rateIn_2 (fun H locs hw => ?_)
  refine lv_if_ne (tgt := 10) (pc := 5) E.1 E.2.1 dX7_rateIn_5 (by decide) (fun q3 => ?_) (fun q3 => ?_)
  · have hf := x_neg q3 hf
    refine lv_aload_n (pc := 10) E.1 E.2.1 dX7_rateIn_10 rfl (lv_at hl 0 rfl) ?_
    refine xg_X7_36 (pc := 11) (v := .ref (ad 13)) E hw 0 rfl rfl dX7_rateIn_11 ?_
    refine lv_aload_n (pc := 14) E.1 E.2.1 dX7_rateIn_14 rfl (lv_at hl 1 rfl) ?_
    obtain ⟨v4, g5, hf⟩ := x_bind hf
    refine x_callV (pc := 15) (As := [.ref (ad 3)]) (rest := []) (st1 := []) (ws' := (cells7c G ad (g7_tape s) (g7_book s) (g7_trial s) (g7_past s) v4 (g7_pen s) (g7_told s) (g7_ratesNow s))) E hw hl (c_X1_reckon l G (fun k => ad (k + 13)) (fun k => ad (k + 3)) (g7_ledger s) (g7_book s) g5) xv_X7_186 xd_X1_reckon rfl rfl ⟨Nat.le_of_ble_eq_true rfl, Nat.le_of_ble_eq_true rfl⟩ [13, 14, 15, 16, 17, 18, 19, 20, 21, 22, 23, 24, 25, 26, 27, 3, 4, 5, 6] [0, 1, 2, 7, 8, 9, 10, 11, 12, 28, 29, 30] (by decide) ⟨rfl, rfl, rfl, rfl, rfl, rfl, rfl, rfl, rfl, rfl, rfl, rfl, rfl, rfl, rfl, rfl, rfl, rfl, rfl, trivial⟩ (q0 := 13) rfl rfl rfl rfl (Nat.le_of_ble_eq_true rfl) (nw := 31) ⟨rfl, rfl, rfl, rfl, rfl, rfl, rfl, rfl, rfl, rfl, rfl, rfl, rfl, rfl, rfl, rfl, rfl, rfl, rfl, trivial⟩ ⟨⟨_, rfl, rfl⟩, ⟨_, rfl, rfl⟩, ⟨_, rfl, rfl⟩, ⟨_, rfl, rfl⟩, ⟨_, rfl, rfl⟩, ⟨_, rfl, rfl⟩, ⟨_, rfl, rfl⟩, ⟨_, rfl, rfl⟩, ⟨_, rfl, rfl⟩, ⟨_, rfl, rfl⟩, ⟨_, rfl, rfl⟩, ⟨_, rfl, rfl⟩, trivial⟩ rfl rfl (by decide) (by decide) rfl dX7_rateIn_15 (fun H locs hw => ?_)
    refine lv_aload_n (pc := 18) E.1 E.2.1 dX7_rateIn_18 rfl (lv_at hl 0 rfl) ?_
    refine xg_X7_36 (pc := 19) (v := .ref (ad 13)) E hw 0 rfl rfl dX7_rateIn_19 ?_
    refine lv_iload_n (pc := 22) E.1 E.2.1 dX7_rateIn_22 rfl (lv_at hl 2 rfl) ?_
    obtain ⟨v6, g7, hf⟩ := x_bind hf
    refine x_callV (pc := 23) (As := [.int x2]) (rest := []) (st1 := [.int v6.1]) (ws' := (cells7c G ad (g7_tape s) (g7_book s) (g7_trial s) (g7_past s) v6.2 (g7_pen s) (g7_told s) (g7_ratesNow s))) E hw hl (c_X1_rateCut l G (fun k => ad (k + 13)) v4 x2 g7) xv_X7_312 xd_X1_rateCut rfl rfl ⟨Nat.le_of_ble_eq_true rfl, Nat.le_of_ble_eq_true rfl⟩ [13, 14, 15, 16, 17, 18, 19, 20, 21, 22, 23, 24, 25, 26, 27] [0, 1, 2, 3, 4, 5, 6, 7, 8, 9, 10, 11, 12, 28, 29, 30] (by decide) ⟨rfl, rfl, rfl, rfl, rfl, rfl, rfl, rfl, rfl, rfl, rfl, rfl, rfl, rfl, rfl, trivial⟩ (q0 := 13) rfl rfl rfl rfl (Nat.le_of_ble_eq_true rfl) (nw := 31) ⟨rfl, rfl, rfl, rfl, rfl, rfl, rfl, rfl, rfl, rfl, rfl, rfl, rfl, rfl, rfl, trivial⟩ ⟨⟨_, rfl, rfl⟩, ⟨_, rfl, rfl⟩, ⟨_, rfl, rfl⟩, ⟨_, rfl, rfl⟩, ⟨_, rfl, rfl⟩, ⟨_, rfl, rfl⟩, ⟨_, rfl, rfl⟩, ⟨_, rfl, rfl⟩, ⟨_, rfl, rfl⟩, ⟨_, rfl, rfl⟩, ⟨_, rfl, rfl⟩, ⟨_, rfl, rfl⟩, ⟨_, rfl, rfl⟩, ⟨_, rfl, rfl⟩, ⟨_, rfl, rfl⟩, ⟨_, rfl, rfl⟩, trivial⟩ rfl rfl (by decide) (by decide) rfl dX7_rateIn_23 (fun H locs hw => ?_)
    obtain rfl := Option.some.inj hf
    exact x_reti (pc := 26) E hr hk hw dX7_rateIn_26
  · have hf := x_pos q3 hf
    refine lv_iconst (v := (-1)) (pc := 8) E.1 E.2.1 dX7_rateIn_8 (by decide) ?_
    obtain rfl := Option.some.inj hf
    exact x_reti (pc := 9) E hr hk hw dX7_rateIn_9
set_option maxHeartbeats 4000000 in
set_option maxRecDepth 100000 in
theorem c_X7_rateIn_i3 (l : Launch) (G : xG) (ad : Nat → Nat) (s : S7) (x2 : Int32) {z : Int32 × S7} (hf : f_X7_rateIn_i3 s x2 = some z) : xC l yX7_rateIn cX7_rateIn 3 (some .int) (rm_X7_rateIn_i3) G [.ref (ad 0), .ref (ad 3), .int x2] (cells7 G ad s) (some (.int z.1)) (cells7 G ad z.2) :=
  x_met (by decide) rfl (Nat.le_of_ble_eq_true rfl) (fun p e sS m below meth c E hr hk ls hl hw => w_X7_rateIn_i3_p0 E hr hk s x2 z hw hl hf)
set_option maxHeartbeats 4000000 in
set_option maxRecDepth 100000 in
theorem w_X7_thousandths_p0 {p : Program} {l : Launch} {e : Env} {sS : State} {m : MethodId} {args : Array Value} {below : List Frame} {meth : Method} {c : Code} {G : xG} {W0 : va_W} {ad : Nat → Nat}   (E : xE p sS m args c cX7_thousandths 2 RX7 G (x_in W0)) (hr : meth.sig.returnType = (some .int)) (hk : meth.locks = false)  : ∀ (s' : S7) (x1' : Int32) (z : Int32 × S7) {H : Heap} {locs : List Loc} {ls : Array Slot}, xW G (x_in W0) sS.heap (cells7 G ad s') H locs → lv_has ls 2 [(0, .ref (ad 0)), (1, .int x1')] → f_X7_thousandths  s' x1' = some z → W p l e (rm_X7_thousandths) sS m args below meth c H locs 0 0 (MQ below (xQ G W0 (cells7 G ad z.2) (some (.int z.1))) args sS 0 0 (x_in W0)) (F0 m 0 ls []) := by
  intro s x1 z H locs ls hw hl hf
  unfold f_X7_thousandths at hf
  refine lv_aload_n (pc := 0) E.1 E.2.1 dX7_thousandths_0 rfl (lv_at hl 0 rfl) ?_
  refine lv_aload_n (pc := 1) E.1 E.2.1 dX7_thousandths_1 rfl (lv_at hl 0 rfl) ?_
  refine xg_X7_19 (pc := 2) (v := .ref (ad 3)) E hw 0 rfl rfl dX7_thousandths_2 ?_
  refine lv_iload_n (pc := 5) E.1 E.2.1 dX7_thousandths_5 rfl (lv_at hl 1 rfl) ?_
  obtain ⟨v1, g2, hf⟩ := x_bind hf
  refine x_callVA (pc := 6) (As := [.ref (ad 3), .int x1]) (rest := []) (st1 := [.int v1.1]) (ws' := (cells7 G ad v1.2)) E hw hl (c_X7_rateIn_i3 l G ad s x1 g2) xv_X7_256 xd_X7_rateIn rfl rfl ⟨Nat.le_of_ble_eq_true rfl, Nat.le_of_ble_eq_true rfl⟩ (q0 := 0) rfl rfl rfl rfl (Nat.le_of_ble_eq_true rfl) rfl dX7_thousandths_6 (fun H locs hw => ?_)
  obtain rfl := Option.some.inj hf
  exact x_reti (pc := 9) E hr hk hw dX7_thousandths_9
set_option maxHeartbeats 4000000 in
set_option maxRecDepth 100000 in
theorem c_X7_thousandths (l : Launch) (G : xG) (ad : Nat → Nat) (s : S7) (x1 : Int32) {z : Int32 × S7} (hf : f_X7_thousandths s x1 = some z) : xC l yX7_thousandths cX7_thousandths 2 (some .int) (rm_X7_thousandths) G [.ref (ad 0), .int x1] (cells7 G ad s) (some (.int z.1)) (cells7 G ad z.2) :=
  x_met (by decide) rfl (Nat.le_of_ble_eq_true rfl) (fun p e sS m below meth c E hr hk ls hl hw => w_X7_thousandths_p0 E hr hk s x1 z hw hl hf)
set_option maxHeartbeats 4000000 in
set_option maxRecDepth 100000 in
theorem w_X7_ranked_p13 {p : Program} {l : Launch} {e : Env} {sS : State} {m : MethodId} {args : Array Value} {below : List Frame} {meth : Method} {c : Code} {G : xG} {W0 : va_W} {ad : Nat → Nat}  {k13 : S7 → Int32 → Int32 → Option (Int32 × S7)} (E : xE p sS m args c cX7_ranked 3 RX7 G (x_in W0)) (hr : meth.sig.returnType = (some .int)) (hk : meth.locks = false) (hk13 : ∀ (s' : S7) (x1' : Int32) (x2' : Int32) (z : Int32 × S7) {H : Heap} {locs : List Loc} {ls : Array Slot}, xW G (x_in W0) sS.heap (cells7 G ad s') H locs → lv_has ls 3 [(0, .ref (ad 0)), (1, .int x1'), (2, .int x2')] → k13  s' x1' x2' = some z → W p l e (rm_X7_ranked) sS m args below meth c H locs 0 0 (MQ below (xQ G W0 (cells7 G ad z.2) (some (.int z.1))) args sS 0 0 (x_in W0)) (F0 m 13 ls [])) : ∀ (s' : S7) (x1' : Int32) (x2' : Int32) (z : Int32 × S7) {H : Heap} {locs : List Loc} {ls : Array Slot}, xW G (x_in W0) sS.heap (cells7 G ad s') H locs → lv_has ls 3 [(0, .ref (ad 0)), (1, .int x1'), (2, .int x2')] → f_X7_ranked_p13 k13 s' x1' x2' = some z → W p l e (rm_X7_ranked) sS m args below meth c H locs 0 0 (MQ below (xQ G W0 (cells7 G ad z.2) (some (.int z.1))) args sS 0 0 (x_in W0)) (F0 m 13 ls []) := by
  intro s x1 x2 z H locs ls hw hl hf
  unfold f_X7_ranked_p13 at hf
  refine lv_iload_n (pc := 13) E.1 E.2.1 dX7_ranked_13 rfl (lv_at hl 2 rfl) ?_
  refine lv_aload_n (pc := 14) E.1 E.2.1 dX7_ranked_14 rfl (lv_at hl 0 rfl) ?_
  refine xg_X7_19 (pc := 15) (v := .ref (ad 3)) E hw 0 rfl rfl dX7_ranked_15 ?_
  refine xg_X7_80 (pc := 18) (v := .int (g0_fleets (g7_book s))) E hw 3 rfl rfl dX7_ranked_18 ?_
  refine lv_icmp_ge (tgt := 55) (pc := 21) E.1 E.2.1 dX7_ranked_21 (by decide) (fun q1 => ?_) (fun q1 => ?_)
  · have hf := x_pos q1 hf
    refine lv_iconst (v := (-1)) (pc := 55) E.1 E.2.1 dX7_ranked_55 (by decide) ?_
    obtain rfl := Option.some.inj hf
    exact x_reti (pc := 56) E hr hk hw dX7_ranked_56
  · have hf := x_neg q1 hf
    refine lv_aload_n (pc := 24) E.1 E.2.1 dX7_ranked_24 rfl (lv_at hl 0 rfl) ?_
    refine xg_X7_36 (pc := 25) (v := .ref (ad 13)) E hw 0 rfl rfl dX7_ranked_25 ?_
    refine lv_iload_n (pc := 28) E.1 E.2.1 dX7_ranked_28 rfl (lv_at hl 2 rfl) ?_
    obtain ⟨v2, g3, hf⟩ := x_bind hf
    refine x_callV (pc := 29) (As := [.int x2]) (rest := []) (st1 := [.int v2]) (ws' := (cells7 G ad s)) E hw hl (c_X1_isRated l G (fun k => ad (k + 13)) (g7_ledger s) x2 g3) xv_X7_260 xd_X1_isRated rfl rfl ⟨Nat.le_of_ble_eq_true rfl, Nat.le_of_ble_eq_true rfl⟩ [13, 14, 15, 16, 17, 18, 19, 20, 21, 22, 23, 24, 25, 26, 27] [0, 1, 2, 3, 4, 5, 6, 7, 8, 9, 10, 11, 12, 28, 29, 30] (by decide) ⟨rfl, rfl, rfl, rfl, rfl, rfl, rfl, rfl, rfl, rfl, rfl, rfl, rfl, rfl, rfl, trivial⟩ (q0 := 13) rfl rfl rfl rfl (Nat.le_of_ble_eq_true rfl) (nw := 31) ⟨rfl, rfl, rfl, rfl, rfl, rfl, rfl, rfl, rfl, rfl, rfl, rfl, rfl, rfl, rfl, trivial⟩ ⟨⟨_, rfl, rfl⟩, ⟨_, rfl, rfl⟩, ⟨_, rfl, rfl⟩, ⟨_, rfl, rfl⟩, ⟨_, rfl, rfl⟩, ⟨_, rfl, rfl⟩, ⟨_, rfl, rfl⟩, ⟨_, rfl, rfl⟩, ⟨_, rfl, rfl⟩, ⟨_, rfl, rfl⟩, ⟨_, rfl, rfl⟩, ⟨_, rfl, rfl⟩, ⟨_, rfl, rfl⟩, ⟨_, rfl, rfl⟩, ⟨_, rfl, rfl⟩, ⟨_, rfl, rfl⟩, trivial⟩ rfl rfl (by decide) (by decide) rfl dX7_ranked_29 (fun H locs hw => ?_)
    refine lv_if_eq (tgt := 49) (pc := 32) E.1 E.2.1 dX7_ranked_32 (by decide) (fun q4 => ?_) (fun q4 => ?_)
    · have hf := x_pos q4 hf
      refine lv_iinc (v := (x2 + 1)) (lv' := [(2, .int (x2 + 1)), (0, .ref (ad 0)), (1, .int x1)]) (pc := 49) E.1 E.2.1 dX7_ranked_49 hl (k := 2) rfl rfl (by decide) rfl (fun ls hl => ?_)
      refine lv_goto (tgt := 13) (pc := 52) E.1 E.2.1 dX7_ranked_52 (by decide) ?_
      exact hk13 s x1 (x2 + 1) z hw (lv_sub hl [1, 2, 0] rfl) hf
    · have hf := x_neg q4 hf
      refine lv_aload_n (pc := 35) E.1 E.2.1 dX7_ranked_35 rfl (lv_at hl 0 rfl) ?_
      refine xg_X7_36 (pc := 36) (v := .ref (ad 13)) E hw 0 rfl rfl dX7_ranked_36 ?_
      refine lv_iload_n (pc := 39) E.1 E.2.1 dX7_ranked_39 rfl (lv_at hl 2 rfl) ?_
      obtain ⟨v5, g6, hf⟩ := x_bind hf
      refine x_callV (pc := 40) (As := [.int x2]) (rest := []) (st1 := [.int v5.1]) (ws' := (cells7c G ad (g7_tape s) (g7_book s) (g7_trial s) (g7_past s) v5.2 (g7_pen s) (g7_told s) (g7_ratesNow s))) E hw hl (c_X1_placeOf l G (fun k => ad (k + 13)) (g7_ledger s) x2 g6) xv_X7_263 xd_X1_placeOf rfl rfl ⟨Nat.le_of_ble_eq_true rfl, Nat.le_of_ble_eq_true rfl⟩ [13, 14, 15, 16, 17, 18, 19, 20, 21, 22, 23, 24, 25, 26, 27] [0, 1, 2, 3, 4, 5, 6, 7, 8, 9, 10, 11, 12, 28, 29, 30] (by decide) ⟨rfl, rfl, rfl, rfl, rfl, rfl, rfl, rfl, rfl, rfl, rfl, rfl, rfl, rfl, rfl, trivial⟩ (q0 := 13) rfl rfl rfl rfl (Nat.le_of_ble_eq_true rfl) (nw := 31) ⟨rfl, rfl, rfl, rfl, rfl, rfl, rfl, rfl, rfl, rfl, rfl, rfl, rfl, rfl, rfl, trivial⟩ ⟨⟨_, rfl, rfl⟩, ⟨_, rfl, rfl⟩, ⟨_, rfl, rfl⟩, ⟨_, rfl, rfl⟩, ⟨_, rfl, rfl⟩, ⟨_, rfl, rfl⟩, ⟨_, rfl, rfl⟩, ⟨_, rfl, rfl⟩, ⟨_, rfl, rfl⟩, ⟨_, rfl, rfl⟩, ⟨_, rfl, rfl⟩, ⟨_, rfl, rfl⟩, ⟨_, rfl, rfl⟩, ⟨_, rfl, rfl⟩, ⟨_, rfl, rfl⟩, ⟨_, rfl, rfl⟩, trivial⟩ rfl rfl (by decide) (by decide) rfl dX7_ranked_40 (fun H locs hw => ?_)
      refine lv_iload_n (pc := 43) E.1 E.2.1 dX7_ranked_43 rfl (lv_at hl 1 rfl) ?_
      refine lv_icmp_ne (tgt := 49) (pc := 44) E.1 E.2.1 dX7_ranked_44 (by decide) (fun q7 => ?_) (fun q7 => ?_)
      · have hf := x_neg q7 hf
        refine lv_iinc (v := (x2 + 1)) (lv' := [(2, .int (x2 + 1)), (0, .ref (ad 0)), (1, .int x1)]) (pc := 49) E.1 E.2.1 dX7_ranked_49 hl (k := 2) rfl rfl (by decide) rfl (fun ls hl => ?_)
        refine lv_goto (tgt := 13) (pc := 52) E.1 E.2.1 dX7_ranked_52 (by decide) ?_
        exact hk13 (u7_ledger s v5.2) x1 (x2 + 1) z hw (lv_sub hl [1, 2, 0] rfl) hf
      · have hf := x_pos q7 hf
        refine lv_iload_n (pc := 47) E.1 E.2.1 dX7_ranked_47 rfl (lv_at hl 2 rfl) ?_
        obtain rfl := Option.some.inj hf
        exact x_reti (pc := 48) E hr hk hw dX7_ranked_48
set_option maxHeartbeats 4000000 in
set_option maxRecDepth 100000 in
theorem wl_X7_ranked_p13 {p : Program} {l : Launch} {e : Env} {sS : State} {m : MethodId} {args : Array Value} {below : List Frame} {meth : Method} {c : Code} {G : xG} {W0 : va_W} {ad : Nat → Nat}   (E : xE p sS m args c cX7_ranked 3 RX7 G (x_in W0)) (hr : meth.sig.returnType = (some .int)) (hk : meth.locks = false)  : ∀ (s' : S7) (x1' : Int32) (x2' : Int32) (z : Int32 × S7) {H : Heap} {locs : List Loc} {ls : Array Slot}, xW G (x_in W0) sS.heap (cells7 G ad s') H locs → lv_has ls 3 [(0, .ref (ad 0)), (1, .int x1'), (2, .int x2')] → lp_X7_ranked_p13  s' x1' x2' = some z → W p l e (rm_X7_ranked) sS m args below meth c H locs 0 0 (MQ below (xQ G W0 (cells7 G ad z.2) (some (.int z.1))) args sS 0 0 (x_in W0)) (F0 m 13 ls []) := by
  intro s x1 x2 z H locs ls hw hl hf
  exact x_loop_W (P := fun (q : S7 × Int32 × Int32) (z : Int32 × S7) => ∀ {H : Heap} {locs : List Loc} {ls : Array Slot}, xW G (x_in W0) sS.heap (cells7 G ad q.1) H locs → lv_has ls 3 [(0, .ref (ad 0)), (1, .int q.2.1), (2, .int q.2.2)] → W p l e (rm_X7_ranked) sS m args below meth c H locs 0 0 (MQ below (xQ G W0 (cells7 G ad z.2) (some (.int z.1))) args sS 0 0 (x_in W0)) (F0 m 13 ls [])) (fun k hkk q z hf H locs ls hw hl => w_X7_ranked_p13 E hr hk  (fun s x1 x2 z H locs ls hw hl hf => hkk (s, x1, x2) z hf hw hl) q.1 q.2.1 q.2.2 z hw hl hf) FU (s, x1, x2) z hf hw hl
set_option maxHeartbeats 4000000 in
set_option maxRecDepth 100000 in
theorem w_X7_ranked_p0 {p : Program} {l : Launch} {e : Env} {sS : State} {m : MethodId} {args : Array Value} {below : List Frame} {meth : Method} {c : Code} {G : xG} {W0 : va_W} {ad : Nat → Nat}   (E : xE p sS m args c cX7_ranked 3 RX7 G (x_in W0)) (hr : meth.sig.returnType = (some .int)) (hk : meth.locks = false)  : ∀ (s' : S7) (x1' : Int32) (z : Int32 × S7) {H : Heap} {locs : List Loc} {ls : Array Slot}, xW G (x_in W0) sS.heap (cells7 G ad s') H locs → lv_has ls 3 [(0, .ref (ad 0)), (1, .int x1')] → f_X7_ranked  s' x1' = some z → W p l e (rm_X7_ranked) sS m args below meth c H locs 0 0 (MQ below (xQ G W0 (cells7 G ad z.2) (some (.int z.1))) args sS 0 0 (x_in W0)) (F0 m 0 ls []) := by
  intro s x1 z H locs ls hw hl hf
  unfold f_X7_ranked at hf
  refine lv_aload_n (pc := 0) E.1 E.2.1 dX7_ranked_0 rfl (lv_at hl 0 rfl) ?_
  refine xg_X7_36 (pc := 1) (v := .ref (ad 13)) E hw 0 rfl rfl dX7_ranked_1 ?_
  refine lv_aload_n (pc := 4) E.1 E.2.1 dX7_ranked_4 rfl (lv_at hl 0 rfl) ?_
  refine xg_X7_19 (pc := 5) (v := .ref (ad 3)) E hw 0 rfl rfl dX7_ranked_5 ?_
  obtain ⟨v1, g2, hf⟩ := x_bind hf
  refine x_callV (pc := 8) (As := [.ref (ad 3)]) (rest := []) (st1 := []) (ws' := (cells7c G ad (g7_tape s) (g7_book s) (g7_trial s) (g7_past s) v1 (g7_pen s) (g7_told s) (g7_ratesNow s))) E hw hl (c_X1_reckon l G (fun k => ad (k + 13)) (fun k => ad (k + 3)) (g7_ledger s) (g7_book s) g2) xv_X7_186 xd_X1_reckon rfl rfl ⟨Nat.le_of_ble_eq_true rfl, Nat.le_of_ble_eq_true rfl⟩ [13, 14, 15, 16, 17, 18, 19, 20, 21, 22, 23, 24, 25, 26, 27, 3, 4, 5, 6] [0, 1, 2, 7, 8, 9, 10, 11, 12, 28, 29, 30] (by decide) ⟨rfl, rfl, rfl, rfl, rfl, rfl, rfl, rfl, rfl, rfl, rfl, rfl, rfl, rfl, rfl, rfl, rfl, rfl, rfl, trivial⟩ (q0 := 13) rfl rfl rfl rfl (Nat.le_of_ble_eq_true rfl) (nw := 31) ⟨rfl, rfl, rfl, rfl, rfl, rfl, rfl, rfl, rfl, rfl, rfl, rfl, rfl, rfl, rfl, rfl, rfl, rfl, rfl, trivial⟩ ⟨⟨_, rfl, rfl⟩, ⟨_, rfl, rfl⟩, ⟨_, rfl, rfl⟩, ⟨_, rfl, rfl⟩, ⟨_, rfl, rfl⟩, ⟨_, rfl, rfl⟩, ⟨_, rfl, rfl⟩, ⟨_, rfl, rfl⟩, ⟨_, rfl, rfl⟩, ⟨_, rfl, rfl⟩, ⟨_, rfl, rfl⟩, ⟨_, rfl, rfl⟩, trivial⟩ rfl rfl (by decide) (by decide) rfl dX7_ranked_8 (fun H locs hw => ?_)
  refine lv_iconst (v := 0) (pc := 11) E.1 E.2.1 dX7_ranked_11 (by decide) ?_
  refine lv_istore_n (lv' := [(2, .int 0), (0, .ref (ad 0)), (1, .int x1)]) (pc := 12) E.1 E.2.1 dX7_ranked_12 rfl hl (by decide) rfl (fun ls hl => ?_)
  exact wl_X7_ranked_p13 E hr hk  (u7_ledger s v1) x1 0 z hw (lv_sub hl [1, 2, 0] rfl) hf
set_option maxHeartbeats 4000000 in
set_option maxRecDepth 100000 in
theorem c_X7_ranked (l : Launch) (G : xG) (ad : Nat → Nat) (s : S7) (x1 : Int32) {z : Int32 × S7} (hf : f_X7_ranked s x1 = some z) : xC l yX7_ranked cX7_ranked 3 (some .int) (rm_X7_ranked) G [.ref (ad 0), .int x1] (cells7 G ad s) (some (.int z.1)) (cells7 G ad z.2) :=
  x_met (by decide) rfl (Nat.le_of_ble_eq_true rfl) (fun p e sS m below meth c E hr hk ls hl hw => w_X7_ranked_p0 E hr hk s x1 z hw hl hf)
set_option maxHeartbeats 4000000 in
set_option maxRecDepth 100000 in
theorem w_X7_greatest_p2 {p : Program} {l : Launch} {e : Env} {sS : State} {m : MethodId} {args : Array Value} {below : List Frame} {meth : Method} {c : Code} {G : xG} {W0 : va_W} {ad : Nat → Nat}  {k2 : S7 → Int32 → Int32 → Int32 → Option (Int32)} (E : xE p sS m args c cX7_greatest 4 RX7 G (x_in W0)) (hr : meth.sig.returnType = (some .int)) (hk : meth.locks = false) (hk2 : ∀ (s' : S7) (x1' : Int32) (x2' : Int32) (x3' : Int32) (z : Int32) {H : Heap} {locs : List Loc} {ls : Array Slot}, xW G (x_in W0) sS.heap (cells7 G ad s') H locs → lv_has ls 4 [(0, .ref (ad 0)), (1, .int x1'), (2, .int x2'), (3, .int x3')] → k2  s' x1' x2' x3' = some z → W p l e (rm_X7_greatest) sS m args below meth c H locs 0 0 (MQ below (xQ G W0 (cells7 G ad s') (some (.int z))) args sS 0 0 (x_in W0)) (F0 m 2 ls [])) : ∀ (s' : S7) (x1' : Int32) (x2' : Int32) (x3' : Int32) (z : Int32) {H : Heap} {locs : List Loc} {ls : Array Slot}, xW G (x_in W0) sS.heap (cells7 G ad s') H locs → lv_has ls 4 [(0, .ref (ad 0)), (1, .int x1'), (2, .int x2'), (3, .int x3')] → f_X7_greatest_p2 k2 s' x1' x2' x3' = some z → W p l e (rm_X7_greatest) sS m args below meth c H locs 0 0 (MQ below (xQ G W0 (cells7 G ad s') (some (.int z))) args sS 0 0 (x_in W0)) (F0 m 2 ls []) := by
  intro s x1 x2 x3 z H locs ls hw hl hf
  unfold f_X7_greatest_p2 at hf
  refine lv_iload_n (pc := 2) E.1 E.2.1 dX7_greatest_2 rfl (lv_at hl 3 rfl) ?_
  refine lv_aload_n (pc := 3) E.1 E.2.1 dX7_greatest_3 rfl (lv_at hl 0 rfl) ?_
  refine xg_X7_19 (pc := 4) (v := .ref (ad 3)) E hw 0 rfl rfl dX7_greatest_4 ?_
  refine xg_X7_266 (pc := 7) (v := .int (g0_claims (g7_book s))) E hw 3 rfl rfl dX7_greatest_7 ?_
  refine lv_icmp_ge (tgt := 45) (pc := 10) E.1 E.2.1 dX7_greatest_10 (by decide) (fun q1 => ?_) (fun q1 => ?_)
  · have hf := x_pos q1 hf
    refine lv_iconst (v := (-1)) (pc := 45) E.1 E.2.1 dX7_greatest_45 (by decide) ?_
    obtain rfl := Option.some.inj hf
    exact x_reti (pc := 46) E hr hk hw dX7_greatest_46
  · have hf := x_neg q1 hf
    refine lv_aload_n (pc := 13) E.1 E.2.1 dX7_greatest_13 rfl (lv_at hl 0 rfl) ?_
    refine xg_X7_19 (pc := 14) (v := .ref (ad 3)) E hw 0 rfl rfl dX7_greatest_14 ?_
    refine lv_iload_n (pc := 17) E.1 E.2.1 dX7_greatest_17 rfl (lv_at hl 3 rfl) ?_
    obtain ⟨v2, g3, hf⟩ := x_bind hf
    refine x_callV (pc := 18) (As := [.int x3]) (rest := []) (st1 := [.int v2]) (ws' := (cells7 G ad s)) E hw hl (c_X0_fleetOf l G (fun k => ad (k + 3)) (g7_book s) x3 g3) xv_X7_210 xd_X0_fleetOf rfl rfl ⟨Nat.le_of_ble_eq_true rfl, Nat.le_of_ble_eq_true rfl⟩ [3, 4, 5, 6] [0, 1, 2, 7, 8, 9, 10, 11, 12, 13, 14, 15, 16, 17, 18, 19, 20, 21, 22, 23, 24, 25, 26, 27, 28, 29, 30] (by decide) ⟨rfl, rfl, rfl, rfl, trivial⟩ (q0 := 3) rfl rfl rfl rfl (Nat.le_of_ble_eq_true rfl) (nw := 31) ⟨rfl, rfl, rfl, rfl, trivial⟩ ⟨⟨_, rfl, rfl⟩, ⟨_, rfl, rfl⟩, ⟨_, rfl, rfl⟩, ⟨_, rfl, rfl⟩, ⟨_, rfl, rfl⟩, ⟨_, rfl, rfl⟩, ⟨_, rfl, rfl⟩, ⟨_, rfl, rfl⟩, ⟨_, rfl, rfl⟩, ⟨_, rfl, rfl⟩, ⟨_, rfl, rfl⟩, ⟨_, rfl, rfl⟩, ⟨_, rfl, rfl⟩, ⟨_, rfl, rfl⟩, ⟨_, rfl, rfl⟩, ⟨_, rfl, rfl⟩, ⟨_, rfl, rfl⟩, ⟨_, rfl, rfl⟩, ⟨_, rfl, rfl⟩, ⟨_, rfl, rfl⟩, ⟨_, rfl, rfl⟩, ⟨_, rfl, rfl⟩, ⟨_, rfl, rfl⟩, ⟨_, rfl, rfl⟩, ⟨_, rfl, rfl⟩, ⟨_, rfl, rfl⟩, ⟨_, rfl, rfl⟩, trivial⟩ rfl rfl (by decide) (by decide) rfl dX7_greatest_18 (fun H locs hw => ?_)
    refine lv_iload_n (pc := 21) E.1 E.2.1 dX7_greatest_21 rfl (lv_at hl 1 rfl) ?_
    refine lv_icmp_ne (tgt := 39) (pc := 22) E.1 E.2.1 dX7_greatest_22 (by decide) (fun q4 => ?_) (fun q4 => ?_)
    · have hf := x_neg q4 hf
      refine lv_iinc (v := (x3 + 1)) (lv' := [(3, .int (x3 + 1)), (0, .ref (ad 0)), (1, .int x1), (2, .int x2)]) (pc := 39) E.1 E.2.1 dX7_greatest_39 hl (k := 3) rfl rfl (by decide) rfl (fun ls hl => ?_)
      refine lv_goto (tgt := 2) (pc := 42) E.1 E.2.1 dX7_greatest_42 (by decide) ?_
      exact hk2 s x1 x2 (x3 + 1) z hw (lv_sub hl [1, 2, 3, 0] rfl) hf
    · have hf := x_pos q4 hf
      refine lv_aload_n (pc := 25) E.1 E.2.1 dX7_greatest_25 rfl (lv_at hl 0 rfl) ?_
      refine xg_X7_19 (pc := 26) (v := .ref (ad 3)) E hw 0 rfl rfl dX7_greatest_26 ?_
      refine lv_iload_n (pc := 29) E.1 E.2.1 dX7_greatest_29 rfl (lv_at hl 3 rfl) ?_
      obtain ⟨v5, g6, hf⟩ := x_bind hf
      refine x_callV (pc := 30) (As := [.int x3]) (rest := []) (st1 := [.int v5]) (ws' := (cells7 G ad s)) E hw hl (c_X0_placeOf l G (fun k => ad (k + 3)) (g7_book s) x3 g6) xv_X7_269 xd_X0_placeOf rfl rfl ⟨Nat.le_of_ble_eq_true rfl, Nat.le_of_ble_eq_true rfl⟩ [3, 4, 5, 6] [0, 1, 2, 7, 8, 9, 10, 11, 12, 13, 14, 15, 16, 17, 18, 19, 20, 21, 22, 23, 24, 25, 26, 27, 28, 29, 30] (by decide) ⟨rfl, rfl, rfl, rfl, trivial⟩ (q0 := 3) rfl rfl rfl rfl (Nat.le_of_ble_eq_true rfl) (nw := 31) ⟨rfl, rfl, rfl, rfl, trivial⟩ ⟨⟨_, rfl, rfl⟩, ⟨_, rfl, rfl⟩, ⟨_, rfl, rfl⟩, ⟨_, rfl, rfl⟩, ⟨_, rfl, rfl⟩, ⟨_, rfl, rfl⟩, ⟨_, rfl, rfl⟩, ⟨_, rfl, rfl⟩, ⟨_, rfl, rfl⟩, ⟨_, rfl, rfl⟩, ⟨_, rfl, rfl⟩, ⟨_, rfl, rfl⟩, ⟨_, rfl, rfl⟩, ⟨_, rfl, rfl⟩, ⟨_, rfl, rfl⟩, ⟨_, rfl, rfl⟩, ⟨_, rfl, rfl⟩, ⟨_, rfl, rfl⟩, ⟨_, rfl, rfl⟩, ⟨_, rfl, rfl⟩, ⟨_, rfl, rfl⟩, ⟨_, rfl, rfl⟩, ⟨_, rfl, rfl⟩, ⟨_, rfl, rfl⟩, ⟨_, rfl, rfl⟩, ⟨_, rfl, rfl⟩, ⟨_, rfl, rfl⟩, trivial⟩ rfl rfl (by decide) (by decide) rfl dX7_greatest_30 (fun H locs hw => ?_)
      refine lv_iload_n (pc := 33) E.1 E.2.1 dX7_greatest_33 rfl (lv_at hl 2 rfl) ?_
      refine lv_icmp_ne (tgt := 39) (pc := 34) E.1 E.2.1 dX7_greatest_34 (by decide) (fun q7 => ?_) (fun q7 => ?_)
      · have hf := x_neg q7 hf
        refine lv_iinc (v := (x3 + 1)) (lv' := [(3, .int (x3 + 1)), (0, .ref (ad 0)), (1, .int x1), (2, .int x2)]) (pc := 39) E.1 E.2.1 dX7_greatest_39 hl (k := 3) rfl rfl (by decide) rfl (fun ls hl => ?_)
        refine lv_goto (tgt := 2) (pc := 42) E.1 E.2.1 dX7_greatest_42 (by decide) ?_
        exact hk2 s x1 x2 (x3 + 1) z hw (lv_sub hl [1, 2, 3, 0] rfl) hf
      · have hf := x_pos q7 hf
        refine lv_iload_n (pc := 37) E.1 E.2.1 dX7_greatest_37 rfl (lv_at hl 3 rfl) ?_
        obtain rfl := Option.some.inj hf
        exact x_reti (pc := 38) E hr hk hw dX7_greatest_38
set_option maxHeartbeats 4000000 in
set_option maxRecDepth 100000 in
theorem wl_X7_greatest_p2 {p : Program} {l : Launch} {e : Env} {sS : State} {m : MethodId} {args : Array Value} {below : List Frame} {meth : Method} {c : Code} {G : xG} {W0 : va_W} {ad : Nat → Nat}   (E : xE p sS m args c cX7_greatest 4 RX7 G (x_in W0)) (hr : meth.sig.returnType = (some .int)) (hk : meth.locks = false)  : ∀ (s' : S7) (x1' : Int32) (x2' : Int32) (x3' : Int32) (z : Int32) {H : Heap} {locs : List Loc} {ls : Array Slot}, xW G (x_in W0) sS.heap (cells7 G ad s') H locs → lv_has ls 4 [(0, .ref (ad 0)), (1, .int x1'), (2, .int x2'), (3, .int x3')] → lp_X7_greatest_p2  s' x1' x2' x3' = some z → W p l e (rm_X7_greatest) sS m args below meth c H locs 0 0 (MQ below (xQ G W0 (cells7 G ad s') (some (.int z))) args sS 0 0 (x_in W0)) (F0 m 2 ls []) := by
  intro s x1 x2 x3 z H locs ls hw hl hf
  exact x_loop_W (P := fun (q : S7 × Int32 × Int32 × Int32) (z : Int32) => ∀ {H : Heap} {locs : List Loc} {ls : Array Slot}, xW G (x_in W0) sS.heap (cells7 G ad q.1) H locs → lv_has ls 4 [(0, .ref (ad 0)), (1, .int q.2.1), (2, .int q.2.2.1), (3, .int q.2.2.2)] → W p l e (rm_X7_greatest) sS m args below meth c H locs 0 0 (MQ below (xQ G W0 (cells7 G ad q.1) (some (.int z))) args sS 0 0 (x_in W0)) (F0 m 2 ls [])) (fun k hkk q z hf H locs ls hw hl => w_X7_greatest_p2 E hr hk  (fun s x1 x2 x3 z H locs ls hw hl hf => hkk (s, x1, x2, x3) z hf hw hl) q.1 q.2.1 q.2.2.1 q.2.2.2 z hw hl hf) FU (s, x1, x2, x3) z hf hw hl
set_option maxHeartbeats 4000000 in
set_option maxRecDepth 100000 in
theorem w_X7_greatest_p0 {p : Program} {l : Launch} {e : Env} {sS : State} {m : MethodId} {args : Array Value} {below : List Frame} {meth : Method} {c : Code} {G : xG} {W0 : va_W} {ad : Nat → Nat}   (E : xE p sS m args c cX7_greatest 4 RX7 G (x_in W0)) (hr : meth.sig.returnType = (some .int)) (hk : meth.locks = false)  : ∀ (s' : S7) (x1' : Int32) (x2' : Int32) (z : Int32) {H : Heap} {locs : List Loc} {ls : Array Slot}, xW G (x_in W0) sS.heap (cells7 G ad s') H locs → lv_has ls 4 [(0, .ref (ad 0)), (1, .int x1'), (2, .int x2')] → f_X7_greatest  s' x1' x2' = some z → W p l e (rm_X7_greatest) sS m args below meth c H locs 0 0 (MQ below (xQ G W0 (cells7 G ad s') (some (.int z))) args sS 0 0 (x_in W0)) (F0 m 0 ls []) := by
  intro s x1 x2 z H locs ls hw hl hf
  unfold f_X7_greatest at hf
  refine lv_iconst (v := 0) (pc := 0) E.1 E.2.1 dX7_greatest_0 (by decide) ?_
  refine lv_istore_n (lv' := [(3, .int 0), (0, .ref (ad 0)), (1, .int x1), (2, .int x2)]) (pc := 1) E.1 E.2.1 dX7_greatest_1 rfl hl (by decide) rfl (fun ls hl => ?_)
  exact wl_X7_greatest_p2 E hr hk  s x1 x2 0 z hw (lv_sub hl [1, 2, 3, 0] rfl) hf
set_option maxHeartbeats 4000000 in
set_option maxRecDepth 100000 in
theorem c_X7_greatest (l : Launch) (G : xG) (ad : Nat → Nat) (s : S7) (x1 : Int32) (x2 : Int32) {z : Int32} (hf : f_X7_greatest s x1 x2 = some z) : xC l yX7_greatest cX7_greatest 4 (some .int) (rm_X7_greatest) G [.ref (ad 0), .int x1, .int x2] (cells7 G ad s) (some (.int z)) (cells7 G ad s) :=
  x_met (by decide) rfl (Nat.le_of_ble_eq_true rfl) (fun p e sS m below meth c E hr hk ls hl hw => w_X7_greatest_p0 E hr hk s x1 x2 z hw hl hf)
set_option maxHeartbeats 4000000 in
set_option maxRecDepth 100000 in
theorem w_X7_worst_p25 {p : Program} {l : Launch} {e : Env} {sS : State} {m : MethodId} {args : Array Value} {below : List Frame} {meth : Method} {c : Code} {G : xG} {W0 : va_W} {ad : Nat → Nat}  {k25 : S7 → Int32 → Int32 → Int32 → Option (Int32 × S7)} (E : xE p sS m args c cX7_worst 4 RX7 G (x_in W0)) (hr : meth.sig.returnType = (some .int)) (hk : meth.locks = false) (hk25 : ∀ (s' : S7) (x1' : Int32) (x2' : Int32) (x3' : Int32) (z : Int32 × S7) {H : Heap} {locs : List Loc} {ls : Array Slot}, xW G (x_in W0) sS.heap (cells7 G ad s') H locs → lv_has ls 4 [(0, .ref (ad 0)), (1, .int x1'), (2, .int x2'), (3, .int x3')] → k25  s' x1' x2' x3' = some z → W p l e (rm_X7_worst) sS m args below meth c H locs 0 0 (MQ below (xQ G W0 (cells7 G ad z.2) (some (.int z.1))) args sS 0 0 (x_in W0)) (F0 m 25 ls [])) : ∀ (s' : S7) (x1' : Int32) (x2' : Int32) (x3' : Int32) (z : Int32 × S7) {H : Heap} {locs : List Loc} {ls : Array Slot}, xW G (x_in W0) sS.heap (cells7 G ad s') H locs → lv_has ls 4 [(0, .ref (ad 0)), (1, .int x1'), (2, .int x2'), (3, .int x3')] → f_X7_worst_p25 k25 s' x1' x2' x3' = some z → W p l e (rm_X7_worst) sS m args below meth c H locs 0 0 (MQ below (xQ G W0 (cells7 G ad z.2) (some (.int z.1))) args sS 0 0 (x_in W0)) (F0 m 25 ls []) := by
  intro s x1 x2 x3 z H locs ls hw hl hf
  unfold f_X7_worst_p25 at hf
  refine lv_iload_n (pc := 25) E.1 E.2.1 dX7_worst_25 rfl (lv_at hl 3 rfl) ?_
  refine lv_aload_n (pc := 26) E.1 E.2.1 dX7_worst_26 rfl (lv_at hl 0 rfl) ?_
  refine xg_X7_19 (pc := 27) (v := .ref (ad 3)) E hw 0 rfl rfl dX7_worst_27 ?_
  refine xg_X7_80 (pc := 30) (v := .int (g0_fleets (g7_book s))) E hw 3 rfl rfl dX7_worst_30 ?_
  refine lv_icmp_ge (tgt := 83) (pc := 33) E.1 E.2.1 dX7_worst_33 (by decide) (fun q1 => ?_) (fun q1 => ?_)
  · have hf := x_pos q1 hf
    refine lv_iload_n (pc := 83) E.1 E.2.1 dX7_worst_83 rfl (lv_at hl 2 rfl) ?_
    obtain rfl := Option.some.inj hf
    exact x_reti (pc := 84) E hr hk hw dX7_worst_84
  · have hf := x_neg q1 hf
    refine lv_aload_n (pc := 36) E.1 E.2.1 dX7_worst_36 rfl (lv_at hl 0 rfl) ?_
    refine xg_X7_19 (pc := 37) (v := .ref (ad 3)) E hw 0 rfl rfl dX7_worst_37 ?_
    refine lv_iload_n (pc := 40) E.1 E.2.1 dX7_worst_40 rfl (lv_at hl 3 rfl) ?_
    refine lv_iload_n (pc := 41) E.1 E.2.1 dX7_worst_41 rfl (lv_at hl 1 rfl) ?_
    obtain ⟨v2, g3, hf⟩ := x_bind hf
    refine x_callV (pc := 42) (As := [.int x3, .int x1]) (rest := []) (st1 := [.int v2]) (ws' := (cells7 G ad s)) E hw hl (c_X0_isInsured l G (fun k => ad (k + 3)) (g7_book s) x3 x1 g3) xv_X7_112 xd_X0_isInsured rfl rfl ⟨Nat.le_of_ble_eq_true rfl, Nat.le_of_ble_eq_true rfl⟩ [3, 4, 5, 6] [0, 1, 2, 7, 8, 9, 10, 11, 12, 13, 14, 15, 16, 17, 18, 19, 20, 21, 22, 23, 24, 25, 26, 27, 28, 29, 30] (by decide) ⟨rfl, rfl, rfl, rfl, trivial⟩ (q0 := 3) rfl rfl rfl rfl (Nat.le_of_ble_eq_true rfl) (nw := 31) ⟨rfl, rfl, rfl, rfl, trivial⟩ ⟨⟨_, rfl, rfl⟩, ⟨_, rfl, rfl⟩, ⟨_, rfl, rfl⟩, ⟨_, rfl, rfl⟩, ⟨_, rfl, rfl⟩, ⟨_, rfl, rfl⟩, ⟨_, rfl, rfl⟩, ⟨_, rfl, rfl⟩, ⟨_, rfl, rfl⟩, ⟨_, rfl, rfl⟩, ⟨_, rfl, rfl⟩, ⟨_, rfl, rfl⟩, ⟨_, rfl, rfl⟩, ⟨_, rfl, rfl⟩, ⟨_, rfl, rfl⟩, ⟨_, rfl, rfl⟩, ⟨_, rfl, rfl⟩, ⟨_, rfl, rfl⟩, ⟨_, rfl, rfl⟩, ⟨_, rfl, rfl⟩, ⟨_, rfl, rfl⟩, ⟨_, rfl, rfl⟩, ⟨_, rfl, rfl⟩, ⟨_, rfl, rfl⟩, ⟨_, rfl, rfl⟩, ⟨_, rfl, rfl⟩, ⟨_, rfl, rfl⟩, trivial⟩ rfl rfl (by decide) (by decide) rfl dX7_worst_42 (fun H locs hw => ?_)
    refine lv_if_eq (tgt := 77) (pc := 45) E.1 E.2.1 dX7_worst_45 (by decide) (fun q4 => ?_) (fun q4 => ?_)
    · have hf := x_pos q4 hf
      refine lv_iinc (v := (x3 + 1)) (lv' := [(3, .int (x3 + 1)), (0, .ref (ad 0)), (1, .int x1), (2, .int x2)]) (pc := 77) E.1 E.2.1 dX7_worst_77 hl (k := 3) rfl rfl (by decide) rfl (fun ls hl => ?_)
      refine lv_goto (tgt := 25) (pc := 80) E.1 E.2.1 dX7_worst_80 (by decide) ?_
      exact hk25 s x1 x2 (x3 + 1) z hw (lv_sub hl [1, 2, 3, 0] rfl) hf
    · have hf := x_neg q4 hf
      refine lv_iload_n (pc := 48) E.1 E.2.1 dX7_worst_48 rfl (lv_at hl 2 rfl) ?_
      refine lv_bipush (v := (-2)) (pc := 49) E.1 E.2.1 dX7_worst_49 (by decide) ?_
      refine lv_icmp_eq (tgt := 75) (pc := 51) E.1 E.2.1 dX7_worst_51 (by decide) (fun q5 => ?_) (fun q5 => ?_)
      · have hf := x_pos q5 hf
        refine lv_iload_n (pc := 75) E.1 E.2.1 dX7_worst_75 rfl (lv_at hl 3 rfl) ?_
        refine lv_istore_n (lv' := [(2, .int x3), (0, .ref (ad 0)), (1, .int x1), (3, .int x3)]) (pc := 76) E.1 E.2.1 dX7_worst_76 rfl hl (by decide) rfl (fun ls hl => ?_)
        refine lv_iinc (v := (x3 + 1)) (lv' := [(3, .int (x3 + 1)), (2, .int x3), (0, .ref (ad 0)), (1, .int x1)]) (pc := 77) E.1 E.2.1 dX7_worst_77 hl (k := 3) rfl rfl (by decide) rfl (fun ls hl => ?_)
        refine lv_goto (tgt := 25) (pc := 80) E.1 E.2.1 dX7_worst_80 (by decide) ?_
        exact hk25 s x1 x3 (x3 + 1) z hw (lv_sub hl [2, 3, 1, 0] rfl) hf
      · have hf := x_neg q5 hf
        refine lv_aload_n (pc := 54) E.1 E.2.1 dX7_worst_54 rfl (lv_at hl 0 rfl) ?_
        refine xg_X7_36 (pc := 55) (v := .ref (ad 13)) E hw 0 rfl rfl dX7_worst_55 ?_
        refine lv_iload_n (pc := 58) E.1 E.2.1 dX7_worst_58 rfl (lv_at hl 3 rfl) ?_
        refine lv_iload_n (pc := 59) E.1 E.2.1 dX7_worst_59 rfl (lv_at hl 1 rfl) ?_
        obtain ⟨v6, g7, hf⟩ := x_bind hf
        refine x_callV (pc := 60) (As := [.int x3, .int x1]) (rest := []) (st1 := [.int v6]) (ws' := (cells7 G ad s)) E hw hl (c_X1_lossOf l G (fun k => ad (k + 13)) (g7_ledger s) x3 x1 g7) xv_X7_207 xd_X1_lossOf rfl rfl ⟨Nat.le_of_ble_eq_true rfl, Nat.le_of_ble_eq_true rfl⟩ [13, 14, 15, 16, 17, 18, 19, 20, 21, 22, 23, 24, 25, 26, 27] [0, 1, 2, 3, 4, 5, 6, 7, 8, 9, 10, 11, 12, 28, 29, 30] (by decide) ⟨rfl, rfl, rfl, rfl, rfl, rfl, rfl, rfl, rfl, rfl, rfl, rfl, rfl, rfl, rfl, trivial⟩ (q0 := 13) rfl rfl rfl rfl (Nat.le_of_ble_eq_true rfl) (nw := 31) ⟨rfl, rfl, rfl, rfl, rfl, rfl, rfl, rfl, rfl, rfl, rfl, rfl, rfl, rfl, rfl, trivial⟩ ⟨⟨_, rfl, rfl⟩, ⟨_, rfl, rfl⟩, ⟨_, rfl, rfl⟩, ⟨_, rfl, rfl⟩, ⟨_, rfl, rfl⟩, ⟨_, rfl, rfl⟩, ⟨_, rfl, rfl⟩, ⟨_, rfl, rfl⟩, ⟨_, rfl, rfl⟩, ⟨_, rfl, rfl⟩, ⟨_, rfl, rfl⟩, ⟨_, rfl, rfl⟩, ⟨_, rfl, rfl⟩, ⟨_, rfl, rfl⟩, ⟨_, rfl, rfl⟩, ⟨_, rfl, rfl⟩, trivial⟩ rfl rfl (by decide) (by decide) rfl dX7_worst_60 (fun H locs hw => ?_)
        refine lv_aload_n (pc := 63) E.1 E.2.1 dX7_worst_63 rfl (lv_at hl 0 rfl) ?_
        refine xg_X7_36 (pc := 64) (v := .ref (ad 13)) E hw 0 rfl rfl dX7_worst_64 ?_
        refine lv_iload_n (pc := 67) E.1 E.2.1 dX7_worst_67 rfl (lv_at hl 2 rfl) ?_
        refine lv_iload_n (pc := 68) E.1 E.2.1 dX7_worst_68 rfl (lv_at hl 1 rfl) ?_
        obtain ⟨v8, g9, hf⟩ := x_bind hf
        refine x_callV (pc := 69) (As := [.int x2, .int x1]) (rest := [.int v6]) (st1 := [.int v8, .int v6]) (ws' := (cells7 G ad s)) E hw hl (c_X1_lossOf l G (fun k => ad (k + 13)) (g7_ledger s) x2 x1 g9) xv_X7_207 xd_X1_lossOf rfl rfl ⟨Nat.le_of_ble_eq_true rfl, Nat.le_of_ble_eq_true rfl⟩ [13, 14, 15, 16, 17, 18, 19, 20, 21, 22, 23, 24, 25, 26, 27] [0, 1, 2, 3, 4, 5, 6, 7, 8, 9, 10, 11, 12, 28, 29, 30] (by decide) ⟨rfl, rfl, rfl, rfl, rfl, rfl, rfl, rfl, rfl, rfl, rfl, rfl, rfl, rfl, rfl, trivial⟩ (q0 := 13) rfl rfl rfl rfl (Nat.le_of_ble_eq_true rfl) (nw := 31) ⟨rfl, rfl, rfl, rfl, rfl, rfl, rfl, rfl, rfl, rfl, rfl, rfl, rfl, rfl, rfl, trivial⟩ ⟨⟨_, rfl, rfl⟩, ⟨_, rfl, rfl⟩, ⟨_, rfl, rfl⟩, ⟨_, rfl, rfl⟩, ⟨_, rfl, rfl⟩, ⟨_, rfl, rfl⟩, ⟨_, rfl, rfl⟩, ⟨_, rfl, rfl⟩, ⟨_, rfl, rfl⟩, ⟨_, rfl, rfl⟩, ⟨_, rfl, rfl⟩, ⟨_, rfl, rfl⟩, ⟨_, rfl, rfl⟩, ⟨_, rfl, rfl⟩, ⟨_, rfl, rfl⟩, ⟨_, rfl, rfl⟩, trivial⟩ rfl rfl (by decide) (by decide) rfl dX7_worst_69 (fun H locs hw => ?_)
        refine lv_icmp_le (tgt := 77) (pc := 72) E.1 E.2.1 dX7_worst_72 (by decide) (fun q10 => ?_) (fun q10 => ?_)
        · have hf := x_pos q10 hf
          refine lv_iinc (v := (x3 + 1)) (lv' := [(3, .int (x3 + 1)), (0, .ref (ad 0)), (1, .int x1), (2, .int x2)]) (pc := 77) E.1 E.2.1 dX7_worst_77 hl (k := 3) rfl rfl (by decide) rfl (fun ls hl => ?_)
          refine lv_goto (tgt := 25) (pc := 80) E.1 E.2.1 dX7_worst_80 (by decide) ?_
          exact hk25 s x1 x2 (x3 + 1) z hw (lv_sub hl [1, 2, 3, 0] rfl) hf
        · have hf := x_neg q10 hf
          refine lv_iload_n (pc := 75) E.1 E.2.1 dX7_worst_75 rfl (lv_at hl 3 rfl) ?_
          refine lv_istore_n (lv' := [(2, .int x3), (0, .ref (ad 0)), (1, .int x1), (3, .int x3)]) (pc := 76) E.1 E.2.1 dX7_worst_76 rfl hl (by decide) rfl (fun ls hl => ?_)
          refine lv_iinc (v := (x3 + 1)) (lv' := [(3, .int (x3 + 1)), (2, .int x3), (0, .ref (ad 0)), (1, .int x1)]) (pc := 77) E.1 E.2.1 dX7_worst_77 hl (k := 3) rfl rfl (by decide) rfl (fun ls hl => ?_)
          refine lv_goto (tgt := 25) (pc := 80) E.1 E.2.1 dX7_worst_80 (by decide) ?_
          exact hk25 s x1 x3 (x3 + 1) z hw (lv_sub hl [2, 3, 1, 0] rfl) hf
set_option maxHeartbeats 4000000 in
set_option maxRecDepth 100000 in
theorem wl_X7_worst_p25 {p : Program} {l : Launch} {e : Env} {sS : State} {m : MethodId} {args : Array Value} {below : List Frame} {meth : Method} {c : Code} {G : xG} {W0 : va_W} {ad : Nat → Nat}   (E : xE p sS m args c cX7_worst 4 RX7 G (x_in W0)) (hr : meth.sig.returnType = (some .int)) (hk : meth.locks = false)  : ∀ (s' : S7) (x1' : Int32) (x2' : Int32) (x3' : Int32) (z : Int32 × S7) {H : Heap} {locs : List Loc} {ls : Array Slot}, xW G (x_in W0) sS.heap (cells7 G ad s') H locs → lv_has ls 4 [(0, .ref (ad 0)), (1, .int x1'), (2, .int x2'), (3, .int x3')] → lp_X7_worst_p25  s' x1' x2' x3' = some z → W p l e (rm_X7_worst) sS m args below meth c H locs 0 0 (MQ below (xQ G W0 (cells7 G ad z.2) (some (.int z.1))) args sS 0 0 (x_in W0)) (F0 m 25 ls []) := by
  intro s x1 x2 x3 z H locs ls hw hl hf
  exact x_loop_W (P := fun (q : S7 × Int32 × Int32 × Int32) (z : Int32 × S7) => ∀ {H : Heap} {locs : List Loc} {ls : Array Slot}, xW G (x_in W0) sS.heap (cells7 G ad q.1) H locs → lv_has ls 4 [(0, .ref (ad 0)), (1, .int q.2.1), (2, .int q.2.2.1), (3, .int q.2.2.2)] → W p l e (rm_X7_worst) sS m args below meth c H locs 0 0 (MQ below (xQ G W0 (cells7 G ad z.2) (some (.int z.1))) args sS 0 0 (x_in W0)) (F0 m 25 ls [])) (fun k hkk q z hf H locs ls hw hl => w_X7_worst_p25 E hr hk  (fun s x1 x2 x3 z H locs ls hw hl hf => hkk (s, x1, x2, x3) z hf hw hl) q.1 q.2.1 q.2.2.1 q.2.2.2 z hw hl hf) FU (s, x1, x2, x3) z hf hw hl
set_option maxHeartbeats 4000000 in
set_option maxRecDepth 100000 in
theorem w_X7_worst_p0 {p : Program} {l : Launch} {e : Env} {sS : State} {m : MethodId} {args : Array Value} {below : List Frame} {meth : Method} {c : Code} {G : xG} {W0 : va_W} {ad : Nat → Nat}   (E : xE p sS m args c cX7_worst 4 RX7 G (x_in W0)) (hr : meth.sig.returnType = (some .int)) (hk : meth.locks = false)  : ∀ (s' : S7) (x1' : Int32) (z : Int32 × S7) {H : Heap} {locs : List Loc} {ls : Array Slot}, xW G (x_in W0) sS.heap (cells7 G ad s') H locs → lv_has ls 4 [(0, .ref (ad 0)), (1, .int x1')] → f_X7_worst  s' x1' = some z → W p l e (rm_X7_worst) sS m args below meth c H locs 0 0 (MQ below (xQ G W0 (cells7 G ad z.2) (some (.int z.1))) args sS 0 0 (x_in W0)) (F0 m 0 ls []) := by
  intro s x1 z H locs ls hw hl hf
  unfold f_X7_worst at hf
  refine lv_iload_n (pc := 0) E.1 E.2.1 dX7_worst_0 rfl (lv_at hl 1 rfl) ?_
  obtain ⟨v1, g2, hf⟩ := x_bind hf
  refine x_callS0 (pc := 1) (As := [.int x1]) (rest := []) (st1 := [.int v1]) E hw hl (c_X7_isYear l G  x1 g2) xs_X7_109 xd_X7_isYear rfl rfl ⟨Nat.le_of_ble_eq_true rfl, Nat.le_of_ble_eq_true rfl⟩ rfl rfl (Nat.le_of_ble_eq_true rfl) rfl dX7_worst_1 (fun H locs hw => ?_)
  refine lv_if_ne (tgt := 9) (pc := 4) E.1 E.2.1 dX7_worst_4 (by decide) (fun q3 => ?_) (fun q3 => ?_)
  · have hf := x_neg q3 hf
    refine lv_aload_n (pc := 9) E.1 E.2.1 dX7_worst_9 rfl (lv_at hl 0 rfl) ?_
    refine xg_X7_36 (pc := 10) (v := .ref (ad 13)) E hw 0 rfl rfl dX7_worst_10 ?_
    refine lv_aload_n (pc := 13) E.1 E.2.1 dX7_worst_13 rfl (lv_at hl 0 rfl) ?_
    refine xg_X7_19 (pc := 14) (v := .ref (ad 3)) E hw 0 rfl rfl dX7_worst_14 ?_
    obtain ⟨v4, g5, hf⟩ := x_bind hf
    refine x_callV (pc := 17) (As := [.ref (ad 3)]) (rest := []) (st1 := []) (ws' := (cells7c G ad (g7_tape s) (g7_book s) (g7_trial s) (g7_past s) v4 (g7_pen s) (g7_told s) (g7_ratesNow s))) E hw hl (c_X1_reckon l G (fun k => ad (k + 13)) (fun k => ad (k + 3)) (g7_ledger s) (g7_book s) g5) xv_X7_186 xd_X1_reckon rfl rfl ⟨Nat.le_of_ble_eq_true rfl, Nat.le_of_ble_eq_true rfl⟩ [13, 14, 15, 16, 17, 18, 19, 20, 21, 22, 23, 24, 25, 26, 27, 3, 4, 5, 6] [0, 1, 2, 7, 8, 9, 10, 11, 12, 28, 29, 30] (by decide) ⟨rfl, rfl, rfl, rfl, rfl, rfl, rfl, rfl, rfl, rfl, rfl, rfl, rfl, rfl, rfl, rfl, rfl, rfl, rfl, trivial⟩ (q0 := 13) rfl rfl rfl rfl (Nat.le_of_ble_eq_true rfl) (nw := 31) ⟨rfl, rfl, rfl, rfl, rfl, rfl, rfl, rfl, rfl, rfl, rfl, rfl, rfl, rfl, rfl, rfl, rfl, rfl, rfl, trivial⟩ ⟨⟨_, rfl, rfl⟩, ⟨_, rfl, rfl⟩, ⟨_, rfl, rfl⟩, ⟨_, rfl, rfl⟩, ⟨_, rfl, rfl⟩, ⟨_, rfl, rfl⟩, ⟨_, rfl, rfl⟩, ⟨_, rfl, rfl⟩, ⟨_, rfl, rfl⟩, ⟨_, rfl, rfl⟩, ⟨_, rfl, rfl⟩, ⟨_, rfl, rfl⟩, trivial⟩ rfl rfl (by decide) (by decide) rfl dX7_worst_17 (fun H locs hw => ?_)
    refine lv_bipush (v := (-2)) (pc := 20) E.1 E.2.1 dX7_worst_20 (by decide) ?_
    refine lv_istore_n (lv' := [(2, .int (-2)), (0, .ref (ad 0)), (1, .int x1)]) (pc := 22) E.1 E.2.1 dX7_worst_22 rfl hl (by decide) rfl (fun ls hl => ?_)
    refine lv_iconst (v := 0) (pc := 23) E.1 E.2.1 dX7_worst_23 (by decide) ?_
    refine lv_istore_n (lv' := [(3, .int 0), (2, .int (-2)), (0, .ref (ad 0)), (1, .int x1)]) (pc := 24) E.1 E.2.1 dX7_worst_24 rfl hl (by decide) rfl (fun ls hl => ?_)
    exact wl_X7_worst_p25 E hr hk  (u7_ledger s v4) x1 (-2) 0 z hw (lv_sub hl [2, 3, 1, 0] rfl) hf
  · have hf := x_pos q3 hf
    refine lv_iconst (v := (-1)) (pc := 7) E.1 E.2.1 dX7_worst_7 (by decide) ?_
    obtain rfl := Option.some.inj hf
    exact x_reti (pc := 8) E hr hk hw dX7_worst_8
set_option maxHeartbeats 4000000 in
set_option maxRecDepth 100000 in
theorem c_X7_worst (l : Launch) (G : xG) (ad : Nat → Nat) (s : S7) (x1 : Int32) {z : Int32 × S7} (hf : f_X7_worst s x1 = some z) : xC l yX7_worst cX7_worst 4 (some .int) (rm_X7_worst) G [.ref (ad 0), .int x1] (cells7 G ad s) (some (.int z.1)) (cells7 G ad z.2) :=
  x_met (by decide) rfl (Nat.le_of_ble_eq_true rfl) (fun p e sS m below meth c E hr hk ls hl hw => w_X7_worst_p0 E hr hk s x1 z hw hl hf)
set_option maxHeartbeats 4000000 in
set_option maxRecDepth 100000 in
theorem w_X7_dearestOf_p25 {p : Program} {l : Launch} {e : Env} {sS : State} {m : MethodId} {args : Array Value} {below : List Frame} {meth : Method} {c : Code} {G : xG} {W0 : va_W} {ad : Nat → Nat}  {k25 : S7 → Int32 → Int32 → Int32 → Option (Int32 × S7)} (E : xE p sS m args c cX7_dearestOf 4 RX7 G (x_in W0)) (hr : meth.sig.returnType = (some .int)) (hk : meth.locks = false) (hk25 : ∀ (s' : S7) (x1' : Int32) (x2' : Int32) (x3' : Int32) (z : Int32 × S7) {H : Heap} {locs : List Loc} {ls : Array Slot}, xW G (x_in W0) sS.heap (cells7 G ad s') H locs → lv_has ls 4 [(0, .ref (ad 0)), (1, .int x1'), (2, .int x2'), (3, .int x3')] → k25  s' x1' x2' x3' = some z → W p l e (rm_X7_dearestOf) sS m args below meth c H locs 0 0 (MQ below (xQ G W0 (cells7 G ad z.2) (some (.int z.1))) args sS 0 0 (x_in W0)) (F0 m 25 ls [])) : ∀ (s' : S7) (x1' : Int32) (x2' : Int32) (x3' : Int32) (z : Int32 × S7) {H : Heap} {locs : List Loc} {ls : Array Slot}, xW G (x_in W0) sS.heap (cells7 G ad s') H locs → lv_has ls 4 [(0, .ref (ad 0)), (1, .int x1'), (2, .int x2'), (3, .int x3')] → f_X7_dearestOf_p25 k25 s' x1' x2' x3' = some z → W p l e (rm_X7_dearestOf) sS m args below meth c H locs 0 0 (MQ below (xQ G W0 (cells7 G ad z.2) (some (.int z.1))) args sS 0 0 (x_in W0)) (F0 m 25 ls []) := by
  intro s x1 x2 x3 z H locs ls hw hl hf
  unfold f_X7_dearestOf_p25 at hf
  refine lv_iload_n (pc := 25) E.1 E.2.1 dX7_dearestOf_25 rfl (lv_at hl 3 rfl) ?_
  refine lv_aload_n (pc := 26) E.1 E.2.1 dX7_dearestOf_26 rfl (lv_at hl 0 rfl) ?_
  refine xg_X7_19 (pc := 27) (v := .ref (ad 3)) E hw 0 rfl rfl dX7_dearestOf_27 ?_
  refine xg_X7_80 (pc := 30) (v := .int (g0_fleets (g7_book s))) E hw 3 rfl rfl dX7_dearestOf_30 ?_
  refine lv_icmp_ge (tgt := 85) (pc := 33) E.1 E.2.1 dX7_dearestOf_33 (by decide) (fun q1 => ?_) (fun q1 => ?_)
  · have hf := x_pos q1 hf
    refine lv_iload_n (pc := 85) E.1 E.2.1 dX7_dearestOf_85 rfl (lv_at hl 2 rfl) ?_
    obtain rfl := Option.some.inj hf
    exact x_reti (pc := 86) E hr hk hw dX7_dearestOf_86
  · have hf := x_neg q1 hf
    refine lv_aload_n (pc := 36) E.1 E.2.1 dX7_dearestOf_36 rfl (lv_at hl 0 rfl) ?_
    refine xg_X7_19 (pc := 37) (v := .ref (ad 3)) E hw 0 rfl rfl dX7_dearestOf_37 ?_
    refine lv_iload_n (pc := 40) E.1 E.2.1 dX7_dearestOf_40 rfl (lv_at hl 3 rfl) ?_
    obtain ⟨v2, g3, hf⟩ := x_bind hf
    refine x_callV (pc := 41) (As := [.int x3]) (rest := []) (st1 := [.int v2]) (ws' := (cells7 G ad s)) E hw hl (c_X0_classOf l G (fun k => ad (k + 3)) (g7_book s) x3 g3) xv_X7_101 xd_X0_classOf rfl rfl ⟨Nat.le_of_ble_eq_true rfl, Nat.le_of_ble_eq_true rfl⟩ [3, 4, 5, 6] [0, 1, 2, 7, 8, 9, 10, 11, 12, 13, 14, 15, 16, 17, 18, 19, 20, 21, 22, 23, 24, 25, 26, 27, 28, 29, 30] (by decide) ⟨rfl, rfl, rfl, rfl, trivial⟩ (q0 := 3) rfl rfl rfl rfl (Nat.le_of_ble_eq_true rfl) (nw := 31) ⟨rfl, rfl, rfl, rfl, trivial⟩ ⟨⟨_, rfl, rfl⟩, ⟨_, rfl, rfl⟩, ⟨_, rfl, rfl⟩, ⟨_, rfl, rfl⟩, ⟨_, rfl, rfl⟩, ⟨_, rfl, rfl⟩, ⟨_, rfl, rfl⟩, ⟨_, rfl, rfl⟩, ⟨_, rfl, rfl⟩, ⟨_, rfl, rfl⟩, ⟨_, rfl, rfl⟩, ⟨_, rfl, rfl⟩, ⟨_, rfl, rfl⟩, ⟨_, rfl, rfl⟩, ⟨_, rfl, rfl⟩, ⟨_, rfl, rfl⟩, ⟨_, rfl, rfl⟩, ⟨_, rfl, rfl⟩, ⟨_, rfl, rfl⟩, ⟨_, rfl, rfl⟩, ⟨_, rfl, rfl⟩, ⟨_, rfl, rfl⟩, ⟨_, rfl, rfl⟩, ⟨_, rfl, rfl⟩, ⟨_, rfl, rfl⟩, ⟨_, rfl, rfl⟩, ⟨_, rfl, rfl⟩, trivial⟩ rfl rfl (by decide) (by decide) rfl dX7_dearestOf_41 (fun H locs hw => ?_)
    refine lv_iload_n (pc := 44) E.1 E.2.1 dX7_dearestOf_44 rfl (lv_at hl 1 rfl) ?_
    refine lv_icmp_ne (tgt := 79) (pc := 45) E.1 E.2.1 dX7_dearestOf_45 (by decide) (fun q4 => ?_) (fun q4 => ?_)
    · have hf := x_neg q4 hf
      refine lv_iinc (v := (x3 + 1)) (lv' := [(3, .int (x3 + 1)), (0, .ref (ad 0)), (1, .int x1), (2, .int x2)]) (pc := 79) E.1 E.2.1 dX7_dearestOf_79 hl (k := 3) rfl rfl (by decide) rfl (fun ls hl => ?_)
      refine lv_goto (tgt := 25) (pc := 82) E.1 E.2.1 dX7_dearestOf_82 (by decide) ?_
      exact hk25 s x1 x2 (x3 + 1) z hw (lv_sub hl [1, 2, 3, 0] rfl) hf
    · have hf := x_pos q4 hf
      refine lv_aload_n (pc := 48) E.1 E.2.1 dX7_dearestOf_48 rfl (lv_at hl 0 rfl) ?_
      refine xg_X7_36 (pc := 49) (v := .ref (ad 13)) E hw 0 rfl rfl dX7_dearestOf_49 ?_
      refine lv_iload_n (pc := 52) E.1 E.2.1 dX7_dearestOf_52 rfl (lv_at hl 3 rfl) ?_
      obtain ⟨v5, g6, hf⟩ := x_bind hf
      refine x_callV (pc := 53) (As := [.int x3]) (rest := []) (st1 := [.int v5]) (ws' := (cells7 G ad s)) E hw hl (c_X1_isRated l G (fun k => ad (k + 13)) (g7_ledger s) x3 g6) xv_X7_260 xd_X1_isRated rfl rfl ⟨Nat.le_of_ble_eq_true rfl, Nat.le_of_ble_eq_true rfl⟩ [13, 14, 15, 16, 17, 18, 19, 20, 21, 22, 23, 24, 25, 26, 27] [0, 1, 2, 3, 4, 5, 6, 7, 8, 9, 10, 11, 12, 28, 29, 30] (by decide) ⟨rfl, rfl, rfl, rfl, rfl, rfl, rfl, rfl, rfl, rfl, rfl, rfl, rfl, rfl, rfl, trivial⟩ (q0 := 13) rfl rfl rfl rfl (Nat.le_of_ble_eq_true rfl) (nw := 31) ⟨rfl, rfl, rfl, rfl, rfl, rfl, rfl, rfl, rfl, rfl, rfl, rfl, rfl, rfl, rfl, trivial⟩ ⟨⟨_, rfl, rfl⟩, ⟨_, rfl, rfl⟩, ⟨_, rfl, rfl⟩, ⟨_, rfl, rfl⟩, ⟨_, rfl, rfl⟩, ⟨_, rfl, rfl⟩, ⟨_, rfl, rfl⟩, ⟨_, rfl, rfl⟩, ⟨_, rfl, rfl⟩, ⟨_, rfl, rfl⟩, ⟨_, rfl, rfl⟩, ⟨_, rfl, rfl⟩, ⟨_, rfl, rfl⟩, ⟨_, rfl, rfl⟩, ⟨_, rfl, rfl⟩, ⟨_, rfl, rfl⟩, trivial⟩ rfl rfl (by decide) (by decide) rfl dX7_dearestOf_53 (fun H locs hw => ?_)
      refine lv_if_eq (tgt := 79) (pc := 56) E.1 E.2.1 dX7_dearestOf_56 (by decide) (fun q7 => ?_) (fun q7 => ?_)
      · have hf := x_pos q7 hf
        refine lv_iinc (v := (x3 + 1)) (lv' := [(3, .int (x3 + 1)), (0, .ref (ad 0)), (1, .int x1), (2, .int x2)]) (pc := 79) E.1 E.2.1 dX7_dearestOf_79 hl (k := 3) rfl rfl (by decide) rfl (fun ls hl => ?_)
        refine lv_goto (tgt := 25) (pc := 82) E.1 E.2.1 dX7_dearestOf_82 (by decide) ?_
        exact hk25 s x1 x2 (x3 + 1) z hw (lv_sub hl [1, 2, 3, 0] rfl) hf
      · have hf := x_neg q7 hf
        refine lv_iload_n (pc := 59) E.1 E.2.1 dX7_dearestOf_59 rfl (lv_at hl 2 rfl) ?_
        refine lv_bipush (v := (-2)) (pc := 60) E.1 E.2.1 dX7_dearestOf_60 (by decide) ?_
        refine lv_icmp_eq (tgt := 77) (pc := 62) E.1 E.2.1 dX7_dearestOf_62 (by decide) (fun q8 => ?_) (fun q8 => ?_)
        · have hf := x_pos q8 hf
          refine lv_iload_n (pc := 77) E.1 E.2.1 dX7_dearestOf_77 rfl (lv_at hl 3 rfl) ?_
          refine lv_istore_n (lv' := [(2, .int x3), (0, .ref (ad 0)), (1, .int x1), (3, .int x3)]) (pc := 78) E.1 E.2.1 dX7_dearestOf_78 rfl hl (by decide) rfl (fun ls hl => ?_)
          refine lv_iinc (v := (x3 + 1)) (lv' := [(3, .int (x3 + 1)), (2, .int x3), (0, .ref (ad 0)), (1, .int x1)]) (pc := 79) E.1 E.2.1 dX7_dearestOf_79 hl (k := 3) rfl rfl (by decide) rfl (fun ls hl => ?_)
          refine lv_goto (tgt := 25) (pc := 82) E.1 E.2.1 dX7_dearestOf_82 (by decide) ?_
          exact hk25 s x1 x3 (x3 + 1) z hw (lv_sub hl [2, 3, 1, 0] rfl) hf
        · have hf := x_neg q8 hf
          refine lv_aload_n (pc := 65) E.1 E.2.1 dX7_dearestOf_65 rfl (lv_at hl 0 rfl) ?_
          refine xg_X7_36 (pc := 66) (v := .ref (ad 13)) E hw 0 rfl rfl dX7_dearestOf_66 ?_
          refine lv_iload_n (pc := 69) E.1 E.2.1 dX7_dearestOf_69 rfl (lv_at hl 3 rfl) ?_
          refine lv_iload_n (pc := 70) E.1 E.2.1 dX7_dearestOf_70 rfl (lv_at hl 2 rfl) ?_
          obtain ⟨v9, g10, hf⟩ := x_bind hf
          refine x_callV (pc := 71) (As := [.int x3, .int x2]) (rest := []) (st1 := [.int v9.1]) (ws' := (cells7c G ad (g7_tape s) (g7_book s) (g7_trial s) (g7_past s) v9.2 (g7_pen s) (g7_told s) (g7_ratesNow s))) E hw hl (c_X1_compareRates l G (fun k => ad (k + 13)) (g7_ledger s) x3 x2 g10) xv_X7_270 xd_X1_compareRates rfl rfl ⟨Nat.le_of_ble_eq_true rfl, Nat.le_of_ble_eq_true rfl⟩ [13, 14, 15, 16, 17, 18, 19, 20, 21, 22, 23, 24, 25, 26, 27] [0, 1, 2, 3, 4, 5, 6, 7, 8, 9, 10, 11, 12, 28, 29, 30] (by decide) ⟨rfl, rfl, rfl, rfl, rfl, rfl, rfl, rfl, rfl, rfl, rfl, rfl, rfl, rfl, rfl, trivial⟩ (q0 := 13) rfl rfl rfl rfl (Nat.le_of_ble_eq_true rfl) (nw := 31) ⟨rfl, rfl, rfl, rfl, rfl, rfl, rfl, rfl, rfl, rfl, rfl, rfl, rfl, rfl, rfl, trivial⟩ ⟨⟨_, rfl, rfl⟩, ⟨_, rfl, rfl⟩, ⟨_, rfl, rfl⟩, ⟨_, rfl, rfl⟩, ⟨_, rfl, rfl⟩, ⟨_, rfl, rfl⟩, ⟨_, rfl, rfl⟩, ⟨_, rfl, rfl⟩, ⟨_, rfl, rfl⟩, ⟨_, rfl, rfl⟩, ⟨_, rfl, rfl⟩, ⟨_, rfl, rfl⟩, ⟨_, rfl, rfl⟩, ⟨_, rfl, rfl⟩, ⟨_, rfl, rfl⟩, ⟨_, rfl, rfl⟩, trivial⟩ rfl rfl (by decide) (by decide) rfl dX7_dearestOf_71 (fun H locs hw => ?_)
          refine lv_if_le (tgt := 79) (pc := 74) E.1 E.2.1 dX7_dearestOf_74 (by decide) (fun q11 => ?_) (fun q11 => ?_)
          · have hf := x_pos q11 hf
            refine lv_iinc (v := (x3 + 1)) (lv' := [(3, .int (x3 + 1)), (0, .ref (ad 0)), (1, .int x1), (2, .int x2)]) (pc := 79) E.1 E.2.1 dX7_dearestOf_79 hl (k := 3) rfl rfl (by decide) rfl (fun ls hl => ?_)
            refine lv_goto (tgt := 25) (pc := 82) E.1 E.2.1 dX7_dearestOf_82 (by decide) ?_
            exact hk25 (u7_ledger s v9.2) x1 x2 (x3 + 1) z hw (lv_sub hl [1, 2, 3, 0] rfl) hf
          · have hf := x_neg q11 hf
            refine lv_iload_n (pc := 77) E.1 E.2.1 dX7_dearestOf_77 rfl (lv_at hl 3 rfl) ?_
            refine lv_istore_n (lv' := [(2, .int x3), (0, .ref (ad 0)), (1, .int x1), (3, .int x3)]) (pc := 78) E.1 E.2.1 dX7_dearestOf_78 rfl hl (by decide) rfl (fun ls hl => ?_)
            refine lv_iinc (v := (x3 + 1)) (lv' := [(3, .int (x3 + 1)), (2, .int x3), (0, .ref (ad 0)), (1, .int x1)]) (pc := 79) E.1 E.2.1 dX7_dearestOf_79 hl (k := 3) rfl rfl (by decide) rfl (fun ls hl => ?_)
            refine lv_goto (tgt := 25) (pc := 82) E.1 E.2.1 dX7_dearestOf_82 (by decide) ?_
            exact hk25 (u7_ledger s v9.2) x1 x3 (x3 + 1) z hw (lv_sub hl [2, 3, 1, 0] rfl) hf
set_option maxHeartbeats 4000000 in
set_option maxRecDepth 100000 in
theorem wl_X7_dearestOf_p25 {p : Program} {l : Launch} {e : Env} {sS : State} {m : MethodId} {args : Array Value} {below : List Frame} {meth : Method} {c : Code} {G : xG} {W0 : va_W} {ad : Nat → Nat}   (E : xE p sS m args c cX7_dearestOf 4 RX7 G (x_in W0)) (hr : meth.sig.returnType = (some .int)) (hk : meth.locks = false)  : ∀ (s' : S7) (x1' : Int32) (x2' : Int32) (x3' : Int32) (z : Int32 × S7) {H : Heap} {locs : List Loc} {ls : Array Slot}, xW G (x_in W0) sS.heap (cells7 G ad s') H locs → lv_has ls 4 [(0, .ref (ad 0)), (1, .int x1'), (2, .int x2'), (3, .int x3')] → lp_X7_dearestOf_p25  s' x1' x2' x3' = some z → W p l e (rm_X7_dearestOf) sS m args below meth c H locs 0 0 (MQ below (xQ G W0 (cells7 G ad z.2) (some (.int z.1))) args sS 0 0 (x_in W0)) (F0 m 25 ls []) := by
  intro s x1 x2 x3 z H locs ls hw hl hf
  exact x_loop_W (P := fun (q : S7 × Int32 × Int32 × Int32) (z : Int32 × S7) => ∀ {H : Heap} {locs : List Loc} {ls : Array Slot}, xW G (x_in W0) sS.heap (cells7 G ad q.1) H locs → lv_has ls 4 [(0, .ref (ad 0)), (1, .int q.2.1), (2, .int q.2.2.1), (3, .int q.2.2.2)] → W p l e (rm_X7_dearestOf) sS m args below meth c H locs 0 0 (MQ below (xQ G W0 (cells7 G ad z.2) (some (.int z.1))) args sS 0 0 (x_in W0)) (F0 m 25 ls [])) (fun k hkk q z hf H locs ls hw hl => w_X7_dearestOf_p25 E hr hk  (fun s x1 x2 x3 z H locs ls hw hl hf => hkk (s, x1, x2, x3) z hf hw hl) q.1 q.2.1 q.2.2.1 q.2.2.2 z hw hl hf) FU (s, x1, x2, x3) z hf hw hl
set_option maxHeartbeats 4000000 in
set_option maxRecDepth 100000 in
theorem w_X7_dearestOf_p0 {p : Program} {l : Launch} {e : Env} {sS : State} {m : MethodId} {args : Array Value} {below : List Frame} {meth : Method} {c : Code} {G : xG} {W0 : va_W} {ad : Nat → Nat}   (E : xE p sS m args c cX7_dearestOf 4 RX7 G (x_in W0)) (hr : meth.sig.returnType = (some .int)) (hk : meth.locks = false)  : ∀ (s' : S7) (x1' : Int32) (z : Int32 × S7) {H : Heap} {locs : List Loc} {ls : Array Slot}, xW G (x_in W0) sS.heap (cells7 G ad s') H locs → lv_has ls 4 [(0, .ref (ad 0)), (1, .int x1')] → f_X7_dearestOf  s' x1' = some z → W p l e (rm_X7_dearestOf) sS m args below meth c H locs 0 0 (MQ below (xQ G W0 (cells7 G ad z.2) (some (.int z.1))) args sS 0 0 (x_in W0)) (F0 m 0 ls []) := by
  intro s x1 z H locs ls hw hl hf
  unfold f_X7_dearestOf at hf
  refine lv_iload_n (pc := 0) E.1 E.2.1 dX7_dearestOf_0 rfl (lv_at hl 1 rfl) ?_
  obtain ⟨v1, g2, hf⟩ := x_bind hf
  refine x_callS0 (pc := 1) (As := [.int x1]) (rest := []) (st1 := [.int v1]) E hw hl (c_X7_isClass l G  x1 g2) xs_X7_84 xd_X7_isClass rfl rfl ⟨Nat.le_of_ble_eq_true rfl, Nat.le_of_ble_eq_true rfl⟩ rfl rfl (Nat.le_of_ble_eq_true rfl) rfl dX7_dearestOf_1 (fun H locs hw => ?_)
  refine lv_if_ne (tgt := 9) (pc := 4) E.1 E.2.1 dX7_dearestOf_4 (by decide) (fun q3 => ?_) (fun q3 => ?_)
  · have hf := x_neg q3 hf
    refine lv_aload_n (pc := 9) E.1 E.2.1 dX7_dearestOf_9 rfl (lv_at hl 0 rfl) ?_
    refine xg_X7_36 (pc := 10) (v := .ref (ad 13)) E hw 0 rfl rfl dX7_dearestOf_10 ?_
    refine lv_aload_n (pc := 13) E.1 E.2.1 dX7_dearestOf_13 rfl (lv_at hl 0 rfl) ?_
    refine xg_X7_19 (pc := 14) (v := .ref (ad 3)) E hw 0 rfl rfl dX7_dearestOf_14 ?_
    obtain ⟨v4, g5, hf⟩ := x_bind hf
    refine x_callV (pc := 17) (As := [.ref (ad 3)]) (rest := []) (st1 := []) (ws' := (cells7c G ad (g7_tape s) (g7_book s) (g7_trial s) (g7_past s) v4 (g7_pen s) (g7_told s) (g7_ratesNow s))) E hw hl (c_X1_reckon l G (fun k => ad (k + 13)) (fun k => ad (k + 3)) (g7_ledger s) (g7_book s) g5) xv_X7_186 xd_X1_reckon rfl rfl ⟨Nat.le_of_ble_eq_true rfl, Nat.le_of_ble_eq_true rfl⟩ [13, 14, 15, 16, 17, 18, 19, 20, 21, 22, 23, 24, 25, 26, 27, 3, 4, 5, 6] [0, 1, 2, 7, 8, 9, 10, 11, 12, 28, 29, 30] (by decide) ⟨rfl, rfl, rfl, rfl, rfl, rfl, rfl, rfl, rfl, rfl, rfl, rfl, rfl, rfl, rfl, rfl, rfl, rfl, rfl, trivial⟩ (q0 := 13) rfl rfl rfl rfl (Nat.le_of_ble_eq_true rfl) (nw := 31) ⟨rfl, rfl, rfl, rfl, rfl, rfl, rfl, rfl, rfl, rfl, rfl, rfl, rfl, rfl, rfl, rfl, rfl, rfl, rfl, trivial⟩ ⟨⟨_, rfl, rfl⟩, ⟨_, rfl, rfl⟩, ⟨_, rfl, rfl⟩, ⟨_, rfl, rfl⟩, ⟨_, rfl, rfl⟩, ⟨_, rfl, rfl⟩, ⟨_, rfl, rfl⟩, ⟨_, rfl, rfl⟩, ⟨_, rfl, rfl⟩, ⟨_, rfl, rfl⟩, ⟨_, rfl, rfl⟩, ⟨_, rfl, rfl⟩, trivial⟩ rfl rfl (by decide) (by decide) rfl dX7_dearestOf_17 (fun H locs hw => ?_)
    refine lv_bipush (v := (-2)) (pc := 20) E.1 E.2.1 dX7_dearestOf_20 (by decide) ?_
    refine lv_istore_n (lv' := [(2, .int (-2)), (0, .ref (ad 0)), (1, .int x1)]) (pc := 22) E.1 E.2.1 dX7_dearestOf_22 rfl hl (by decide) rfl (fun ls hl => ?_)
    refine lv_iconst (v := 0) (pc := 23) E.1 E.2.1 dX7_dearestOf_23 (by decide) ?_
    refine lv_istore_n (lv' := [(3, .int 0), (2, .int (-2)), (0, .ref (ad 0)), (1, .int x1)]) (pc := 24) E.1 E.2.1 dX7_dearestOf_24 rfl hl (by decide) rfl (fun ls hl => ?_)
    exact wl_X7_dearestOf_p25 E hr hk  (u7_ledger s v4) x1 (-2) 0 z hw (lv_sub hl [2, 3, 1, 0] rfl) hf
  · have hf := x_pos q3 hf
    refine lv_iconst (v := (-1)) (pc := 7) E.1 E.2.1 dX7_dearestOf_7 (by decide) ?_
    obtain rfl := Option.some.inj hf
    exact x_reti (pc := 8) E hr hk hw dX7_dearestOf_8
set_option maxHeartbeats 4000000 in
set_option maxRecDepth 100000 in
theorem c_X7_dearestOf (l : Launch) (G : xG) (ad : Nat → Nat) (s : S7) (x1 : Int32) {z : Int32 × S7} (hf : f_X7_dearestOf s x1 = some z) : xC l yX7_dearestOf cX7_dearestOf 4 (some .int) (rm_X7_dearestOf) G [.ref (ad 0), .int x1] (cells7 G ad s) (some (.int z.1)) (cells7 G ad z.2) :=
  x_met (by decide) rfl (Nat.le_of_ble_eq_true rfl) (fun p e sS m below meth c E hr hk ls hl hw => w_X7_dearestOf_p0 E hr hk s x1 z hw hl hf)
set_option maxHeartbeats 4000000 in
set_option maxRecDepth 100000 in
theorem w_X7_claimsIn_p0 {p : Program} {l : Launch} {e : Env} {sS : State} {m : MethodId} {args : Array Value} {below : List Frame} {meth : Method} {c : Code} {G : xG} {W0 : va_W} {ad : Nat → Nat}   (E : xE p sS m args c cX7_claimsIn 2 RX7 G (x_in W0)) (hr : meth.sig.returnType = (some .int)) (hk : meth.locks = false)  : ∀ (s' : S7) (x1' : Int32) (z : Int32) {H : Heap} {locs : List Loc} {ls : Array Slot}, xW G (x_in W0) sS.heap (cells7 G ad s') H locs → lv_has ls 2 [(0, .ref (ad 0)), (1, .int x1')] → f_X7_claimsIn  s' x1' = some z → W p l e (rm_X7_claimsIn) sS m args below meth c H locs 0 0 (MQ below (xQ G W0 (cells7 G ad s') (some (.int z))) args sS 0 0 (x_in W0)) (F0 m 0 ls []) := by
  intro s x1 z H locs ls hw hl hf
  unfold f_X7_claimsIn at hf
  refine lv_iload_n (pc := 0) E.1 E.2.1 dX7_claimsIn_0 rfl (lv_at hl 1 rfl) ?_
  obtain ⟨v1, g2, hf⟩ := x_bind hf
  refine x_callS0 (pc := 1) (As := [.int x1]) (rest := []) (st1 := [.int v1]) E hw hl (c_X7_isYear l G  x1 g2) xs_X7_109 xd_X7_isYear rfl rfl ⟨Nat.le_of_ble_eq_true rfl, Nat.le_of_ble_eq_true rfl⟩ rfl rfl (Nat.le_of_ble_eq_true rfl) rfl dX7_claimsIn_1 (fun H locs hw => ?_)
  refine lv_if_eq (tgt := 18) (pc := 4) E.1 E.2.1 dX7_claimsIn_4 (by decide) (fun q3 => ?_) (fun q3 => ?_)
  · have hf := x_pos q3 hf
    refine lv_iconst (v := (-1)) (pc := 18) E.1 E.2.1 dX7_claimsIn_18 (by decide) ?_
    obtain rfl := Option.some.inj hf
    exact x_reti (pc := 19) E hr hk hw dX7_claimsIn_19
  · have hf := x_neg q3 hf
    refine lv_aload_n (pc := 7) E.1 E.2.1 dX7_claimsIn_7 rfl (lv_at hl 0 rfl) ?_
    refine xg_X7_19 (pc := 8) (v := .ref (ad 3)) E hw 0 rfl rfl dX7_claimsIn_8 ?_
    refine lv_iload_n (pc := 11) E.1 E.2.1 dX7_claimsIn_11 rfl (lv_at hl 1 rfl) ?_
    obtain ⟨v4, g5, hf⟩ := x_bind hf
    refine x_callV (pc := 12) (As := [.int x1]) (rest := []) (st1 := [.int v4]) (ws' := (cells7 G ad s)) E hw hl (c_X0_claimsOfYear l G (fun k => ad (k + 3)) (g7_book s) x1 g5) xv_X7_273 xd_X0_claimsOfYear rfl rfl ⟨Nat.le_of_ble_eq_true rfl, Nat.le_of_ble_eq_true rfl⟩ [3, 4, 5, 6] [0, 1, 2, 7, 8, 9, 10, 11, 12, 13, 14, 15, 16, 17, 18, 19, 20, 21, 22, 23, 24, 25, 26, 27, 28, 29, 30] (by decide) ⟨rfl, rfl, rfl, rfl, trivial⟩ (q0 := 3) rfl rfl rfl rfl (Nat.le_of_ble_eq_true rfl) (nw := 31) ⟨rfl, rfl, rfl, rfl, trivial⟩ ⟨⟨_, rfl, rfl⟩, ⟨_, rfl, rfl⟩, ⟨_, rfl, rfl⟩, ⟨_, rfl, rfl⟩, ⟨_, rfl, rfl⟩, ⟨_, rfl, rfl⟩, ⟨_, rfl, rfl⟩, ⟨_, rfl, rfl⟩, ⟨_, rfl, rfl⟩, ⟨_, rfl, rfl⟩, ⟨_, rfl, rfl⟩, ⟨_, rfl, rfl⟩, ⟨_, rfl, rfl⟩, ⟨_, rfl, rfl⟩, ⟨_, rfl, rfl⟩, ⟨_, rfl, rfl⟩, ⟨_, rfl, rfl⟩, ⟨_, rfl, rfl⟩, ⟨_, rfl, rfl⟩, ⟨_, rfl, rfl⟩, ⟨_, rfl, rfl⟩, ⟨_, rfl, rfl⟩, ⟨_, rfl, rfl⟩, ⟨_, rfl, rfl⟩, ⟨_, rfl, rfl⟩, ⟨_, rfl, rfl⟩, ⟨_, rfl, rfl⟩, trivial⟩ rfl rfl (by decide) (by decide) rfl dX7_claimsIn_12 (fun H locs hw => ?_)
    refine lv_goto (tgt := 19) (pc := 15) E.1 E.2.1 dX7_claimsIn_15 (by decide) ?_
    obtain rfl := Option.some.inj hf
    exact x_reti (pc := 19) E hr hk hw dX7_claimsIn_19
set_option maxHeartbeats 4000000 in
set_option maxRecDepth 100000 in
theorem c_X7_claimsIn (l : Launch) (G : xG) (ad : Nat → Nat) (s : S7) (x1 : Int32) {z : Int32} (hf : f_X7_claimsIn s x1 = some z) : xC l yX7_claimsIn cX7_claimsIn 2 (some .int) (rm_X7_claimsIn) G [.ref (ad 0), .int x1] (cells7 G ad s) (some (.int z)) (cells7 G ad s) :=
  x_met (by decide) rfl (Nat.le_of_ble_eq_true rfl) (fun p e sS m below meth c E hr hk ls hl hw => w_X7_claimsIn_p0 E hr hk s x1 z hw hl hf)
set_option maxHeartbeats 4000000 in
set_option maxRecDepth 100000 in
theorem w_X7_gap_p0 {p : Program} {l : Launch} {e : Env} {sS : State} {m : MethodId} {args : Array Value} {below : List Frame} {meth : Method} {c : Code} {G : xG} {W0 : va_W} {ad : Nat → Nat}   (E : xE p sS m args c cX7_gap 5 RX7 G (x_in W0)) (hr : meth.sig.returnType = (some .int)) (hk : meth.locks = false)  : ∀ (s' : S7) (x1' : Int32) (x2' : Int32) (z : Int32 × S7) {H : Heap} {locs : List Loc} {ls : Array Slot}, xW G (x_in W0) sS.heap (cells7 G ad s') H locs → lv_has ls 5 [(0, .ref (ad 0)), (1, .int x1'), (2, .int x2')] → f_X7_gap  s' x1' x2' = some z → W p l e (rm_X7_gap) sS m args below meth c H locs 0 0 (MQ below (xQ G W0 (cells7 G ad z.2) (some (.int z.1))) args sS 0 0 (x_in W0)) (F0 m 0 ls []) := by
  intro s x1 x2 z H locs ls hw hl hf
  unfold f_X7_gap at hf
  refine lv_aload_n (pc := 0) E.1 E.2.1 dX7_gap_0 rfl (lv_at hl 0 rfl) ?_
  refine lv_aload_n (pc := 1) E.1 E.2.1 dX7_gap_1 rfl (lv_at hl 0 rfl) ?_
  refine xg_X7_19 (pc := 2) (v := .ref (ad 3)) E hw 0 rfl rfl dX7_gap_2 ?_
  refine lv_iload_n (pc := 5) E.1 E.2.1 dX7_gap_5 rfl (lv_at hl 1 rfl) ?_
  obtain ⟨v1, g2, hf⟩ := x_bind hf
  refine x_callVA (pc := 6) (As := [.ref (ad 3), .int x1]) (rest := []) (st1 := [.int v1.1]) (ws' := (cells7 G ad v1.2)) E hw hl (c_X7_rateIn_i3 l G ad s x1 g2) xv_X7_256 xd_X7_rateIn rfl rfl ⟨Nat.le_of_ble_eq_true rfl, Nat.le_of_ble_eq_true rfl⟩ (q0 := 0) rfl rfl rfl rfl (Nat.le_of_ble_eq_true rfl) rfl dX7_gap_6 (fun H locs hw => ?_)
  refine lv_istore_n (lv' := [(3, .int v1.1), (0, .ref (ad 0)), (1, .int x1), (2, .int x2)]) (pc := 9) E.1 E.2.1 dX7_gap_9 rfl hl (by decide) rfl (fun ls hl => ?_)
  refine lv_aload_n (pc := 10) E.1 E.2.1 dX7_gap_10 rfl (lv_at hl 1 rfl) ?_
  refine lv_aload_n (pc := 11) E.1 E.2.1 dX7_gap_11 rfl (lv_at hl 1 rfl) ?_
  refine xg_X7_19 (pc := 12) (v := .ref (ad 3)) E hw 0 rfl rfl dX7_gap_12 ?_
  refine lv_iload_n (pc := 15) E.1 E.2.1 dX7_gap_15 rfl (lv_at hl 3 rfl) ?_
  obtain ⟨v3, g4, hf⟩ := x_bind hf
  refine x_callVA (pc := 16) (As := [.ref (ad 3), .int x2]) (rest := []) (st1 := [.int v3.1]) (ws' := (cells7 G ad v3.2)) E hw hl (c_X7_rateIn_i3 l G ad v1.2 x2 g4) xv_X7_256 xd_X7_rateIn rfl rfl ⟨Nat.le_of_ble_eq_true rfl, Nat.le_of_ble_eq_true rfl⟩ (q0 := 0) rfl rfl rfl rfl (Nat.le_of_ble_eq_true rfl) rfl dX7_gap_16 (fun H locs hw => ?_)
  refine lv_istore (lv' := [(4, .int v3.1), (3, .int v1.1), (0, .ref (ad 0)), (1, .int x1), (2, .int x2)]) (pc := 19) E.1 E.2.1 dX7_gap_19 hl (by decide) rfl (fun ls hl => ?_)
  refine lv_iload_n (pc := 21) E.1 E.2.1 dX7_gap_21 rfl (lv_at hl 1 rfl) ?_
  refine lv_if_lt (tgt := 30) (pc := 22) E.1 E.2.1 dX7_gap_22 (by decide) (fun q5 => ?_) (fun q5 => ?_)
  · have hf := x_pos q5 hf
    refine lv_ldcw (v := (-1000000)) (pc := 30) E.1 E.2.1 E.2.2.2.1 (E.2.2.2.2.1 _ wq_1035) dX7_gap_30 ?_
    refine lv_goto (tgt := 40) (pc := 33) E.1 E.2.1 dX7_gap_33 (by decide) ?_
    obtain rfl := Option.some.inj hf
    exact x_reti (pc := 40) E hr hk hw dX7_gap_40
  · have hf := x_neg q5 hf
    refine lv_iload (pc := 25) E.1 E.2.1 dX7_gap_25 (lv_at hl 0 rfl) ?_
    refine lv_if_ge (tgt := 36) (pc := 27) E.1 E.2.1 dX7_gap_27 (by decide) (fun q6 => ?_) (fun q6 => ?_)
    · have hf := x_pos q6 hf
      refine lv_iload_n (pc := 36) E.1 E.2.1 dX7_gap_36 rfl (lv_at hl 1 rfl) ?_
      refine lv_iload (pc := 37) E.1 E.2.1 dX7_gap_37 (lv_at hl 0 rfl) ?_
      refine lv_isub (pc := 39) E.1 E.2.1 dX7_gap_39 ?_
      obtain rfl := Option.some.inj hf
      exact x_reti (pc := 40) E hr hk hw dX7_gap_40
    · have hf := x_neg q6 hf
      refine lv_ldcw (v := (-1000000)) (pc := 30) E.1 E.2.1 E.2.2.2.1 (E.2.2.2.2.1 _ wq_1035) dX7_gap_30 ?_
      refine lv_goto (tgt := 40) (pc := 33) E.1 E.2.1 dX7_gap_33 (by decide) ?_
      obtain rfl := Option.some.inj hf
      exact x_reti (pc := 40) E hr hk hw dX7_gap_40
set_option maxHeartbeats 4000000 in
set_option maxRecDepth 100000 in
theorem c_X7_gap (l : Launch) (G : xG) (ad : Nat → Nat) (s : S7) (x1 : Int32) (x2 : Int32) {z : Int32 × S7} (hf : f_X7_gap s x1 x2 = some z) : xC l yX7_gap cX7_gap 5 (some .int) (rm_X7_gap) G [.ref (ad 0), .int x1, .int x2] (cells7 G ad s) (some (.int z.1)) (cells7 G ad z.2) :=
  x_met (by decide) rfl (Nat.le_of_ble_eq_true rfl) (fun p e sS m below meth c E hr hk ls hl hw => w_X7_gap_p0 E hr hk s x1 x2 z hw hl hf)
set_option maxHeartbeats 4000000 in
set_option maxRecDepth 100000 in
theorem w_X7_premium_p0 {p : Program} {l : Launch} {e : Env} {sS : State} {m : MethodId} {args : Array Value} {below : List Frame} {meth : Method} {c : Code} {G : xG} {W0 : va_W} {ad : Nat → Nat}   (E : xE p sS m args c cX7_premium 4 RX7 G (x_in W0)) (hr : meth.sig.returnType = (some .int)) (hk : meth.locks = false)  : ∀ (s' : S7) (x1' : Int32) (x2' : Int32) (z : Int32 × S7) {H : Heap} {locs : List Loc} {ls : Array Slot}, xW G (x_in W0) sS.heap (cells7 G ad s') H locs → lv_has ls 4 [(0, .ref (ad 0)), (1, .int x1'), (2, .int x2')] → f_X7_premium  s' x1' x2' = some z → W p l e (rm_X7_premium) sS m args below meth c H locs 0 0 (MQ below (xQ G W0 (cells7 G ad z.2) (some (.int z.1))) args sS 0 0 (x_in W0)) (F0 m 0 ls []) := by
  intro s x1 x2 z H locs ls hw hl hf
  unfold f_X7_premium at hf
  refine lv_iload_n (pc := 0) E.1 E.2.1 dX7_premium_0 rfl (lv_at hl 2 rfl) ?_
  refine lv_iconst (v := 1) (pc := 1) E.1 E.2.1 dX7_premium_1 (by decide) ?_
  refine lv_icmp_lt (tgt := 11) (pc := 2) E.1 E.2.1 dX7_premium_2 (by decide) (fun q1 => ?_) (fun q1 => ?_)
  · have hf := x_pos q1 hf
    refine lv_iconst (v := (-1)) (pc := 11) E.1 E.2.1 dX7_premium_11 (by decide) ?_
    obtain rfl := Option.some.inj hf
    exact x_reti (pc := 12) E hr hk hw dX7_premium_12
  · have hf := x_neg q1 hf
    refine lv_iload_n (pc := 5) E.1 E.2.1 dX7_premium_5 rfl (lv_at hl 2 rfl) ?_
    refine lv_bipush (v := 60) (pc := 6) E.1 E.2.1 dX7_premium_6 (by decide) ?_
    refine lv_icmp_le (tgt := 13) (pc := 8) E.1 E.2.1 dX7_premium_8 (by decide) (fun q2 => ?_) (fun q2 => ?_)
    · have hf := x_pos q2 hf
      refine lv_aload_n (pc := 13) E.1 E.2.1 dX7_premium_13 rfl (lv_at hl 0 rfl) ?_
      refine lv_aload_n (pc := 14) E.1 E.2.1 dX7_premium_14 rfl (lv_at hl 0 rfl) ?_
      refine xg_X7_19 (pc := 15) (v := .ref (ad 3)) E hw 0 rfl rfl dX7_premium_15 ?_
      refine lv_iload_n (pc := 18) E.1 E.2.1 dX7_premium_18 rfl (lv_at hl 1 rfl) ?_
      obtain ⟨v3, g4, hf⟩ := x_bind hf
      refine x_callVA (pc := 19) (As := [.ref (ad 3), .int x1]) (rest := []) (st1 := [.int v3.1]) (ws' := (cells7 G ad v3.2)) E hw hl (c_X7_rateIn_i3 l G ad s x1 g4) xv_X7_256 xd_X7_rateIn rfl rfl ⟨Nat.le_of_ble_eq_true rfl, Nat.le_of_ble_eq_true rfl⟩ (q0 := 0) rfl rfl rfl rfl (Nat.le_of_ble_eq_true rfl) rfl dX7_premium_19 (fun H locs hw => ?_)
      refine lv_istore_n (lv' := [(3, .int v3.1), (0, .ref (ad 0)), (1, .int x1), (2, .int x2)]) (pc := 22) E.1 E.2.1 dX7_premium_22 rfl hl (by decide) rfl (fun ls hl => ?_)
      refine lv_iload_n (pc := 23) E.1 E.2.1 dX7_premium_23 rfl (lv_at hl 0 rfl) ?_
      refine lv_if_ge (tgt := 31) (pc := 24) E.1 E.2.1 dX7_premium_24 (by decide) (fun q5 => ?_) (fun q5 => ?_)
      · have hf := x_pos q5 hf
        refine lv_iload_n (pc := 31) E.1 E.2.1 dX7_premium_31 rfl (lv_at hl 0 rfl) ?_
        refine lv_iload_n (pc := 32) E.1 E.2.1 dX7_premium_32 rfl (lv_at hl 3 rfl) ?_
        refine lv_imul (pc := 33) E.1 E.2.1 dX7_premium_33 ?_
        refine lv_bipush (v := 12) (pc := 34) E.1 E.2.1 dX7_premium_34 (by decide) ?_
        refine lv_idiv (pc := 36) E.1 E.2.1 dX7_premium_36 (by decide) ?_
        obtain rfl := Option.some.inj hf
        exact x_reti (pc := 37) E hr hk hw dX7_premium_37
      · have hf := x_neg q5 hf
        refine lv_iload_n (pc := 27) E.1 E.2.1 dX7_premium_27 rfl (lv_at hl 0 rfl) ?_
        refine lv_goto (tgt := 37) (pc := 28) E.1 E.2.1 dX7_premium_28 (by decide) ?_
        obtain rfl := Option.some.inj hf
        exact x_reti (pc := 37) E hr hk hw dX7_premium_37
    · have hf := x_neg q2 hf
      refine lv_iconst (v := (-1)) (pc := 11) E.1 E.2.1 dX7_premium_11 (by decide) ?_
      obtain rfl := Option.some.inj hf
      exact x_reti (pc := 12) E hr hk hw dX7_premium_12
set_option maxHeartbeats 4000000 in
set_option maxRecDepth 100000 in
theorem c_X7_premium (l : Launch) (G : xG) (ad : Nat → Nat) (s : S7) (x1 : Int32) (x2 : Int32) {z : Int32 × S7} (hf : f_X7_premium s x1 x2 = some z) : xC l yX7_premium cX7_premium 4 (some .int) (rm_X7_premium) G [.ref (ad 0), .int x1, .int x2] (cells7 G ad s) (some (.int z.1)) (cells7 G ad z.2) :=
  x_met (by decide) rfl (Nat.le_of_ble_eq_true rfl) (fun p e sS m below meth c E hr hk ls hl hw => w_X7_premium_p0 E hr hk s x1 x2 z hw hl hf)
set_option maxHeartbeats 4000000 in
set_option maxRecDepth 100000 in
theorem w_X7_shareBy_p0 {p : Program} {l : Launch} {e : Env} {sS : State} {m : MethodId} {args : Array Value} {below : List Frame} {meth : Method} {c : Code} {G : xG} {W0 : va_W} {ad : Nat → Nat}   (E : xE p sS m args c cX7_shareBy 3 RX7 G (x_in W0)) (hr : meth.sig.returnType = (some .int)) (hk : meth.locks = false)  : ∀ (s' : S7) (x1' : Int32) (x2' : Int32) (z : Int32 × S7) {H : Heap} {locs : List Loc} {ls : Array Slot}, xW G (x_in W0) sS.heap (cells7 G ad s') H locs → lv_has ls 3 [(0, .ref (ad 0)), (1, .int x1'), (2, .int x2')] → f_X7_shareBy  s' x1' x2' = some z → W p l e (rm_X7_shareBy) sS m args below meth c H locs 0 0 (MQ below (xQ G W0 (cells7 G ad z.2) (some (.int z.1))) args sS 0 0 (x_in W0)) (F0 m 0 ls []) := by
  intro s x1 x2 z H locs ls hw hl hf
  unfold f_X7_shareBy at hf
  refine lv_aload_n (pc := 0) E.1 E.2.1 dX7_shareBy_0 rfl (lv_at hl 0 rfl) ?_
  refine xg_X7_19 (pc := 1) (v := .ref (ad 3)) E hw 0 rfl rfl dX7_shareBy_1 ?_
  refine lv_iload_n (pc := 4) E.1 E.2.1 dX7_shareBy_4 rfl (lv_at hl 1 rfl) ?_
  obtain ⟨v1, g2, hf⟩ := x_bind hf
  refine x_callV (pc := 5) (As := [.int x1]) (rest := []) (st1 := [.int v1]) (ws' := (cells7 G ad s)) E hw hl (c_X0_hasFleet l G (fun k => ad (k + 3)) (g7_book s) x1 g2) xv_X7_95 xd_X0_hasFleet rfl rfl ⟨Nat.le_of_ble_eq_true rfl, Nat.le_of_ble_eq_true rfl⟩ [3, 4, 5, 6] [0, 1, 2, 7, 8, 9, 10, 11, 12, 13, 14, 15, 16, 17, 18, 19, 20, 21, 22, 23, 24, 25, 26, 27, 28, 29, 30] (by decide) ⟨rfl, rfl, rfl, rfl, trivial⟩ (q0 := 3) rfl rfl rfl rfl (Nat.le_of_ble_eq_true rfl) (nw := 31) ⟨rfl, rfl, rfl, rfl, trivial⟩ ⟨⟨_, rfl, rfl⟩, ⟨_, rfl, rfl⟩, ⟨_, rfl, rfl⟩, ⟨_, rfl, rfl⟩, ⟨_, rfl, rfl⟩, ⟨_, rfl, rfl⟩, ⟨_, rfl, rfl⟩, ⟨_, rfl, rfl⟩, ⟨_, rfl, rfl⟩, ⟨_, rfl, rfl⟩, ⟨_, rfl, rfl⟩, ⟨_, rfl, rfl⟩, ⟨_, rfl, rfl⟩, ⟨_, rfl, rfl⟩, ⟨_, rfl, rfl⟩, ⟨_, rfl, rfl⟩, ⟨_, rfl, rfl⟩, ⟨_, rfl, rfl⟩, ⟨_, rfl, rfl⟩, ⟨_, rfl, rfl⟩, ⟨_, rfl, rfl⟩, ⟨_, rfl, rfl⟩, ⟨_, rfl, rfl⟩, ⟨_, rfl, rfl⟩, ⟨_, rfl, rfl⟩, ⟨_, rfl, rfl⟩, ⟨_, rfl, rfl⟩, trivial⟩ rfl rfl (by decide) (by decide) rfl dX7_shareBy_5 (fun H locs hw => ?_)
  refine lv_if_eq (tgt := 22) (pc := 8) E.1 E.2.1 dX7_shareBy_8 (by decide) (fun q3 => ?_) (fun q3 => ?_)
  · have hf := x_pos q3 hf
    refine lv_iconst (v := (-1)) (pc := 22) E.1 E.2.1 dX7_shareBy_22 (by decide) ?_
    obtain rfl := Option.some.inj hf
    exact x_reti (pc := 23) E hr hk hw dX7_shareBy_23
  · have hf := x_neg q3 hf
    refine lv_iload_n (pc := 11) E.1 E.2.1 dX7_shareBy_11 rfl (lv_at hl 2 rfl) ?_
    refine lv_iconst (v := 1) (pc := 12) E.1 E.2.1 dX7_shareBy_12 (by decide) ?_
    refine lv_icmp_lt (tgt := 22) (pc := 13) E.1 E.2.1 dX7_shareBy_13 (by decide) (fun q4 => ?_) (fun q4 => ?_)
    · have hf := x_pos q4 hf
      refine lv_iconst (v := (-1)) (pc := 22) E.1 E.2.1 dX7_shareBy_22 (by decide) ?_
      obtain rfl := Option.some.inj hf
      exact x_reti (pc := 23) E hr hk hw dX7_shareBy_23
    · have hf := x_neg q4 hf
      refine lv_iload_n (pc := 16) E.1 E.2.1 dX7_shareBy_16 rfl (lv_at hl 2 rfl) ?_
      refine lv_bipush (v := 99) (pc := 17) E.1 E.2.1 dX7_shareBy_17 (by decide) ?_
      refine lv_icmp_le (tgt := 24) (pc := 19) E.1 E.2.1 dX7_shareBy_19 (by decide) (fun q5 => ?_) (fun q5 => ?_)
      · have hf := x_pos q5 hf
        refine lv_aload_n (pc := 24) E.1 E.2.1 dX7_shareBy_24 rfl (lv_at hl 0 rfl) ?_
        refine xg_X7_36 (pc := 25) (v := .ref (ad 13)) E hw 0 rfl rfl dX7_shareBy_25 ?_
        refine lv_aload_n (pc := 28) E.1 E.2.1 dX7_shareBy_28 rfl (lv_at hl 0 rfl) ?_
        refine xg_X7_19 (pc := 29) (v := .ref (ad 3)) E hw 0 rfl rfl dX7_shareBy_29 ?_
        obtain ⟨v6, g7, hf⟩ := x_bind hf
        refine x_callV (pc := 32) (As := [.ref (ad 3)]) (rest := []) (st1 := []) (ws' := (cells7c G ad (g7_tape s) (g7_book s) (g7_trial s) (g7_past s) v6 (g7_pen s) (g7_told s) (g7_ratesNow s))) E hw hl (c_X1_reckon l G (fun k => ad (k + 13)) (fun k => ad (k + 3)) (g7_ledger s) (g7_book s) g7) xv_X7_186 xd_X1_reckon rfl rfl ⟨Nat.le_of_ble_eq_true rfl, Nat.le_of_ble_eq_true rfl⟩ [13, 14, 15, 16, 17, 18, 19, 20, 21, 22, 23, 24, 25, 26, 27, 3, 4, 5, 6] [0, 1, 2, 7, 8, 9, 10, 11, 12, 28, 29, 30] (by decide) ⟨rfl, rfl, rfl, rfl, rfl, rfl, rfl, rfl, rfl, rfl, rfl, rfl, rfl, rfl, rfl, rfl, rfl, rfl, rfl, trivial⟩ (q0 := 13) rfl rfl rfl rfl (Nat.le_of_ble_eq_true rfl) (nw := 31) ⟨rfl, rfl, rfl, rfl, rfl, rfl, rfl, rfl, rfl, rfl, rfl, rfl, rfl, rfl, rfl, rfl, rfl, rfl, rfl, trivial⟩ ⟨⟨_, rfl, rfl⟩, ⟨_, rfl, rfl⟩, ⟨_, rfl, rfl⟩, ⟨_, rfl, rfl⟩, ⟨_, rfl, rfl⟩, ⟨_, rfl, rfl⟩, ⟨_, rfl, rfl⟩, ⟨_, rfl, rfl⟩, ⟨_, rfl, rfl⟩, ⟨_, rfl, rfl⟩, ⟨_, rfl, rfl⟩, ⟨_, rfl, rfl⟩, trivial⟩ rfl rfl (by decide) (by decide) rfl dX7_shareBy_32 (fun H locs hw => ?_)
        refine lv_aload_n (pc := 35) E.1 E.2.1 dX7_shareBy_35 rfl (lv_at hl 0 rfl) ?_
        refine xg_X7_36 (pc := 36) (v := .ref (ad 13)) E hw 0 rfl rfl dX7_shareBy_36 ?_
        refine lv_iload_n (pc := 39) E.1 E.2.1 dX7_shareBy_39 rfl (lv_at hl 1 rfl) ?_
        obtain ⟨v8, g9, hf⟩ := x_bind hf
        refine x_callV (pc := 40) (As := [.int x1]) (rest := []) (st1 := [.int v8]) (ws' := (cells7c G ad (g7_tape s) (g7_book s) (g7_trial s) (g7_past s) v6 (g7_pen s) (g7_told s) (g7_ratesNow s))) E hw hl (c_X1_isRated l G (fun k => ad (k + 13)) v6 x1 g9) xv_X7_260 xd_X1_isRated rfl rfl ⟨Nat.le_of_ble_eq_true rfl, Nat.le_of_ble_eq_true rfl⟩ [13, 14, 15, 16, 17, 18, 19, 20, 21, 22, 23, 24, 25, 26, 27] [0, 1, 2, 3, 4, 5, 6, 7, 8, 9, 10, 11, 12, 28, 29, 30] (by decide) ⟨rfl, rfl, rfl, rfl, rfl, rfl, rfl, rfl, rfl, rfl, rfl, rfl, rfl, rfl, rfl, trivial⟩ (q0 := 13) rfl rfl rfl rfl (Nat.le_of_ble_eq_true rfl) (nw := 31) ⟨rfl, rfl, rfl, rfl, rfl, rfl, rfl, rfl, rfl, rfl, rfl, rfl, rfl, rfl, rfl, trivial⟩ ⟨⟨_, rfl, rfl⟩, ⟨_, rfl, rfl⟩, ⟨_, rfl, rfl⟩, ⟨_, rfl, rfl⟩, ⟨_, rfl, rfl⟩, ⟨_, rfl, rfl⟩, ⟨_, rfl, rfl⟩, ⟨_, rfl, rfl⟩, ⟨_, rfl, rfl⟩, ⟨_, rfl, rfl⟩, ⟨_, rfl, rfl⟩, ⟨_, rfl, rfl⟩, ⟨_, rfl, rfl⟩, ⟨_, rfl, rfl⟩, ⟨_, rfl, rfl⟩, ⟨_, rfl, rfl⟩, trivial⟩ rfl rfl (by decide) (by decide) rfl dX7_shareBy_40 (fun H locs hw => ?_)
        refine lv_if_eq (tgt := 58) (pc := 43) E.1 E.2.1 dX7_shareBy_43 (by decide) (fun q10 => ?_) (fun q10 => ?_)
        · have hf := x_pos q10 hf
          refine lv_bipush (v := (-2)) (pc := 58) E.1 E.2.1 dX7_shareBy_58 (by decide) ?_
          obtain rfl := Option.some.inj hf
          exact x_reti (pc := 60) E hr hk hw dX7_shareBy_60
        · have hf := x_neg q10 hf
          refine lv_aload_n (pc := 46) E.1 E.2.1 dX7_shareBy_46 rfl (lv_at hl 0 rfl) ?_
          refine xg_X7_36 (pc := 47) (v := .ref (ad 13)) E hw 0 rfl rfl dX7_shareBy_47 ?_
          refine lv_iload_n (pc := 50) E.1 E.2.1 dX7_shareBy_50 rfl (lv_at hl 1 rfl) ?_
          refine lv_iload_n (pc := 51) E.1 E.2.1 dX7_shareBy_51 rfl (lv_at hl 2 rfl) ?_
          obtain ⟨v11, g12, hf⟩ := x_bind hf
          refine x_callV (pc := 52) (As := [.int x1, .int x2]) (rest := []) (st1 := [.int v11]) (ws' := (cells7c G ad (g7_tape s) (g7_book s) (g7_trial s) (g7_past s) v6 (g7_pen s) (g7_told s) (g7_ratesNow s))) E hw hl (c_X1_shareBySpan l G (fun k => ad (k + 13)) v6 x1 x2 g12) xv_X7_277 xd_X1_shareBySpan rfl rfl ⟨Nat.le_of_ble_eq_true rfl, Nat.le_of_ble_eq_true rfl⟩ [13, 14, 15, 16, 17, 18, 19, 20, 21, 22, 23, 24, 25, 26, 27] [0, 1, 2, 3, 4, 5, 6, 7, 8, 9, 10, 11, 12, 28, 29, 30] (by decide) ⟨rfl, rfl, rfl, rfl, rfl, rfl, rfl, rfl, rfl, rfl, rfl, rfl, rfl, rfl, rfl, trivial⟩ (q0 := 13) rfl rfl rfl rfl (Nat.le_of_ble_eq_true rfl) (nw := 31) ⟨rfl, rfl, rfl, rfl, rfl, rfl, rfl, rfl, rfl, rfl, rfl, rfl, rfl, rfl, rfl, trivial⟩ ⟨⟨_, rfl, rfl⟩, ⟨_, rfl, rfl⟩, ⟨_, rfl, rfl⟩, ⟨_, rfl, rfl⟩, ⟨_, rfl, rfl⟩, ⟨_, rfl, rfl⟩, ⟨_, rfl, rfl⟩, ⟨_, rfl, rfl⟩, ⟨_, rfl, rfl⟩, ⟨_, rfl, rfl⟩, ⟨_, rfl, rfl⟩, ⟨_, rfl, rfl⟩, ⟨_, rfl, rfl⟩, ⟨_, rfl, rfl⟩, ⟨_, rfl, rfl⟩, ⟨_, rfl, rfl⟩, trivial⟩ rfl rfl (by decide) (by decide) rfl dX7_shareBy_52 (fun H locs hw => ?_)
          refine lv_goto (tgt := 60) (pc := 55) E.1 E.2.1 dX7_shareBy_55 (by decide) ?_
          obtain rfl := Option.some.inj hf
          exact x_reti (pc := 60) E hr hk hw dX7_shareBy_60
      · have hf := x_neg q5 hf
        refine lv_iconst (v := (-1)) (pc := 22) E.1 E.2.1 dX7_shareBy_22 (by decide) ?_
        obtain rfl := Option.some.inj hf
        exact x_reti (pc := 23) E hr hk hw dX7_shareBy_23
set_option maxHeartbeats 4000000 in
set_option maxRecDepth 100000 in
theorem c_X7_shareBy (l : Launch) (G : xG) (ad : Nat → Nat) (s : S7) (x1 : Int32) (x2 : Int32) {z : Int32 × S7} (hf : f_X7_shareBy s x1 x2 = some z) : xC l yX7_shareBy cX7_shareBy 3 (some .int) (rm_X7_shareBy) G [.ref (ad 0), .int x1, .int x2] (cells7 G ad s) (some (.int z.1)) (cells7 G ad z.2) :=
  x_met (by decide) rfl (Nat.le_of_ble_eq_true rfl) (fun p e sS m below meth c E hr hk ls hl hw => w_X7_shareBy_p0 E hr hk s x1 x2 z hw hl hf)
set_option maxHeartbeats 4000000 in
set_option maxRecDepth 100000 in
theorem w_X7_yearsFor_p52 {p : Program} {l : Launch} {e : Env} {sS : State} {m : MethodId} {args : Array Value} {below : List Frame} {meth : Method} {c : Code} {G : xG} {W0 : va_W} {ad : Nat → Nat}  {k52 : S7 → Int32 → Int32 → Int32 → Option (Int32 × S7)} (E : xE p sS m args c cX7_yearsFor 4 RX7 G (x_in W0)) (hr : meth.sig.returnType = (some .int)) (hk : meth.locks = false) (hk52 : ∀ (s' : S7) (x1' : Int32) (x2' : Int32) (x3' : Int32) (z : Int32 × S7) {H : Heap} {locs : List Loc} {ls : Array Slot}, xW G (x_in W0) sS.heap (cells7 G ad s') H locs → lv_has ls 4 [(0, .ref (ad 0)), (1, .int x1'), (2, .int x2'), (3, .int x3')] → k52  s' x1' x2' x3' = some z → W p l e (rm_X7_yearsFor) sS m args below meth c H locs 0 0 (MQ below (xQ G W0 (cells7 G ad z.2) (some (.int z.1))) args sS 0 0 (x_in W0)) (F0 m 52 ls [])) : ∀ (s' : S7) (x1' : Int32) (x2' : Int32) (x3' : Int32) (z : Int32 × S7) {H : Heap} {locs : List Loc} {ls : Array Slot}, xW G (x_in W0) sS.heap (cells7 G ad s') H locs → lv_has ls 4 [(0, .ref (ad 0)), (1, .int x1'), (2, .int x2'), (3, .int x3')] → f_X7_yearsFor_p52 k52 s' x1' x2' x3' = some z → W p l e (rm_X7_yearsFor) sS m args below meth c H locs 0 0 (MQ below (xQ G W0 (cells7 G ad z.2) (some (.int z.1))) args sS 0 0 (x_in W0)) (F0 m 52 ls []) := by
  intro s x1 x2 x3 z H locs ls hw hl hf
  unfold f_X7_yearsFor_p52 at hf
  refine lv_iload_n (pc := 52) E.1 E.2.1 dX7_yearsFor_52 rfl (lv_at hl 3 rfl) ?_
  refine lv_bipush (v := 99) (pc := 53) E.1 E.2.1 dX7_yearsFor_53 (by decide) ?_
  refine lv_icmp_gt (tgt := 79) (pc := 55) E.1 E.2.1 dX7_yearsFor_55 (by decide) (fun q1 => ?_) (fun q1 => ?_)
  · have hf := x_pos q1 hf
    refine lv_bipush (v := (-2)) (pc := 79) E.1 E.2.1 dX7_yearsFor_79 (by decide) ?_
    obtain rfl := Option.some.inj hf
    exact x_reti (pc := 81) E hr hk hw dX7_yearsFor_81
  · have hf := x_neg q1 hf
    refine lv_aload_n (pc := 58) E.1 E.2.1 dX7_yearsFor_58 rfl (lv_at hl 0 rfl) ?_
    refine xg_X7_36 (pc := 59) (v := .ref (ad 13)) E hw 0 rfl rfl dX7_yearsFor_59 ?_
    refine lv_iload_n (pc := 62) E.1 E.2.1 dX7_yearsFor_62 rfl (lv_at hl 1 rfl) ?_
    refine lv_iload_n (pc := 63) E.1 E.2.1 dX7_yearsFor_63 rfl (lv_at hl 3 rfl) ?_
    obtain ⟨v2, g3, hf⟩ := x_bind hf
    refine x_callV (pc := 64) (As := [.int x1, .int x3]) (rest := []) (st1 := [.int v2]) (ws' := (cells7 G ad s)) E hw hl (c_X1_shareBySpan l G (fun k => ad (k + 13)) (g7_ledger s) x1 x3 g3) xv_X7_277 xd_X1_shareBySpan rfl rfl ⟨Nat.le_of_ble_eq_true rfl, Nat.le_of_ble_eq_true rfl⟩ [13, 14, 15, 16, 17, 18, 19, 20, 21, 22, 23, 24, 25, 26, 27] [0, 1, 2, 3, 4, 5, 6, 7, 8, 9, 10, 11, 12, 28, 29, 30] (by decide) ⟨rfl, rfl, rfl, rfl, rfl, rfl, rfl, rfl, rfl, rfl, rfl, rfl, rfl, rfl, rfl, trivial⟩ (q0 := 13) rfl rfl rfl rfl (Nat.le_of_ble_eq_true rfl) (nw := 31) ⟨rfl, rfl, rfl, rfl, rfl, rfl, rfl, rfl, rfl, rfl, rfl, rfl, rfl, rfl, rfl, trivial⟩ ⟨⟨_, rfl, rfl⟩, ⟨_, rfl, rfl⟩, ⟨_, rfl, rfl⟩, ⟨_, rfl, rfl⟩, ⟨_, rfl, rfl⟩, ⟨_, rfl, rfl⟩, ⟨_, rfl, rfl⟩, ⟨_, rfl, rfl⟩, ⟨_, rfl, rfl⟩, ⟨_, rfl, rfl⟩, ⟨_, rfl, rfl⟩, ⟨_, rfl, rfl⟩, ⟨_, rfl, rfl⟩, ⟨_, rfl, rfl⟩, ⟨_, rfl, rfl⟩, ⟨_, rfl, rfl⟩, trivial⟩ rfl rfl (by decide) (by decide) rfl dX7_yearsFor_64 (fun H locs hw => ?_)
    refine lv_iload_n (pc := 67) E.1 E.2.1 dX7_yearsFor_67 rfl (lv_at hl 2 rfl) ?_
    refine lv_icmp_lt (tgt := 73) (pc := 68) E.1 E.2.1 dX7_yearsFor_68 (by decide) (fun q4 => ?_) (fun q4 => ?_)
    · have hf := x_pos q4 hf
      refine lv_iinc (v := (x3 + 1)) (lv' := [(3, .int (x3 + 1)), (0, .ref (ad 0)), (1, .int x1), (2, .int x2)]) (pc := 73) E.1 E.2.1 dX7_yearsFor_73 hl (k := 3) rfl rfl (by decide) rfl (fun ls hl => ?_)
      refine lv_goto (tgt := 52) (pc := 76) E.1 E.2.1 dX7_yearsFor_76 (by decide) ?_
      exact hk52 s x1 x2 (x3 + 1) z hw (lv_sub hl [1, 2, 3, 0] rfl) hf
    · have hf := x_neg q4 hf
      refine lv_iload_n (pc := 71) E.1 E.2.1 dX7_yearsFor_71 rfl (lv_at hl 3 rfl) ?_
      obtain rfl := Option.some.inj hf
      exact x_reti (pc := 72) E hr hk hw dX7_yearsFor_72
set_option maxHeartbeats 4000000 in
set_option maxRecDepth 100000 in
theorem wl_X7_yearsFor_p52 {p : Program} {l : Launch} {e : Env} {sS : State} {m : MethodId} {args : Array Value} {below : List Frame} {meth : Method} {c : Code} {G : xG} {W0 : va_W} {ad : Nat → Nat}   (E : xE p sS m args c cX7_yearsFor 4 RX7 G (x_in W0)) (hr : meth.sig.returnType = (some .int)) (hk : meth.locks = false)  : ∀ (s' : S7) (x1' : Int32) (x2' : Int32) (x3' : Int32) (z : Int32 × S7) {H : Heap} {locs : List Loc} {ls : Array Slot}, xW G (x_in W0) sS.heap (cells7 G ad s') H locs → lv_has ls 4 [(0, .ref (ad 0)), (1, .int x1'), (2, .int x2'), (3, .int x3')] → lp_X7_yearsFor_p52  s' x1' x2' x3' = some z → W p l e (rm_X7_yearsFor) sS m args below meth c H locs 0 0 (MQ below (xQ G W0 (cells7 G ad z.2) (some (.int z.1))) args sS 0 0 (x_in W0)) (F0 m 52 ls []) := by
  intro s x1 x2 x3 z H locs ls hw hl hf
  exact x_loop_W (P := fun (q : S7 × Int32 × Int32 × Int32) (z : Int32 × S7) => ∀ {H : Heap} {locs : List Loc} {ls : Array Slot}, xW G (x_in W0) sS.heap (cells7 G ad q.1) H locs → lv_has ls 4 [(0, .ref (ad 0)), (1, .int q.2.1), (2, .int q.2.2.1), (3, .int q.2.2.2)] → W p l e (rm_X7_yearsFor) sS m args below meth c H locs 0 0 (MQ below (xQ G W0 (cells7 G ad z.2) (some (.int z.1))) args sS 0 0 (x_in W0)) (F0 m 52 ls [])) (fun k hkk q z hf H locs ls hw hl => w_X7_yearsFor_p52 E hr hk  (fun s x1 x2 x3 z H locs ls hw hl hf => hkk (s, x1, x2, x3) z hf hw hl) q.1 q.2.1 q.2.2.1 q.2.2.2 z hw hl hf) FU (s, x1, x2, x3) z hf hw hl
set_option maxHeartbeats 4000000 in
set_option maxRecDepth 100000 in
theorem w_X7_yearsFor_p0 {p : Program} {l : Launch} {e : Env} {sS : State} {m : MethodId} {args : Array Value} {below : List Frame} {meth : Method} {c : Code} {G : xG} {W0 : va_W} {ad : Nat → Nat}   (E : xE p sS m args c cX7_yearsFor 4 RX7 G (x_in W0)) (hr : meth.sig.returnType = (some .int)) (hk : meth.locks = false)  : ∀ (s' : S7) (x1' : Int32) (x2' : Int32) (z : Int32 × S7) {H : Heap} {locs : List Loc} {ls : Array Slot}, xW G (x_in W0) sS.heap (cells7 G ad s') H locs → lv_has ls 4 [(0, .ref (ad 0)), (1, .int x1'), (2, .int x2')] → f_X7_yearsFor  s' x1' x2' = some z → W p l e (rm_X7_yearsFor) sS m args below meth c H locs 0 0 (MQ below (xQ G W0 (cells7 G ad z.2) (some (.int z.1))) args sS 0 0 (x_in W0)) (F0 m 0 ls []) := by
  intro s x1 x2 z H locs ls hw hl hf
  unfold f_X7_yearsFor at hf
  refine lv_aload_n (pc := 0) E.1 E.2.1 dX7_yearsFor_0 rfl (lv_at hl 0 rfl) ?_
  refine xg_X7_19 (pc := 1) (v := .ref (ad 3)) E hw 0 rfl rfl dX7_yearsFor_1 ?_
  refine lv_iload_n (pc := 4) E.1 E.2.1 dX7_yearsFor_4 rfl (lv_at hl 1 rfl) ?_
  obtain ⟨v1, g2, hf⟩ := x_bind hf
  refine x_callV (pc := 5) (As := [.int x1]) (rest := []) (st1 := [.int v1]) (ws' := (cells7 G ad s)) E hw hl (c_X0_hasFleet l G (fun k => ad (k + 3)) (g7_book s) x1 g2) xv_X7_95 xd_X0_hasFleet rfl rfl ⟨Nat.le_of_ble_eq_true rfl, Nat.le_of_ble_eq_true rfl⟩ [3, 4, 5, 6] [0, 1, 2, 7, 8, 9, 10, 11, 12, 13, 14, 15, 16, 17, 18, 19, 20, 21, 22, 23, 24, 25, 26, 27, 28, 29, 30] (by decide) ⟨rfl, rfl, rfl, rfl, trivial⟩ (q0 := 3) rfl rfl rfl rfl (Nat.le_of_ble_eq_true rfl) (nw := 31) ⟨rfl, rfl, rfl, rfl, trivial⟩ ⟨⟨_, rfl, rfl⟩, ⟨_, rfl, rfl⟩, ⟨_, rfl, rfl⟩, ⟨_, rfl, rfl⟩, ⟨_, rfl, rfl⟩, ⟨_, rfl, rfl⟩, ⟨_, rfl, rfl⟩, ⟨_, rfl, rfl⟩, ⟨_, rfl, rfl⟩, ⟨_, rfl, rfl⟩, ⟨_, rfl, rfl⟩, ⟨_, rfl, rfl⟩, ⟨_, rfl, rfl⟩, ⟨_, rfl, rfl⟩, ⟨_, rfl, rfl⟩, ⟨_, rfl, rfl⟩, ⟨_, rfl, rfl⟩, ⟨_, rfl, rfl⟩, ⟨_, rfl, rfl⟩, ⟨_, rfl, rfl⟩, ⟨_, rfl, rfl⟩, ⟨_, rfl, rfl⟩, ⟨_, rfl, rfl⟩, ⟨_, rfl, rfl⟩, ⟨_, rfl, rfl⟩, ⟨_, rfl, rfl⟩, ⟨_, rfl, rfl⟩, trivial⟩ rfl rfl (by decide) (by decide) rfl dX7_yearsFor_5 (fun H locs hw => ?_)
  refine lv_if_eq (tgt := 23) (pc := 8) E.1 E.2.1 dX7_yearsFor_8 (by decide) (fun q3 => ?_) (fun q3 => ?_)
  · have hf := x_pos q3 hf
    refine lv_iconst (v := (-1)) (pc := 23) E.1 E.2.1 dX7_yearsFor_23 (by decide) ?_
    obtain rfl := Option.some.inj hf
    exact x_reti (pc := 24) E hr hk hw dX7_yearsFor_24
  · have hf := x_neg q3 hf
    refine lv_iload_n (pc := 11) E.1 E.2.1 dX7_yearsFor_11 rfl (lv_at hl 2 rfl) ?_
    refine lv_iconst (v := 1) (pc := 12) E.1 E.2.1 dX7_yearsFor_12 (by decide) ?_
    refine lv_icmp_lt (tgt := 23) (pc := 13) E.1 E.2.1 dX7_yearsFor_13 (by decide) (fun q4 => ?_) (fun q4 => ?_)
    · have hf := x_pos q4 hf
      refine lv_iconst (v := (-1)) (pc := 23) E.1 E.2.1 dX7_yearsFor_23 (by decide) ?_
      obtain rfl := Option.some.inj hf
      exact x_reti (pc := 24) E hr hk hw dX7_yearsFor_24
    · have hf := x_neg q4 hf
      refine lv_iload_n (pc := 16) E.1 E.2.1 dX7_yearsFor_16 rfl (lv_at hl 2 rfl) ?_
      refine lv_sipush (v := 1000) (pc := 17) E.1 E.2.1 dX7_yearsFor_17 (by decide) ?_
      refine lv_icmp_le (tgt := 25) (pc := 20) E.1 E.2.1 dX7_yearsFor_20 (by decide) (fun q5 => ?_) (fun q5 => ?_)
      · have hf := x_pos q5 hf
        refine lv_aload_n (pc := 25) E.1 E.2.1 dX7_yearsFor_25 rfl (lv_at hl 0 rfl) ?_
        refine xg_X7_36 (pc := 26) (v := .ref (ad 13)) E hw 0 rfl rfl dX7_yearsFor_26 ?_
        refine lv_aload_n (pc := 29) E.1 E.2.1 dX7_yearsFor_29 rfl (lv_at hl 0 rfl) ?_
        refine xg_X7_19 (pc := 30) (v := .ref (ad 3)) E hw 0 rfl rfl dX7_yearsFor_30 ?_
        obtain ⟨v6, g7, hf⟩ := x_bind hf
        refine x_callV (pc := 33) (As := [.ref (ad 3)]) (rest := []) (st1 := []) (ws' := (cells7c G ad (g7_tape s) (g7_book s) (g7_trial s) (g7_past s) v6 (g7_pen s) (g7_told s) (g7_ratesNow s))) E hw hl (c_X1_reckon l G (fun k => ad (k + 13)) (fun k => ad (k + 3)) (g7_ledger s) (g7_book s) g7) xv_X7_186 xd_X1_reckon rfl rfl ⟨Nat.le_of_ble_eq_true rfl, Nat.le_of_ble_eq_true rfl⟩ [13, 14, 15, 16, 17, 18, 19, 20, 21, 22, 23, 24, 25, 26, 27, 3, 4, 5, 6] [0, 1, 2, 7, 8, 9, 10, 11, 12, 28, 29, 30] (by decide) ⟨rfl, rfl, rfl, rfl, rfl, rfl, rfl, rfl, rfl, rfl, rfl, rfl, rfl, rfl, rfl, rfl, rfl, rfl, rfl, trivial⟩ (q0 := 13) rfl rfl rfl rfl (Nat.le_of_ble_eq_true rfl) (nw := 31) ⟨rfl, rfl, rfl, rfl, rfl, rfl, rfl, rfl, rfl, rfl, rfl, rfl, rfl, rfl, rfl, rfl, rfl, rfl, rfl, trivial⟩ ⟨⟨_, rfl, rfl⟩, ⟨_, rfl, rfl⟩, ⟨_, rfl, rfl⟩, ⟨_, rfl, rfl⟩, ⟨_, rfl, rfl⟩, ⟨_, rfl, rfl⟩, ⟨_, rfl, rfl⟩, ⟨_, rfl, rfl⟩, ⟨_, rfl, rfl⟩, ⟨_, rfl, rfl⟩, ⟨_, rfl, rfl⟩, ⟨_, rfl, rfl⟩, trivial⟩ rfl rfl (by decide) (by decide) rfl dX7_yearsFor_33 (fun H locs hw => ?_)
        refine lv_aload_n (pc := 36) E.1 E.2.1 dX7_yearsFor_36 rfl (lv_at hl 0 rfl) ?_
        refine xg_X7_36 (pc := 37) (v := .ref (ad 13)) E hw 0 rfl rfl dX7_yearsFor_37 ?_
        refine lv_iload_n (pc := 40) E.1 E.2.1 dX7_yearsFor_40 rfl (lv_at hl 1 rfl) ?_
        obtain ⟨v8, g9, hf⟩ := x_bind hf
        refine x_callV (pc := 41) (As := [.int x1]) (rest := []) (st1 := [.int v8]) (ws' := (cells7c G ad (g7_tape s) (g7_book s) (g7_trial s) (g7_past s) v6 (g7_pen s) (g7_told s) (g7_ratesNow s))) E hw hl (c_X1_isRated l G (fun k => ad (k + 13)) v6 x1 g9) xv_X7_260 xd_X1_isRated rfl rfl ⟨Nat.le_of_ble_eq_true rfl, Nat.le_of_ble_eq_true rfl⟩ [13, 14, 15, 16, 17, 18, 19, 20, 21, 22, 23, 24, 25, 26, 27] [0, 1, 2, 3, 4, 5, 6, 7, 8, 9, 10, 11, 12, 28, 29, 30] (by decide) ⟨rfl, rfl, rfl, rfl, rfl, rfl, rfl, rfl, rfl, rfl, rfl, rfl, rfl, rfl, rfl, trivial⟩ (q0 := 13) rfl rfl rfl rfl (Nat.le_of_ble_eq_true rfl) (nw := 31) ⟨rfl, rfl, rfl, rfl, rfl, rfl, rfl, rfl, rfl, rfl, rfl, rfl, rfl, rfl, rfl, trivial⟩ ⟨⟨_, rfl, rfl⟩, ⟨_, rfl, rfl⟩, ⟨_, rfl, rfl⟩, ⟨_, rfl, rfl⟩, ⟨_, rfl, rfl⟩, ⟨_, rfl, rfl⟩, ⟨_, rfl, rfl⟩, ⟨_, rfl, rfl⟩, ⟨_, rfl, rfl⟩, ⟨_, rfl, rfl⟩, ⟨_, rfl, rfl⟩, ⟨_, rfl, rfl⟩, ⟨_, rfl, rfl⟩, ⟨_, rfl, rfl⟩, ⟨_, rfl, rfl⟩, ⟨_, rfl, rfl⟩, trivial⟩ rfl rfl (by decide) (by decide) rfl dX7_yearsFor_41 (fun H locs hw => ?_)
        refine lv_if_ne (tgt := 50) (pc := 44) E.1 E.2.1 dX7_yearsFor_44 (by decide) (fun q10 => ?_) (fun q10 => ?_)
        · have hf := x_neg q10 hf
          refine lv_iconst (v := 1) (pc := 50) E.1 E.2.1 dX7_yearsFor_50 (by decide) ?_
          refine lv_istore_n (lv' := [(3, .int 1), (0, .ref (ad 0)), (1, .int x1), (2, .int x2)]) (pc := 51) E.1 E.2.1 dX7_yearsFor_51 rfl hl (by decide) rfl (fun ls hl => ?_)
          exact wl_X7_yearsFor_p52 E hr hk  (u7_ledger s v6) x1 x2 1 z hw (lv_sub hl [1, 2, 3, 0] rfl) hf
        · have hf := x_pos q10 hf
          refine lv_bipush (v := (-2)) (pc := 47) E.1 E.2.1 dX7_yearsFor_47 (by decide) ?_
          obtain rfl := Option.some.inj hf
          exact x_reti (pc := 49) E hr hk hw dX7_yearsFor_49
      · have hf := x_neg q5 hf
        refine lv_iconst (v := (-1)) (pc := 23) E.1 E.2.1 dX7_yearsFor_23 (by decide) ?_
        obtain rfl := Option.some.inj hf
        exact x_reti (pc := 24) E hr hk hw dX7_yearsFor_24
set_option maxHeartbeats 4000000 in
set_option maxRecDepth 100000 in
theorem c_X7_yearsFor (l : Launch) (G : xG) (ad : Nat → Nat) (s : S7) (x1 : Int32) (x2 : Int32) {z : Int32 × S7} (hf : f_X7_yearsFor s x1 x2 = some z) : xC l yX7_yearsFor cX7_yearsFor 4 (some .int) (rm_X7_yearsFor) G [.ref (ad 0), .int x1, .int x2] (cells7 G ad s) (some (.int z.1)) (cells7 G ad z.2) :=
  x_met (by decide) rfl (Nat.le_of_ble_eq_true rfl) (fun p e sS m below meth c E hr hk ls hl hw => w_X7_yearsFor_p0 E hr hk s x1 x2 z hw hl hf)
set_option maxHeartbeats 4000000 in
set_option maxRecDepth 100000 in
theorem w_X7_rateIn_i7_p0 {p : Program} {l : Launch} {e : Env} {sS : State} {m : MethodId} {args : Array Value} {below : List Frame} {meth : Method} {c : Code} {G : xG} {W0 : va_W} {ad : Nat → Nat}   (E : xE p sS m args c cX7_rateIn 3 RX7 G (x_in W0)) (hr : meth.sig.returnType = (some .int)) (hk : meth.locks = false)  : ∀ (s' : S7) (x2' : Int32) (z : Int32 × S7) {H : Heap} {locs : List Loc} {ls : Array Slot}, xW G (x_in W0) sS.heap (cells7 G ad s') H locs → lv_has ls 3 [(0, .ref (ad 0)), (1, .ref (ad 7)), (2, .int x2')] → f_X7_rateIn_i7  s' x2' = some z → W p l e (rm_X7_rateIn_i7) sS m args below meth c H locs 0 0 (MQ below (xQ G W0 (cells7 G ad z.2) (some (.int z.1))) args sS 0 0 (x_in W0)) (F0 m 0 ls []) := by
  intro s x2 z H locs ls hw hl hf
  unfold f_X7_rateIn_i7 at hf
  refine lv_aload_n (pc := 0) E.1 E.2.1 dX7_rateIn_0 rfl (lv_at hl 1 rfl) ?_
  refine lv_iload_n (pc := 1) E.1 E.2.1 dX7_rateIn_1 rfl (lv_at hl 2 rfl) ?_
  obtain ⟨v1, g2, hf⟩ := x_bind hf
  refine x_callV (pc := 2) (As := [.int x2]) (rest := []) (st1 := [.int v1]) (ws' := (cells7 G ad s)) E hw hl (c_X0_hasFleet l G (fun k => ad (k + 7)) (g7_trial s) x2 g2) xv_X7_95 xd_X0_hasFleet rfl rfl ⟨Nat.le_of_ble_eq_true rfl, Nat.le_of_ble_eq_true rfl⟩ [7, 8, 9, 10] [0, 1, 2, 3, 4, 5, 6, 11, 12, 13, 14, 15, 16, 17, 18, 19, 20, 21, 22, 23, 24, 25, 26, 27, 28, 29, 30] (by decide) ⟨rfl, rfl, rfl, rfl, trivial⟩ (q0 := 7) rfl rfl rfl rfl (Nat.le_of_ble_eq_true rfl) (nw := 31) ⟨rfl, rfl, rfl, rfl, trivial⟩ ⟨⟨_, rfl, rfl⟩, ⟨_, rfl, rfl⟩, ⟨_, rfl, rfl⟩, ⟨_, rfl, rfl⟩, ⟨_, rfl, rfl⟩, ⟨_, rfl, rfl⟩, ⟨_, rfl, rfl⟩, ⟨_, rfl, rfl⟩, ⟨_, rfl, rfl⟩, ⟨_, rfl, rfl⟩, ⟨_, rfl, rfl⟩, ⟨_, rfl, rfl⟩, ⟨_, rfl, rfl⟩, ⟨_, rfl, rfl⟩, ⟨_, rfl, rfl⟩, ⟨_, rfl, rfl⟩, ⟨_, rfl, rfl⟩, ⟨_, rfl, rfl⟩, ⟨_, rfl, rfl⟩, ⟨_, rfl, rfl⟩, ⟨_, rfl, rfl⟩, ⟨_, rfl, rfl⟩, ⟨_, rfl, rfl⟩, ⟨_, rfl, rfl⟩, ⟨_, rfl, rfl⟩, ⟨_, rfl, rfl⟩, ⟨_, rfl, rfl⟩, trivial⟩ rfl rfl (by decide) (by decide) rfl dX7_rateIn_2 (fun H locs hw => ?_)
  refine lv_if_ne (tgt := 10) (pc := 5) E.1 E.2.1 dX7_rateIn_5 (by decide) (fun q3 => ?_) (fun q3 => ?_)
  · have hf := x_neg q3 hf
    refine lv_aload_n (pc := 10) E.1 E.2.1 dX7_rateIn_10 rfl (lv_at hl 0 rfl) ?_
    refine xg_X7_36 (pc := 11) (v := .ref (ad 13)) E hw 0 rfl rfl dX7_rateIn_11 ?_
    refine lv_aload_n (pc := 14) E.1 E.2.1 dX7_rateIn_14 rfl (lv_at hl 1 rfl) ?_
    obtain ⟨v4, g5, hf⟩ := x_bind hf
    refine x_callV (pc := 15) (As := [.ref (ad 7)]) (rest := []) (st1 := []) (ws' := (cells7c G ad (g7_tape s) (g7_book s) (g7_trial s) (g7_past s) v4 (g7_pen s) (g7_told s) (g7_ratesNow s))) E hw hl (c_X1_reckon l G (fun k => ad (k + 13)) (fun k => ad (k + 7)) (g7_ledger s) (g7_trial s) g5) xv_X7_186 xd_X1_reckon rfl rfl ⟨Nat.le_of_ble_eq_true rfl, Nat.le_of_ble_eq_true rfl⟩ [13, 14, 15, 16, 17, 18, 19, 20, 21, 22, 23, 24, 25, 26, 27, 7, 8, 9, 10] [0, 1, 2, 3, 4, 5, 6, 11, 12, 28, 29, 30] (by decide) ⟨rfl, rfl, rfl, rfl, rfl, rfl, rfl, rfl, rfl, rfl, rfl, rfl, rfl, rfl, rfl, rfl, rfl, rfl, rfl, trivial⟩ (q0 := 13) rfl rfl rfl rfl (Nat.le_of_ble_eq_true rfl) (nw := 31) ⟨rfl, rfl, rfl, rfl, rfl, rfl, rfl, rfl, rfl, rfl, rfl, rfl, rfl, rfl, rfl, rfl, rfl, rfl, rfl, trivial⟩ ⟨⟨_, rfl, rfl⟩, ⟨_, rfl, rfl⟩, ⟨_, rfl, rfl⟩, ⟨_, rfl, rfl⟩, ⟨_, rfl, rfl⟩, ⟨_, rfl, rfl⟩, ⟨_, rfl, rfl⟩, ⟨_, rfl, rfl⟩, ⟨_, rfl, rfl⟩, ⟨_, rfl, rfl⟩, ⟨_, rfl, rfl⟩, ⟨_, rfl, rfl⟩, trivial⟩ rfl rfl (by decide) (by decide) rfl dX7_rateIn_15 (fun H locs hw => ?_)
    refine lv_aload_n (pc := 18) E.1 E.2.1 dX7_rateIn_18 rfl (lv_at hl 0 rfl) ?_
    refine xg_X7_36 (pc := 19) (v := .ref (ad 13)) E hw 0 rfl rfl dX7_rateIn_19 ?_
    refine lv_iload_n (pc := 22) E.1 E.2.1 dX7_rateIn_22 rfl (lv_at hl 2 rfl) ?_
    obtain ⟨v6, g7, hf⟩ := x_bind hf
    refine x_callV (pc := 23) (As := [.int x2]) (rest := []) (st1 := [.int v6.1]) (ws' := (cells7c G ad (g7_tape s) (g7_book s) (g7_trial s) (g7_past s) v6.2 (g7_pen s) (g7_told s) (g7_ratesNow s))) E hw hl (c_X1_rateCut l G (fun k => ad (k + 13)) v4 x2 g7) xv_X7_312 xd_X1_rateCut rfl rfl ⟨Nat.le_of_ble_eq_true rfl, Nat.le_of_ble_eq_true rfl⟩ [13, 14, 15, 16, 17, 18, 19, 20, 21, 22, 23, 24, 25, 26, 27] [0, 1, 2, 3, 4, 5, 6, 7, 8, 9, 10, 11, 12, 28, 29, 30] (by decide) ⟨rfl, rfl, rfl, rfl, rfl, rfl, rfl, rfl, rfl, rfl, rfl, rfl, rfl, rfl, rfl, trivial⟩ (q0 := 13) rfl rfl rfl rfl (Nat.le_of_ble_eq_true rfl) (nw := 31) ⟨rfl, rfl, rfl, rfl, rfl, rfl, rfl, rfl, rfl, rfl, rfl, rfl, rfl, rfl, rfl, trivial⟩ ⟨⟨_, rfl, rfl⟩, ⟨_, rfl, rfl⟩, ⟨_, rfl, rfl⟩, ⟨_, rfl, rfl⟩, ⟨_, rfl, rfl⟩, ⟨_, rfl, rfl⟩, ⟨_, rfl, rfl⟩, ⟨_, rfl, rfl⟩, ⟨_, rfl, rfl⟩, ⟨_, rfl, rfl⟩, ⟨_, rfl, rfl⟩, ⟨_, rfl, rfl⟩, ⟨_, rfl, rfl⟩, ⟨_, rfl, rfl⟩, ⟨_, rfl, rfl⟩, ⟨_, rfl, rfl⟩, trivial⟩ rfl rfl (by decide) (by decide) rfl dX7_rateIn_23 (fun H locs hw => ?_)
    obtain rfl := Option.some.inj hf
    exact x_reti (pc := 26) E hr hk hw dX7_rateIn_26
  · have hf := x_pos q3 hf
    refine lv_iconst (v := (-1)) (pc := 8) E.1 E.2.1 dX7_rateIn_8 (by decide) ?_
    obtain rfl := Option.some.inj hf
    exact x_reti (pc := 9) E hr hk hw dX7_rateIn_9
set_option maxHeartbeats 4000000 in
set_option maxRecDepth 100000 in
theorem c_X7_rateIn_i7 (l : Launch) (G : xG) (ad : Nat → Nat) (s : S7) (x2 : Int32) {z : Int32 × S7} (hf : f_X7_rateIn_i7 s x2 = some z) : xC l yX7_rateIn cX7_rateIn 3 (some .int) (rm_X7_rateIn_i7) G [.ref (ad 0), .ref (ad 7), .int x2] (cells7 G ad s) (some (.int z.1)) (cells7 G ad z.2) :=
  x_met (by decide) rfl (Nat.le_of_ble_eq_true rfl) (fun p e sS m below meth c E hr hk ls hl hw => w_X7_rateIn_i7_p0 E hr hk s x2 z hw hl hf)
set_option maxHeartbeats 4000000 in
set_option maxRecDepth 100000 in
theorem w_X7_inClass_p0 {p : Program} {l : Launch} {e : Env} {sS : State} {m : MethodId} {args : Array Value} {below : List Frame} {meth : Method} {c : Code} {G : xG} {W0 : va_W} {ad : Nat → Nat}   (E : xE p sS m args c cX7_inClass 3 RX7 G (x_in W0)) (hr : meth.sig.returnType = (some .int)) (hk : meth.locks = false)  : ∀ (s' : S7) (x1' : Int32) (x2' : Int32) (z : Int32 × S7) {H : Heap} {locs : List Loc} {ls : Array Slot}, xW G (x_in W0) sS.heap (cells7 G ad s') H locs → lv_has ls 3 [(0, .ref (ad 0)), (1, .int x1'), (2, .int x2')] → f_X7_inClass  s' x1' x2' = some z → W p l e (rm_X7_inClass) sS m args below meth c H locs 0 0 (MQ below (xQ G W0 (cells7 G ad z.2) (some (.int z.1))) args sS 0 0 (x_in W0)) (F0 m 0 ls []) := by
  intro s x1 x2 z H locs ls hw hl hf
  unfold f_X7_inClass at hf
  refine lv_aload_n (pc := 0) E.1 E.2.1 dX7_inClass_0 rfl (lv_at hl 0 rfl) ?_
  refine xg_X7_19 (pc := 1) (v := .ref (ad 3)) E hw 0 rfl rfl dX7_inClass_1 ?_
  refine lv_iload_n (pc := 4) E.1 E.2.1 dX7_inClass_4 rfl (lv_at hl 1 rfl) ?_
  obtain ⟨v1, g2, hf⟩ := x_bind hf
  refine x_callV (pc := 5) (As := [.int x1]) (rest := []) (st1 := [.int v1]) (ws' := (cells7 G ad s)) E hw hl (c_X0_hasFleet l G (fun k => ad (k + 3)) (g7_book s) x1 g2) xv_X7_95 xd_X0_hasFleet rfl rfl ⟨Nat.le_of_ble_eq_true rfl, Nat.le_of_ble_eq_true rfl⟩ [3, 4, 5, 6] [0, 1, 2, 7, 8, 9, 10, 11, 12, 13, 14, 15, 16, 17, 18, 19, 20, 21, 22, 23, 24, 25, 26, 27, 28, 29, 30] (by decide) ⟨rfl, rfl, rfl, rfl, trivial⟩ (q0 := 3) rfl rfl rfl rfl (Nat.le_of_ble_eq_true rfl) (nw := 31) ⟨rfl, rfl, rfl, rfl, trivial⟩ ⟨⟨_, rfl, rfl⟩, ⟨_, rfl, rfl⟩, ⟨_, rfl, rfl⟩, ⟨_, rfl, rfl⟩, ⟨_, rfl, rfl⟩, ⟨_, rfl, rfl⟩, ⟨_, rfl, rfl⟩, ⟨_, rfl, rfl⟩, ⟨_, rfl, rfl⟩, ⟨_, rfl, rfl⟩, ⟨_, rfl, rfl⟩, ⟨_, rfl, rfl⟩, ⟨_, rfl, rfl⟩, ⟨_, rfl, rfl⟩, ⟨_, rfl, rfl⟩, ⟨_, rfl, rfl⟩, ⟨_, rfl, rfl⟩, ⟨_, rfl, rfl⟩, ⟨_, rfl, rfl⟩, ⟨_, rfl, rfl⟩, ⟨_, rfl, rfl⟩, ⟨_, rfl, rfl⟩, ⟨_, rfl, rfl⟩, ⟨_, rfl, rfl⟩, ⟨_, rfl, rfl⟩, ⟨_, rfl, rfl⟩, ⟨_, rfl, rfl⟩, trivial⟩ rfl rfl (by decide) (by decide) rfl dX7_inClass_5 (fun H locs hw => ?_)
  refine lv_if_eq (tgt := 18) (pc := 8) E.1 E.2.1 dX7_inClass_8 (by decide) (fun q3 => ?_) (fun q3 => ?_)
  · have hf := x_pos q3 hf
    refine lv_iconst (v := (-1)) (pc := 18) E.1 E.2.1 dX7_inClass_18 (by decide) ?_
    obtain rfl := Option.some.inj hf
    exact x_reti (pc := 19) E hr hk hw dX7_inClass_19
  · have hf := x_neg q3 hf
    refine lv_iload_n (pc := 11) E.1 E.2.1 dX7_inClass_11 rfl (lv_at hl 2 rfl) ?_
    obtain ⟨v4, g5, hf⟩ := x_bind hf
    refine x_callS0 (pc := 12) (As := [.int x2]) (rest := []) (st1 := [.int v4]) E hw hl (c_X7_isClass l G  x2 g5) xs_X7_84 xd_X7_isClass rfl rfl ⟨Nat.le_of_ble_eq_true rfl, Nat.le_of_ble_eq_true rfl⟩ rfl rfl (Nat.le_of_ble_eq_true rfl) rfl dX7_inClass_12 (fun H locs hw => ?_)
    refine lv_if_ne (tgt := 20) (pc := 15) E.1 E.2.1 dX7_inClass_15 (by decide) (fun q6 => ?_) (fun q6 => ?_)
    · have hf := x_neg q6 hf
      refine lv_aload_n (pc := 20) E.1 E.2.1 dX7_inClass_20 rfl (lv_at hl 0 rfl) ?_
      refine xg_X7_23 (pc := 21) (v := .ref (ad 7)) E hw 0 rfl rfl dX7_inClass_21 ?_
      refine lv_aload_n (pc := 24) E.1 E.2.1 dX7_inClass_24 rfl (lv_at hl 0 rfl) ?_
      refine xg_X7_19 (pc := 25) (v := .ref (ad 3)) E hw 0 rfl rfl dX7_inClass_25 ?_
      obtain ⟨v7, g8, hf⟩ := x_bind hf
      refine x_callV (pc := 28) (As := [.ref (ad 3)]) (rest := []) (st1 := []) (ws' := (cells7c G ad (g7_tape s) (g7_book s) v7 (g7_past s) (g7_ledger s) (g7_pen s) (g7_told s) (g7_ratesNow s))) E hw hl (c_X0_copyFrom l G (fun k => ad (k + 7)) (fun k => ad (k + 3)) (g7_trial s) (g7_book s) g8) xv_X7_73 xd_X0_copyFrom rfl rfl ⟨Nat.le_of_ble_eq_true rfl, Nat.le_of_ble_eq_true rfl⟩ [7, 8, 9, 10, 3, 4, 5, 6] [0, 1, 2, 11, 12, 13, 14, 15, 16, 17, 18, 19, 20, 21, 22, 23, 24, 25, 26, 27, 28, 29, 30] (by decide) ⟨rfl, rfl, rfl, rfl, rfl, rfl, rfl, rfl, trivial⟩ (q0 := 7) rfl rfl rfl rfl (Nat.le_of_ble_eq_true rfl) (nw := 31) ⟨rfl, rfl, rfl, rfl, rfl, rfl, rfl, rfl, trivial⟩ ⟨⟨_, rfl, rfl⟩, ⟨_, rfl, rfl⟩, ⟨_, rfl, rfl⟩, ⟨_, rfl, rfl⟩, ⟨_, rfl, rfl⟩, ⟨_, rfl, rfl⟩, ⟨_, rfl, rfl⟩, ⟨_, rfl, rfl⟩, ⟨_, rfl, rfl⟩, ⟨_, rfl, rfl⟩, ⟨_, rfl, rfl⟩, ⟨_, rfl, rfl⟩, ⟨_, rfl, rfl⟩, ⟨_, rfl, rfl⟩, ⟨_, rfl, rfl⟩, ⟨_, rfl, rfl⟩, ⟨_, rfl, rfl⟩, ⟨_, rfl, rfl⟩, ⟨_, rfl, rfl⟩, ⟨_, rfl, rfl⟩, ⟨_, rfl, rfl⟩, ⟨_, rfl, rfl⟩, ⟨_, rfl, rfl⟩, trivial⟩ rfl rfl (by decide) (by decide) rfl dX7_inClass_28 (fun H locs hw => ?_)
      refine lv_aload_n (pc := 31) E.1 E.2.1 dX7_inClass_31 rfl (lv_at hl 0 rfl) ?_
      refine xg_X7_23 (pc := 32) (v := .ref (ad 7)) E hw 0 rfl rfl dX7_inClass_32 ?_
      refine lv_iload_n (pc := 35) E.1 E.2.1 dX7_inClass_35 rfl (lv_at hl 1 rfl) ?_
      refine lv_iload_n (pc := 36) E.1 E.2.1 dX7_inClass_36 rfl (lv_at hl 2 rfl) ?_
      obtain ⟨v9, g10, hf⟩ := x_bind hf
      refine x_callV (pc := 37) (As := [.int x1, .int x2]) (rest := []) (st1 := []) (ws' := (cells7c G ad (g7_tape s) (g7_book s) v9 (g7_past s) (g7_ledger s) (g7_pen s) (g7_told s) (g7_ratesNow s))) E hw hl (c_X0_putClass l G (fun k => ad (k + 7)) v7 x1 x2 g10) xv_X7_105 xd_X0_putClass rfl rfl ⟨Nat.le_of_ble_eq_true rfl, Nat.le_of_ble_eq_true rfl⟩ [7, 8, 9, 10] [0, 1, 2, 3, 4, 5, 6, 11, 12, 13, 14, 15, 16, 17, 18, 19, 20, 21, 22, 23, 24, 25, 26, 27, 28, 29, 30] (by decide) ⟨rfl, rfl, rfl, rfl, trivial⟩ (q0 := 7) rfl rfl rfl rfl (Nat.le_of_ble_eq_true rfl) (nw := 31) ⟨rfl, rfl, rfl, rfl, trivial⟩ ⟨⟨_, rfl, rfl⟩, ⟨_, rfl, rfl⟩, ⟨_, rfl, rfl⟩, ⟨_, rfl, rfl⟩, ⟨_, rfl, rfl⟩, ⟨_, rfl, rfl⟩, ⟨_, rfl, rfl⟩, ⟨_, rfl, rfl⟩, ⟨_, rfl, rfl⟩, ⟨_, rfl, rfl⟩, ⟨_, rfl, rfl⟩, ⟨_, rfl, rfl⟩, ⟨_, rfl, rfl⟩, ⟨_, rfl, rfl⟩, ⟨_, rfl, rfl⟩, ⟨_, rfl, rfl⟩, ⟨_, rfl, rfl⟩, ⟨_, rfl, rfl⟩, ⟨_, rfl, rfl⟩, ⟨_, rfl, rfl⟩, ⟨_, rfl, rfl⟩, ⟨_, rfl, rfl⟩, ⟨_, rfl, rfl⟩, ⟨_, rfl, rfl⟩, ⟨_, rfl, rfl⟩, ⟨_, rfl, rfl⟩, ⟨_, rfl, rfl⟩, trivial⟩ rfl rfl (by decide) (by decide) rfl dX7_inClass_37 (fun H locs hw => ?_)
      refine lv_aload_n (pc := 40) E.1 E.2.1 dX7_inClass_40 rfl (lv_at hl 0 rfl) ?_
      refine lv_aload_n (pc := 41) E.1 E.2.1 dX7_inClass_41 rfl (lv_at hl 0 rfl) ?_
      refine xg_X7_23 (pc := 42) (v := .ref (ad 7)) E hw 0 rfl rfl dX7_inClass_42 ?_
      refine lv_iload_n (pc := 45) E.1 E.2.1 dX7_inClass_45 rfl (lv_at hl 1 rfl) ?_
      obtain ⟨v11, g12, hf⟩ := x_bind hf
      refine x_callVA (pc := 46) (As := [.ref (ad 7), .int x1]) (rest := []) (st1 := [.int v11.1]) (ws' := (cells7 G ad v11.2)) E hw hl (c_X7_rateIn_i7 l G ad (u7_trial s v9) x1 g12) xv_X7_256 xd_X7_rateIn rfl rfl ⟨Nat.le_of_ble_eq_true rfl, Nat.le_of_ble_eq_true rfl⟩ (q0 := 0) rfl rfl rfl rfl (Nat.le_of_ble_eq_true rfl) rfl dX7_inClass_46 (fun H locs hw => ?_)
      obtain rfl := Option.some.inj hf
      exact x_reti (pc := 49) E hr hk hw dX7_inClass_49
    · have hf := x_pos q6 hf
      refine lv_iconst (v := (-1)) (pc := 18) E.1 E.2.1 dX7_inClass_18 (by decide) ?_
      obtain rfl := Option.some.inj hf
      exact x_reti (pc := 19) E hr hk hw dX7_inClass_19
set_option maxHeartbeats 4000000 in
set_option maxRecDepth 100000 in
theorem c_X7_inClass (l : Launch) (G : xG) (ad : Nat → Nat) (s : S7) (x1 : Int32) (x2 : Int32) {z : Int32 × S7} (hf : f_X7_inClass s x1 x2 = some z) : xC l yX7_inClass cX7_inClass 3 (some .int) (rm_X7_inClass) G [.ref (ad 0), .int x1, .int x2] (cells7 G ad s) (some (.int z.1)) (cells7 G ad z.2) :=
  x_met (by decide) rfl (Nat.le_of_ble_eq_true rfl) (fun p e sS m below meth c E hr hk ls hl hw => w_X7_inClass_p0 E hr hk s x1 x2 z hw hl hf)
set_option maxHeartbeats 4000000 in
set_option maxRecDepth 100000 in
theorem w_X7_bestClass_p18 {p : Program} {l : Launch} {e : Env} {sS : State} {m : MethodId} {args : Array Value} {below : List Frame} {meth : Method} {c : Code} {G : xG} {W0 : va_W} {ad : Nat → Nat}  {k18 : S7 → Int32 → Int32 → Int32 → Int32 → Option (Int32 × S7)} (E : xE p sS m args c cX7_bestClass 6 RX7 G (x_in W0)) (hr : meth.sig.returnType = (some .int)) (hk : meth.locks = false) (hk18 : ∀ (s' : S7) (x1' : Int32) (x2' : Int32) (x3' : Int32) (x4' : Int32) (z : Int32 × S7) {H : Heap} {locs : List Loc} {ls : Array Slot}, xW G (x_in W0) sS.heap (cells7 G ad s') H locs → lv_has ls 6 [(0, .ref (ad 0)), (1, .int x1'), (2, .int x2'), (3, .int x3'), (4, .int x4')] → k18  s' x1' x2' x3' x4' = some z → W p l e (rm_X7_bestClass) sS m args below meth c H locs 0 0 (MQ below (xQ G W0 (cells7 G ad z.2) (some (.int z.1))) args sS 0 0 (x_in W0)) (F0 m 18 ls [])) : ∀ (s' : S7) (x1' : Int32) (x2' : Int32) (x3' : Int32) (x4' : Int32) (z : Int32 × S7) {H : Heap} {locs : List Loc} {ls : Array Slot}, xW G (x_in W0) sS.heap (cells7 G ad s') H locs → lv_has ls 6 [(0, .ref (ad 0)), (1, .int x1'), (2, .int x2'), (3, .int x3'), (4, .int x4')] → f_X7_bestClass_p18 k18 s' x1' x2' x3' x4' = some z → W p l e (rm_X7_bestClass) sS m args below meth c H locs 0 0 (MQ below (xQ G W0 (cells7 G ad z.2) (some (.int z.1))) args sS 0 0 (x_in W0)) (F0 m 18 ls []) := by
  intro s x1 x2 x3 x4 z H locs ls hw hl hf
  unfold f_X7_bestClass_p18 at hf
  refine lv_iload (pc := 18) E.1 E.2.1 dX7_bestClass_18 (lv_at hl 4 rfl) ?_
  refine lv_iconst (v := 3) (pc := 20) E.1 E.2.1 dX7_bestClass_20 (by decide) ?_
  refine lv_icmp_ge (tgt := 51) (pc := 21) E.1 E.2.1 dX7_bestClass_21 (by decide) (fun q1 => ?_) (fun q1 => ?_)
  · have hf := x_pos q1 hf
    refine lv_iload_n (pc := 51) E.1 E.2.1 dX7_bestClass_51 rfl (lv_at hl 3 rfl) ?_
    obtain rfl := Option.some.inj hf
    exact x_reti (pc := 52) E hr hk hw dX7_bestClass_52
  · have hf := x_neg q1 hf
    refine lv_aload_n (pc := 24) E.1 E.2.1 dX7_bestClass_24 rfl (lv_at hl 0 rfl) ?_
    refine lv_iload_n (pc := 25) E.1 E.2.1 dX7_bestClass_25 rfl (lv_at hl 1 rfl) ?_
    refine lv_iload (pc := 26) E.1 E.2.1 dX7_bestClass_26 (lv_at hl 4 rfl) ?_
    obtain ⟨v2, g3, hf⟩ := x_bind hf
    refine x_callVA (pc := 28) (As := [.int x1, .int x4]) (rest := []) (st1 := [.int v2.1]) (ws' := (cells7 G ad v2.2)) E hw hl (c_X7_inClass l G ad s x1 x4 g3) xv_X7_280 xd_X7_inClass rfl rfl ⟨Nat.le_of_ble_eq_true rfl, Nat.le_of_ble_eq_true rfl⟩ (q0 := 0) rfl rfl rfl rfl (Nat.le_of_ble_eq_true rfl) rfl dX7_bestClass_28 (fun H locs hw => ?_)
    refine lv_istore (lv' := [(5, .int v2.1), (0, .ref (ad 0)), (1, .int x1), (2, .int x2), (3, .int x3), (4, .int x4)]) (pc := 31) E.1 E.2.1 dX7_bestClass_31 hl (by decide) rfl (fun ls hl => ?_)
    refine lv_iload (pc := 33) E.1 E.2.1 dX7_bestClass_33 (lv_at hl 0 rfl) ?_
    refine lv_iload_n (pc := 35) E.1 E.2.1 dX7_bestClass_35 rfl (lv_at hl 3 rfl) ?_
    refine lv_icmp_ge (tgt := 45) (pc := 36) E.1 E.2.1 dX7_bestClass_36 (by decide) (fun q4 => ?_) (fun q4 => ?_)
    · have hf := x_pos q4 hf
      refine lv_iinc (v := (x4 + 1)) (lv' := [(4, .int (x4 + 1)), (5, .int v2.1), (0, .ref (ad 0)), (1, .int x1), (2, .int x2), (3, .int x3)]) (pc := 45) E.1 E.2.1 dX7_bestClass_45 hl (k := 5) rfl rfl (by decide) rfl (fun ls hl => ?_)
      refine lv_goto (tgt := 18) (pc := 48) E.1 E.2.1 dX7_bestClass_48 (by decide) ?_
      exact hk18 v2.2 x1 x2 x3 (x4 + 1) z hw (lv_sub hl [2, 3, 4, 5, 0] rfl) hf
    · have hf := x_neg q4 hf
      refine lv_iload (pc := 39) E.1 E.2.1 dX7_bestClass_39 (lv_at hl 0 rfl) ?_
      refine lv_istore_n (lv' := [(2, .int v2.1), (5, .int v2.1), (0, .ref (ad 0)), (1, .int x1), (3, .int x3), (4, .int x4)]) (pc := 41) E.1 E.2.1 dX7_bestClass_41 rfl hl (by decide) rfl (fun ls hl => ?_)
      refine lv_iload (pc := 42) E.1 E.2.1 dX7_bestClass_42 (lv_at hl 5 rfl) ?_
      refine lv_istore_n (lv' := [(3, .int x4), (2, .int v2.1), (5, .int v2.1), (0, .ref (ad 0)), (1, .int x1), (4, .int x4)]) (pc := 44) E.1 E.2.1 dX7_bestClass_44 rfl hl (by decide) rfl (fun ls hl => ?_)
      refine lv_iinc (v := (x4 + 1)) (lv' := [(4, .int (x4 + 1)), (3, .int x4), (2, .int v2.1), (5, .int v2.1), (0, .ref (ad 0)), (1, .int x1)]) (pc := 45) E.1 E.2.1 dX7_bestClass_45 hl (k := 5) rfl rfl (by decide) rfl (fun ls hl => ?_)
      refine lv_goto (tgt := 18) (pc := 48) E.1 E.2.1 dX7_bestClass_48 (by decide) ?_
      exact hk18 v2.2 x1 v2.1 x4 (x4 + 1) z hw (lv_sub hl [4, 5, 2, 1, 0] rfl) hf
set_option maxHeartbeats 4000000 in
set_option maxRecDepth 100000 in
theorem wl_X7_bestClass_p18 {p : Program} {l : Launch} {e : Env} {sS : State} {m : MethodId} {args : Array Value} {below : List Frame} {meth : Method} {c : Code} {G : xG} {W0 : va_W} {ad : Nat → Nat}   (E : xE p sS m args c cX7_bestClass 6 RX7 G (x_in W0)) (hr : meth.sig.returnType = (some .int)) (hk : meth.locks = false)  : ∀ (s' : S7) (x1' : Int32) (x2' : Int32) (x3' : Int32) (x4' : Int32) (z : Int32 × S7) {H : Heap} {locs : List Loc} {ls : Array Slot}, xW G (x_in W0) sS.heap (cells7 G ad s') H locs → lv_has ls 6 [(0, .ref (ad 0)), (1, .int x1'), (2, .int x2'), (3, .int x3'), (4, .int x4')] → lp_X7_bestClass_p18  s' x1' x2' x3' x4' = some z → W p l e (rm_X7_bestClass) sS m args below meth c H locs 0 0 (MQ below (xQ G W0 (cells7 G ad z.2) (some (.int z.1))) args sS 0 0 (x_in W0)) (F0 m 18 ls []) := by
  intro s x1 x2 x3 x4 z H locs ls hw hl hf
  exact x_loop_W (P := fun (q : S7 × Int32 × Int32 × Int32 × Int32) (z : Int32 × S7) => ∀ {H : Heap} {locs : List Loc} {ls : Array Slot}, xW G (x_in W0) sS.heap (cells7 G ad q.1) H locs → lv_has ls 6 [(0, .ref (ad 0)), (1, .int q.2.1), (2, .int q.2.2.1), (3, .int q.2.2.2.1), (4, .int q.2.2.2.2)] → W p l e (rm_X7_bestClass) sS m args below meth c H locs 0 0 (MQ below (xQ G W0 (cells7 G ad z.2) (some (.int z.1))) args sS 0 0 (x_in W0)) (F0 m 18 ls [])) (fun k hkk q z hf H locs ls hw hl => w_X7_bestClass_p18 E hr hk  (fun s x1 x2 x3 x4 z H locs ls hw hl hf => hkk (s, x1, x2, x3, x4) z hf hw hl) q.1 q.2.1 q.2.2.1 q.2.2.2.1 q.2.2.2.2 z hw hl hf) FU (s, x1, x2, x3, x4) z hf hw hl
set_option maxHeartbeats 4000000 in
set_option maxRecDepth 100000 in
theorem w_X7_bestClass_p0 {p : Program} {l : Launch} {e : Env} {sS : State} {m : MethodId} {args : Array Value} {below : List Frame} {meth : Method} {c : Code} {G : xG} {W0 : va_W} {ad : Nat → Nat}   (E : xE p sS m args c cX7_bestClass 6 RX7 G (x_in W0)) (hr : meth.sig.returnType = (some .int)) (hk : meth.locks = false)  : ∀ (s' : S7) (x1' : Int32) (z : Int32 × S7) {H : Heap} {locs : List Loc} {ls : Array Slot}, xW G (x_in W0) sS.heap (cells7 G ad s') H locs → lv_has ls 6 [(0, .ref (ad 0)), (1, .int x1')] → f_X7_bestClass  s' x1' = some z → W p l e (rm_X7_bestClass) sS m args below meth c H locs 0 0 (MQ below (xQ G W0 (cells7 G ad z.2) (some (.int z.1))) args sS 0 0 (x_in W0)) (F0 m 0 ls []) := by
  intro s x1 z H locs ls hw hl hf
  unfold f_X7_bestClass at hf
  refine lv_aload_n (pc := 0) E.1 E.2.1 dX7_bestClass_0 rfl (lv_at hl 0 rfl) ?_
  refine lv_iload_n (pc := 1) E.1 E.2.1 dX7_bestClass_1 rfl (lv_at hl 1 rfl) ?_
  refine lv_iconst (v := 0) (pc := 2) E.1 E.2.1 dX7_bestClass_2 (by decide) ?_
  obtain ⟨v1, g2, hf⟩ := x_bind hf
  refine x_callVA (pc := 3) (As := [.int x1, .int 0]) (rest := []) (st1 := [.int v1.1]) (ws' := (cells7 G ad v1.2)) E hw hl (c_X7_inClass l G ad s x1 0 g2) xv_X7_280 xd_X7_inClass rfl rfl ⟨Nat.le_of_ble_eq_true rfl, Nat.le_of_ble_eq_true rfl⟩ (q0 := 0) rfl rfl rfl rfl (Nat.le_of_ble_eq_true rfl) rfl dX7_bestClass_3 (fun H locs hw => ?_)
  refine lv_istore_n (lv' := [(2, .int v1.1), (0, .ref (ad 0)), (1, .int x1)]) (pc := 6) E.1 E.2.1 dX7_bestClass_6 rfl hl (by decide) rfl (fun ls hl => ?_)
  refine lv_iload_n (pc := 7) E.1 E.2.1 dX7_bestClass_7 rfl (lv_at hl 0 rfl) ?_
  refine lv_if_ge (tgt := 13) (pc := 8) E.1 E.2.1 dX7_bestClass_8 (by decide) (fun q3 => ?_) (fun q3 => ?_)
  · have hf := x_pos q3 hf
    refine lv_iconst (v := 0) (pc := 13) E.1 E.2.1 dX7_bestClass_13 (by decide) ?_
    refine lv_istore_n (lv' := [(3, .int 0), (2, .int v1.1), (0, .ref (ad 0)), (1, .int x1)]) (pc := 14) E.1 E.2.1 dX7_bestClass_14 rfl hl (by decide) rfl (fun ls hl => ?_)
    refine lv_iconst (v := 1) (pc := 15) E.1 E.2.1 dX7_bestClass_15 (by decide) ?_
    refine lv_istore (lv' := [(4, .int 1), (3, .int 0), (2, .int v1.1), (0, .ref (ad 0)), (1, .int x1)]) (pc := 16) E.1 E.2.1 dX7_bestClass_16 hl (by decide) rfl (fun ls hl => ?_)
    exact wl_X7_bestClass_p18 E hr hk  v1.2 x1 v1.1 0 1 z hw (lv_sub hl [3, 4, 2, 1, 0] rfl) hf
  · have hf := x_neg q3 hf
    refine lv_iload_n (pc := 11) E.1 E.2.1 dX7_bestClass_11 rfl (lv_at hl 0 rfl) ?_
    obtain rfl := Option.some.inj hf
    exact x_reti (pc := 12) E hr hk hw dX7_bestClass_12
set_option maxHeartbeats 4000000 in
set_option maxRecDepth 100000 in
theorem c_X7_bestClass (l : Launch) (G : xG) (ad : Nat → Nat) (s : S7) (x1 : Int32) {z : Int32 × S7} (hf : f_X7_bestClass s x1 = some z) : xC l yX7_bestClass cX7_bestClass 6 (some .int) (rm_X7_bestClass) G [.ref (ad 0), .int x1] (cells7 G ad s) (some (.int z.1)) (cells7 G ad z.2) :=
  x_met (by decide) rfl (Nat.le_of_ble_eq_true rfl) (fun p e sS m below meth c E hr hk ls hl hw => w_X7_bestClass_p0 E hr hk s x1 z hw hl hf)
set_option maxHeartbeats 4000000 in
set_option maxRecDepth 100000 in
theorem w_X7_byCap_p0 {p : Program} {l : Launch} {e : Env} {sS : State} {m : MethodId} {args : Array Value} {below : List Frame} {meth : Method} {c : Code} {G : xG} {W0 : va_W} {ad : Nat → Nat}   (E : xE p sS m args c cX7_byCap 3 RX7 G (x_in W0)) (hr : meth.sig.returnType = (some .int)) (hk : meth.locks = false)  : ∀ (s' : S7) (x1' : Int32) (x2' : Int32) (z : Int32 × S7) {H : Heap} {locs : List Loc} {ls : Array Slot}, xW G (x_in W0) sS.heap (cells7 G ad s') H locs → lv_has ls 3 [(0, .ref (ad 0)), (1, .int x1'), (2, .int x2')] → f_X7_byCap  s' x1' x2' = some z → W p l e (rm_X7_byCap) sS m args below meth c H locs 0 0 (MQ below (xQ G W0 (cells7 G ad z.2) (some (.int z.1))) args sS 0 0 (x_in W0)) (F0 m 0 ls []) := by
  intro s x1 x2 z H locs ls hw hl hf
  unfold f_X7_byCap at hf
  refine lv_aload_n (pc := 0) E.1 E.2.1 dX7_byCap_0 rfl (lv_at hl 0 rfl) ?_
  refine xg_X7_19 (pc := 1) (v := .ref (ad 3)) E hw 0 rfl rfl dX7_byCap_1 ?_
  refine lv_iload_n (pc := 4) E.1 E.2.1 dX7_byCap_4 rfl (lv_at hl 1 rfl) ?_
  obtain ⟨v1, g2, hf⟩ := x_bind hf
  refine x_callV (pc := 5) (As := [.int x1]) (rest := []) (st1 := [.int v1]) (ws' := (cells7 G ad s)) E hw hl (c_X0_hasFleet l G (fun k => ad (k + 3)) (g7_book s) x1 g2) xv_X7_95 xd_X0_hasFleet rfl rfl ⟨Nat.le_of_ble_eq_true rfl, Nat.le_of_ble_eq_true rfl⟩ [3, 4, 5, 6] [0, 1, 2, 7, 8, 9, 10, 11, 12, 13, 14, 15, 16, 17, 18, 19, 20, 21, 22, 23, 24, 25, 26, 27, 28, 29, 30] (by decide) ⟨rfl, rfl, rfl, rfl, trivial⟩ (q0 := 3) rfl rfl rfl rfl (Nat.le_of_ble_eq_true rfl) (nw := 31) ⟨rfl, rfl, rfl, rfl, trivial⟩ ⟨⟨_, rfl, rfl⟩, ⟨_, rfl, rfl⟩, ⟨_, rfl, rfl⟩, ⟨_, rfl, rfl⟩, ⟨_, rfl, rfl⟩, ⟨_, rfl, rfl⟩, ⟨_, rfl, rfl⟩, ⟨_, rfl, rfl⟩, ⟨_, rfl, rfl⟩, ⟨_, rfl, rfl⟩, ⟨_, rfl, rfl⟩, ⟨_, rfl, rfl⟩, ⟨_, rfl, rfl⟩, ⟨_, rfl, rfl⟩, ⟨_, rfl, rfl⟩, ⟨_, rfl, rfl⟩, ⟨_, rfl, rfl⟩, ⟨_, rfl, rfl⟩, ⟨_, rfl, rfl⟩, ⟨_, rfl, rfl⟩, ⟨_, rfl, rfl⟩, ⟨_, rfl, rfl⟩, ⟨_, rfl, rfl⟩, ⟨_, rfl, rfl⟩, ⟨_, rfl, rfl⟩, ⟨_, rfl, rfl⟩, ⟨_, rfl, rfl⟩, trivial⟩ rfl rfl (by decide) (by decide) rfl dX7_byCap_5 (fun H locs hw => ?_)
  refine lv_if_eq (tgt := 18) (pc := 8) E.1 E.2.1 dX7_byCap_8 (by decide) (fun q3 => ?_) (fun q3 => ?_)
  · have hf := x_pos q3 hf
    refine lv_iconst (v := (-1)) (pc := 18) E.1 E.2.1 dX7_byCap_18 (by decide) ?_
    obtain rfl := Option.some.inj hf
    exact x_reti (pc := 19) E hr hk hw dX7_byCap_19
  · have hf := x_neg q3 hf
    refine lv_iload_n (pc := 11) E.1 E.2.1 dX7_byCap_11 rfl (lv_at hl 2 rfl) ?_
    obtain ⟨v4, g5, hf⟩ := x_bind hf
    refine x_callS0 (pc := 12) (As := [.int x2]) (rest := []) (st1 := [.int v4]) E hw hl (c_X7_isAmount l G  x2 g5) xs_X7_136 xd_X7_isAmount rfl rfl ⟨Nat.le_of_ble_eq_true rfl, Nat.le_of_ble_eq_true rfl⟩ rfl rfl (Nat.le_of_ble_eq_true rfl) rfl dX7_byCap_12 (fun H locs hw => ?_)
    refine lv_if_ne (tgt := 20) (pc := 15) E.1 E.2.1 dX7_byCap_15 (by decide) (fun q6 => ?_) (fun q6 => ?_)
    · have hf := x_neg q6 hf
      refine lv_aload_n (pc := 20) E.1 E.2.1 dX7_byCap_20 rfl (lv_at hl 0 rfl) ?_
      refine xg_X7_23 (pc := 21) (v := .ref (ad 7)) E hw 0 rfl rfl dX7_byCap_21 ?_
      refine lv_aload_n (pc := 24) E.1 E.2.1 dX7_byCap_24 rfl (lv_at hl 0 rfl) ?_
      refine xg_X7_19 (pc := 25) (v := .ref (ad 3)) E hw 0 rfl rfl dX7_byCap_25 ?_
      obtain ⟨v7, g8, hf⟩ := x_bind hf
      refine x_callV (pc := 28) (As := [.ref (ad 3)]) (rest := []) (st1 := []) (ws' := (cells7c G ad (g7_tape s) (g7_book s) v7 (g7_past s) (g7_ledger s) (g7_pen s) (g7_told s) (g7_ratesNow s))) E hw hl (c_X0_copyFrom l G (fun k => ad (k + 7)) (fun k => ad (k + 3)) (g7_trial s) (g7_book s) g8) xv_X7_73 xd_X0_copyFrom rfl rfl ⟨Nat.le_of_ble_eq_true rfl, Nat.le_of_ble_eq_true rfl⟩ [7, 8, 9, 10, 3, 4, 5, 6] [0, 1, 2, 11, 12, 13, 14, 15, 16, 17, 18, 19, 20, 21, 22, 23, 24, 25, 26, 27, 28, 29, 30] (by decide) ⟨rfl, rfl, rfl, rfl, rfl, rfl, rfl, rfl, trivial⟩ (q0 := 7) rfl rfl rfl rfl (Nat.le_of_ble_eq_true rfl) (nw := 31) ⟨rfl, rfl, rfl, rfl, rfl, rfl, rfl, rfl, trivial⟩ ⟨⟨_, rfl, rfl⟩, ⟨_, rfl, rfl⟩, ⟨_, rfl, rfl⟩, ⟨_, rfl, rfl⟩, ⟨_, rfl, rfl⟩, ⟨_, rfl, rfl⟩, ⟨_, rfl, rfl⟩, ⟨_, rfl, rfl⟩, ⟨_, rfl, rfl⟩, ⟨_, rfl, rfl⟩, ⟨_, rfl, rfl⟩, ⟨_, rfl, rfl⟩, ⟨_, rfl, rfl⟩, ⟨_, rfl, rfl⟩, ⟨_, rfl, rfl⟩, ⟨_, rfl, rfl⟩, ⟨_, rfl, rfl⟩, ⟨_, rfl, rfl⟩, ⟨_, rfl, rfl⟩, ⟨_, rfl, rfl⟩, ⟨_, rfl, rfl⟩, ⟨_, rfl, rfl⟩, ⟨_, rfl, rfl⟩, trivial⟩ rfl rfl (by decide) (by decide) rfl dX7_byCap_28 (fun H locs hw => ?_)
      refine lv_aload_n (pc := 31) E.1 E.2.1 dX7_byCap_31 rfl (lv_at hl 0 rfl) ?_
      refine xg_X7_23 (pc := 32) (v := .ref (ad 7)) E hw 0 rfl rfl dX7_byCap_32 ?_
      refine lv_iload_n (pc := 35) E.1 E.2.1 dX7_byCap_35 rfl (lv_at hl 2 rfl) ?_
      refine xp_X7_176 (pc := 36) (v := .int x2) (ws' := (cells7c G ad (g7_tape s) (g7_book s) (u0_cap v7 x2) (g7_past s) (g7_ledger s) (g7_pen s) (g7_told s) (g7_ratesNow s))) E hw 7 rfl rfl rfl (Nat.le_of_ble_eq_true rfl) rfl dX7_byCap_36 (fun H locs hw => ?_)
      refine lv_aload_n (pc := 39) E.1 E.2.1 dX7_byCap_39 rfl (lv_at hl 0 rfl) ?_
      refine lv_aload_n (pc := 40) E.1 E.2.1 dX7_byCap_40 rfl (lv_at hl 0 rfl) ?_
      refine xg_X7_23 (pc := 41) (v := .ref (ad 7)) E hw 0 rfl rfl dX7_byCap_41 ?_
      refine lv_iload_n (pc := 44) E.1 E.2.1 dX7_byCap_44 rfl (lv_at hl 1 rfl) ?_
      obtain ⟨v9, g10, hf⟩ := x_bind hf
      refine x_callVA (pc := 45) (As := [.ref (ad 7), .int x1]) (rest := []) (st1 := [.int v9.1]) (ws' := (cells7 G ad v9.2)) E hw hl (c_X7_rateIn_i7 l G ad (u7_trial s (u0_cap v7 x2)) x1 g10) xv_X7_256 xd_X7_rateIn rfl rfl ⟨Nat.le_of_ble_eq_true rfl, Nat.le_of_ble_eq_true rfl⟩ (q0 := 0) rfl rfl rfl rfl (Nat.le_of_ble_eq_true rfl) rfl dX7_byCap_45 (fun H locs hw => ?_)
      obtain rfl := Option.some.inj hf
      exact x_reti (pc := 48) E hr hk hw dX7_byCap_48
    · have hf := x_pos q6 hf
      refine lv_iconst (v := (-1)) (pc := 18) E.1 E.2.1 dX7_byCap_18 (by decide) ?_
      obtain rfl := Option.some.inj hf
      exact x_reti (pc := 19) E hr hk hw dX7_byCap_19
set_option maxHeartbeats 4000000 in
set_option maxRecDepth 100000 in
theorem c_X7_byCap (l : Launch) (G : xG) (ad : Nat → Nat) (s : S7) (x1 : Int32) (x2 : Int32) {z : Int32 × S7} (hf : f_X7_byCap s x1 x2 = some z) : xC l yX7_byCap cX7_byCap 3 (some .int) (rm_X7_byCap) G [.ref (ad 0), .int x1, .int x2] (cells7 G ad s) (some (.int z.1)) (cells7 G ad z.2) :=
  x_met (by decide) rfl (Nat.le_of_ble_eq_true rfl) (fun p e sS m below meth c E hr hk ls hl hw => w_X7_byCap_p0 E hr hk s x1 x2 z hw hl hf)
set_option maxHeartbeats 4000000 in
set_option maxRecDepth 100000 in
theorem w_X7_capFor_p16 {p : Program} {l : Launch} {e : Env} {sS : State} {m : MethodId} {args : Array Value} {below : List Frame} {meth : Method} {c : Code} {G : xG} {W0 : va_W} {ad : Nat → Nat}  {k16 : S7 → Int32 → Int32 → Int32 → Option (Int32 × S7)} (E : xE p sS m args c cX7_capFor 4 RX7 G (x_in W0)) (hr : meth.sig.returnType = (some .int)) (hk : meth.locks = false) (hk16 : ∀ (s' : S7) (x1' : Int32) (x2' : Int32) (x3' : Int32) (z : Int32 × S7) {H : Heap} {locs : List Loc} {ls : Array Slot}, xW G (x_in W0) sS.heap (cells7 G ad s') H locs → lv_has ls 4 [(0, .ref (ad 0)), (1, .int x1'), (2, .int x2'), (3, .int x3')] → k16  s' x1' x2' x3' = some z → W p l e (rm_X7_capFor) sS m args below meth c H locs 0 0 (MQ below (xQ G W0 (cells7 G ad z.2) (some (.int z.1))) args sS 0 0 (x_in W0)) (F0 m 16 ls [])) : ∀ (s' : S7) (x1' : Int32) (x2' : Int32) (x3' : Int32) (z : Int32 × S7) {H : Heap} {locs : List Loc} {ls : Array Slot}, xW G (x_in W0) sS.heap (cells7 G ad s') H locs → lv_has ls 4 [(0, .ref (ad 0)), (1, .int x1'), (2, .int x2'), (3, .int x3')] → f_X7_capFor_p16 k16 s' x1' x2' x3' = some z → W p l e (rm_X7_capFor) sS m args below meth c H locs 0 0 (MQ below (xQ G W0 (cells7 G ad z.2) (some (.int z.1))) args sS 0 0 (x_in W0)) (F0 m 16 ls []) := by
  intro s x1 x2 x3 z H locs ls hw hl hf
  unfold f_X7_capFor_p16 at hf
  refine lv_iload_n (pc := 16) E.1 E.2.1 dX7_capFor_16 rfl (lv_at hl 3 rfl) ?_
  refine lv_bipush (v := 99) (pc := 17) E.1 E.2.1 dX7_capFor_17 (by decide) ?_
  refine lv_icmp_ge (tgt := 40) (pc := 19) E.1 E.2.1 dX7_capFor_19 (by decide) (fun q1 => ?_) (fun q1 => ?_)
  · have hf := x_pos q1 hf
    refine lv_bipush (v := 99) (pc := 40) E.1 E.2.1 dX7_capFor_40 (by decide) ?_
    obtain rfl := Option.some.inj hf
    exact x_reti (pc := 42) E hr hk hw dX7_capFor_42
  · have hf := x_neg q1 hf
    refine lv_aload_n (pc := 22) E.1 E.2.1 dX7_capFor_22 rfl (lv_at hl 0 rfl) ?_
    refine lv_iload_n (pc := 23) E.1 E.2.1 dX7_capFor_23 rfl (lv_at hl 1 rfl) ?_
    refine lv_iload_n (pc := 24) E.1 E.2.1 dX7_capFor_24 rfl (lv_at hl 3 rfl) ?_
    obtain ⟨v2, g3, hf⟩ := x_bind hf
    refine x_callVA (pc := 25) (As := [.int x1, .int x3]) (rest := []) (st1 := [.int v2.1]) (ws' := (cells7 G ad v2.2)) E hw hl (c_X7_byCap l G ad s x1 x3 g3) xv_X7_283 xd_X7_byCap rfl rfl ⟨Nat.le_of_ble_eq_true rfl, Nat.le_of_ble_eq_true rfl⟩ (q0 := 0) rfl rfl rfl rfl (Nat.le_of_ble_eq_true rfl) rfl dX7_capFor_25 (fun H locs hw => ?_)
    refine lv_iload_n (pc := 28) E.1 E.2.1 dX7_capFor_28 rfl (lv_at hl 2 rfl) ?_
    refine lv_icmp_ne (tgt := 34) (pc := 29) E.1 E.2.1 dX7_capFor_29 (by decide) (fun q4 => ?_) (fun q4 => ?_)
    · have hf := x_neg q4 hf
      refine lv_iinc (v := (x3 + 1)) (lv' := [(3, .int (x3 + 1)), (0, .ref (ad 0)), (1, .int x1), (2, .int x2)]) (pc := 34) E.1 E.2.1 dX7_capFor_34 hl (k := 3) rfl rfl (by decide) rfl (fun ls hl => ?_)
      refine lv_goto (tgt := 16) (pc := 37) E.1 E.2.1 dX7_capFor_37 (by decide) ?_
      exact hk16 v2.2 x1 x2 (x3 + 1) z hw (lv_sub hl [1, 2, 3, 0] rfl) hf
    · have hf := x_pos q4 hf
      refine lv_iload_n (pc := 32) E.1 E.2.1 dX7_capFor_32 rfl (lv_at hl 3 rfl) ?_
      obtain rfl := Option.some.inj hf
      exact x_reti (pc := 33) E hr hk hw dX7_capFor_33
set_option maxHeartbeats 4000000 in
set_option maxRecDepth 100000 in
theorem wl_X7_capFor_p16 {p : Program} {l : Launch} {e : Env} {sS : State} {m : MethodId} {args : Array Value} {below : List Frame} {meth : Method} {c : Code} {G : xG} {W0 : va_W} {ad : Nat → Nat}   (E : xE p sS m args c cX7_capFor 4 RX7 G (x_in W0)) (hr : meth.sig.returnType = (some .int)) (hk : meth.locks = false)  : ∀ (s' : S7) (x1' : Int32) (x2' : Int32) (x3' : Int32) (z : Int32 × S7) {H : Heap} {locs : List Loc} {ls : Array Slot}, xW G (x_in W0) sS.heap (cells7 G ad s') H locs → lv_has ls 4 [(0, .ref (ad 0)), (1, .int x1'), (2, .int x2'), (3, .int x3')] → lp_X7_capFor_p16  s' x1' x2' x3' = some z → W p l e (rm_X7_capFor) sS m args below meth c H locs 0 0 (MQ below (xQ G W0 (cells7 G ad z.2) (some (.int z.1))) args sS 0 0 (x_in W0)) (F0 m 16 ls []) := by
  intro s x1 x2 x3 z H locs ls hw hl hf
  exact x_loop_W (P := fun (q : S7 × Int32 × Int32 × Int32) (z : Int32 × S7) => ∀ {H : Heap} {locs : List Loc} {ls : Array Slot}, xW G (x_in W0) sS.heap (cells7 G ad q.1) H locs → lv_has ls 4 [(0, .ref (ad 0)), (1, .int q.2.1), (2, .int q.2.2.1), (3, .int q.2.2.2)] → W p l e (rm_X7_capFor) sS m args below meth c H locs 0 0 (MQ below (xQ G W0 (cells7 G ad z.2) (some (.int z.1))) args sS 0 0 (x_in W0)) (F0 m 16 ls [])) (fun k hkk q z hf H locs ls hw hl => w_X7_capFor_p16 E hr hk  (fun s x1 x2 x3 z H locs ls hw hl hf => hkk (s, x1, x2, x3) z hf hw hl) q.1 q.2.1 q.2.2.1 q.2.2.2 z hw hl hf) FU (s, x1, x2, x3) z hf hw hl
set_option maxHeartbeats 4000000 in
set_option maxRecDepth 100000 in
theorem w_X7_capFor_p0 {p : Program} {l : Launch} {e : Env} {sS : State} {m : MethodId} {args : Array Value} {below : List Frame} {meth : Method} {c : Code} {G : xG} {W0 : va_W} {ad : Nat → Nat}   (E : xE p sS m args c cX7_capFor 4 RX7 G (x_in W0)) (hr : meth.sig.returnType = (some .int)) (hk : meth.locks = false)  : ∀ (s' : S7) (x1' : Int32) (z : Int32 × S7) {H : Heap} {locs : List Loc} {ls : Array Slot}, xW G (x_in W0) sS.heap (cells7 G ad s') H locs → lv_has ls 4 [(0, .ref (ad 0)), (1, .int x1')] → f_X7_capFor  s' x1' = some z → W p l e (rm_X7_capFor) sS m args below meth c H locs 0 0 (MQ below (xQ G W0 (cells7 G ad z.2) (some (.int z.1))) args sS 0 0 (x_in W0)) (F0 m 0 ls []) := by
  intro s x1 z H locs ls hw hl hf
  unfold f_X7_capFor at hf
  refine lv_aload_n (pc := 0) E.1 E.2.1 dX7_capFor_0 rfl (lv_at hl 0 rfl) ?_
  refine lv_iload_n (pc := 1) E.1 E.2.1 dX7_capFor_1 rfl (lv_at hl 1 rfl) ?_
  refine lv_bipush (v := 99) (pc := 2) E.1 E.2.1 dX7_capFor_2 (by decide) ?_
  obtain ⟨v1, g2, hf⟩ := x_bind hf
  refine x_callVA (pc := 4) (As := [.int x1, .int 99]) (rest := []) (st1 := [.int v1.1]) (ws' := (cells7 G ad v1.2)) E hw hl (c_X7_byCap l G ad s x1 99 g2) xv_X7_283 xd_X7_byCap rfl rfl ⟨Nat.le_of_ble_eq_true rfl, Nat.le_of_ble_eq_true rfl⟩ (q0 := 0) rfl rfl rfl rfl (Nat.le_of_ble_eq_true rfl) rfl dX7_capFor_4 (fun H locs hw => ?_)
  refine lv_istore_n (lv' := [(2, .int v1.1), (0, .ref (ad 0)), (1, .int x1)]) (pc := 7) E.1 E.2.1 dX7_capFor_7 rfl hl (by decide) rfl (fun ls hl => ?_)
  refine lv_iload_n (pc := 8) E.1 E.2.1 dX7_capFor_8 rfl (lv_at hl 0 rfl) ?_
  refine lv_if_ge (tgt := 14) (pc := 9) E.1 E.2.1 dX7_capFor_9 (by decide) (fun q3 => ?_) (fun q3 => ?_)
  · have hf := x_pos q3 hf
    refine lv_iconst (v := 1) (pc := 14) E.1 E.2.1 dX7_capFor_14 (by decide) ?_
    refine lv_istore_n (lv' := [(3, .int 1), (2, .int v1.1), (0, .ref (ad 0)), (1, .int x1)]) (pc := 15) E.1 E.2.1 dX7_capFor_15 rfl hl (by decide) rfl (fun ls hl => ?_)
    exact wl_X7_capFor_p16 E hr hk  v1.2 x1 v1.1 1 z hw (lv_sub hl [2, 3, 1, 0] rfl) hf
  · have hf := x_neg q3 hf
    refine lv_iload_n (pc := 12) E.1 E.2.1 dX7_capFor_12 rfl (lv_at hl 0 rfl) ?_
    obtain rfl := Option.some.inj hf
    exact x_reti (pc := 13) E hr hk hw dX7_capFor_13
set_option maxHeartbeats 4000000 in
set_option maxRecDepth 100000 in
theorem c_X7_capFor (l : Launch) (G : xG) (ad : Nat → Nat) (s : S7) (x1 : Int32) {z : Int32 × S7} (hf : f_X7_capFor s x1 = some z) : xC l yX7_capFor cX7_capFor 4 (some .int) (rm_X7_capFor) G [.ref (ad 0), .int x1] (cells7 G ad s) (some (.int z.1)) (cells7 G ad z.2) :=
  x_met (by decide) rfl (Nat.le_of_ble_eq_true rfl) (fun p e sS m below meth c E hr hk ls hl hw => w_X7_capFor_p0 E hr hk s x1 z hw hl hf)
set_option maxHeartbeats 4000000 in
set_option maxRecDepth 100000 in
theorem w_X7_tryEarly_p0 {p : Program} {l : Launch} {e : Env} {sS : State} {m : MethodId} {args : Array Value} {below : List Frame} {meth : Method} {c : Code} {G : xG} {W0 : va_W} {ad : Nat → Nat}   (E : xE p sS m args c cX7_tryEarly 2 RX7 G (x_in W0)) (hr : meth.sig.returnType = none) (hk : meth.locks = false)  : ∀ (s' : S7) (x1' : Int32) (z : S7) {H : Heap} {locs : List Loc} {ls : Array Slot}, xW G (x_in W0) sS.heap (cells7 G ad s') H locs → lv_has ls 2 [(0, .ref (ad 0)), (1, .int x1')] → f_X7_tryEarly  s' x1' = some z → W p l e (rm_X7_tryEarly) sS m args below meth c H locs 0 0 (MQ below (xQ G W0 (cells7 G ad z) none) args sS 0 0 (x_in W0)) (F0 m 0 ls []) := by
  intro s x1 z H locs ls hw hl hf
  unfold f_X7_tryEarly at hf
  refine lv_aload_n (pc := 0) E.1 E.2.1 dX7_tryEarly_0 rfl (lv_at hl 0 rfl) ?_
  refine xg_X7_23 (pc := 1) (v := .ref (ad 7)) E hw 0 rfl rfl dX7_tryEarly_1 ?_
  refine lv_aload_n (pc := 4) E.1 E.2.1 dX7_tryEarly_4 rfl (lv_at hl 0 rfl) ?_
  refine xg_X7_19 (pc := 5) (v := .ref (ad 3)) E hw 0 rfl rfl dX7_tryEarly_5 ?_
  obtain ⟨v1, g2, hf⟩ := x_bind hf
  refine x_callV (pc := 8) (As := [.ref (ad 3)]) (rest := []) (st1 := []) (ws' := (cells7c G ad (g7_tape s) (g7_book s) v1 (g7_past s) (g7_ledger s) (g7_pen s) (g7_told s) (g7_ratesNow s))) E hw hl (c_X0_copyFrom l G (fun k => ad (k + 7)) (fun k => ad (k + 3)) (g7_trial s) (g7_book s) g2) xv_X7_73 xd_X0_copyFrom rfl rfl ⟨Nat.le_of_ble_eq_true rfl, Nat.le_of_ble_eq_true rfl⟩ [7, 8, 9, 10, 3, 4, 5, 6] [0, 1, 2, 11, 12, 13, 14, 15, 16, 17, 18, 19, 20, 21, 22, 23, 24, 25, 26, 27, 28, 29, 30] (by decide) ⟨rfl, rfl, rfl, rfl, rfl, rfl, rfl, rfl, trivial⟩ (q0 := 7) rfl rfl rfl rfl (Nat.le_of_ble_eq_true rfl) (nw := 31) ⟨rfl, rfl, rfl, rfl, rfl, rfl, rfl, rfl, trivial⟩ ⟨⟨_, rfl, rfl⟩, ⟨_, rfl, rfl⟩, ⟨_, rfl, rfl⟩, ⟨_, rfl, rfl⟩, ⟨_, rfl, rfl⟩, ⟨_, rfl, rfl⟩, ⟨_, rfl, rfl⟩, ⟨_, rfl, rfl⟩, ⟨_, rfl, rfl⟩, ⟨_, rfl, rfl⟩, ⟨_, rfl, rfl⟩, ⟨_, rfl, rfl⟩, ⟨_, rfl, rfl⟩, ⟨_, rfl, rfl⟩, ⟨_, rfl, rfl⟩, ⟨_, rfl, rfl⟩, ⟨_, rfl, rfl⟩, ⟨_, rfl, rfl⟩, ⟨_, rfl, rfl⟩, ⟨_, rfl, rfl⟩, ⟨_, rfl, rfl⟩, ⟨_, rfl, rfl⟩, ⟨_, rfl, rfl⟩, trivial⟩ rfl rfl (by decide) (by decide) rfl dX7_tryEarly_8 (fun H locs hw => ?_)
  refine lv_aload_n (pc := 11) E.1 E.2.1 dX7_tryEarly_11 rfl (lv_at hl 0 rfl) ?_
  refine xg_X7_23 (pc := 12) (v := .ref (ad 7)) E hw 0 rfl rfl dX7_tryEarly_12 ?_
  refine lv_bipush (v := 31) (pc := 15) E.1 E.2.1 dX7_tryEarly_15 (by decide) ?_
  refine lv_iconst (v := (-1)) (pc := 17) E.1 E.2.1 dX7_tryEarly_17 (by decide) ?_
  refine lv_iload_n (pc := 18) E.1 E.2.1 dX7_tryEarly_18 rfl (lv_at hl 1 rfl) ?_
  refine lv_ishl (pc := 19) E.1 E.2.1 dX7_tryEarly_19 ?_
  refine lv_iand (pc := 20) E.1 E.2.1 dX7_tryEarly_20 ?_
  obtain ⟨v3, g4, hf⟩ := x_bind hf
  refine x_callV (pc := 21) (As := [.int ((31 : Int32) &&& ((-1 : Int32) <<< (x1 &&& 31)))]) (rest := []) (st1 := []) (ws' := (cells7c G ad (g7_tape s) (g7_book s) v3 (g7_past s) (g7_ledger s) (g7_pen s) (g7_told s) (g7_ratesNow s))) E hw hl (c_X0_endYearsOfAll l G (fun k => ad (k + 7)) v1 ((31 : Int32) &&& ((-1 : Int32) <<< (x1 &&& 31))) g4) xv_X7_133 xd_X0_endYearsOfAll rfl rfl ⟨Nat.le_of_ble_eq_true rfl, Nat.le_of_ble_eq_true rfl⟩ [7, 8, 9, 10] [0, 1, 2, 3, 4, 5, 6, 11, 12, 13, 14, 15, 16, 17, 18, 19, 20, 21, 22, 23, 24, 25, 26, 27, 28, 29, 30] (by decide) ⟨rfl, rfl, rfl, rfl, trivial⟩ (q0 := 7) rfl rfl rfl rfl (Nat.le_of_ble_eq_true rfl) (nw := 31) ⟨rfl, rfl, rfl, rfl, trivial⟩ ⟨⟨_, rfl, rfl⟩, ⟨_, rfl, rfl⟩, ⟨_, rfl, rfl⟩, ⟨_, rfl, rfl⟩, ⟨_, rfl, rfl⟩, ⟨_, rfl, rfl⟩, ⟨_, rfl, rfl⟩, ⟨_, rfl, rfl⟩, ⟨_, rfl, rfl⟩, ⟨_, rfl, rfl⟩, ⟨_, rfl, rfl⟩, ⟨_, rfl, rfl⟩, ⟨_, rfl, rfl⟩, ⟨_, rfl, rfl⟩, ⟨_, rfl, rfl⟩, ⟨_, rfl, rfl⟩, ⟨_, rfl, rfl⟩, ⟨_, rfl, rfl⟩, ⟨_, rfl, rfl⟩, ⟨_, rfl, rfl⟩, ⟨_, rfl, rfl⟩, ⟨_, rfl, rfl⟩, ⟨_, rfl, rfl⟩, ⟨_, rfl, rfl⟩, ⟨_, rfl, rfl⟩, ⟨_, rfl, rfl⟩, ⟨_, rfl, rfl⟩, trivial⟩ rfl rfl (by decide) (by decide) rfl dX7_tryEarly_21 (fun H locs hw => ?_)
  obtain rfl := Option.some.inj hf
  exact x_retv (pc := 24) E hr hk hw dX7_tryEarly_24
set_option maxHeartbeats 4000000 in
set_option maxRecDepth 100000 in
theorem c_X7_tryEarly (l : Launch) (G : xG) (ad : Nat → Nat) (s : S7) (x1 : Int32) {z : S7} (hf : f_X7_tryEarly s x1 = some z) : xC l yX7_tryEarly cX7_tryEarly 2 none (rm_X7_tryEarly) G [.ref (ad 0), .int x1] (cells7 G ad s) none (cells7 G ad z) :=
  x_met (by decide) rfl (Nat.le_of_ble_eq_true rfl) (fun p e sS m below meth c E hr hk ls hl hw => w_X7_tryEarly_p0 E hr hk s x1 z hw hl hf)
set_option maxHeartbeats 4000000 in
set_option maxRecDepth 100000 in
theorem w_X7_early_p0 {p : Program} {l : Launch} {e : Env} {sS : State} {m : MethodId} {args : Array Value} {below : List Frame} {meth : Method} {c : Code} {G : xG} {W0 : va_W} {ad : Nat → Nat}   (E : xE p sS m args c cX7_early 3 RX7 G (x_in W0)) (hr : meth.sig.returnType = (some .int)) (hk : meth.locks = false)  : ∀ (s' : S7) (x1' : Int32) (x2' : Int32) (z : Int32 × S7) {H : Heap} {locs : List Loc} {ls : Array Slot}, xW G (x_in W0) sS.heap (cells7 G ad s') H locs → lv_has ls 3 [(0, .ref (ad 0)), (1, .int x1'), (2, .int x2')] → f_X7_early  s' x1' x2' = some z → W p l e (rm_X7_early) sS m args below meth c H locs 0 0 (MQ below (xQ G W0 (cells7 G ad z.2) (some (.int z.1))) args sS 0 0 (x_in W0)) (F0 m 0 ls []) := by
  intro s x1 x2 z H locs ls hw hl hf
  unfold f_X7_early at hf
  refine lv_aload_n (pc := 0) E.1 E.2.1 dX7_early_0 rfl (lv_at hl 0 rfl) ?_
  refine xg_X7_19 (pc := 1) (v := .ref (ad 3)) E hw 0 rfl rfl dX7_early_1 ?_
  refine lv_iload_n (pc := 4) E.1 E.2.1 dX7_early_4 rfl (lv_at hl 1 rfl) ?_
  obtain ⟨v1, g2, hf⟩ := x_bind hf
  refine x_callV (pc := 5) (As := [.int x1]) (rest := []) (st1 := [.int v1]) (ws' := (cells7 G ad s)) E hw hl (c_X0_hasFleet l G (fun k => ad (k + 3)) (g7_book s) x1 g2) xv_X7_95 xd_X0_hasFleet rfl rfl ⟨Nat.le_of_ble_eq_true rfl, Nat.le_of_ble_eq_true rfl⟩ [3, 4, 5, 6] [0, 1, 2, 7, 8, 9, 10, 11, 12, 13, 14, 15, 16, 17, 18, 19, 20, 21, 22, 23, 24, 25, 26, 27, 28, 29, 30] (by decide) ⟨rfl, rfl, rfl, rfl, trivial⟩ (q0 := 3) rfl rfl rfl rfl (Nat.le_of_ble_eq_true rfl) (nw := 31) ⟨rfl, rfl, rfl, rfl, trivial⟩ ⟨⟨_, rfl, rfl⟩, ⟨_, rfl, rfl⟩, ⟨_, rfl, rfl⟩, ⟨_, rfl, rfl⟩, ⟨_, rfl, rfl⟩, ⟨_, rfl, rfl⟩, ⟨_, rfl, rfl⟩, ⟨_, rfl, rfl⟩, ⟨_, rfl, rfl⟩, ⟨_, rfl, rfl⟩, ⟨_, rfl, rfl⟩, ⟨_, rfl, rfl⟩, ⟨_, rfl, rfl⟩, ⟨_, rfl, rfl⟩, ⟨_, rfl, rfl⟩, ⟨_, rfl, rfl⟩, ⟨_, rfl, rfl⟩, ⟨_, rfl, rfl⟩, ⟨_, rfl, rfl⟩, ⟨_, rfl, rfl⟩, ⟨_, rfl, rfl⟩, ⟨_, rfl, rfl⟩, ⟨_, rfl, rfl⟩, ⟨_, rfl, rfl⟩, ⟨_, rfl, rfl⟩, ⟨_, rfl, rfl⟩, ⟨_, rfl, rfl⟩, trivial⟩ rfl rfl (by decide) (by decide) rfl dX7_early_5 (fun H locs hw => ?_)
  refine lv_if_eq (tgt := 21) (pc := 8) E.1 E.2.1 dX7_early_8 (by decide) (fun q3 => ?_) (fun q3 => ?_)
  · have hf := x_pos q3 hf
    refine lv_iconst (v := (-1)) (pc := 21) E.1 E.2.1 dX7_early_21 (by decide) ?_
    obtain rfl := Option.some.inj hf
    exact x_reti (pc := 22) E hr hk hw dX7_early_22
  · have hf := x_neg q3 hf
    refine lv_iload_n (pc := 11) E.1 E.2.1 dX7_early_11 rfl (lv_at hl 2 rfl) ?_
    refine lv_iconst (v := 1) (pc := 12) E.1 E.2.1 dX7_early_12 (by decide) ?_
    refine lv_icmp_lt (tgt := 21) (pc := 13) E.1 E.2.1 dX7_early_13 (by decide) (fun q4 => ?_) (fun q4 => ?_)
    · have hf := x_pos q4 hf
      refine lv_iconst (v := (-1)) (pc := 21) E.1 E.2.1 dX7_early_21 (by decide) ?_
      obtain rfl := Option.some.inj hf
      exact x_reti (pc := 22) E hr hk hw dX7_early_22
    · have hf := x_neg q4 hf
      refine lv_iload_n (pc := 16) E.1 E.2.1 dX7_early_16 rfl (lv_at hl 2 rfl) ?_
      refine lv_iconst (v := 5) (pc := 17) E.1 E.2.1 dX7_early_17 (by decide) ?_
      refine lv_icmp_le (tgt := 23) (pc := 18) E.1 E.2.1 dX7_early_18 (by decide) (fun q5 => ?_) (fun q5 => ?_)
      · have hf := x_pos q5 hf
        refine lv_aload_n (pc := 23) E.1 E.2.1 dX7_early_23 rfl (lv_at hl 0 rfl) ?_
        refine lv_iload_n (pc := 24) E.1 E.2.1 dX7_early_24 rfl (lv_at hl 2 rfl) ?_
        obtain ⟨v6, g7, hf⟩ := x_bind hf
        refine x_callVA (pc := 25) (As := [.int x2]) (rest := []) (st1 := []) (ws' := (cells7 G ad v6)) E hw hl (c_X7_tryEarly l G ad s x2 g7) xv_X7_286 xd_X7_tryEarly rfl rfl ⟨Nat.le_of_ble_eq_true rfl, Nat.le_of_ble_eq_true rfl⟩ (q0 := 0) rfl rfl rfl rfl (Nat.le_of_ble_eq_true rfl) rfl dX7_early_25 (fun H locs hw => ?_)
        refine lv_aload_n (pc := 28) E.1 E.2.1 dX7_early_28 rfl (lv_at hl 0 rfl) ?_
        refine lv_aload_n (pc := 29) E.1 E.2.1 dX7_early_29 rfl (lv_at hl 0 rfl) ?_
        refine xg_X7_23 (pc := 30) (v := .ref (ad 7)) E hw 0 rfl rfl dX7_early_30 ?_
        refine lv_iload_n (pc := 33) E.1 E.2.1 dX7_early_33 rfl (lv_at hl 1 rfl) ?_
        obtain ⟨v8, g9, hf⟩ := x_bind hf
        refine x_callVA (pc := 34) (As := [.ref (ad 7), .int x1]) (rest := []) (st1 := [.int v8.1]) (ws' := (cells7 G ad v8.2)) E hw hl (c_X7_rateIn_i7 l G ad v6 x1 g9) xv_X7_256 xd_X7_rateIn rfl rfl ⟨Nat.le_of_ble_eq_true rfl, Nat.le_of_ble_eq_true rfl⟩ (q0 := 0) rfl rfl rfl rfl (Nat.le_of_ble_eq_true rfl) rfl dX7_early_34 (fun H locs hw => ?_)
        obtain rfl := Option.some.inj hf
        exact x_reti (pc := 37) E hr hk hw dX7_early_37
      · have hf := x_neg q5 hf
        refine lv_iconst (v := (-1)) (pc := 21) E.1 E.2.1 dX7_early_21 (by decide) ?_
        obtain rfl := Option.some.inj hf
        exact x_reti (pc := 22) E hr hk hw dX7_early_22
set_option maxHeartbeats 4000000 in
set_option maxRecDepth 100000 in
theorem c_X7_early (l : Launch) (G : xG) (ad : Nat → Nat) (s : S7) (x1 : Int32) (x2 : Int32) {z : Int32 × S7} (hf : f_X7_early s x1 x2 = some z) : xC l yX7_early cX7_early 3 (some .int) (rm_X7_early) G [.ref (ad 0), .int x1, .int x2] (cells7 G ad s) (some (.int z.1)) (cells7 G ad z.2) :=
  x_met (by decide) rfl (Nat.le_of_ble_eq_true rfl) (fun p e sS m below meth c E hr hk ls hl hw => w_X7_early_p0 E hr hk s x1 x2 z hw hl hf)
set_option maxHeartbeats 4000000 in
set_option maxRecDepth 100000 in
theorem w_X7_earlyShare_p0 {p : Program} {l : Launch} {e : Env} {sS : State} {m : MethodId} {args : Array Value} {below : List Frame} {meth : Method} {c : Code} {G : xG} {W0 : va_W} {ad : Nat → Nat}   (E : xE p sS m args c cX7_earlyShare 3 RX7 G (x_in W0)) (hr : meth.sig.returnType = (some .int)) (hk : meth.locks = false)  : ∀ (s' : S7) (x1' : Int32) (x2' : Int32) (z : Int32 × S7) {H : Heap} {locs : List Loc} {ls : Array Slot}, xW G (x_in W0) sS.heap (cells7 G ad s') H locs → lv_has ls 3 [(0, .ref (ad 0)), (1, .int x1'), (2, .int x2')] → f_X7_earlyShare  s' x1' x2' = some z → W p l e (rm_X7_earlyShare) sS m args below meth c H locs 0 0 (MQ below (xQ G W0 (cells7 G ad z.2) (some (.int z.1))) args sS 0 0 (x_in W0)) (F0 m 0 ls []) := by
  intro s x1 x2 z H locs ls hw hl hf
  unfold f_X7_earlyShare at hf
  refine lv_aload_n (pc := 0) E.1 E.2.1 dX7_earlyShare_0 rfl (lv_at hl 0 rfl) ?_
  refine xg_X7_19 (pc := 1) (v := .ref (ad 3)) E hw 0 rfl rfl dX7_earlyShare_1 ?_
  refine lv_iload_n (pc := 4) E.1 E.2.1 dX7_earlyShare_4 rfl (lv_at hl 1 rfl) ?_
  obtain ⟨v1, g2, hf⟩ := x_bind hf
  refine x_callV (pc := 5) (As := [.int x1]) (rest := []) (st1 := [.int v1]) (ws' := (cells7 G ad s)) E hw hl (c_X0_hasFleet l G (fun k => ad (k + 3)) (g7_book s) x1 g2) xv_X7_95 xd_X0_hasFleet rfl rfl ⟨Nat.le_of_ble_eq_true rfl, Nat.le_of_ble_eq_true rfl⟩ [3, 4, 5, 6] [0, 1, 2, 7, 8, 9, 10, 11, 12, 13, 14, 15, 16, 17, 18, 19, 20, 21, 22, 23, 24, 25, 26, 27, 28, 29, 30] (by decide) ⟨rfl, rfl, rfl, rfl, trivial⟩ (q0 := 3) rfl rfl rfl rfl (Nat.le_of_ble_eq_true rfl) (nw := 31) ⟨rfl, rfl, rfl, rfl, trivial⟩ ⟨⟨_, rfl, rfl⟩, ⟨_, rfl, rfl⟩, ⟨_, rfl, rfl⟩, ⟨_, rfl, rfl⟩, ⟨_, rfl, rfl⟩, ⟨_, rfl, rfl⟩, ⟨_, rfl, rfl⟩, ⟨_, rfl, rfl⟩, ⟨_, rfl, rfl⟩, ⟨_, rfl, rfl⟩, ⟨_, rfl, rfl⟩, ⟨_, rfl, rfl⟩, ⟨_, rfl, rfl⟩, ⟨_, rfl, rfl⟩, ⟨_, rfl, rfl⟩, ⟨_, rfl, rfl⟩, ⟨_, rfl, rfl⟩, ⟨_, rfl, rfl⟩, ⟨_, rfl, rfl⟩, ⟨_, rfl, rfl⟩, ⟨_, rfl, rfl⟩, ⟨_, rfl, rfl⟩, ⟨_, rfl, rfl⟩, ⟨_, rfl, rfl⟩, ⟨_, rfl, rfl⟩, ⟨_, rfl, rfl⟩, ⟨_, rfl, rfl⟩, trivial⟩ rfl rfl (by decide) (by decide) rfl dX7_earlyShare_5 (fun H locs hw => ?_)
  refine lv_if_eq (tgt := 21) (pc := 8) E.1 E.2.1 dX7_earlyShare_8 (by decide) (fun q3 => ?_) (fun q3 => ?_)
  · have hf := x_pos q3 hf
    refine lv_iconst (v := (-1)) (pc := 21) E.1 E.2.1 dX7_earlyShare_21 (by decide) ?_
    obtain rfl := Option.some.inj hf
    exact x_reti (pc := 22) E hr hk hw dX7_earlyShare_22
  · have hf := x_neg q3 hf
    refine lv_iload_n (pc := 11) E.1 E.2.1 dX7_earlyShare_11 rfl (lv_at hl 2 rfl) ?_
    refine lv_iconst (v := 1) (pc := 12) E.1 E.2.1 dX7_earlyShare_12 (by decide) ?_
    refine lv_icmp_lt (tgt := 21) (pc := 13) E.1 E.2.1 dX7_earlyShare_13 (by decide) (fun q4 => ?_) (fun q4 => ?_)
    · have hf := x_pos q4 hf
      refine lv_iconst (v := (-1)) (pc := 21) E.1 E.2.1 dX7_earlyShare_21 (by decide) ?_
      obtain rfl := Option.some.inj hf
      exact x_reti (pc := 22) E hr hk hw dX7_earlyShare_22
    · have hf := x_neg q4 hf
      refine lv_iload_n (pc := 16) E.1 E.2.1 dX7_earlyShare_16 rfl (lv_at hl 2 rfl) ?_
      refine lv_iconst (v := 5) (pc := 17) E.1 E.2.1 dX7_earlyShare_17 (by decide) ?_
      refine lv_icmp_le (tgt := 23) (pc := 18) E.1 E.2.1 dX7_earlyShare_18 (by decide) (fun q5 => ?_) (fun q5 => ?_)
      · have hf := x_pos q5 hf
        refine lv_aload_n (pc := 23) E.1 E.2.1 dX7_earlyShare_23 rfl (lv_at hl 0 rfl) ?_
        refine lv_iload_n (pc := 24) E.1 E.2.1 dX7_earlyShare_24 rfl (lv_at hl 2 rfl) ?_
        obtain ⟨v6, g7, hf⟩ := x_bind hf
        refine x_callVA (pc := 25) (As := [.int x2]) (rest := []) (st1 := []) (ws' := (cells7 G ad v6)) E hw hl (c_X7_tryEarly l G ad s x2 g7) xv_X7_286 xd_X7_tryEarly rfl rfl ⟨Nat.le_of_ble_eq_true rfl, Nat.le_of_ble_eq_true rfl⟩ (q0 := 0) rfl rfl rfl rfl (Nat.le_of_ble_eq_true rfl) rfl dX7_earlyShare_25 (fun H locs hw => ?_)
        refine lv_aload_n (pc := 28) E.1 E.2.1 dX7_earlyShare_28 rfl (lv_at hl 0 rfl) ?_
        refine xg_X7_36 (pc := 29) (v := .ref (ad 13)) E hw 0 rfl rfl dX7_earlyShare_29 ?_
        refine lv_aload_n (pc := 32) E.1 E.2.1 dX7_earlyShare_32 rfl (lv_at hl 0 rfl) ?_
        refine xg_X7_23 (pc := 33) (v := .ref (ad 7)) E hw 0 rfl rfl dX7_earlyShare_33 ?_
        obtain ⟨v8, g9, hf⟩ := x_bind hf
        refine x_callV (pc := 36) (As := [.ref (ad 7)]) (rest := []) (st1 := []) (ws' := (cells7c G ad (g7_tape v6) (g7_book v6) (g7_trial v6) (g7_past v6) v8 (g7_pen v6) (g7_told v6) (g7_ratesNow v6))) E hw hl (c_X1_reckon l G (fun k => ad (k + 13)) (fun k => ad (k + 7)) (g7_ledger v6) (g7_trial v6) g9) xv_X7_186 xd_X1_reckon rfl rfl ⟨Nat.le_of_ble_eq_true rfl, Nat.le_of_ble_eq_true rfl⟩ [13, 14, 15, 16, 17, 18, 19, 20, 21, 22, 23, 24, 25, 26, 27, 7, 8, 9, 10] [0, 1, 2, 3, 4, 5, 6, 11, 12, 28, 29, 30] (by decide) ⟨rfl, rfl, rfl, rfl, rfl, rfl, rfl, rfl, rfl, rfl, rfl, rfl, rfl, rfl, rfl, rfl, rfl, rfl, rfl, trivial⟩ (q0 := 13) rfl rfl rfl rfl (Nat.le_of_ble_eq_true rfl) (nw := 31) ⟨rfl, rfl, rfl, rfl, rfl, rfl, rfl, rfl, rfl, rfl, rfl, rfl, rfl, rfl, rfl, rfl, rfl, rfl, rfl, trivial⟩ ⟨⟨_, rfl, rfl⟩, ⟨_, rfl, rfl⟩, ⟨_, rfl, rfl⟩, ⟨_, rfl, rfl⟩, ⟨_, rfl, rfl⟩, ⟨_, rfl, rfl⟩, ⟨_, rfl, rfl⟩, ⟨_, rfl, rfl⟩, ⟨_, rfl, rfl⟩, ⟨_, rfl, rfl⟩, ⟨_, rfl, rfl⟩, ⟨_, rfl, rfl⟩, trivial⟩ rfl rfl (by decide) (by decide) rfl dX7_earlyShare_36 (fun H locs hw => ?_)
        refine lv_aload_n (pc := 39) E.1 E.2.1 dX7_earlyShare_39 rfl (lv_at hl 0 rfl) ?_
        refine xg_X7_36 (pc := 40) (v := .ref (ad 13)) E hw 0 rfl rfl dX7_earlyShare_40 ?_
        refine lv_iload_n (pc := 43) E.1 E.2.1 dX7_earlyShare_43 rfl (lv_at hl 1 rfl) ?_
        obtain ⟨v10, g11, hf⟩ := x_bind hf
        refine x_callV (pc := 44) (As := [.int x1]) (rest := []) (st1 := [.int v10]) (ws' := (cells7c G ad (g7_tape v6) (g7_book v6) (g7_trial v6) (g7_past v6) v8 (g7_pen v6) (g7_told v6) (g7_ratesNow v6))) E hw hl (c_X1_shareOf l G (fun k => ad (k + 13)) v8 x1 g11) xv_X7_204 xd_X1_shareOf rfl rfl ⟨Nat.le_of_ble_eq_true rfl, Nat.le_of_ble_eq_true rfl⟩ [13, 14, 15, 16, 17, 18, 19, 20, 21, 22, 23, 24, 25, 26, 27] [0, 1, 2, 3, 4, 5, 6, 7, 8, 9, 10, 11, 12, 28, 29, 30] (by decide) ⟨rfl, rfl, rfl, rfl, rfl, rfl, rfl, rfl, rfl, rfl, rfl, rfl, rfl, rfl, rfl, trivial⟩ (q0 := 13) rfl rfl rfl rfl (Nat.le_of_ble_eq_true rfl) (nw := 31) ⟨rfl, rfl, rfl, rfl, rfl, rfl, rfl, rfl, rfl, rfl, rfl, rfl, rfl, rfl, rfl, trivial⟩ ⟨⟨_, rfl, rfl⟩, ⟨_, rfl, rfl⟩, ⟨_, rfl, rfl⟩, ⟨_, rfl, rfl⟩, ⟨_, rfl, rfl⟩, ⟨_, rfl, rfl⟩, ⟨_, rfl, rfl⟩, ⟨_, rfl, rfl⟩, ⟨_, rfl, rfl⟩, ⟨_, rfl, rfl⟩, ⟨_, rfl, rfl⟩, ⟨_, rfl, rfl⟩, ⟨_, rfl, rfl⟩, ⟨_, rfl, rfl⟩, ⟨_, rfl, rfl⟩, ⟨_, rfl, rfl⟩, trivial⟩ rfl rfl (by decide) (by decide) rfl dX7_earlyShare_44 (fun H locs hw => ?_)
        obtain rfl := Option.some.inj hf
        exact x_reti (pc := 47) E hr hk hw dX7_earlyShare_47
      · have hf := x_neg q5 hf
        refine lv_iconst (v := (-1)) (pc := 21) E.1 E.2.1 dX7_earlyShare_21 (by decide) ?_
        obtain rfl := Option.some.inj hf
        exact x_reti (pc := 22) E hr hk hw dX7_earlyShare_22
set_option maxHeartbeats 4000000 in
set_option maxRecDepth 100000 in
theorem c_X7_earlyShare (l : Launch) (G : xG) (ad : Nat → Nat) (s : S7) (x1 : Int32) (x2 : Int32) {z : Int32 × S7} (hf : f_X7_earlyShare s x1 x2 = some z) : xC l yX7_earlyShare cX7_earlyShare 3 (some .int) (rm_X7_earlyShare) G [.ref (ad 0), .int x1, .int x2] (cells7 G ad s) (some (.int z.1)) (cells7 G ad z.2) :=
  x_met (by decide) rfl (Nat.le_of_ble_eq_true rfl) (fun p e sS m below meth c E hr hk ls hl hw => w_X7_earlyShare_p0 E hr hk s x1 x2 z hw hl hf)
set_option maxHeartbeats 4000000 in
set_option maxRecDepth 100000 in
theorem w_X7_withoutFleet_p65 {p : Program} {l : Launch} {e : Env} {sS : State} {m : MethodId} {args : Array Value} {below : List Frame} {meth : Method} {c : Code} {G : xG} {W0 : va_W} {ad : Nat → Nat}   (E : xE p sS m args c cX7_withoutFleet 3 RX7 G (x_in W0)) (hr : meth.sig.returnType = (some .int)) (hk : meth.locks = false)  : ∀ (s' : S7) (y2' : Int32) (z : Int32 × S7) {H : Heap} {locs : List Loc} {ls : Array Slot}, xW G (x_in W0) sS.heap (cells7 G ad s') H locs → lv_has ls 3 [] → f_X7_withoutFleet_p65  s' y2' = some z → W p l e (rm_X7_withoutFleet) sS m args below meth c H locs 0 0 (MQ below (xQ G W0 (cells7 G ad z.2) (some (.int z.1))) args sS 0 0 (x_in W0)) (F0 m 65 ls [.int y2', .ref (ad 7), .ref (ad 0)]) := by
  intro s y2 z H locs ls hw hl hf
  unfold f_X7_withoutFleet_p65 at hf
  obtain ⟨v1, g2, hf⟩ := x_bind hf
  refine x_callVA (pc := 65) (As := [.ref (ad 7), .int y2]) (rest := []) (st1 := [.int v1.1]) (ws' := (cells7 G ad v1.2)) E hw hl (c_X7_rateIn_i7 l G ad s y2 g2) xv_X7_256 xd_X7_rateIn rfl rfl ⟨Nat.le_of_ble_eq_true rfl, Nat.le_of_ble_eq_true rfl⟩ (q0 := 0) rfl rfl rfl rfl (Nat.le_of_ble_eq_true rfl) rfl dX7_withoutFleet_65 (fun H locs hw => ?_)
  obtain rfl := Option.some.inj hf
  exact x_reti (pc := 68) E hr hk hw dX7_withoutFleet_68
set_option maxHeartbeats 4000000 in
set_option maxRecDepth 100000 in
theorem w_X7_withoutFleet_p0 {p : Program} {l : Launch} {e : Env} {sS : State} {m : MethodId} {args : Array Value} {below : List Frame} {meth : Method} {c : Code} {G : xG} {W0 : va_W} {ad : Nat → Nat}   (E : xE p sS m args c cX7_withoutFleet 3 RX7 G (x_in W0)) (hr : meth.sig.returnType = (some .int)) (hk : meth.locks = false)  : ∀ (s' : S7) (x1' : Int32) (x2' : Int32) (z : Int32 × S7) {H : Heap} {locs : List Loc} {ls : Array Slot}, xW G (x_in W0) sS.heap (cells7 G ad s') H locs → lv_has ls 3 [(0, .ref (ad 0)), (1, .int x1'), (2, .int x2')] → f_X7_withoutFleet  s' x1' x2' = some z → W p l e (rm_X7_withoutFleet) sS m args below meth c H locs 0 0 (MQ below (xQ G W0 (cells7 G ad z.2) (some (.int z.1))) args sS 0 0 (x_in W0)) (F0 m 0 ls []) := by
  intro s x1 x2 z H locs ls hw hl hf
  unfold f_X7_withoutFleet at hf
  refine lv_aload_n (pc := 0) E.1 E.2.1 dX7_withoutFleet_0 rfl (lv_at hl 0 rfl) ?_
  refine xg_X7_19 (pc := 1) (v := .ref (ad 3)) E hw 0 rfl rfl dX7_withoutFleet_1 ?_
  refine lv_iload_n (pc := 4) E.1 E.2.1 dX7_withoutFleet_4 rfl (lv_at hl 1 rfl) ?_
  obtain ⟨v1, g2, hf⟩ := x_bind hf
  refine x_callV (pc := 5) (As := [.int x1]) (rest := []) (st1 := [.int v1]) (ws' := (cells7 G ad s)) E hw hl (c_X0_hasFleet l G (fun k => ad (k + 3)) (g7_book s) x1 g2) xv_X7_95 xd_X0_hasFleet rfl rfl ⟨Nat.le_of_ble_eq_true rfl, Nat.le_of_ble_eq_true rfl⟩ [3, 4, 5, 6] [0, 1, 2, 7, 8, 9, 10, 11, 12, 13, 14, 15, 16, 17, 18, 19, 20, 21, 22, 23, 24, 25, 26, 27, 28, 29, 30] (by decide) ⟨rfl, rfl, rfl, rfl, trivial⟩ (q0 := 3) rfl rfl rfl rfl (Nat.le_of_ble_eq_true rfl) (nw := 31) ⟨rfl, rfl, rfl, rfl, trivial⟩ ⟨⟨_, rfl, rfl⟩, ⟨_, rfl, rfl⟩, ⟨_, rfl, rfl⟩, ⟨_, rfl, rfl⟩, ⟨_, rfl, rfl⟩, ⟨_, rfl, rfl⟩, ⟨_, rfl, rfl⟩, ⟨_, rfl, rfl⟩, ⟨_, rfl, rfl⟩, ⟨_, rfl, rfl⟩, ⟨_, rfl, rfl⟩, ⟨_, rfl, rfl⟩, ⟨_, rfl, rfl⟩, ⟨_, rfl, rfl⟩, ⟨_, rfl, rfl⟩, ⟨_, rfl, rfl⟩, ⟨_, rfl, rfl⟩, ⟨_, rfl, rfl⟩, ⟨_, rfl, rfl⟩, ⟨_, rfl, rfl⟩, ⟨_, rfl, rfl⟩, ⟨_, rfl, rfl⟩, ⟨_, rfl, rfl⟩, ⟨_, rfl, rfl⟩, ⟨_, rfl, rfl⟩, ⟨_, rfl, rfl⟩, ⟨_, rfl, rfl⟩, trivial⟩ rfl rfl (by decide) (by decide) rfl dX7_withoutFleet_5 (fun H locs hw => ?_)
  refine lv_if_eq (tgt := 27) (pc := 8) E.1 E.2.1 dX7_withoutFleet_8 (by decide) (fun q3 => ?_) (fun q3 => ?_)
  · have hf := x_pos q3 hf
    refine lv_iconst (v := (-1)) (pc := 27) E.1 E.2.1 dX7_withoutFleet_27 (by decide) ?_
    obtain rfl := Option.some.inj hf
    exact x_reti (pc := 28) E hr hk hw dX7_withoutFleet_28
  · have hf := x_neg q3 hf
    refine lv_aload_n (pc := 11) E.1 E.2.1 dX7_withoutFleet_11 rfl (lv_at hl 0 rfl) ?_
    refine xg_X7_19 (pc := 12) (v := .ref (ad 3)) E hw 0 rfl rfl dX7_withoutFleet_12 ?_
    refine lv_iload_n (pc := 15) E.1 E.2.1 dX7_withoutFleet_15 rfl (lv_at hl 2 rfl) ?_
    obtain ⟨v4, g5, hf⟩ := x_bind hf
    refine x_callV (pc := 16) (As := [.int x2]) (rest := []) (st1 := [.int v4]) (ws' := (cells7 G ad s)) E hw hl (c_X0_hasFleet l G (fun k => ad (k + 3)) (g7_book s) x2 g5) xv_X7_95 xd_X0_hasFleet rfl rfl ⟨Nat.le_of_ble_eq_true rfl, Nat.le_of_ble_eq_true rfl⟩ [3, 4, 5, 6] [0, 1, 2, 7, 8, 9, 10, 11, 12, 13, 14, 15, 16, 17, 18, 19, 20, 21, 22, 23, 24, 25, 26, 27, 28, 29, 30] (by decide) ⟨rfl, rfl, rfl, rfl, trivial⟩ (q0 := 3) rfl rfl rfl rfl (Nat.le_of_ble_eq_true rfl) (nw := 31) ⟨rfl, rfl, rfl, rfl, trivial⟩ ⟨⟨_, rfl, rfl⟩, ⟨_, rfl, rfl⟩, ⟨_, rfl, rfl⟩, ⟨_, rfl, rfl⟩, ⟨_, rfl, rfl⟩, ⟨_, rfl, rfl⟩, ⟨_, rfl, rfl⟩, ⟨_, rfl, rfl⟩, ⟨_, rfl, rfl⟩, ⟨_, rfl, rfl⟩, ⟨_, rfl, rfl⟩, ⟨_, rfl, rfl⟩, ⟨_, rfl, rfl⟩, ⟨_, rfl, rfl⟩, ⟨_, rfl, rfl⟩, ⟨_, rfl, rfl⟩, ⟨_, rfl, rfl⟩, ⟨_, rfl, rfl⟩, ⟨_, rfl, rfl⟩, ⟨_, rfl, rfl⟩, ⟨_, rfl, rfl⟩, ⟨_, rfl, rfl⟩, ⟨_, rfl, rfl⟩, ⟨_, rfl, rfl⟩, ⟨_, rfl, rfl⟩, ⟨_, rfl, rfl⟩, ⟨_, rfl, rfl⟩, trivial⟩ rfl rfl (by decide) (by decide) rfl dX7_withoutFleet_16 (fun H locs hw => ?_)
    refine lv_if_eq (tgt := 27) (pc := 19) E.1 E.2.1 dX7_withoutFleet_19 (by decide) (fun q6 => ?_) (fun q6 => ?_)
    · have hf := x_pos q6 hf
      refine lv_iconst (v := (-1)) (pc := 27) E.1 E.2.1 dX7_withoutFleet_27 (by decide) ?_
      obtain rfl := Option.some.inj hf
      exact x_reti (pc := 28) E hr hk hw dX7_withoutFleet_28
    · have hf := x_neg q6 hf
      refine lv_iload_n (pc := 22) E.1 E.2.1 dX7_withoutFleet_22 rfl (lv_at hl 1 rfl) ?_
      refine lv_iload_n (pc := 23) E.1 E.2.1 dX7_withoutFleet_23 rfl (lv_at hl 2 rfl) ?_
      refine lv_icmp_ne (tgt := 29) (pc := 24) E.1 E.2.1 dX7_withoutFleet_24 (by decide) (fun q7 => ?_) (fun q7 => ?_)
      · have hf := x_neg q7 hf
        refine lv_aload_n (pc := 29) E.1 E.2.1 dX7_withoutFleet_29 rfl (lv_at hl 0 rfl) ?_
        refine xg_X7_23 (pc := 30) (v := .ref (ad 7)) E hw 0 rfl rfl dX7_withoutFleet_30 ?_
        refine lv_aload_n (pc := 33) E.1 E.2.1 dX7_withoutFleet_33 rfl (lv_at hl 0 rfl) ?_
        refine xg_X7_19 (pc := 34) (v := .ref (ad 3)) E hw 0 rfl rfl dX7_withoutFleet_34 ?_
        obtain ⟨v8, g9, hf⟩ := x_bind hf
        refine x_callV (pc := 37) (As := [.ref (ad 3)]) (rest := []) (st1 := []) (ws' := (cells7c G ad (g7_tape s) (g7_book s) v8 (g7_past s) (g7_ledger s) (g7_pen s) (g7_told s) (g7_ratesNow s))) E hw hl (c_X0_copyFrom l G (fun k => ad (k + 7)) (fun k => ad (k + 3)) (g7_trial s) (g7_book s) g9) xv_X7_73 xd_X0_copyFrom rfl rfl ⟨Nat.le_of_ble_eq_true rfl, Nat.le_of_ble_eq_true rfl⟩ [7, 8, 9, 10, 3, 4, 5, 6] [0, 1, 2, 11, 12, 13, 14, 15, 16, 17, 18, 19, 20, 21, 22, 23, 24, 25, 26, 27, 28, 29, 30] (by decide) ⟨rfl, rfl, rfl, rfl, rfl, rfl, rfl, rfl, trivial⟩ (q0 := 7) rfl rfl rfl rfl (Nat.le_of_ble_eq_true rfl) (nw := 31) ⟨rfl, rfl, rfl, rfl, rfl, rfl, rfl, rfl, trivial⟩ ⟨⟨_, rfl, rfl⟩, ⟨_, rfl, rfl⟩, ⟨_, rfl, rfl⟩, ⟨_, rfl, rfl⟩, ⟨_, rfl, rfl⟩, ⟨_, rfl, rfl⟩, ⟨_, rfl, rfl⟩, ⟨_, rfl, rfl⟩, ⟨_, rfl, rfl⟩, ⟨_, rfl, rfl⟩, ⟨_, rfl, rfl⟩, ⟨_, rfl, rfl⟩, ⟨_, rfl, rfl⟩, ⟨_, rfl, rfl⟩, ⟨_, rfl, rfl⟩, ⟨_, rfl, rfl⟩, ⟨_, rfl, rfl⟩, ⟨_, rfl, rfl⟩, ⟨_, rfl, rfl⟩, ⟨_, rfl, rfl⟩, ⟨_, rfl, rfl⟩, ⟨_, rfl, rfl⟩, ⟨_, rfl, rfl⟩, trivial⟩ rfl rfl (by decide) (by decide) rfl dX7_withoutFleet_37 (fun H locs hw => ?_)
        refine lv_aload_n (pc := 40) E.1 E.2.1 dX7_withoutFleet_40 rfl (lv_at hl 0 rfl) ?_
        refine xg_X7_23 (pc := 41) (v := .ref (ad 7)) E hw 0 rfl rfl dX7_withoutFleet_41 ?_
        refine lv_iload_n (pc := 44) E.1 E.2.1 dX7_withoutFleet_44 rfl (lv_at hl 2 rfl) ?_
        obtain ⟨v10, g11, hf⟩ := x_bind hf
        refine x_callV (pc := 45) (As := [.int x2]) (rest := []) (st1 := []) (ws' := (cells7c G ad (g7_tape s) (g7_book s) v10 (g7_past s) (g7_ledger s) (g7_pen s) (g7_told s) (g7_ratesNow s))) E hw hl (c_X0_dropFleet l G (fun k => ad (k + 7)) v8 x2 g11) xv_X7_98 xd_X0_dropFleet rfl rfl ⟨Nat.le_of_ble_eq_true rfl, Nat.le_of_ble_eq_true rfl⟩ [7, 8, 9, 10] [0, 1, 2, 3, 4, 5, 6, 11, 12, 13, 14, 15, 16, 17, 18, 19, 20, 21, 22, 23, 24, 25, 26, 27, 28, 29, 30] (by decide) ⟨rfl, rfl, rfl, rfl, trivial⟩ (q0 := 7) rfl rfl rfl rfl (Nat.le_of_ble_eq_true rfl) (nw := 31) ⟨rfl, rfl, rfl, rfl, trivial⟩ ⟨⟨_, rfl, rfl⟩, ⟨_, rfl, rfl⟩, ⟨_, rfl, rfl⟩, ⟨_, rfl, rfl⟩, ⟨_, rfl, rfl⟩, ⟨_, rfl, rfl⟩, ⟨_, rfl, rfl⟩, ⟨_, rfl, rfl⟩, ⟨_, rfl, rfl⟩, ⟨_, rfl, rfl⟩, ⟨_, rfl, rfl⟩, ⟨_, rfl, rfl⟩, ⟨_, rfl, rfl⟩, ⟨_, rfl, rfl⟩, ⟨_, rfl, rfl⟩, ⟨_, rfl, rfl⟩, ⟨_, rfl, rfl⟩, ⟨_, rfl, rfl⟩, ⟨_, rfl, rfl⟩, ⟨_, rfl, rfl⟩, ⟨_, rfl, rfl⟩, ⟨_, rfl, rfl⟩, ⟨_, rfl, rfl⟩, ⟨_, rfl, rfl⟩, ⟨_, rfl, rfl⟩, ⟨_, rfl, rfl⟩, ⟨_, rfl, rfl⟩, trivial⟩ rfl rfl (by decide) (by decide) rfl dX7_withoutFleet_45 (fun H locs hw => ?_)
        refine lv_aload_n (pc := 48) E.1 E.2.1 dX7_withoutFleet_48 rfl (lv_at hl 0 rfl) ?_
        refine lv_aload_n (pc := 49) E.1 E.2.1 dX7_withoutFleet_49 rfl (lv_at hl 0 rfl) ?_
        refine xg_X7_23 (pc := 50) (v := .ref (ad 7)) E hw 0 rfl rfl dX7_withoutFleet_50 ?_
        refine lv_iload_n (pc := 53) E.1 E.2.1 dX7_withoutFleet_53 rfl (lv_at hl 1 rfl) ?_
        refine lv_iload_n (pc := 54) E.1 E.2.1 dX7_withoutFleet_54 rfl (lv_at hl 2 rfl) ?_
        refine lv_icmp_le (tgt := 64) (pc := 55) E.1 E.2.1 dX7_withoutFleet_55 (by decide) (fun q12 => ?_) (fun q12 => ?_)
        · have hf := x_pos q12 hf
          refine lv_iload_n (pc := 64) E.1 E.2.1 dX7_withoutFleet_64 rfl (lv_at hl 1 rfl) ?_
          exact w_X7_withoutFleet_p65 E hr hk  (u7_trial s v10) x1 z hw (lv_sub hl [] rfl) hf
        · have hf := x_neg q12 hf
          refine lv_iload_n (pc := 58) E.1 E.2.1 dX7_withoutFleet_58 rfl (lv_at hl 1 rfl) ?_
          refine lv_iconst (v := 1) (pc := 59) E.1 E.2.1 dX7_withoutFleet_59 (by decide) ?_
          refine lv_isub (pc := 60) E.1 E.2.1 dX7_withoutFleet_60 ?_
          refine lv_goto (tgt := 65) (pc := 61) E.1 E.2.1 dX7_withoutFleet_61 (by decide) ?_
          exact w_X7_withoutFleet_p65 E hr hk  (u7_trial s v10) (x1 - (1 : Int32)) z hw (lv_sub hl [] rfl) hf
      · have hf := x_pos q7 hf
        refine lv_iconst (v := (-1)) (pc := 27) E.1 E.2.1 dX7_withoutFleet_27 (by decide) ?_
        obtain rfl := Option.some.inj hf
        exact x_reti (pc := 28) E hr hk hw dX7_withoutFleet_28
set_option maxHeartbeats 4000000 in
set_option maxRecDepth 100000 in
theorem c_X7_withoutFleet (l : Launch) (G : xG) (ad : Nat → Nat) (s : S7) (x1 : Int32) (x2 : Int32) {z : Int32 × S7} (hf : f_X7_withoutFleet s x1 x2 = some z) : xC l yX7_withoutFleet cX7_withoutFleet 3 (some .int) (rm_X7_withoutFleet) G [.ref (ad 0), .int x1, .int x2] (cells7 G ad s) (some (.int z.1)) (cells7 G ad z.2) :=
  x_met (by decide) rfl (Nat.le_of_ble_eq_true rfl) (fun p e sS m below meth c E hr hk ls hl hw => w_X7_withoutFleet_p0 E hr hk s x1 x2 z hw hl hf)
set_option maxHeartbeats 4000000 in
set_option maxRecDepth 100000 in
theorem w_X7_spreadIn_i7_p0 {p : Program} {l : Launch} {e : Env} {sS : State} {m : MethodId} {args : Array Value} {below : List Frame} {meth : Method} {c : Code} {G : xG} {W0 : va_W} {ad : Nat → Nat}   (E : xE p sS m args c cX7_spreadIn 5 RX7 G (x_in W0)) (hr : meth.sig.returnType = (some .long)) (hk : meth.locks = false)  : ∀ (s' : S7) (x2' : Int32) (x3' : Int32) (x4' : Int32) (z : Int64 × S7) {H : Heap} {locs : List Loc} {ls : Array Slot}, xW G (x_in W0) sS.heap (cells7 G ad s') H locs → lv_has ls 5 [(0, .ref (ad 0)), (1, .ref (ad 7)), (2, .int x2'), (3, .int x3'), (4, .int x4')] → f_X7_spreadIn_i7  s' x2' x3' x4' = some z → W p l e (rm_X7_spreadIn_i7) sS m args below meth c H locs 0 0 (MQ below (xQ G W0 (cells7 G ad z.2) (some (.long z.1))) args sS 0 0 (x_in W0)) (F0 m 0 ls []) := by
  intro s x2 x3 x4 z H locs ls hw hl hf
  unfold f_X7_spreadIn_i7 at hf
  refine lv_aload_n (pc := 0) E.1 E.2.1 dX7_spreadIn_0 rfl (lv_at hl 0 rfl) ?_
  refine xg_X7_36 (pc := 1) (v := .ref (ad 13)) E hw 0 rfl rfl dX7_spreadIn_1 ?_
  refine lv_aload_n (pc := 4) E.1 E.2.1 dX7_spreadIn_4 rfl (lv_at hl 1 rfl) ?_
  obtain ⟨v1, g2, hf⟩ := x_bind hf
  refine x_callV (pc := 5) (As := [.ref (ad 7)]) (rest := []) (st1 := []) (ws' := (cells7c G ad (g7_tape s) (g7_book s) (g7_trial s) (g7_past s) v1 (g7_pen s) (g7_told s) (g7_ratesNow s))) E hw hl (c_X1_reckon l G (fun k => ad (k + 13)) (fun k => ad (k + 7)) (g7_ledger s) (g7_trial s) g2) xv_X7_186 xd_X1_reckon rfl rfl ⟨Nat.le_of_ble_eq_true rfl, Nat.le_of_ble_eq_true rfl⟩ [13, 14, 15, 16, 17, 18, 19, 20, 21, 22, 23, 24, 25, 26, 27, 7, 8, 9, 10] [0, 1, 2, 3, 4, 5, 6, 11, 12, 28, 29, 30] (by decide) ⟨rfl, rfl, rfl, rfl, rfl, rfl, rfl, rfl, rfl, rfl, rfl, rfl, rfl, rfl, rfl, rfl, rfl, rfl, rfl, trivial⟩ (q0 := 13) rfl rfl rfl rfl (Nat.le_of_ble_eq_true rfl) (nw := 31) ⟨rfl, rfl, rfl, rfl, rfl, rfl, rfl, rfl, rfl, rfl, rfl, rfl, rfl, rfl, rfl, rfl, rfl, rfl, rfl, trivial⟩ ⟨⟨_, rfl, rfl⟩, ⟨_, rfl, rfl⟩, ⟨_, rfl, rfl⟩, ⟨_, rfl, rfl⟩, ⟨_, rfl, rfl⟩, ⟨_, rfl, rfl⟩, ⟨_, rfl, rfl⟩, ⟨_, rfl, rfl⟩, ⟨_, rfl, rfl⟩, ⟨_, rfl, rfl⟩, ⟨_, rfl, rfl⟩, ⟨_, rfl, rfl⟩, trivial⟩ rfl rfl (by decide) (by decide) rfl dX7_spreadIn_5 (fun H locs hw => ?_)
  refine lv_aload_n (pc := 8) E.1 E.2.1 dX7_spreadIn_8 rfl (lv_at hl 0 rfl) ?_
  refine xg_X7_36 (pc := 9) (v := .ref (ad 13)) E hw 0 rfl rfl dX7_spreadIn_9 ?_
  refine lv_iload_n (pc := 12) E.1 E.2.1 dX7_spreadIn_12 rfl (lv_at hl 2 rfl) ?_
  refine lv_iload_n (pc := 13) E.1 E.2.1 dX7_spreadIn_13 rfl (lv_at hl 3 rfl) ?_
  refine lv_aload_n (pc := 14) E.1 E.2.1 dX7_spreadIn_14 rfl (lv_at hl 0 rfl) ?_
  refine xg_X7_50 (pc := 15) (v := .ref (ad 29)) E hw 0 rfl rfl dX7_spreadIn_15 ?_
  obtain ⟨v3, g4, hf⟩ := x_bind hf
  refine x_callV (pc := 18) (As := [.int x2, .int x3, .ref (ad 29)]) (rest := []) (st1 := []) (ws' := (cells7c G ad (g7_tape s) (g7_book s) (g7_trial s) (g7_past s) v1 (g7_pen s) v3 (g7_ratesNow s))) E hw hl (c_X1_putSpread l G (fun k => ad (k + 13)) (fun k => ad (k + 29)) v1 (g7_told s) x2 x3 g4) xv_X7_338 xd_X1_putSpread rfl rfl ⟨Nat.le_of_ble_eq_true rfl, Nat.le_of_ble_eq_true rfl⟩ [13, 14, 15, 16, 17, 18, 19, 20, 21, 22, 23, 24, 25, 26, 27, 29] [0, 1, 2, 3, 4, 5, 6, 7, 8, 9, 10, 11, 12, 28, 30] (by decide) ⟨rfl, rfl, rfl, rfl, rfl, rfl, rfl, rfl, rfl, rfl, rfl, rfl, rfl, rfl, rfl, rfl, trivial⟩ (q0 := 13) rfl rfl rfl rfl (Nat.le_of_ble_eq_true rfl) (nw := 31) ⟨rfl, rfl, rfl, rfl, rfl, rfl, rfl, rfl, rfl, rfl, rfl, rfl, rfl, rfl, rfl, rfl, trivial⟩ ⟨⟨_, rfl, rfl⟩, ⟨_, rfl, rfl⟩, ⟨_, rfl, rfl⟩, ⟨_, rfl, rfl⟩, ⟨_, rfl, rfl⟩, ⟨_, rfl, rfl⟩, ⟨_, rfl, rfl⟩, ⟨_, rfl, rfl⟩, ⟨_, rfl, rfl⟩, ⟨_, rfl, rfl⟩, ⟨_, rfl, rfl⟩, ⟨_, rfl, rfl⟩, ⟨_, rfl, rfl⟩, ⟨_, rfl, rfl⟩, ⟨_, rfl, rfl⟩, trivial⟩ rfl rfl (by decide) (by decide) rfl dX7_spreadIn_18 (fun H locs hw => ?_)
  refine lv_aload_n (pc := 21) E.1 E.2.1 dX7_spreadIn_21 rfl (lv_at hl 0 rfl) ?_
  refine xg_X7_50 (pc := 22) (v := .ref (ad 29)) E hw 0 rfl rfl dX7_spreadIn_22 ?_
  refine lv_iload (pc := 25) E.1 E.2.1 dX7_spreadIn_25 (lv_at hl 4 rfl) ?_
  obtain ⟨v5, g6, hf⟩ := x_bind hf
  refine x_callV (pc := 27) (As := [.int x4]) (rest := []) (st1 := [.long v5]) (ws' := (cells7c G ad (g7_tape s) (g7_book s) (g7_trial s) (g7_past s) v1 (g7_pen s) v3 (g7_ratesNow s))) E hw hl (c_X5_part l G (fun k => ad (k + 29)) v3 x4 g6) xv_X7_248 xd_X5_part rfl rfl ⟨Nat.le_of_ble_eq_true rfl, Nat.le_of_ble_eq_true rfl⟩ [29] [0, 1, 2, 3, 4, 5, 6, 7, 8, 9, 10, 11, 12, 13, 14, 15, 16, 17, 18, 19, 20, 21, 22, 23, 24, 25, 26, 27, 28, 30] (by decide) ⟨rfl, trivial⟩ (q0 := 29) rfl rfl rfl rfl (Nat.le_of_ble_eq_true rfl) (nw := 31) ⟨rfl, trivial⟩ ⟨⟨_, rfl, rfl⟩, ⟨_, rfl, rfl⟩, ⟨_, rfl, rfl⟩, ⟨_, rfl, rfl⟩, ⟨_, rfl, rfl⟩, ⟨_, rfl, rfl⟩, ⟨_, rfl, rfl⟩, ⟨_, rfl, rfl⟩, ⟨_, rfl, rfl⟩, ⟨_, rfl, rfl⟩, ⟨_, rfl, rfl⟩, ⟨_, rfl, rfl⟩, ⟨_, rfl, rfl⟩, ⟨_, rfl, rfl⟩, ⟨_, rfl, rfl⟩, ⟨_, rfl, rfl⟩, ⟨_, rfl, rfl⟩, ⟨_, rfl, rfl⟩, ⟨_, rfl, rfl⟩, ⟨_, rfl, rfl⟩, ⟨_, rfl, rfl⟩, ⟨_, rfl, rfl⟩, ⟨_, rfl, rfl⟩, ⟨_, rfl, rfl⟩, ⟨_, rfl, rfl⟩, ⟨_, rfl, rfl⟩, ⟨_, rfl, rfl⟩, ⟨_, rfl, rfl⟩, ⟨_, rfl, rfl⟩, ⟨_, rfl, rfl⟩, trivial⟩ rfl rfl (by decide) (by decide) rfl dX7_spreadIn_27 (fun H locs hw => ?_)
  obtain rfl := Option.some.inj hf
  exact x_retl (pc := 30) E hr hk hw dX7_spreadIn_30
set_option maxHeartbeats 4000000 in
set_option maxRecDepth 100000 in
theorem c_X7_spreadIn_i7 (l : Launch) (G : xG) (ad : Nat → Nat) (s : S7) (x2 : Int32) (x3 : Int32) (x4 : Int32) {z : Int64 × S7} (hf : f_X7_spreadIn_i7 s x2 x3 x4 = some z) : xC l yX7_spreadIn cX7_spreadIn 5 (some .long) (rm_X7_spreadIn_i7) G [.ref (ad 0), .ref (ad 7), .int x2, .int x3, .int x4] (cells7 G ad s) (some (.long z.1)) (cells7 G ad z.2) :=
  x_met (by decide) rfl (Nat.le_of_ble_eq_true rfl) (fun p e sS m below meth c E hr hk ls hl hw => w_X7_spreadIn_i7_p0 E hr hk s x2 x3 x4 z hw hl hf)
set_option maxHeartbeats 4000000 in
set_option maxRecDepth 100000 in
theorem w_X7_joined_p0 {p : Program} {l : Launch} {e : Env} {sS : State} {m : MethodId} {args : Array Value} {below : List Frame} {meth : Method} {c : Code} {G : xG} {W0 : va_W} {ad : Nat → Nat}   (E : xE p sS m args c cX7_joined 5 RX7 G (x_in W0)) (hr : meth.sig.returnType = (some .long)) (hk : meth.locks = false)  : ∀ (s' : S7) (x1' : Int32) (x2' : Int32) (x3' : Int32) (x4' : Int32) (z : Int64 × S7) {H : Heap} {locs : List Loc} {ls : Array Slot}, xW G (x_in W0) sS.heap (cells7 G ad s') H locs → lv_has ls 5 [(0, .ref (ad 0)), (1, .int x1'), (2, .int x2'), (3, .int x3'), (4, .int x4')] → f_X7_joined  s' x1' x2' x3' x4' = some z → W p l e (rm_X7_joined) sS m args below meth c H locs 0 0 (MQ below (xQ G W0 (cells7 G ad z.2) (some (.long z.1))) args sS 0 0 (x_in W0)) (F0 m 0 ls []) := by
  intro s x1 x2 x3 x4 z H locs ls hw hl hf
  unfold f_X7_joined at hf
  refine lv_iload_n (pc := 0) E.1 E.2.1 dX7_joined_0 rfl (lv_at hl 1 rfl) ?_
  obtain ⟨v1, g2, hf⟩ := x_bind hf
  refine x_callS0 (pc := 1) (As := [.int x1]) (rest := []) (st1 := [.int v1]) E hw hl (c_X7_isClass l G  x1 g2) xs_X7_84 xd_X7_isClass rfl rfl ⟨Nat.le_of_ble_eq_true rfl, Nat.le_of_ble_eq_true rfl⟩ rfl rfl (Nat.le_of_ble_eq_true rfl) rfl dX7_joined_1 (fun H locs hw => ?_)
  refine lv_if_eq (tgt := 19) (pc := 4) E.1 E.2.1 dX7_joined_4 (by decide) (fun q3 => ?_) (fun q3 => ?_)
  · have hf := x_pos q3 hf
    refine lv_ldc2 (v := (-1000000000)) (pc := 19) E.1 E.2.1 E.2.2.2.1 (E.2.2.2.2.1 _ wq_952) dX7_joined_19 ?_
    obtain rfl := Option.some.inj hf
    exact x_retl (pc := 22) E hr hk hw dX7_joined_22
  · have hf := x_neg q3 hf
    refine lv_iload_n (pc := 7) E.1 E.2.1 dX7_joined_7 rfl (lv_at hl 2 rfl) ?_
    obtain ⟨v4, g5, hf⟩ := x_bind hf
    refine x_callS0 (pc := 8) (As := [.int x2]) (rest := []) (st1 := [.int v4]) E hw hl (c_X7_isClass l G  x2 g5) xs_X7_84 xd_X7_isClass rfl rfl ⟨Nat.le_of_ble_eq_true rfl, Nat.le_of_ble_eq_true rfl⟩ rfl rfl (Nat.le_of_ble_eq_true rfl) rfl dX7_joined_8 (fun H locs hw => ?_)
    refine lv_if_eq (tgt := 19) (pc := 11) E.1 E.2.1 dX7_joined_11 (by decide) (fun q6 => ?_) (fun q6 => ?_)
    · have hf := x_pos q6 hf
      refine lv_ldc2 (v := (-1000000000)) (pc := 19) E.1 E.2.1 E.2.2.2.1 (E.2.2.2.2.1 _ wq_952) dX7_joined_19 ?_
      obtain rfl := Option.some.inj hf
      exact x_retl (pc := 22) E hr hk hw dX7_joined_22
    · have hf := x_neg q6 hf
      refine lv_iload_n (pc := 14) E.1 E.2.1 dX7_joined_14 rfl (lv_at hl 1 rfl) ?_
      refine lv_iload_n (pc := 15) E.1 E.2.1 dX7_joined_15 rfl (lv_at hl 2 rfl) ?_
      refine lv_icmp_ne (tgt := 23) (pc := 16) E.1 E.2.1 dX7_joined_16 (by decide) (fun q7 => ?_) (fun q7 => ?_)
      · have hf := x_neg q7 hf
        refine lv_aload_n (pc := 23) E.1 E.2.1 dX7_joined_23 rfl (lv_at hl 0 rfl) ?_
        refine xg_X7_23 (pc := 24) (v := .ref (ad 7)) E hw 0 rfl rfl dX7_joined_24 ?_
        refine lv_aload_n (pc := 27) E.1 E.2.1 dX7_joined_27 rfl (lv_at hl 0 rfl) ?_
        refine xg_X7_19 (pc := 28) (v := .ref (ad 3)) E hw 0 rfl rfl dX7_joined_28 ?_
        obtain ⟨v8, g9, hf⟩ := x_bind hf
        refine x_callV (pc := 31) (As := [.ref (ad 3)]) (rest := []) (st1 := []) (ws' := (cells7c G ad (g7_tape s) (g7_book s) v8 (g7_past s) (g7_ledger s) (g7_pen s) (g7_told s) (g7_ratesNow s))) E hw hl (c_X0_copyFrom l G (fun k => ad (k + 7)) (fun k => ad (k + 3)) (g7_trial s) (g7_book s) g9) xv_X7_73 xd_X0_copyFrom rfl rfl ⟨Nat.le_of_ble_eq_true rfl, Nat.le_of_ble_eq_true rfl⟩ [7, 8, 9, 10, 3, 4, 5, 6] [0, 1, 2, 11, 12, 13, 14, 15, 16, 17, 18, 19, 20, 21, 22, 23, 24, 25, 26, 27, 28, 29, 30] (by decide) ⟨rfl, rfl, rfl, rfl, rfl, rfl, rfl, rfl, trivial⟩ (q0 := 7) rfl rfl rfl rfl (Nat.le_of_ble_eq_true rfl) (nw := 31) ⟨rfl, rfl, rfl, rfl, rfl, rfl, rfl, rfl, trivial⟩ ⟨⟨_, rfl, rfl⟩, ⟨_, rfl, rfl⟩, ⟨_, rfl, rfl⟩, ⟨_, rfl, rfl⟩, ⟨_, rfl, rfl⟩, ⟨_, rfl, rfl⟩, ⟨_, rfl, rfl⟩, ⟨_, rfl, rfl⟩, ⟨_, rfl, rfl⟩, ⟨_, rfl, rfl⟩, ⟨_, rfl, rfl⟩, ⟨_, rfl, rfl⟩, ⟨_, rfl, rfl⟩, ⟨_, rfl, rfl⟩, ⟨_, rfl, rfl⟩, ⟨_, rfl, rfl⟩, ⟨_, rfl, rfl⟩, ⟨_, rfl, rfl⟩, ⟨_, rfl, rfl⟩, ⟨_, rfl, rfl⟩, ⟨_, rfl, rfl⟩, ⟨_, rfl, rfl⟩, ⟨_, rfl, rfl⟩, trivial⟩ rfl rfl (by decide) (by decide) rfl dX7_joined_31 (fun H locs hw => ?_)
        refine lv_aload_n (pc := 34) E.1 E.2.1 dX7_joined_34 rfl (lv_at hl 0 rfl) ?_
        refine xg_X7_23 (pc := 35) (v := .ref (ad 7)) E hw 0 rfl rfl dX7_joined_35 ?_
        refine lv_iload_n (pc := 38) E.1 E.2.1 dX7_joined_38 rfl (lv_at hl 1 rfl) ?_
        refine lv_iload_n (pc := 39) E.1 E.2.1 dX7_joined_39 rfl (lv_at hl 2 rfl) ?_
        obtain ⟨v10, g11, hf⟩ := x_bind hf
        refine x_callV (pc := 40) (As := [.int x1, .int x2]) (rest := []) (st1 := [.int v10.1]) (ws' := (cells7c G ad (g7_tape s) (g7_book s) v10.2 (g7_past s) (g7_ledger s) (g7_pen s) (g7_told s) (g7_ratesNow s))) E hw hl (c_X0_moveAll l G (fun k => ad (k + 7)) v8 x1 x2 g11) xv_X7_161 xd_X0_moveAll rfl rfl ⟨Nat.le_of_ble_eq_true rfl, Nat.le_of_ble_eq_true rfl⟩ [7, 8, 9, 10] [0, 1, 2, 3, 4, 5, 6, 11, 12, 13, 14, 15, 16, 17, 18, 19, 20, 21, 22, 23, 24, 25, 26, 27, 28, 29, 30] (by decide) ⟨rfl, rfl, rfl, rfl, trivial⟩ (q0 := 7) rfl rfl rfl rfl (Nat.le_of_ble_eq_true rfl) (nw := 31) ⟨rfl, rfl, rfl, rfl, trivial⟩ ⟨⟨_, rfl, rfl⟩, ⟨_, rfl, rfl⟩, ⟨_, rfl, rfl⟩, ⟨_, rfl, rfl⟩, ⟨_, rfl, rfl⟩, ⟨_, rfl, rfl⟩, ⟨_, rfl, rfl⟩, ⟨_, rfl, rfl⟩, ⟨_, rfl, rfl⟩, ⟨_, rfl, rfl⟩, ⟨_, rfl, rfl⟩, ⟨_, rfl, rfl⟩, ⟨_, rfl, rfl⟩, ⟨_, rfl, rfl⟩, ⟨_, rfl, rfl⟩, ⟨_, rfl, rfl⟩, ⟨_, rfl, rfl⟩, ⟨_, rfl, rfl⟩, ⟨_, rfl, rfl⟩, ⟨_, rfl, rfl⟩, ⟨_, rfl, rfl⟩, ⟨_, rfl, rfl⟩, ⟨_, rfl, rfl⟩, ⟨_, rfl, rfl⟩, ⟨_, rfl, rfl⟩, ⟨_, rfl, rfl⟩, ⟨_, rfl, rfl⟩, trivial⟩ rfl rfl (by decide) (by decide) rfl dX7_joined_40 (fun H locs hw => ?_)
        refine lv_pop (pc := 43) E.1 E.2.1 dX7_joined_43 rfl ?_
        refine lv_aload_n (pc := 44) E.1 E.2.1 dX7_joined_44 rfl (lv_at hl 0 rfl) ?_
        refine lv_aload_n (pc := 45) E.1 E.2.1 dX7_joined_45 rfl (lv_at hl 0 rfl) ?_
        refine xg_X7_23 (pc := 46) (v := .ref (ad 7)) E hw 0 rfl rfl dX7_joined_46 ?_
        refine lv_iload_n (pc := 49) E.1 E.2.1 dX7_joined_49 rfl (lv_at hl 2 rfl) ?_
        refine lv_iload_n (pc := 50) E.1 E.2.1 dX7_joined_50 rfl (lv_at hl 3 rfl) ?_
        refine lv_iload (pc := 51) E.1 E.2.1 dX7_joined_51 (lv_at hl 4 rfl) ?_
        obtain ⟨v12, g13, hf⟩ := x_bind hf
        refine x_callVA (pc := 53) (As := [.ref (ad 7), .int x2, .int x3, .int x4]) (rest := []) (st1 := [.long v12.1]) (ws' := (cells7 G ad v12.2)) E hw hl (c_X7_spreadIn_i7 l G ad (u7_trial s v10.2) x2 x3 x4 g13) xv_X7_238 xd_X7_spreadIn rfl rfl ⟨Nat.le_of_ble_eq_true rfl, Nat.le_of_ble_eq_true rfl⟩ (q0 := 0) rfl rfl rfl rfl (Nat.le_of_ble_eq_true rfl) rfl dX7_joined_53 (fun H locs hw => ?_)
        obtain rfl := Option.some.inj hf
        exact x_retl (pc := 56) E hr hk hw dX7_joined_56
      · have hf := x_pos q7 hf
        refine lv_ldc2 (v := (-1000000000)) (pc := 19) E.1 E.2.1 E.2.2.2.1 (E.2.2.2.2.1 _ wq_952) dX7_joined_19 ?_
        obtain rfl := Option.some.inj hf
        exact x_retl (pc := 22) E hr hk hw dX7_joined_22
set_option maxHeartbeats 4000000 in
set_option maxRecDepth 100000 in
theorem c_X7_joined (l : Launch) (G : xG) (ad : Nat → Nat) (s : S7) (x1 : Int32) (x2 : Int32) (x3 : Int32) (x4 : Int32) {z : Int64 × S7} (hf : f_X7_joined s x1 x2 x3 x4 = some z) : xC l yX7_joined cX7_joined 5 (some .long) (rm_X7_joined) G [.ref (ad 0), .int x1, .int x2, .int x3, .int x4] (cells7 G ad s) (some (.long z.1)) (cells7 G ad z.2) :=
  x_met (by decide) rfl (Nat.le_of_ble_eq_true rfl) (fun p e sS m below meth c E hr hk ls hl hw => w_X7_joined_p0 E hr hk s x1 x2 x3 x4 z hw hl hf)
set_option maxHeartbeats 4000000 in
set_option maxRecDepth 100000 in
theorem w_X7_withoutClaim_p0 {p : Program} {l : Launch} {e : Env} {sS : State} {m : MethodId} {args : Array Value} {below : List Frame} {meth : Method} {c : Code} {G : xG} {W0 : va_W} {ad : Nat → Nat}   (E : xE p sS m args c cX7_withoutClaim 3 RX7 G (x_in W0)) (hr : meth.sig.returnType = (some .int)) (hk : meth.locks = false)  : ∀ (s' : S7) (x1' : Int32) (x2' : Int32) (z : Int32 × S7) {H : Heap} {locs : List Loc} {ls : Array Slot}, xW G (x_in W0) sS.heap (cells7 G ad s') H locs → lv_has ls 3 [(0, .ref (ad 0)), (1, .int x1'), (2, .int x2')] → f_X7_withoutClaim  s' x1' x2' = some z → W p l e (rm_X7_withoutClaim) sS m args below meth c H locs 0 0 (MQ below (xQ G W0 (cells7 G ad z.2) (some (.int z.1))) args sS 0 0 (x_in W0)) (F0 m 0 ls []) := by
  intro s x1 x2 z H locs ls hw hl hf
  unfold f_X7_withoutClaim at hf
  refine lv_aload_n (pc := 0) E.1 E.2.1 dX7_withoutClaim_0 rfl (lv_at hl 0 rfl) ?_
  refine xg_X7_19 (pc := 1) (v := .ref (ad 3)) E hw 0 rfl rfl dX7_withoutClaim_1 ?_
  refine lv_iload_n (pc := 4) E.1 E.2.1 dX7_withoutClaim_4 rfl (lv_at hl 1 rfl) ?_
  obtain ⟨v1, g2, hf⟩ := x_bind hf
  refine x_callV (pc := 5) (As := [.int x1]) (rest := []) (st1 := [.int v1]) (ws' := (cells7 G ad s)) E hw hl (c_X0_hasFleet l G (fun k => ad (k + 3)) (g7_book s) x1 g2) xv_X7_95 xd_X0_hasFleet rfl rfl ⟨Nat.le_of_ble_eq_true rfl, Nat.le_of_ble_eq_true rfl⟩ [3, 4, 5, 6] [0, 1, 2, 7, 8, 9, 10, 11, 12, 13, 14, 15, 16, 17, 18, 19, 20, 21, 22, 23, 24, 25, 26, 27, 28, 29, 30] (by decide) ⟨rfl, rfl, rfl, rfl, trivial⟩ (q0 := 3) rfl rfl rfl rfl (Nat.le_of_ble_eq_true rfl) (nw := 31) ⟨rfl, rfl, rfl, rfl, trivial⟩ ⟨⟨_, rfl, rfl⟩, ⟨_, rfl, rfl⟩, ⟨_, rfl, rfl⟩, ⟨_, rfl, rfl⟩, ⟨_, rfl, rfl⟩, ⟨_, rfl, rfl⟩, ⟨_, rfl, rfl⟩, ⟨_, rfl, rfl⟩, ⟨_, rfl, rfl⟩, ⟨_, rfl, rfl⟩, ⟨_, rfl, rfl⟩, ⟨_, rfl, rfl⟩, ⟨_, rfl, rfl⟩, ⟨_, rfl, rfl⟩, ⟨_, rfl, rfl⟩, ⟨_, rfl, rfl⟩, ⟨_, rfl, rfl⟩, ⟨_, rfl, rfl⟩, ⟨_, rfl, rfl⟩, ⟨_, rfl, rfl⟩, ⟨_, rfl, rfl⟩, ⟨_, rfl, rfl⟩, ⟨_, rfl, rfl⟩, ⟨_, rfl, rfl⟩, ⟨_, rfl, rfl⟩, ⟨_, rfl, rfl⟩, ⟨_, rfl, rfl⟩, trivial⟩ rfl rfl (by decide) (by decide) rfl dX7_withoutClaim_5 (fun H locs hw => ?_)
  refine lv_if_eq (tgt := 22) (pc := 8) E.1 E.2.1 dX7_withoutClaim_8 (by decide) (fun q3 => ?_) (fun q3 => ?_)
  · have hf := x_pos q3 hf
    refine lv_iconst (v := (-1)) (pc := 22) E.1 E.2.1 dX7_withoutClaim_22 (by decide) ?_
    obtain rfl := Option.some.inj hf
    exact x_reti (pc := 23) E hr hk hw dX7_withoutClaim_23
  · have hf := x_neg q3 hf
    refine lv_aload_n (pc := 11) E.1 E.2.1 dX7_withoutClaim_11 rfl (lv_at hl 0 rfl) ?_
    refine xg_X7_19 (pc := 12) (v := .ref (ad 3)) E hw 0 rfl rfl dX7_withoutClaim_12 ?_
    refine lv_iload_n (pc := 15) E.1 E.2.1 dX7_withoutClaim_15 rfl (lv_at hl 2 rfl) ?_
    obtain ⟨v4, g5, hf⟩ := x_bind hf
    refine x_callV (pc := 16) (As := [.int x2]) (rest := []) (st1 := [.int v4]) (ws' := (cells7 G ad s)) E hw hl (c_X0_hasClaim l G (fun k => ad (k + 3)) (g7_book s) x2 g5) xv_X7_146 xd_X0_hasClaim rfl rfl ⟨Nat.le_of_ble_eq_true rfl, Nat.le_of_ble_eq_true rfl⟩ [3, 4, 5, 6] [0, 1, 2, 7, 8, 9, 10, 11, 12, 13, 14, 15, 16, 17, 18, 19, 20, 21, 22, 23, 24, 25, 26, 27, 28, 29, 30] (by decide) ⟨rfl, rfl, rfl, rfl, trivial⟩ (q0 := 3) rfl rfl rfl rfl (Nat.le_of_ble_eq_true rfl) (nw := 31) ⟨rfl, rfl, rfl, rfl, trivial⟩ ⟨⟨_, rfl, rfl⟩, ⟨_, rfl, rfl⟩, ⟨_, rfl, rfl⟩, ⟨_, rfl, rfl⟩, ⟨_, rfl, rfl⟩, ⟨_, rfl, rfl⟩, ⟨_, rfl, rfl⟩, ⟨_, rfl, rfl⟩, ⟨_, rfl, rfl⟩, ⟨_, rfl, rfl⟩, ⟨_, rfl, rfl⟩, ⟨_, rfl, rfl⟩, ⟨_, rfl, rfl⟩, ⟨_, rfl, rfl⟩, ⟨_, rfl, rfl⟩, ⟨_, rfl, rfl⟩, ⟨_, rfl, rfl⟩, ⟨_, rfl, rfl⟩, ⟨_, rfl, rfl⟩, ⟨_, rfl, rfl⟩, ⟨_, rfl, rfl⟩, ⟨_, rfl, rfl⟩, ⟨_, rfl, rfl⟩, ⟨_, rfl, rfl⟩, ⟨_, rfl, rfl⟩, ⟨_, rfl, rfl⟩, ⟨_, rfl, rfl⟩, trivial⟩ rfl rfl (by decide) (by decide) rfl dX7_withoutClaim_16 (fun H locs hw => ?_)
    refine lv_if_ne (tgt := 24) (pc := 19) E.1 E.2.1 dX7_withoutClaim_19 (by decide) (fun q6 => ?_) (fun q6 => ?_)
    · have hf := x_neg q6 hf
      refine lv_aload_n (pc := 24) E.1 E.2.1 dX7_withoutClaim_24 rfl (lv_at hl 0 rfl) ?_
      refine xg_X7_23 (pc := 25) (v := .ref (ad 7)) E hw 0 rfl rfl dX7_withoutClaim_25 ?_
      refine lv_aload_n (pc := 28) E.1 E.2.1 dX7_withoutClaim_28 rfl (lv_at hl 0 rfl) ?_
      refine xg_X7_19 (pc := 29) (v := .ref (ad 3)) E hw 0 rfl rfl dX7_withoutClaim_29 ?_
      obtain ⟨v7, g8, hf⟩ := x_bind hf
      refine x_callV (pc := 32) (As := [.ref (ad 3)]) (rest := []) (st1 := []) (ws' := (cells7c G ad (g7_tape s) (g7_book s) v7 (g7_past s) (g7_ledger s) (g7_pen s) (g7_told s) (g7_ratesNow s))) E hw hl (c_X0_copyFrom l G (fun k => ad (k + 7)) (fun k => ad (k + 3)) (g7_trial s) (g7_book s) g8) xv_X7_73 xd_X0_copyFrom rfl rfl ⟨Nat.le_of_ble_eq_true rfl, Nat.le_of_ble_eq_true rfl⟩ [7, 8, 9, 10, 3, 4, 5, 6] [0, 1, 2, 11, 12, 13, 14, 15, 16, 17, 18, 19, 20, 21, 22, 23, 24, 25, 26, 27, 28, 29, 30] (by decide) ⟨rfl, rfl, rfl, rfl, rfl, rfl, rfl, rfl, trivial⟩ (q0 := 7) rfl rfl rfl rfl (Nat.le_of_ble_eq_true rfl) (nw := 31) ⟨rfl, rfl, rfl, rfl, rfl, rfl, rfl, rfl, trivial⟩ ⟨⟨_, rfl, rfl⟩, ⟨_, rfl, rfl⟩, ⟨_, rfl, rfl⟩, ⟨_, rfl, rfl⟩, ⟨_, rfl, rfl⟩, ⟨_, rfl, rfl⟩, ⟨_, rfl, rfl⟩, ⟨_, rfl, rfl⟩, ⟨_, rfl, rfl⟩, ⟨_, rfl, rfl⟩, ⟨_, rfl, rfl⟩, ⟨_, rfl, rfl⟩, ⟨_, rfl, rfl⟩, ⟨_, rfl, rfl⟩, ⟨_, rfl, rfl⟩, ⟨_, rfl, rfl⟩, ⟨_, rfl, rfl⟩, ⟨_, rfl, rfl⟩, ⟨_, rfl, rfl⟩, ⟨_, rfl, rfl⟩, ⟨_, rfl, rfl⟩, ⟨_, rfl, rfl⟩, ⟨_, rfl, rfl⟩, trivial⟩ rfl rfl (by decide) (by decide) rfl dX7_withoutClaim_32 (fun H locs hw => ?_)
      refine lv_aload_n (pc := 35) E.1 E.2.1 dX7_withoutClaim_35 rfl (lv_at hl 0 rfl) ?_
      refine xg_X7_23 (pc := 36) (v := .ref (ad 7)) E hw 0 rfl rfl dX7_withoutClaim_36 ?_
      refine lv_iload_n (pc := 39) E.1 E.2.1 dX7_withoutClaim_39 rfl (lv_at hl 2 rfl) ?_
      obtain ⟨v9, g10, hf⟩ := x_bind hf
      refine x_callV (pc := 40) (As := [.int x2]) (rest := []) (st1 := []) (ws' := (cells7c G ad (g7_tape s) (g7_book s) v9 (g7_past s) (g7_ledger s) (g7_pen s) (g7_told s) (g7_ratesNow s))) E hw hl (c_X0_dropClaim l G (fun k => ad (k + 7)) v7 x2 g10) xv_X7_149 xd_X0_dropClaim rfl rfl ⟨Nat.le_of_ble_eq_true rfl, Nat.le_of_ble_eq_true rfl⟩ [7, 8, 9, 10] [0, 1, 2, 3, 4, 5, 6, 11, 12, 13, 14, 15, 16, 17, 18, 19, 20, 21, 22, 23, 24, 25, 26, 27, 28, 29, 30] (by decide) ⟨rfl, rfl, rfl, rfl, trivial⟩ (q0 := 7) rfl rfl rfl rfl (Nat.le_of_ble_eq_true rfl) (nw := 31) ⟨rfl, rfl, rfl, rfl, trivial⟩ ⟨⟨_, rfl, rfl⟩, ⟨_, rfl, rfl⟩, ⟨_, rfl, rfl⟩, ⟨_, rfl, rfl⟩, ⟨_, rfl, rfl⟩, ⟨_, rfl, rfl⟩, ⟨_, rfl, rfl⟩, ⟨_, rfl, rfl⟩, ⟨_, rfl, rfl⟩, ⟨_, rfl, rfl⟩, ⟨_, rfl, rfl⟩, ⟨_, rfl, rfl⟩, ⟨_, rfl, rfl⟩, ⟨_, rfl, rfl⟩, ⟨_, rfl, rfl⟩, ⟨_, rfl, rfl⟩, ⟨_, rfl, rfl⟩, ⟨_, rfl, rfl⟩, ⟨_, rfl, rfl⟩, ⟨_, rfl, rfl⟩, ⟨_, rfl, rfl⟩, ⟨_, rfl, rfl⟩, ⟨_, rfl, rfl⟩, ⟨_, rfl, rfl⟩, ⟨_, rfl, rfl⟩, ⟨_, rfl, rfl⟩, ⟨_, rfl, rfl⟩, trivial⟩ rfl rfl (by decide) (by decide) rfl dX7_withoutClaim_40 (fun H locs hw => ?_)
      refine lv_aload_n (pc := 43) E.1 E.2.1 dX7_withoutClaim_43 rfl (lv_at hl 0 rfl) ?_
      refine lv_aload_n (pc := 44) E.1 E.2.1 dX7_withoutClaim_44 rfl (lv_at hl 0 rfl) ?_
      refine xg_X7_23 (pc := 45) (v := .ref (ad 7)) E hw 0 rfl rfl dX7_withoutClaim_45 ?_
      refine lv_iload_n (pc := 48) E.1 E.2.1 dX7_withoutClaim_48 rfl (lv_at hl 1 rfl) ?_
      obtain ⟨v11, g12, hf⟩ := x_bind hf
      refine x_callVA (pc := 49) (As := [.ref (ad 7), .int x1]) (rest := []) (st1 := [.int v11.1]) (ws' := (cells7 G ad v11.2)) E hw hl (c_X7_rateIn_i7 l G ad (u7_trial s v9) x1 g12) xv_X7_256 xd_X7_rateIn rfl rfl ⟨Nat.le_of_ble_eq_true rfl, Nat.le_of_ble_eq_true rfl⟩ (q0 := 0) rfl rfl rfl rfl (Nat.le_of_ble_eq_true rfl) rfl dX7_withoutClaim_49 (fun H locs hw => ?_)
      obtain rfl := Option.some.inj hf
      exact x_reti (pc := 52) E hr hk hw dX7_withoutClaim_52
    · have hf := x_pos q6 hf
      refine lv_iconst (v := (-1)) (pc := 22) E.1 E.2.1 dX7_withoutClaim_22 (by decide) ?_
      obtain rfl := Option.some.inj hf
      exact x_reti (pc := 23) E hr hk hw dX7_withoutClaim_23
set_option maxHeartbeats 4000000 in
set_option maxRecDepth 100000 in
theorem c_X7_withoutClaim (l : Launch) (G : xG) (ad : Nat → Nat) (s : S7) (x1 : Int32) (x2 : Int32) {z : Int32 × S7} (hf : f_X7_withoutClaim s x1 x2 = some z) : xC l yX7_withoutClaim cX7_withoutClaim 3 (some .int) (rm_X7_withoutClaim) G [.ref (ad 0), .int x1, .int x2] (cells7 G ad s) (some (.int z.1)) (cells7 G ad z.2) :=
  x_met (by decide) rfl (Nat.le_of_ble_eq_true rfl) (fun p e sS m below meth c E hr hk ls hl hw => w_X7_withoutClaim_p0 E hr hk s x1 x2 z hw hl hf)
set_option maxHeartbeats 4000000 in
set_option maxRecDepth 100000 in
theorem w_X7_keepRatesNow_p13 {p : Program} {l : Launch} {e : Env} {sS : State} {m : MethodId} {args : Array Value} {below : List Frame} {meth : Method} {c : Code} {G : xG} {W0 : va_W} {ad : Nat → Nat}  {k13 : S7 → Int32 → Option (S7)} (E : xE p sS m args c cX7_keepRatesNow 2 RX7 G (x_in W0)) (hr : meth.sig.returnType = none) (hk : meth.locks = false) (hk13 : ∀ (s' : S7) (x1' : Int32) (z : S7) {H : Heap} {locs : List Loc} {ls : Array Slot}, xW G (x_in W0) sS.heap (cells7 G ad s') H locs → lv_has ls 2 [(0, .ref (ad 0)), (1, .int x1')] → k13  s' x1' = some z → W p l e (rm_X7_keepRatesNow) sS m args below meth c H locs 0 0 (MQ below (xQ G W0 (cells7 G ad z) none) args sS 0 0 (x_in W0)) (F0 m 13 ls [])) : ∀ (s' : S7) (x1' : Int32) (z : S7) {H : Heap} {locs : List Loc} {ls : Array Slot}, xW G (x_in W0) sS.heap (cells7 G ad s') H locs → lv_has ls 2 [(0, .ref (ad 0)), (1, .int x1')] → f_X7_keepRatesNow_p13 k13 s' x1' = some z → W p l e (rm_X7_keepRatesNow) sS m args below meth c H locs 0 0 (MQ below (xQ G W0 (cells7 G ad z) none) args sS 0 0 (x_in W0)) (F0 m 13 ls []) := by
  intro s x1 z H locs ls hw hl hf
  unfold f_X7_keepRatesNow_p13 at hf
  refine lv_iload_n (pc := 13) E.1 E.2.1 dX7_keepRatesNow_13 rfl (lv_at hl 1 rfl) ?_
  refine lv_aload_n (pc := 14) E.1 E.2.1 dX7_keepRatesNow_14 rfl (lv_at hl 0 rfl) ?_
  refine xg_X7_54 (pc := 15) (v := .ref (ad 30)) E hw 0 rfl rfl dX7_keepRatesNow_15 ?_
  refine x_alen (pc := 18) (v := 8) E hw 30 rfl rfl dX7_keepRatesNow_18 ?_
  refine lv_icmp_ge (tgt := 42) (pc := 19) E.1 E.2.1 dX7_keepRatesNow_19 (by decide) (fun q1 => ?_) (fun q1 => ?_)
  · have hf := x_pos q1 hf
    obtain rfl := Option.some.inj hf
    exact x_retv (pc := 42) E hr hk hw dX7_keepRatesNow_42
  · have hf := x_neg q1 hf
    refine lv_aload_n (pc := 22) E.1 E.2.1 dX7_keepRatesNow_22 rfl (lv_at hl 0 rfl) ?_
    refine xg_X7_54 (pc := 23) (v := .ref (ad 30)) E hw 0 rfl rfl dX7_keepRatesNow_23 ?_
    refine lv_iload_n (pc := 26) E.1 E.2.1 dX7_keepRatesNow_26 rfl (lv_at hl 1 rfl) ?_
    refine lv_aload_n (pc := 27) E.1 E.2.1 dX7_keepRatesNow_27 rfl (lv_at hl 0 rfl) ?_
    refine xg_X7_36 (pc := 28) (v := .ref (ad 13)) E hw 0 rfl rfl dX7_keepRatesNow_28 ?_
    refine lv_iload_n (pc := 31) E.1 E.2.1 dX7_keepRatesNow_31 rfl (lv_at hl 1 rfl) ?_
    obtain ⟨v2, g3, hf⟩ := x_bind hf
    refine x_callV (pc := 32) (As := [.int x1]) (rest := [.int x1, .ref (ad 30)]) (st1 := [.int v2.1, .int x1, .ref (ad 30)]) (ws' := (cells7c G ad (g7_tape s) (g7_book s) (g7_trial s) (g7_past s) v2.2 (g7_pen s) (g7_told s) (g7_ratesNow s))) E hw hl (c_X1_rateCut l G (fun k => ad (k + 13)) (g7_ledger s) x1 g3) xv_X7_312 xd_X1_rateCut rfl rfl ⟨Nat.le_of_ble_eq_true rfl, Nat.le_of_ble_eq_true rfl⟩ [13, 14, 15, 16, 17, 18, 19, 20, 21, 22, 23, 24, 25, 26, 27] [0, 1, 2, 3, 4, 5, 6, 7, 8, 9, 10, 11, 12, 28, 29, 30] (by decide) ⟨rfl, rfl, rfl, rfl, rfl, rfl, rfl, rfl, rfl, rfl, rfl, rfl, rfl, rfl, rfl, trivial⟩ (q0 := 13) rfl rfl rfl rfl (Nat.le_of_ble_eq_true rfl) (nw := 31) ⟨rfl, rfl, rfl, rfl, rfl, rfl, rfl, rfl, rfl, rfl, rfl, rfl, rfl, rfl, rfl, trivial⟩ ⟨⟨_, rfl, rfl⟩, ⟨_, rfl, rfl⟩, ⟨_, rfl, rfl⟩, ⟨_, rfl, rfl⟩, ⟨_, rfl, rfl⟩, ⟨_, rfl, rfl⟩, ⟨_, rfl, rfl⟩, ⟨_, rfl, rfl⟩, ⟨_, rfl, rfl⟩, ⟨_, rfl, rfl⟩, ⟨_, rfl, rfl⟩, ⟨_, rfl, rfl⟩, ⟨_, rfl, rfl⟩, ⟨_, rfl, rfl⟩, ⟨_, rfl, rfl⟩, ⟨_, rfl, rfl⟩, trivial⟩ rfl rfl (by decide) (by decide) rfl dX7_keepRatesNow_32 (fun H locs hw => ?_)
    obtain ⟨w5, g4, hf⟩ := x_bind hf
    refine x_iast (pc := 35) (ws' := (cells7c G ad (g7_tape s) (g7_book s) (g7_trial s) (g7_past s) v2.2 (g7_pen s) (g7_told s) w5)) E hw 30 rfl g4 rfl dX7_keepRatesNow_35 (fun H locs hw => ?_)
    refine lv_iinc (v := (x1 + 1)) (lv' := [(1, .int (x1 + 1)), (0, .ref (ad 0))]) (pc := 36) E.1 E.2.1 dX7_keepRatesNow_36 hl (k := 1) rfl rfl (by decide) rfl (fun ls hl => ?_)
    refine lv_goto (tgt := 13) (pc := 39) E.1 E.2.1 dX7_keepRatesNow_39 (by decide) ?_
    exact hk13 (u7_ratesNow (u7_ledger s v2.2) w5) (x1 + 1) z hw (lv_sub hl [1, 0] rfl) hf
set_option maxHeartbeats 4000000 in
set_option maxRecDepth 100000 in
theorem wl_X7_keepRatesNow_p13 {p : Program} {l : Launch} {e : Env} {sS : State} {m : MethodId} {args : Array Value} {below : List Frame} {meth : Method} {c : Code} {G : xG} {W0 : va_W} {ad : Nat → Nat}   (E : xE p sS m args c cX7_keepRatesNow 2 RX7 G (x_in W0)) (hr : meth.sig.returnType = none) (hk : meth.locks = false)  : ∀ (s' : S7) (x1' : Int32) (z : S7) {H : Heap} {locs : List Loc} {ls : Array Slot}, xW G (x_in W0) sS.heap (cells7 G ad s') H locs → lv_has ls 2 [(0, .ref (ad 0)), (1, .int x1')] → lp_X7_keepRatesNow_p13  s' x1' = some z → W p l e (rm_X7_keepRatesNow) sS m args below meth c H locs 0 0 (MQ below (xQ G W0 (cells7 G ad z) none) args sS 0 0 (x_in W0)) (F0 m 13 ls []) := by
  intro s x1 z H locs ls hw hl hf
  exact x_loop_W (P := fun (q : S7 × Int32) (z : S7) => ∀ {H : Heap} {locs : List Loc} {ls : Array Slot}, xW G (x_in W0) sS.heap (cells7 G ad q.1) H locs → lv_has ls 2 [(0, .ref (ad 0)), (1, .int q.2)] → W p l e (rm_X7_keepRatesNow) sS m args below meth c H locs 0 0 (MQ below (xQ G W0 (cells7 G ad z) none) args sS 0 0 (x_in W0)) (F0 m 13 ls [])) (fun k hkk q z hf H locs ls hw hl => w_X7_keepRatesNow_p13 E hr hk  (fun s x1 z H locs ls hw hl hf => hkk (s, x1) z hf hw hl) q.1 q.2 z hw hl hf) FU (s, x1) z hf hw hl
set_option maxHeartbeats 4000000 in
set_option maxRecDepth 100000 in
theorem w_X7_keepRatesNow_p0 {p : Program} {l : Launch} {e : Env} {sS : State} {m : MethodId} {args : Array Value} {below : List Frame} {meth : Method} {c : Code} {G : xG} {W0 : va_W} {ad : Nat → Nat}   (E : xE p sS m args c cX7_keepRatesNow 2 RX7 G (x_in W0)) (hr : meth.sig.returnType = none) (hk : meth.locks = false)  : ∀ (s' : S7) (z : S7) {H : Heap} {locs : List Loc} {ls : Array Slot}, xW G (x_in W0) sS.heap (cells7 G ad s') H locs → lv_has ls 2 [(0, .ref (ad 0))] → f_X7_keepRatesNow  s' = some z → W p l e (rm_X7_keepRatesNow) sS m args below meth c H locs 0 0 (MQ below (xQ G W0 (cells7 G ad z) none) args sS 0 0 (x_in W0)) (F0 m 0 ls []) := by
  intro s z H locs ls hw hl hf
  unfold f_X7_keepRatesNow at hf
  refine lv_aload_n (pc := 0) E.1 E.2.1 dX7_keepRatesNow_0 rfl (lv_at hl 0 rfl) ?_
  refine xg_X7_36 (pc := 1) (v := .ref (ad 13)) E hw 0 rfl rfl dX7_keepRatesNow_1 ?_
  refine lv_aload_n (pc := 4) E.1 E.2.1 dX7_keepRatesNow_4 rfl (lv_at hl 0 rfl) ?_
  refine xg_X7_19 (pc := 5) (v := .ref (ad 3)) E hw 0 rfl rfl dX7_keepRatesNow_5 ?_
  obtain ⟨v1, g2, hf⟩ := x_bind hf
  refine x_callV (pc := 8) (As := [.ref (ad 3)]) (rest := []) (st1 := []) (ws' := (cells7c G ad (g7_tape s) (g7_book s) (g7_trial s) (g7_past s) v1 (g7_pen s) (g7_told s) (g7_ratesNow s))) E hw hl (c_X1_reckon l G (fun k => ad (k + 13)) (fun k => ad (k + 3)) (g7_ledger s) (g7_book s) g2) xv_X7_186 xd_X1_reckon rfl rfl ⟨Nat.le_of_ble_eq_true rfl, Nat.le_of_ble_eq_true rfl⟩ [13, 14, 15, 16, 17, 18, 19, 20, 21, 22, 23, 24, 25, 26, 27, 3, 4, 5, 6] [0, 1, 2, 7, 8, 9, 10, 11, 12, 28, 29, 30] (by decide) ⟨rfl, rfl, rfl, rfl, rfl, rfl, rfl, rfl, rfl, rfl, rfl, rfl, rfl, rfl, rfl, rfl, rfl, rfl, rfl, trivial⟩ (q0 := 13) rfl rfl rfl rfl (Nat.le_of_ble_eq_true rfl) (nw := 31) ⟨rfl, rfl, rfl, rfl, rfl, rfl, rfl, rfl, rfl, rfl, rfl, rfl, rfl, rfl, rfl, rfl, rfl, rfl, rfl, trivial⟩ ⟨⟨_, rfl, rfl⟩, ⟨_, rfl, rfl⟩, ⟨_, rfl, rfl⟩, ⟨_, rfl, rfl⟩, ⟨_, rfl, rfl⟩, ⟨_, rfl, rfl⟩, ⟨_, rfl, rfl⟩, ⟨_, rfl, rfl⟩, ⟨_, rfl, rfl⟩, ⟨_, rfl, rfl⟩, ⟨_, rfl, rfl⟩, ⟨_, rfl, rfl⟩, trivial⟩ rfl rfl (by decide) (by decide) rfl dX7_keepRatesNow_8 (fun H locs hw => ?_)
  refine lv_iconst (v := 0) (pc := 11) E.1 E.2.1 dX7_keepRatesNow_11 (by decide) ?_
  refine lv_istore_n (lv' := [(1, .int 0), (0, .ref (ad 0))]) (pc := 12) E.1 E.2.1 dX7_keepRatesNow_12 rfl hl (by decide) rfl (fun ls hl => ?_)
  exact wl_X7_keepRatesNow_p13 E hr hk  (u7_ledger s v1) 0 z hw (lv_sub hl [1, 0] rfl) hf
set_option maxHeartbeats 4000000 in
set_option maxRecDepth 100000 in
theorem c_X7_keepRatesNow (l : Launch) (G : xG) (ad : Nat → Nat) (s : S7) {z : S7} (hf : f_X7_keepRatesNow s = some z) : xC l yX7_keepRatesNow cX7_keepRatesNow 2 none (rm_X7_keepRatesNow) G [.ref (ad 0)] (cells7 G ad s) none (cells7 G ad z) :=
  x_met (by decide) rfl (Nat.le_of_ble_eq_true rfl) (fun p e sS m below meth c E hr hk ls hl hw => w_X7_keepRatesNow_p0 E hr hk s z hw hl hf)
set_option maxHeartbeats 4000000 in
set_option maxRecDepth 100000 in
theorem w_X7_dearest_p11 {p : Program} {l : Launch} {e : Env} {sS : State} {m : MethodId} {args : Array Value} {below : List Frame} {meth : Method} {c : Code} {G : xG} {W0 : va_W} {ad : Nat → Nat}  {k11 : S7 → Int32 → Int32 → Int32 → Option (Int32 × S7)} (E : xE p sS m args c cX7_dearest 6 RX7 G (x_in W0)) (hr : meth.sig.returnType = (some .int)) (hk : meth.locks = false) (hk11 : ∀ (s' : S7) (x1' : Int32) (x2' : Int32) (x3' : Int32) (z : Int32 × S7) {H : Heap} {locs : List Loc} {ls : Array Slot}, xW G (x_in W0) sS.heap (cells7 G ad s') H locs → lv_has ls 6 [(0, .ref (ad 0)), (1, .int x1'), (2, .int x2'), (3, .int x3')] → k11  s' x1' x2' x3' = some z → W p l e (rm_X7_dearest) sS m args below meth c H locs 0 0 (MQ below (xQ G W0 (cells7 G ad z.2) (some (.int z.1))) args sS 0 0 (x_in W0)) (F0 m 11 ls [])) : ∀ (s' : S7) (x1' : Int32) (x2' : Int32) (x3' : Int32) (z : Int32 × S7) {H : Heap} {locs : List Loc} {ls : Array Slot}, xW G (x_in W0) sS.heap (cells7 G ad s') H locs → lv_has ls 6 [(0, .ref (ad 0)), (1, .int x1'), (2, .int x2'), (3, .int x3')] → f_X7_dearest_p11 k11 s' x1' x2' x3' = some z → W p l e (rm_X7_dearest) sS m args below meth c H locs 0 0 (MQ below (xQ G W0 (cells7 G ad z.2) (some (.int z.1))) args sS 0 0 (x_in W0)) (F0 m 11 ls []) := by
  intro s x1 x2 x3 z H locs ls hw hl hf
  unfold f_X7_dearest_p11 at hf
  refine lv_iload_n (pc := 11) E.1 E.2.1 dX7_dearest_11 rfl (lv_at hl 3 rfl) ?_
  refine lv_aload_n (pc := 12) E.1 E.2.1 dX7_dearest_12 rfl (lv_at hl 0 rfl) ?_
  refine xg_X7_19 (pc := 13) (v := .ref (ad 3)) E hw 0 rfl rfl dX7_dearest_13 ?_
  refine xg_X7_266 (pc := 16) (v := .int (g0_claims (g7_book s))) E hw 3 rfl rfl dX7_dearest_16 ?_
  refine lv_icmp_ge (tgt := 87) (pc := 19) E.1 E.2.1 dX7_dearest_19 (by decide) (fun q1 => ?_) (fun q1 => ?_)
  · have hf := x_pos q1 hf
    refine lv_iload_n (pc := 87) E.1 E.2.1 dX7_dearest_87 rfl (lv_at hl 1 rfl) ?_
    obtain rfl := Option.some.inj hf
    exact x_reti (pc := 88) E hr hk hw dX7_dearest_88
  · have hf := x_neg q1 hf
    refine lv_aload_n (pc := 22) E.1 E.2.1 dX7_dearest_22 rfl (lv_at hl 0 rfl) ?_
    refine xg_X7_19 (pc := 23) (v := .ref (ad 3)) E hw 0 rfl rfl dX7_dearest_23 ?_
    refine lv_iload_n (pc := 26) E.1 E.2.1 dX7_dearest_26 rfl (lv_at hl 3 rfl) ?_
    obtain ⟨v2, g3, hf⟩ := x_bind hf
    refine x_callV (pc := 27) (As := [.int x3]) (rest := []) (st1 := [.int v2]) (ws' := (cells7 G ad s)) E hw hl (c_X0_fleetOf l G (fun k => ad (k + 3)) (g7_book s) x3 g3) xv_X7_210 xd_X0_fleetOf rfl rfl ⟨Nat.le_of_ble_eq_true rfl, Nat.le_of_ble_eq_true rfl⟩ [3, 4, 5, 6] [0, 1, 2, 7, 8, 9, 10, 11, 12, 13, 14, 15, 16, 17, 18, 19, 20, 21, 22, 23, 24, 25, 26, 27, 28, 29, 30] (by decide) ⟨rfl, rfl, rfl, rfl, trivial⟩ (q0 := 3) rfl rfl rfl rfl (Nat.le_of_ble_eq_true rfl) (nw := 31) ⟨rfl, rfl, rfl, rfl, trivial⟩ ⟨⟨_, rfl, rfl⟩, ⟨_, rfl, rfl⟩, ⟨_, rfl, rfl⟩, ⟨_, rfl, rfl⟩, ⟨_, rfl, rfl⟩, ⟨_, rfl, rfl⟩, ⟨_, rfl, rfl⟩, ⟨_, rfl, rfl⟩, ⟨_, rfl, rfl⟩, ⟨_, rfl, rfl⟩, ⟨_, rfl, rfl⟩, ⟨_, rfl, rfl⟩, ⟨_, rfl, rfl⟩, ⟨_, rfl, rfl⟩, ⟨_, rfl, rfl⟩, ⟨_, rfl, rfl⟩, ⟨_, rfl, rfl⟩, ⟨_, rfl, rfl⟩, ⟨_, rfl, rfl⟩, ⟨_, rfl, rfl⟩, ⟨_, rfl, rfl⟩, ⟨_, rfl, rfl⟩, ⟨_, rfl, rfl⟩, ⟨_, rfl, rfl⟩, ⟨_, rfl, rfl⟩, ⟨_, rfl, rfl⟩, ⟨_, rfl, rfl⟩, trivial⟩ rfl rfl (by decide) (by decide) rfl dX7_dearest_27 (fun H locs hw => ?_)
    refine lv_istore (lv' := [(4, .int v2), (0, .ref (ad 0)), (1, .int x1), (2, .int x2), (3, .int x3)]) (pc := 30) E.1 E.2.1 dX7_dearest_30 hl (by decide) rfl (fun ls hl => ?_)
    refine lv_aload_n (pc := 32) E.1 E.2.1 dX7_dearest_32 rfl (lv_at hl 1 rfl) ?_
    refine xg_X7_19 (pc := 33) (v := .ref (ad 3)) E hw 0 rfl rfl dX7_dearest_33 ?_
    refine lv_iload (pc := 36) E.1 E.2.1 dX7_dearest_36 (lv_at hl 0 rfl) ?_
    obtain ⟨v4, g5, hf⟩ := x_bind hf
    refine x_callV (pc := 38) (As := [.int v2]) (rest := []) (st1 := [.int v4]) (ws' := (cells7 G ad s)) E hw hl (c_X0_hasFleet l G (fun k => ad (k + 3)) (g7_book s) v2 g5) xv_X7_95 xd_X0_hasFleet rfl rfl ⟨Nat.le_of_ble_eq_true rfl, Nat.le_of_ble_eq_true rfl⟩ [3, 4, 5, 6] [0, 1, 2, 7, 8, 9, 10, 11, 12, 13, 14, 15, 16, 17, 18, 19, 20, 21, 22, 23, 24, 25, 26, 27, 28, 29, 30] (by decide) ⟨rfl, rfl, rfl, rfl, trivial⟩ (q0 := 3) rfl rfl rfl rfl (Nat.le_of_ble_eq_true rfl) (nw := 31) ⟨rfl, rfl, rfl, rfl, trivial⟩ ⟨⟨_, rfl, rfl⟩, ⟨_, rfl, rfl⟩, ⟨_, rfl, rfl⟩, ⟨_, rfl, rfl⟩, ⟨_, rfl, rfl⟩, ⟨_, rfl, rfl⟩, ⟨_, rfl, rfl⟩, ⟨_, rfl, rfl⟩, ⟨_, rfl, rfl⟩, ⟨_, rfl, rfl⟩, ⟨_, rfl, rfl⟩, ⟨_, rfl, rfl⟩, ⟨_, rfl, rfl⟩, ⟨_, rfl, rfl⟩, ⟨_, rfl, rfl⟩, ⟨_, rfl, rfl⟩, ⟨_, rfl, rfl⟩, ⟨_, rfl, rfl⟩, ⟨_, rfl, rfl⟩, ⟨_, rfl, rfl⟩, ⟨_, rfl, rfl⟩, ⟨_, rfl, rfl⟩, ⟨_, rfl, rfl⟩, ⟨_, rfl, rfl⟩, ⟨_, rfl, rfl⟩, ⟨_, rfl, rfl⟩, ⟨_, rfl, rfl⟩, trivial⟩ rfl rfl (by decide) (by decide) rfl dX7_dearest_38 (fun H locs hw => ?_)
    refine lv_if_ne (tgt := 47) (pc := 41) E.1 E.2.1 dX7_dearest_41 (by decide) (fun q6 => ?_) (fun q6 => ?_)
    · have hf := x_neg q6 hf
      refine lv_aload_n (pc := 47) E.1 E.2.1 dX7_dearest_47 rfl (lv_at hl 1 rfl) ?_
      refine xg_X7_54 (pc := 48) (v := .ref (ad 30)) E hw 0 rfl rfl dX7_dearest_48 ?_
      refine lv_iload (pc := 51) E.1 E.2.1 dX7_dearest_51 (lv_at hl 0 rfl) ?_
      obtain ⟨v8, g7, hf⟩ := x_bind hf
      refine x_iald (pc := 53) E hw 30 rfl g7 dX7_dearest_53 ?_
      refine lv_aload_n (pc := 54) E.1 E.2.1 dX7_dearest_54 rfl (lv_at hl 1 rfl) ?_
      refine lv_iload (pc := 55) E.1 E.2.1 dX7_dearest_55 (lv_at hl 0 rfl) ?_
      refine lv_iload_n (pc := 57) E.1 E.2.1 dX7_dearest_57 rfl (lv_at hl 4 rfl) ?_
      obtain ⟨v9, g10, hf⟩ := x_bind hf
      refine x_callVA (pc := 58) (As := [.int v2, .int x3]) (rest := [.int v8]) (st1 := [.int v9.1, .int v8]) (ws' := (cells7 G ad v9.2)) E hw hl (c_X7_withoutClaim l G ad s v2 x3 g10) xv_X7_292 xd_X7_withoutClaim rfl rfl ⟨Nat.le_of_ble_eq_true rfl, Nat.le_of_ble_eq_true rfl⟩ (q0 := 0) rfl rfl rfl rfl (Nat.le_of_ble_eq_true rfl) rfl dX7_dearest_58 (fun H locs hw => ?_)
      refine lv_isub (pc := 61) E.1 E.2.1 dX7_dearest_61 ?_
      refine lv_istore (lv' := [(5, .int (v8 - v9.1)), (4, .int v2), (0, .ref (ad 0)), (1, .int x1), (2, .int x2), (3, .int x3)]) (pc := 62) E.1 E.2.1 dX7_dearest_62 hl (by decide) rfl (fun ls hl => ?_)
      refine lv_iload_n (pc := 64) E.1 E.2.1 dX7_dearest_64 rfl (lv_at hl 3 rfl) ?_
      refine lv_bipush (v := (-2)) (pc := 65) E.1 E.2.1 dX7_dearest_65 (by decide) ?_
      refine lv_icmp_eq (tgt := 76) (pc := 67) E.1 E.2.1 dX7_dearest_67 (by decide) (fun q11 => ?_) (fun q11 => ?_)
      · have hf := x_pos q11 hf
        refine lv_iload_n (pc := 76) E.1 E.2.1 dX7_dearest_76 rfl (lv_at hl 5 rfl) ?_
        refine lv_istore_n (lv' := [(1, .int x3), (5, .int (v8 - v9.1)), (4, .int v2), (0, .ref (ad 0)), (2, .int x2), (3, .int x3)]) (pc := 77) E.1 E.2.1 dX7_dearest_77 rfl hl (by decide) rfl (fun ls hl => ?_)
        refine lv_iload (pc := 78) E.1 E.2.1 dX7_dearest_78 (lv_at hl 1 rfl) ?_
        refine lv_istore_n (lv' := [(2, .int (v8 - v9.1)), (1, .int x3), (5, .int (v8 - v9.1)), (4, .int v2), (0, .ref (ad 0)), (3, .int x3)]) (pc := 80) E.1 E.2.1 dX7_dearest_80 rfl hl (by decide) rfl (fun ls hl => ?_)
        refine lv_iinc (v := (x3 + 1)) (lv' := [(3, .int (x3 + 1)), (2, .int (v8 - v9.1)), (1, .int x3), (5, .int (v8 - v9.1)), (4, .int v2), (0, .ref (ad 0))]) (pc := 81) E.1 E.2.1 dX7_dearest_81 hl (k := 5) rfl rfl (by decide) rfl (fun ls hl => ?_)
        refine lv_goto (tgt := 11) (pc := 84) E.1 E.2.1 dX7_dearest_84 (by decide) ?_
        exact hk11 v9.2 x3 (v8 - v9.1) (x3 + 1) z hw (lv_sub hl [5, 2, 1, 0] rfl) hf
      · have hf := x_neg q11 hf
        refine lv_iload (pc := 70) E.1 E.2.1 dX7_dearest_70 (lv_at hl 0 rfl) ?_
        refine lv_iload_n (pc := 72) E.1 E.2.1 dX7_dearest_72 rfl (lv_at hl 4 rfl) ?_
        refine lv_icmp_le (tgt := 81) (pc := 73) E.1 E.2.1 dX7_dearest_73 (by decide) (fun q12 => ?_) (fun q12 => ?_)
        · have hf := x_pos q12 hf
          refine lv_iinc (v := (x3 + 1)) (lv' := [(3, .int (x3 + 1)), (5, .int (v8 - v9.1)), (4, .int v2), (0, .ref (ad 0)), (1, .int x1), (2, .int x2)]) (pc := 81) E.1 E.2.1 dX7_dearest_81 hl (k := 5) rfl rfl (by decide) rfl (fun ls hl => ?_)
          refine lv_goto (tgt := 11) (pc := 84) E.1 E.2.1 dX7_dearest_84 (by decide) ?_
          exact hk11 v9.2 x1 x2 (x3 + 1) z hw (lv_sub hl [3, 4, 5, 0] rfl) hf
        · have hf := x_neg q12 hf
          refine lv_iload_n (pc := 76) E.1 E.2.1 dX7_dearest_76 rfl (lv_at hl 5 rfl) ?_
          refine lv_istore_n (lv' := [(1, .int x3), (5, .int (v8 - v9.1)), (4, .int v2), (0, .ref (ad 0)), (2, .int x2), (3, .int x3)]) (pc := 77) E.1 E.2.1 dX7_dearest_77 rfl hl (by decide) rfl (fun ls hl => ?_)
          refine lv_iload (pc := 78) E.1 E.2.1 dX7_dearest_78 (lv_at hl 1 rfl) ?_
          refine lv_istore_n (lv' := [(2, .int (v8 - v9.1)), (1, .int x3), (5, .int (v8 - v9.1)), (4, .int v2), (0, .ref (ad 0)), (3, .int x3)]) (pc := 80) E.1 E.2.1 dX7_dearest_80 rfl hl (by decide) rfl (fun ls hl => ?_)
          refine lv_iinc (v := (x3 + 1)) (lv' := [(3, .int (x3 + 1)), (2, .int (v8 - v9.1)), (1, .int x3), (5, .int (v8 - v9.1)), (4, .int v2), (0, .ref (ad 0))]) (pc := 81) E.1 E.2.1 dX7_dearest_81 hl (k := 5) rfl rfl (by decide) rfl (fun ls hl => ?_)
          refine lv_goto (tgt := 11) (pc := 84) E.1 E.2.1 dX7_dearest_84 (by decide) ?_
          exact hk11 v9.2 x3 (v8 - v9.1) (x3 + 1) z hw (lv_sub hl [5, 2, 1, 0] rfl) hf
    · have hf := x_pos q6 hf
      refine lv_goto (tgt := 81) (pc := 44) E.1 E.2.1 dX7_dearest_44 (by decide) ?_
      refine lv_iinc (v := (x3 + 1)) (lv' := [(3, .int (x3 + 1)), (4, .int v2), (0, .ref (ad 0)), (1, .int x1), (2, .int x2)]) (pc := 81) E.1 E.2.1 dX7_dearest_81 hl (k := 4) rfl rfl (by decide) rfl (fun ls hl => ?_)
      refine lv_goto (tgt := 11) (pc := 84) E.1 E.2.1 dX7_dearest_84 (by decide) ?_
      exact hk11 s x1 x2 (x3 + 1) z hw (lv_sub hl [2, 3, 4, 0] rfl) hf
set_option maxHeartbeats 4000000 in
set_option maxRecDepth 100000 in
theorem wl_X7_dearest_p11 {p : Program} {l : Launch} {e : Env} {sS : State} {m : MethodId} {args : Array Value} {below : List Frame} {meth : Method} {c : Code} {G : xG} {W0 : va_W} {ad : Nat → Nat}   (E : xE p sS m args c cX7_dearest 6 RX7 G (x_in W0)) (hr : meth.sig.returnType = (some .int)) (hk : meth.locks = false)  : ∀ (s' : S7) (x1' : Int32) (x2' : Int32) (x3' : Int32) (z : Int32 × S7) {H : Heap} {locs : List Loc} {ls : Array Slot}, xW G (x_in W0) sS.heap (cells7 G ad s') H locs → lv_has ls 6 [(0, .ref (ad 0)), (1, .int x1'), (2, .int x2'), (3, .int x3')] → lp_X7_dearest_p11  s' x1' x2' x3' = some z → W p l e (rm_X7_dearest) sS m args below meth c H locs 0 0 (MQ below (xQ G W0 (cells7 G ad z.2) (some (.int z.1))) args sS 0 0 (x_in W0)) (F0 m 11 ls []) := by
  intro s x1 x2 x3 z H locs ls hw hl hf
  exact x_loop_W (P := fun (q : S7 × Int32 × Int32 × Int32) (z : Int32 × S7) => ∀ {H : Heap} {locs : List Loc} {ls : Array Slot}, xW G (x_in W0) sS.heap (cells7 G ad q.1) H locs → lv_has ls 6 [(0, .ref (ad 0)), (1, .int q.2.1), (2, .int q.2.2.1), (3, .int q.2.2.2)] → W p l e (rm_X7_dearest) sS m args below meth c H locs 0 0 (MQ below (xQ G W0 (cells7 G ad z.2) (some (.int z.1))) args sS 0 0 (x_in W0)) (F0 m 11 ls [])) (fun k hkk q z hf H locs ls hw hl => w_X7_dearest_p11 E hr hk  (fun s x1 x2 x3 z H locs ls hw hl hf => hkk (s, x1, x2, x3) z hf hw hl) q.1 q.2.1 q.2.2.1 q.2.2.2 z hw hl hf) FU (s, x1, x2, x3) z hf hw hl
set_option maxHeartbeats 4000000 in
set_option maxRecDepth 100000 in
theorem w_X7_dearest_p0 {p : Program} {l : Launch} {e : Env} {sS : State} {m : MethodId} {args : Array Value} {below : List Frame} {meth : Method} {c : Code} {G : xG} {W0 : va_W} {ad : Nat → Nat}   (E : xE p sS m args c cX7_dearest 6 RX7 G (x_in W0)) (hr : meth.sig.returnType = (some .int)) (hk : meth.locks = false)  : ∀ (s' : S7) (z : Int32 × S7) {H : Heap} {locs : List Loc} {ls : Array Slot}, xW G (x_in W0) sS.heap (cells7 G ad s') H locs → lv_has ls 6 [(0, .ref (ad 0))] → f_X7_dearest  s' = some z → W p l e (rm_X7_dearest) sS m args below meth c H locs 0 0 (MQ below (xQ G W0 (cells7 G ad z.2) (some (.int z.1))) args sS 0 0 (x_in W0)) (F0 m 0 ls []) := by
  intro s z H locs ls hw hl hf
  unfold f_X7_dearest at hf
  refine lv_aload_n (pc := 0) E.1 E.2.1 dX7_dearest_0 rfl (lv_at hl 0 rfl) ?_
  obtain ⟨v1, g2, hf⟩ := x_bind hf
  refine x_callVA (pc := 1) (As := []) (rest := []) (st1 := []) (ws' := (cells7 G ad v1)) E hw hl (c_X7_keepRatesNow l G ad s g2) xv_X7_289 xd_X7_keepRatesNow rfl rfl ⟨Nat.le_of_ble_eq_true rfl, Nat.le_of_ble_eq_true rfl⟩ (q0 := 0) rfl rfl rfl rfl (Nat.le_of_ble_eq_true rfl) rfl dX7_dearest_1 (fun H locs hw => ?_)
  refine lv_bipush (v := (-2)) (pc := 4) E.1 E.2.1 dX7_dearest_4 (by decide) ?_
  refine lv_istore_n (lv' := [(1, .int (-2)), (0, .ref (ad 0))]) (pc := 6) E.1 E.2.1 dX7_dearest_6 rfl hl (by decide) rfl (fun ls hl => ?_)
  refine lv_iconst (v := 0) (pc := 7) E.1 E.2.1 dX7_dearest_7 (by decide) ?_
  refine lv_istore_n (lv' := [(2, .int 0), (1, .int (-2)), (0, .ref (ad 0))]) (pc := 8) E.1 E.2.1 dX7_dearest_8 rfl hl (by decide) rfl (fun ls hl => ?_)
  refine lv_iconst (v := 0) (pc := 9) E.1 E.2.1 dX7_dearest_9 (by decide) ?_
  refine lv_istore_n (lv' := [(3, .int 0), (2, .int 0), (1, .int (-2)), (0, .ref (ad 0))]) (pc := 10) E.1 E.2.1 dX7_dearest_10 rfl hl (by decide) rfl (fun ls hl => ?_)
  exact wl_X7_dearest_p11 E hr hk  v1 (-2) 0 0 z hw (lv_sub hl [3, 2, 1, 0] rfl) hf
set_option maxHeartbeats 4000000 in
set_option maxRecDepth 100000 in
theorem c_X7_dearest (l : Launch) (G : xG) (ad : Nat → Nat) (s : S7) {z : Int32 × S7} (hf : f_X7_dearest s = some z) : xC l yX7_dearest cX7_dearest 6 (some .int) (rm_X7_dearest) G [.ref (ad 0)] (cells7 G ad s) (some (.int z.1)) (cells7 G ad z.2) :=
  x_met (by decide) rfl (Nat.le_of_ble_eq_true rfl) (fun p e sS m below meth c E hr hk ls hl hw => w_X7_dearest_p0 E hr hk s z hw hl hf)
set_option maxHeartbeats 4000000 in
set_option maxRecDepth 100000 in
theorem w_X7_report_p131 {p : Program} {l : Launch} {e : Env} {sS : State} {m : MethodId} {args : Array Value} {below : List Frame} {meth : Method} {c : Code} {G : xG} {W0 : va_W} {ad : Nat → Nat}   (E : xE p sS m args c cX7_report 3 RX7 G (x_in W0)) (hr : meth.sig.returnType = (some .int)) (hk : meth.locks = false)  : ∀ (s' : S7) (z : Int32 × S7) {H : Heap} {locs : List Loc} {ls : Array Slot}, xW G (x_in W0) sS.heap (cells7 G ad s') H locs → lv_has ls 3 [(0, .ref (ad 0))] → f_X7_report_p131  s' = some z → W p l e (rm_X7_report) sS m args below meth c H locs 0 0 (MQ below (xQ G W0 (cells7 G ad z.2) (some (.int z.1))) args sS 0 0 (x_in W0)) (F0 m 131 ls []) := by
  intro s z H locs ls hw hl hf
  unfold f_X7_report_p131 at hf
  refine lv_aload_n (pc := 131) E.1 E.2.1 dX7_report_131 rfl (lv_at hl 0 rfl) ?_
  refine xg_X7_43 (pc := 132) (v := .ref (ad 28)) E hw 0 rfl rfl dX7_report_132 ?_
  obtain ⟨v1, g2, hf⟩ := x_bind hf
  refine x_callV (pc := 135) (As := []) (rest := []) (st1 := []) (ws' := (cells7c G ad (g7_tape s) (g7_book s) (g7_trial s) (g7_past s) (g7_ledger s) v1 (g7_told s) (g7_ratesNow s))) E hw hl (c_X3_writeEnd l G (fun k => ad (k + 28)) (g7_pen s) g2) xv_X7_315 xd_X3_writeEnd rfl rfl ⟨Nat.le_of_ble_eq_true rfl, Nat.le_of_ble_eq_true rfl⟩ [28] [0, 1, 2, 3, 4, 5, 6, 7, 8, 9, 10, 11, 12, 13, 14, 15, 16, 17, 18, 19, 20, 21, 22, 23, 24, 25, 26, 27, 29, 30] (by decide) ⟨rfl, trivial⟩ (q0 := 28) rfl rfl rfl rfl (Nat.le_of_ble_eq_true rfl) (nw := 31) ⟨rfl, trivial⟩ ⟨⟨_, rfl, rfl⟩, ⟨_, rfl, rfl⟩, ⟨_, rfl, rfl⟩, ⟨_, rfl, rfl⟩, ⟨_, rfl, rfl⟩, ⟨_, rfl, rfl⟩, ⟨_, rfl, rfl⟩, ⟨_, rfl, rfl⟩, ⟨_, rfl, rfl⟩, ⟨_, rfl, rfl⟩, ⟨_, rfl, rfl⟩, ⟨_, rfl, rfl⟩, ⟨_, rfl, rfl⟩, ⟨_, rfl, rfl⟩, ⟨_, rfl, rfl⟩, ⟨_, rfl, rfl⟩, ⟨_, rfl, rfl⟩, ⟨_, rfl, rfl⟩, ⟨_, rfl, rfl⟩, ⟨_, rfl, rfl⟩, ⟨_, rfl, rfl⟩, ⟨_, rfl, rfl⟩, ⟨_, rfl, rfl⟩, ⟨_, rfl, rfl⟩, ⟨_, rfl, rfl⟩, ⟨_, rfl, rfl⟩, ⟨_, rfl, rfl⟩, ⟨_, rfl, rfl⟩, ⟨_, rfl, rfl⟩, ⟨_, rfl, rfl⟩, trivial⟩ rfl rfl (by decide) (by decide) rfl dX7_report_135 (fun H locs hw => ?_)
  refine lv_aload_n (pc := 138) E.1 E.2.1 dX7_report_138 rfl (lv_at hl 0 rfl) ?_
  refine xg_X7_43 (pc := 139) (v := .ref (ad 28)) E hw 0 rfl rfl dX7_report_139 ?_
  obtain ⟨v3, g4, hf⟩ := x_bind hf
  refine x_callV (pc := 142) (As := []) (rest := []) (st1 := [.int v3]) (ws' := (cells7c G ad (g7_tape s) (g7_book s) (g7_trial s) (g7_past s) (g7_ledger s) v1 (g7_told s) (g7_ratesNow s))) E hw hl (c_X3_answer l G (fun k => ad (k + 28)) v1 g4) xv_X7_318 xd_X3_answer rfl rfl ⟨Nat.le_of_ble_eq_true rfl, Nat.le_of_ble_eq_true rfl⟩ [28] [0, 1, 2, 3, 4, 5, 6, 7, 8, 9, 10, 11, 12, 13, 14, 15, 16, 17, 18, 19, 20, 21, 22, 23, 24, 25, 26, 27, 29, 30] (by decide) ⟨rfl, trivial⟩ (q0 := 28) rfl rfl rfl rfl (Nat.le_of_ble_eq_true rfl) (nw := 31) ⟨rfl, trivial⟩ ⟨⟨_, rfl, rfl⟩, ⟨_, rfl, rfl⟩, ⟨_, rfl, rfl⟩, ⟨_, rfl, rfl⟩, ⟨_, rfl, rfl⟩, ⟨_, rfl, rfl⟩, ⟨_, rfl, rfl⟩, ⟨_, rfl, rfl⟩, ⟨_, rfl, rfl⟩, ⟨_, rfl, rfl⟩, ⟨_, rfl, rfl⟩, ⟨_, rfl, rfl⟩, ⟨_, rfl, rfl⟩, ⟨_, rfl, rfl⟩, ⟨_, rfl, rfl⟩, ⟨_, rfl, rfl⟩, ⟨_, rfl, rfl⟩, ⟨_, rfl, rfl⟩, ⟨_, rfl, rfl⟩, ⟨_, rfl, rfl⟩, ⟨_, rfl, rfl⟩, ⟨_, rfl, rfl⟩, ⟨_, rfl, rfl⟩, ⟨_, rfl, rfl⟩, ⟨_, rfl, rfl⟩, ⟨_, rfl, rfl⟩, ⟨_, rfl, rfl⟩, ⟨_, rfl, rfl⟩, ⟨_, rfl, rfl⟩, ⟨_, rfl, rfl⟩, trivial⟩ rfl rfl (by decide) (by decide) rfl dX7_report_142 (fun H locs hw => ?_)
  obtain rfl := Option.some.inj hf
  exact x_reti (pc := 145) E hr hk hw dX7_report_145
set_option maxHeartbeats 4000000 in
set_option maxRecDepth 100000 in
theorem w_X7_report_p0 {p : Program} {l : Launch} {e : Env} {sS : State} {m : MethodId} {args : Array Value} {below : List Frame} {meth : Method} {c : Code} {G : xG} {W0 : va_W} {ad : Nat → Nat}   (E : xE p sS m args c cX7_report 3 RX7 G (x_in W0)) (hr : meth.sig.returnType = (some .int)) (hk : meth.locks = false)  : ∀ (s' : S7) (x1' : Int32) (x2' : Int32) (z : Int32 × S7) {H : Heap} {locs : List Loc} {ls : Array Slot}, xW G (x_in W0) sS.heap (cells7 G ad s') H locs → lv_has ls 3 [(0, .ref (ad 0)), (1, .int x1'), (2, .int x2')] → f_X7_report  s' x1' x2' = some z → W p l e (rm_X7_report) sS m args below meth c H locs 0 0 (MQ below (xQ G W0 (cells7 G ad z.2) (some (.int z.1))) args sS 0 0 (x_in W0)) (F0 m 0 ls []) := by
  intro s x1 x2 z H locs ls hw hl hf
  unfold f_X7_report at hf
  refine lv_aload_n (pc := 0) E.1 E.2.1 dX7_report_0 rfl (lv_at hl 0 rfl) ?_
  refine xg_X7_19 (pc := 1) (v := .ref (ad 3)) E hw 0 rfl rfl dX7_report_1 ?_
  refine lv_iload_n (pc := 4) E.1 E.2.1 dX7_report_4 rfl (lv_at hl 1 rfl) ?_
  obtain ⟨v1, g2, hf⟩ := x_bind hf
  refine x_callV (pc := 5) (As := [.int x1]) (rest := []) (st1 := [.int v1]) (ws' := (cells7 G ad s)) E hw hl (c_X0_hasFleet l G (fun k => ad (k + 3)) (g7_book s) x1 g2) xv_X7_95 xd_X0_hasFleet rfl rfl ⟨Nat.le_of_ble_eq_true rfl, Nat.le_of_ble_eq_true rfl⟩ [3, 4, 5, 6] [0, 1, 2, 7, 8, 9, 10, 11, 12, 13, 14, 15, 16, 17, 18, 19, 20, 21, 22, 23, 24, 25, 26, 27, 28, 29, 30] (by decide) ⟨rfl, rfl, rfl, rfl, trivial⟩ (q0 := 3) rfl rfl rfl rfl (Nat.le_of_ble_eq_true rfl) (nw := 31) ⟨rfl, rfl, rfl, rfl, trivial⟩ ⟨⟨_, rfl, rfl⟩, ⟨_, rfl, rfl⟩, ⟨_, rfl, rfl⟩, ⟨_, rfl, rfl⟩, ⟨_, rfl, rfl⟩, ⟨_, rfl, rfl⟩, ⟨_, rfl, rfl⟩, ⟨_, rfl, rfl⟩, ⟨_, rfl, rfl⟩, ⟨_, rfl, rfl⟩, ⟨_, rfl, rfl⟩, ⟨_, rfl, rfl⟩, ⟨_, rfl, rfl⟩, ⟨_, rfl, rfl⟩, ⟨_, rfl, rfl⟩, ⟨_, rfl, rfl⟩, ⟨_, rfl, rfl⟩, ⟨_, rfl, rfl⟩, ⟨_, rfl, rfl⟩, ⟨_, rfl, rfl⟩, ⟨_, rfl, rfl⟩, ⟨_, rfl, rfl⟩, ⟨_, rfl, rfl⟩, ⟨_, rfl, rfl⟩, ⟨_, rfl, rfl⟩, ⟨_, rfl, rfl⟩, ⟨_, rfl, rfl⟩, trivial⟩ rfl rfl (by decide) (by decide) rfl dX7_report_5 (fun H locs hw => ?_)
  refine lv_if_eq (tgt := 16) (pc := 8) E.1 E.2.1 dX7_report_8 (by decide) (fun q3 => ?_) (fun q3 => ?_)
  · have hf := x_pos q3 hf
    refine lv_iconst (v := (-1)) (pc := 16) E.1 E.2.1 dX7_report_16 (by decide) ?_
    obtain rfl := Option.some.inj hf
    exact x_reti (pc := 17) E hr hk hw dX7_report_17
  · have hf := x_neg q3 hf
    refine lv_iload_n (pc := 11) E.1 E.2.1 dX7_report_11 rfl (lv_at hl 2 rfl) ?_
    refine lv_iconst (v := (-1)) (pc := 12) E.1 E.2.1 dX7_report_12 (by decide) ?_
    refine lv_icmp_ge (tgt := 18) (pc := 13) E.1 E.2.1 dX7_report_13 (by decide) (fun q4 => ?_) (fun q4 => ?_)
    · have hf := x_pos q4 hf
      refine lv_aload_n (pc := 18) E.1 E.2.1 dX7_report_18 rfl (lv_at hl 0 rfl) ?_
      refine xg_X7_36 (pc := 19) (v := .ref (ad 13)) E hw 0 rfl rfl dX7_report_19 ?_
      refine lv_aload_n (pc := 22) E.1 E.2.1 dX7_report_22 rfl (lv_at hl 0 rfl) ?_
      refine xg_X7_19 (pc := 23) (v := .ref (ad 3)) E hw 0 rfl rfl dX7_report_23 ?_
      obtain ⟨v5, g6, hf⟩ := x_bind hf
      refine x_callV (pc := 26) (As := [.ref (ad 3)]) (rest := []) (st1 := []) (ws' := (cells7c G ad (g7_tape s) (g7_book s) (g7_trial s) (g7_past s) v5 (g7_pen s) (g7_told s) (g7_ratesNow s))) E hw hl (c_X1_reckon l G (fun k => ad (k + 13)) (fun k => ad (k + 3)) (g7_ledger s) (g7_book s) g6) xv_X7_186 xd_X1_reckon rfl rfl ⟨Nat.le_of_ble_eq_true rfl, Nat.le_of_ble_eq_true rfl⟩ [13, 14, 15, 16, 17, 18, 19, 20, 21, 22, 23, 24, 25, 26, 27, 3, 4, 5, 6] [0, 1, 2, 7, 8, 9, 10, 11, 12, 28, 29, 30] (by decide) ⟨rfl, rfl, rfl, rfl, rfl, rfl, rfl, rfl, rfl, rfl, rfl, rfl, rfl, rfl, rfl, rfl, rfl, rfl, rfl, trivial⟩ (q0 := 13) rfl rfl rfl rfl (Nat.le_of_ble_eq_true rfl) (nw := 31) ⟨rfl, rfl, rfl, rfl, rfl, rfl, rfl, rfl, rfl, rfl, rfl, rfl, rfl, rfl, rfl, rfl, rfl, rfl, rfl, trivial⟩ ⟨⟨_, rfl, rfl⟩, ⟨_, rfl, rfl⟩, ⟨_, rfl, rfl⟩, ⟨_, rfl, rfl⟩, ⟨_, rfl, rfl⟩, ⟨_, rfl, rfl⟩, ⟨_, rfl, rfl⟩, ⟨_, rfl, rfl⟩, ⟨_, rfl, rfl⟩, ⟨_, rfl, rfl⟩, ⟨_, rfl, rfl⟩, ⟨_, rfl, rfl⟩, trivial⟩ rfl rfl (by decide) (by decide) rfl dX7_report_26 (fun H locs hw => ?_)
      refine lv_aload_n (pc := 29) E.1 E.2.1 dX7_report_29 rfl (lv_at hl 0 rfl) ?_
      refine xg_X7_43 (pc := 30) (v := .ref (ad 28)) E hw 0 rfl rfl dX7_report_30 ?_
      refine lv_iload_n (pc := 33) E.1 E.2.1 dX7_report_33 rfl (lv_at hl 2 rfl) ?_
      obtain ⟨v7, g8, hf⟩ := x_bind hf
      refine x_callV (pc := 34) (As := [.int x2]) (rest := []) (st1 := []) (ws' := (cells7c G ad (g7_tape s) (g7_book s) (g7_trial s) (g7_past s) v5 v7 (g7_told s) (g7_ratesNow s))) E hw hl (c_X3_begin l G (fun k => ad (k + 28)) (g7_pen s) x2 g8) xv_X7_295 xd_X3_begin rfl rfl ⟨Nat.le_of_ble_eq_true rfl, Nat.le_of_ble_eq_true rfl⟩ [28] [0, 1, 2, 3, 4, 5, 6, 7, 8, 9, 10, 11, 12, 13, 14, 15, 16, 17, 18, 19, 20, 21, 22, 23, 24, 25, 26, 27, 29, 30] (by decide) ⟨rfl, trivial⟩ (q0 := 28) rfl rfl rfl rfl (Nat.le_of_ble_eq_true rfl) (nw := 31) ⟨rfl, trivial⟩ ⟨⟨_, rfl, rfl⟩, ⟨_, rfl, rfl⟩, ⟨_, rfl, rfl⟩, ⟨_, rfl, rfl⟩, ⟨_, rfl, rfl⟩, ⟨_, rfl, rfl⟩, ⟨_, rfl, rfl⟩, ⟨_, rfl, rfl⟩, ⟨_, rfl, rfl⟩, ⟨_, rfl, rfl⟩, ⟨_, rfl, rfl⟩, ⟨_, rfl, rfl⟩, ⟨_, rfl, rfl⟩, ⟨_, rfl, rfl⟩, ⟨_, rfl, rfl⟩, ⟨_, rfl, rfl⟩, ⟨_, rfl, rfl⟩, ⟨_, rfl, rfl⟩, ⟨_, rfl, rfl⟩, ⟨_, rfl, rfl⟩, ⟨_, rfl, rfl⟩, ⟨_, rfl, rfl⟩, ⟨_, rfl, rfl⟩, ⟨_, rfl, rfl⟩, ⟨_, rfl, rfl⟩, ⟨_, rfl, rfl⟩, ⟨_, rfl, rfl⟩, ⟨_, rfl, rfl⟩, ⟨_, rfl, rfl⟩, ⟨_, rfl, rfl⟩, trivial⟩ rfl rfl (by decide) (by decide) rfl dX7_report_34 (fun H locs hw => ?_)
      refine lv_aload_n (pc := 37) E.1 E.2.1 dX7_report_37 rfl (lv_at hl 0 rfl) ?_
      refine xg_X7_43 (pc := 38) (v := .ref (ad 28)) E hw 0 rfl rfl dX7_report_38 ?_
      refine x_ldcWg (pc := 41) E E.2.2.2.2.2.2.2.1.1 dX7_report_41 ?_
      refine lv_iload_n (pc := 44) E.1 E.2.1 dX7_report_44 rfl (lv_at hl 1 rfl) ?_
      obtain ⟨v9, g10, hf⟩ := x_bind hf
      refine x_callV (pc := 45) (As := [.ref (G.2.2.1 0), .int x1]) (rest := []) (st1 := []) (ws' := (cells7c G ad (g7_tape s) (g7_book s) (g7_trial s) (g7_past s) v5 v9 (g7_told s) (g7_ratesNow s))) E hw hl (c_X3_writeNamed l G (fun k => ad (k + 28)) v7 0 x1 g10) xv_X7_300 xd_X3_writeNamed rfl rfl ⟨Nat.le_of_ble_eq_true rfl, Nat.le_of_ble_eq_true rfl⟩ [28] [0, 1, 2, 3, 4, 5, 6, 7, 8, 9, 10, 11, 12, 13, 14, 15, 16, 17, 18, 19, 20, 21, 22, 23, 24, 25, 26, 27, 29, 30] (by decide) ⟨rfl, trivial⟩ (q0 := 28) rfl rfl rfl rfl (Nat.le_of_ble_eq_true rfl) (nw := 31) ⟨rfl, trivial⟩ ⟨⟨_, rfl, rfl⟩, ⟨_, rfl, rfl⟩, ⟨_, rfl, rfl⟩, ⟨_, rfl, rfl⟩, ⟨_, rfl, rfl⟩, ⟨_, rfl, rfl⟩, ⟨_, rfl, rfl⟩, ⟨_, rfl, rfl⟩, ⟨_, rfl, rfl⟩, ⟨_, rfl, rfl⟩, ⟨_, rfl, rfl⟩, ⟨_, rfl, rfl⟩, ⟨_, rfl, rfl⟩, ⟨_, rfl, rfl⟩, ⟨_, rfl, rfl⟩, ⟨_, rfl, rfl⟩, ⟨_, rfl, rfl⟩, ⟨_, rfl, rfl⟩, ⟨_, rfl, rfl⟩, ⟨_, rfl, rfl⟩, ⟨_, rfl, rfl⟩, ⟨_, rfl, rfl⟩, ⟨_, rfl, rfl⟩, ⟨_, rfl, rfl⟩, ⟨_, rfl, rfl⟩, ⟨_, rfl, rfl⟩, ⟨_, rfl, rfl⟩, ⟨_, rfl, rfl⟩, ⟨_, rfl, rfl⟩, ⟨_, rfl, rfl⟩, trivial⟩ rfl rfl (by decide) (by decide) rfl dX7_report_45 (fun H locs hw => ?_)
      refine lv_aload_n (pc := 48) E.1 E.2.1 dX7_report_48 rfl (lv_at hl 0 rfl) ?_
      refine xg_X7_43 (pc := 49) (v := .ref (ad 28)) E hw 0 rfl rfl dX7_report_49 ?_
      refine x_ldcWg (pc := 52) E E.2.2.2.2.2.2.2.1.2.1 dX7_report_52 ?_
      refine lv_aload_n (pc := 55) E.1 E.2.1 dX7_report_55 rfl (lv_at hl 0 rfl) ?_
      refine xg_X7_19 (pc := 56) (v := .ref (ad 3)) E hw 0 rfl rfl dX7_report_56 ?_
      refine lv_iload_n (pc := 59) E.1 E.2.1 dX7_report_59 rfl (lv_at hl 1 rfl) ?_
      obtain ⟨v11, g12, hf⟩ := x_bind hf
      refine x_callV (pc := 60) (As := [.int x1]) (rest := [.ref (G.2.2.1 1), .ref (ad 28)]) (st1 := [.int v11, .ref (G.2.2.1 1), .ref (ad 28)]) (ws' := (cells7c G ad (g7_tape s) (g7_book s) (g7_trial s) (g7_past s) v5 v9 (g7_told s) (g7_ratesNow s))) E hw hl (c_X0_classOf l G (fun k => ad (k + 3)) (g7_book s) x1 g12) xv_X7_101 xd_X0_classOf rfl rfl ⟨Nat.le_of_ble_eq_true rfl, Nat.le_of_ble_eq_true rfl⟩ [3, 4, 5, 6] [0, 1, 2, 7, 8, 9, 10, 11, 12, 13, 14, 15, 16, 17, 18, 19, 20, 21, 22, 23, 24, 25, 26, 27, 28, 29, 30] (by decide) ⟨rfl, rfl, rfl, rfl, trivial⟩ (q0 := 3) rfl rfl rfl rfl (Nat.le_of_ble_eq_true rfl) (nw := 31) ⟨rfl, rfl, rfl, rfl, trivial⟩ ⟨⟨_, rfl, rfl⟩, ⟨_, rfl, rfl⟩, ⟨_, rfl, rfl⟩, ⟨_, rfl, rfl⟩, ⟨_, rfl, rfl⟩, ⟨_, rfl, rfl⟩, ⟨_, rfl, rfl⟩, ⟨_, rfl, rfl⟩, ⟨_, rfl, rfl⟩, ⟨_, rfl, rfl⟩, ⟨_, rfl, rfl⟩, ⟨_, rfl, rfl⟩, ⟨_, rfl, rfl⟩, ⟨_, rfl, rfl⟩, ⟨_, rfl, rfl⟩, ⟨_, rfl, rfl⟩, ⟨_, rfl, rfl⟩, ⟨_, rfl, rfl⟩, ⟨_, rfl, rfl⟩, ⟨_, rfl, rfl⟩, ⟨_, rfl, rfl⟩, ⟨_, rfl, rfl⟩, ⟨_, rfl, rfl⟩, ⟨_, rfl, rfl⟩, ⟨_, rfl, rfl⟩, ⟨_, rfl, rfl⟩, ⟨_, rfl, rfl⟩, trivial⟩ rfl rfl (by decide) (by decide) rfl dX7_report_60 (fun H locs hw => ?_)
      obtain ⟨v13, g14, hf⟩ := x_bind hf
      refine x_callV (pc := 63) (As := [.ref (G.2.2.1 1), .int v11]) (rest := []) (st1 := []) (ws' := (cells7c G ad (g7_tape s) (g7_book s) (g7_trial s) (g7_past s) v5 v13 (g7_told s) (g7_ratesNow s))) E hw hl (c_X3_writeNamed l G (fun k => ad (k + 28)) v9 1 v11 g14) xv_X7_300 xd_X3_writeNamed rfl rfl ⟨Nat.le_of_ble_eq_true rfl, Nat.le_of_ble_eq_true rfl⟩ [28] [0, 1, 2, 3, 4, 5, 6, 7, 8, 9, 10, 11, 12, 13, 14, 15, 16, 17, 18, 19, 20, 21, 22, 23, 24, 25, 26, 27, 29, 30] (by decide) ⟨rfl, trivial⟩ (q0 := 28) rfl rfl rfl rfl (Nat.le_of_ble_eq_true rfl) (nw := 31) ⟨rfl, trivial⟩ ⟨⟨_, rfl, rfl⟩, ⟨_, rfl, rfl⟩, ⟨_, rfl, rfl⟩, ⟨_, rfl, rfl⟩, ⟨_, rfl, rfl⟩, ⟨_, rfl, rfl⟩, ⟨_, rfl, rfl⟩, ⟨_, rfl, rfl⟩, ⟨_, rfl, rfl⟩, ⟨_, rfl, rfl⟩, ⟨_, rfl, rfl⟩, ⟨_, rfl, rfl⟩, ⟨_, rfl, rfl⟩, ⟨_, rfl, rfl⟩, ⟨_, rfl, rfl⟩, ⟨_, rfl, rfl⟩, ⟨_, rfl, rfl⟩, ⟨_, rfl, rfl⟩, ⟨_, rfl, rfl⟩, ⟨_, rfl, rfl⟩, ⟨_, rfl, rfl⟩, ⟨_, rfl, rfl⟩, ⟨_, rfl, rfl⟩, ⟨_, rfl, rfl⟩, ⟨_, rfl, rfl⟩, ⟨_, rfl, rfl⟩, ⟨_, rfl, rfl⟩, ⟨_, rfl, rfl⟩, ⟨_, rfl, rfl⟩, ⟨_, rfl, rfl⟩, trivial⟩ rfl rfl (by decide) (by decide) rfl dX7_report_63 (fun H locs hw => ?_)
      refine lv_aload_n (pc := 66) E.1 E.2.1 dX7_report_66 rfl (lv_at hl 0 rfl) ?_
      refine xg_X7_43 (pc := 67) (v := .ref (ad 28)) E hw 0 rfl rfl dX7_report_67 ?_
      refine x_ldcWg (pc := 70) E E.2.2.2.2.2.2.2.1.2.2.1 dX7_report_70 ?_
      refine lv_aload_n (pc := 73) E.1 E.2.1 dX7_report_73 rfl (lv_at hl 0 rfl) ?_
      refine xg_X7_36 (pc := 74) (v := .ref (ad 13)) E hw 0 rfl rfl dX7_report_74 ?_
      refine lv_iload_n (pc := 77) E.1 E.2.1 dX7_report_77 rfl (lv_at hl 1 rfl) ?_
      obtain ⟨v15, g16, hf⟩ := x_bind hf
      refine x_callV (pc := 78) (As := [.int x1]) (rest := [.ref (G.2.2.1 2), .ref (ad 28)]) (st1 := [.int v15, .ref (G.2.2.1 2), .ref (ad 28)]) (ws' := (cells7c G ad (g7_tape s) (g7_book s) (g7_trial s) (g7_past s) v5 v13 (g7_told s) (g7_ratesNow s))) E hw hl (c_X1_spanOf l G (fun k => ad (k + 13)) v5 x1 g16) xv_X7_189 xd_X1_spanOf rfl rfl ⟨Nat.le_of_ble_eq_true rfl, Nat.le_of_ble_eq_true rfl⟩ [13, 14, 15, 16, 17, 18, 19, 20, 21, 22, 23, 24, 25, 26, 27] [0, 1, 2, 3, 4, 5, 6, 7, 8, 9, 10, 11, 12, 28, 29, 30] (by decide) ⟨rfl, rfl, rfl, rfl, rfl, rfl, rfl, rfl, rfl, rfl, rfl, rfl, rfl, rfl, rfl, trivial⟩ (q0 := 13) rfl rfl rfl rfl (Nat.le_of_ble_eq_true rfl) (nw := 31) ⟨rfl, rfl, rfl, rfl, rfl, rfl, rfl, rfl, rfl, rfl, rfl, rfl, rfl, rfl, rfl, trivial⟩ ⟨⟨_, rfl, rfl⟩, ⟨_, rfl, rfl⟩, ⟨_, rfl, rfl⟩, ⟨_, rfl, rfl⟩, ⟨_, rfl, rfl⟩, ⟨_, rfl, rfl⟩, ⟨_, rfl, rfl⟩, ⟨_, rfl, rfl⟩, ⟨_, rfl, rfl⟩, ⟨_, rfl, rfl⟩, ⟨_, rfl, rfl⟩, ⟨_, rfl, rfl⟩, ⟨_, rfl, rfl⟩, ⟨_, rfl, rfl⟩, ⟨_, rfl, rfl⟩, ⟨_, rfl, rfl⟩, trivial⟩ rfl rfl (by decide) (by decide) rfl dX7_report_78 (fun H locs hw => ?_)
      obtain ⟨v17, g18, hf⟩ := x_bind hf
      refine x_callV (pc := 81) (As := [.ref (G.2.2.1 2), .int v15]) (rest := []) (st1 := []) (ws' := (cells7c G ad (g7_tape s) (g7_book s) (g7_trial s) (g7_past s) v5 v17 (g7_told s) (g7_ratesNow s))) E hw hl (c_X3_writeNamed l G (fun k => ad (k + 28)) v13 2 v15 g18) xv_X7_300 xd_X3_writeNamed rfl rfl ⟨Nat.le_of_ble_eq_true rfl, Nat.le_of_ble_eq_true rfl⟩ [28] [0, 1, 2, 3, 4, 5, 6, 7, 8, 9, 10, 11, 12, 13, 14, 15, 16, 17, 18, 19, 20, 21, 22, 23, 24, 25, 26, 27, 29, 30] (by decide) ⟨rfl, trivial⟩ (q0 := 28) rfl rfl rfl rfl (Nat.le_of_ble_eq_true rfl) (nw := 31) ⟨rfl, trivial⟩ ⟨⟨_, rfl, rfl⟩, ⟨_, rfl, rfl⟩, ⟨_, rfl, rfl⟩, ⟨_, rfl, rfl⟩, ⟨_, rfl, rfl⟩, ⟨_, rfl, rfl⟩, ⟨_, rfl, rfl⟩, ⟨_, rfl, rfl⟩, ⟨_, rfl, rfl⟩, ⟨_, rfl, rfl⟩, ⟨_, rfl, rfl⟩, ⟨_, rfl, rfl⟩, ⟨_, rfl, rfl⟩, ⟨_, rfl, rfl⟩, ⟨_, rfl, rfl⟩, ⟨_, rfl, rfl⟩, ⟨_, rfl, rfl⟩, ⟨_, rfl, rfl⟩, ⟨_, rfl, rfl⟩, ⟨_, rfl, rfl⟩, ⟨_, rfl, rfl⟩, ⟨_, rfl, rfl⟩, ⟨_, rfl, rfl⟩, ⟨_, rfl, rfl⟩, ⟨_, rfl, rfl⟩, ⟨_, rfl, rfl⟩, ⟨_, rfl, rfl⟩, ⟨_, rfl, rfl⟩, ⟨_, rfl, rfl⟩, ⟨_, rfl, rfl⟩, trivial⟩ rfl rfl (by decide) (by decide) rfl dX7_report_81 (fun H locs hw => ?_)
      refine lv_aload_n (pc := 84) E.1 E.2.1 dX7_report_84 rfl (lv_at hl 0 rfl) ?_
      refine xg_X7_36 (pc := 85) (v := .ref (ad 13)) E hw 0 rfl rfl dX7_report_85 ?_
      refine lv_iload_n (pc := 88) E.1 E.2.1 dX7_report_88 rfl (lv_at hl 1 rfl) ?_
      obtain ⟨v19, g20, hf⟩ := x_bind hf
      refine x_callV (pc := 89) (As := [.int x1]) (rest := []) (st1 := [.int v19]) (ws' := (cells7c G ad (g7_tape s) (g7_book s) (g7_trial s) (g7_past s) v5 v17 (g7_told s) (g7_ratesNow s))) E hw hl (c_X1_isRated l G (fun k => ad (k + 13)) v5 x1 g20) xv_X7_260 xd_X1_isRated rfl rfl ⟨Nat.le_of_ble_eq_true rfl, Nat.le_of_ble_eq_true rfl⟩ [13, 14, 15, 16, 17, 18, 19, 20, 21, 22, 23, 24, 25, 26, 27] [0, 1, 2, 3, 4, 5, 6, 7, 8, 9, 10, 11, 12, 28, 29, 30] (by decide) ⟨rfl, rfl, rfl, rfl, rfl, rfl, rfl, rfl, rfl, rfl, rfl, rfl, rfl, rfl, rfl, trivial⟩ (q0 := 13) rfl rfl rfl rfl (Nat.le_of_ble_eq_true rfl) (nw := 31) ⟨rfl, rfl, rfl, rfl, rfl, rfl, rfl, rfl, rfl, rfl, rfl, rfl, rfl, rfl, rfl, trivial⟩ ⟨⟨_, rfl, rfl⟩, ⟨_, rfl, rfl⟩, ⟨_, rfl, rfl⟩, ⟨_, rfl, rfl⟩, ⟨_, rfl, rfl⟩, ⟨_, rfl, rfl⟩, ⟨_, rfl, rfl⟩, ⟨_, rfl, rfl⟩, ⟨_, rfl, rfl⟩, ⟨_, rfl, rfl⟩, ⟨_, rfl, rfl⟩, ⟨_, rfl, rfl⟩, ⟨_, rfl, rfl⟩, ⟨_, rfl, rfl⟩, ⟨_, rfl, rfl⟩, ⟨_, rfl, rfl⟩, trivial⟩ rfl rfl (by decide) (by decide) rfl dX7_report_89 (fun H locs hw => ?_)
      refine lv_if_eq (tgt := 131) (pc := 92) E.1 E.2.1 dX7_report_92 (by decide) (fun q21 => ?_) (fun q21 => ?_)
      · have hf := x_pos q21 hf
        exact w_X7_report_p131 E hr hk  (u7_pen (u7_ledger s v5) v17) z hw (lv_sub hl [0] rfl) hf
      · have hf := x_neg q21 hf
        refine lv_aload_n (pc := 95) E.1 E.2.1 dX7_report_95 rfl (lv_at hl 0 rfl) ?_
        refine xg_X7_43 (pc := 96) (v := .ref (ad 28)) E hw 0 rfl rfl dX7_report_96 ?_
        refine x_ldcWg (pc := 99) E E.2.2.2.2.2.2.2.1.2.2.2.1 dX7_report_99 ?_
        refine lv_aload_n (pc := 102) E.1 E.2.1 dX7_report_102 rfl (lv_at hl 0 rfl) ?_
        refine xg_X7_36 (pc := 103) (v := .ref (ad 13)) E hw 0 rfl rfl dX7_report_103 ?_
        refine lv_iload_n (pc := 106) E.1 E.2.1 dX7_report_106 rfl (lv_at hl 1 rfl) ?_
        obtain ⟨v22, g23, hf⟩ := x_bind hf
        refine x_callV (pc := 107) (As := [.int x1]) (rest := [.ref (G.2.2.1 3), .ref (ad 28)]) (st1 := [.int v22, .ref (G.2.2.1 3), .ref (ad 28)]) (ws' := (cells7c G ad (g7_tape s) (g7_book s) (g7_trial s) (g7_past s) v5 v17 (g7_told s) (g7_ratesNow s))) E hw hl (c_X1_shareOf l G (fun k => ad (k + 13)) v5 x1 g23) xv_X7_204 xd_X1_shareOf rfl rfl ⟨Nat.le_of_ble_eq_true rfl, Nat.le_of_ble_eq_true rfl⟩ [13, 14, 15, 16, 17, 18, 19, 20, 21, 22, 23, 24, 25, 26, 27] [0, 1, 2, 3, 4, 5, 6, 7, 8, 9, 10, 11, 12, 28, 29, 30] (by decide) ⟨rfl, rfl, rfl, rfl, rfl, rfl, rfl, rfl, rfl, rfl, rfl, rfl, rfl, rfl, rfl, trivial⟩ (q0 := 13) rfl rfl rfl rfl (Nat.le_of_ble_eq_true rfl) (nw := 31) ⟨rfl, rfl, rfl, rfl, rfl, rfl, rfl, rfl, rfl, rfl, rfl, rfl, rfl, rfl, rfl, trivial⟩ ⟨⟨_, rfl, rfl⟩, ⟨_, rfl, rfl⟩, ⟨_, rfl, rfl⟩, ⟨_, rfl, rfl⟩, ⟨_, rfl, rfl⟩, ⟨_, rfl, rfl⟩, ⟨_, rfl, rfl⟩, ⟨_, rfl, rfl⟩, ⟨_, rfl, rfl⟩, ⟨_, rfl, rfl⟩, ⟨_, rfl, rfl⟩, ⟨_, rfl, rfl⟩, ⟨_, rfl, rfl⟩, ⟨_, rfl, rfl⟩, ⟨_, rfl, rfl⟩, ⟨_, rfl, rfl⟩, trivial⟩ rfl rfl (by decide) (by decide) rfl dX7_report_107 (fun H locs hw => ?_)
        obtain ⟨v24, g25, hf⟩ := x_bind hf
        refine x_callV (pc := 110) (As := [.ref (G.2.2.1 3), .int v22]) (rest := []) (st1 := []) (ws' := (cells7c G ad (g7_tape s) (g7_book s) (g7_trial s) (g7_past s) v5 v24 (g7_told s) (g7_ratesNow s))) E hw hl (c_X3_writeNamed l G (fun k => ad (k + 28)) v17 3 v22 g25) xv_X7_300 xd_X3_writeNamed rfl rfl ⟨Nat.le_of_ble_eq_true rfl, Nat.le_of_ble_eq_true rfl⟩ [28] [0, 1, 2, 3, 4, 5, 6, 7, 8, 9, 10, 11, 12, 13, 14, 15, 16, 17, 18, 19, 20, 21, 22, 23, 24, 25, 26, 27, 29, 30] (by decide) ⟨rfl, trivial⟩ (q0 := 28) rfl rfl rfl rfl (Nat.le_of_ble_eq_true rfl) (nw := 31) ⟨rfl, trivial⟩ ⟨⟨_, rfl, rfl⟩, ⟨_, rfl, rfl⟩, ⟨_, rfl, rfl⟩, ⟨_, rfl, rfl⟩, ⟨_, rfl, rfl⟩, ⟨_, rfl, rfl⟩, ⟨_, rfl, rfl⟩, ⟨_, rfl, rfl⟩, ⟨_, rfl, rfl⟩, ⟨_, rfl, rfl⟩, ⟨_, rfl, rfl⟩, ⟨_, rfl, rfl⟩, ⟨_, rfl, rfl⟩, ⟨_, rfl, rfl⟩, ⟨_, rfl, rfl⟩, ⟨_, rfl, rfl⟩, ⟨_, rfl, rfl⟩, ⟨_, rfl, rfl⟩, ⟨_, rfl, rfl⟩, ⟨_, rfl, rfl⟩, ⟨_, rfl, rfl⟩, ⟨_, rfl, rfl⟩, ⟨_, rfl, rfl⟩, ⟨_, rfl, rfl⟩, ⟨_, rfl, rfl⟩, ⟨_, rfl, rfl⟩, ⟨_, rfl, rfl⟩, ⟨_, rfl, rfl⟩, ⟨_, rfl, rfl⟩, ⟨_, rfl, rfl⟩, trivial⟩ rfl rfl (by decide) (by decide) rfl dX7_report_110 (fun H locs hw => ?_)
        refine lv_aload_n (pc := 113) E.1 E.2.1 dX7_report_113 rfl (lv_at hl 0 rfl) ?_
        refine xg_X7_43 (pc := 114) (v := .ref (ad 28)) E hw 0 rfl rfl dX7_report_114 ?_
        refine x_ldcWg (pc := 117) E E.2.2.2.2.2.2.2.1.2.2.2.2.1 dX7_report_117 ?_
        refine lv_aload_n (pc := 120) E.1 E.2.1 dX7_report_120 rfl (lv_at hl 0 rfl) ?_
        refine xg_X7_36 (pc := 121) (v := .ref (ad 13)) E hw 0 rfl rfl dX7_report_121 ?_
        refine lv_iload_n (pc := 124) E.1 E.2.1 dX7_report_124 rfl (lv_at hl 1 rfl) ?_
        obtain ⟨v26, g27, hf⟩ := x_bind hf
        refine x_callV (pc := 125) (As := [.int x1]) (rest := [.ref (G.2.2.1 4), .ref (ad 28)]) (st1 := [.int v26.1, .ref (G.2.2.1 4), .ref (ad 28)]) (ws' := (cells7c G ad (g7_tape s) (g7_book s) (g7_trial s) (g7_past s) v26.2 v24 (g7_told s) (g7_ratesNow s))) E hw hl (c_X1_rateCut l G (fun k => ad (k + 13)) v5 x1 g27) xv_X7_312 xd_X1_rateCut rfl rfl ⟨Nat.le_of_ble_eq_true rfl, Nat.le_of_ble_eq_true rfl⟩ [13, 14, 15, 16, 17, 18, 19, 20, 21, 22, 23, 24, 25, 26, 27] [0, 1, 2, 3, 4, 5, 6, 7, 8, 9, 10, 11, 12, 28, 29, 30] (by decide) ⟨rfl, rfl, rfl, rfl, rfl, rfl, rfl, rfl, rfl, rfl, rfl, rfl, rfl, rfl, rfl, trivial⟩ (q0 := 13) rfl rfl rfl rfl (Nat.le_of_ble_eq_true rfl) (nw := 31) ⟨rfl, rfl, rfl, rfl, rfl, rfl, rfl, rfl, rfl, rfl, rfl, rfl, rfl, rfl, rfl, trivial⟩ ⟨⟨_, rfl, rfl⟩, ⟨_, rfl, rfl⟩, ⟨_, rfl, rfl⟩, ⟨_, rfl, rfl⟩, ⟨_, rfl, rfl⟩, ⟨_, rfl, rfl⟩, ⟨_, rfl, rfl⟩, ⟨_, rfl, rfl⟩, ⟨_, rfl, rfl⟩, ⟨_, rfl, rfl⟩, ⟨_, rfl, rfl⟩, ⟨_, rfl, rfl⟩, ⟨_, rfl, rfl⟩, ⟨_, rfl, rfl⟩, ⟨_, rfl, rfl⟩, ⟨_, rfl, rfl⟩, trivial⟩ rfl rfl (by decide) (by decide) rfl dX7_report_125 (fun H locs hw => ?_)
        obtain ⟨v28, g29, hf⟩ := x_bind hf
        refine x_callV (pc := 128) (As := [.ref (G.2.2.1 4), .int v26.1]) (rest := []) (st1 := []) (ws' := (cells7c G ad (g7_tape s) (g7_book s) (g7_trial s) (g7_past s) v26.2 v28 (g7_told s) (g7_ratesNow s))) E hw hl (c_X3_writeNamed l G (fun k => ad (k + 28)) v24 4 v26.1 g29) xv_X7_300 xd_X3_writeNamed rfl rfl ⟨Nat.le_of_ble_eq_true rfl, Nat.le_of_ble_eq_true rfl⟩ [28] [0, 1, 2, 3, 4, 5, 6, 7, 8, 9, 10, 11, 12, 13, 14, 15, 16, 17, 18, 19, 20, 21, 22, 23, 24, 25, 26, 27, 29, 30] (by decide) ⟨rfl, trivial⟩ (q0 := 28) rfl rfl rfl rfl (Nat.le_of_ble_eq_true rfl) (nw := 31) ⟨rfl, trivial⟩ ⟨⟨_, rfl, rfl⟩, ⟨_, rfl, rfl⟩, ⟨_, rfl, rfl⟩, ⟨_, rfl, rfl⟩, ⟨_, rfl, rfl⟩, ⟨_, rfl, rfl⟩, ⟨_, rfl, rfl⟩, ⟨_, rfl, rfl⟩, ⟨_, rfl, rfl⟩, ⟨_, rfl, rfl⟩, ⟨_, rfl, rfl⟩, ⟨_, rfl, rfl⟩, ⟨_, rfl, rfl⟩, ⟨_, rfl, rfl⟩, ⟨_, rfl, rfl⟩, ⟨_, rfl, rfl⟩, ⟨_, rfl, rfl⟩, ⟨_, rfl, rfl⟩, ⟨_, rfl, rfl⟩, ⟨_, rfl, rfl⟩, ⟨_, rfl, rfl⟩, ⟨_, rfl, rfl⟩, ⟨_, rfl, rfl⟩, ⟨_, rfl, rfl⟩, ⟨_, rfl, rfl⟩, ⟨_, rfl, rfl⟩, ⟨_, rfl, rfl⟩, ⟨_, rfl, rfl⟩, ⟨_, rfl, rfl⟩, ⟨_, rfl, rfl⟩, trivial⟩ rfl rfl (by decide) (by decide) rfl dX7_report_128 (fun H locs hw => ?_)
        exact w_X7_report_p131 E hr hk  (u7_pen (u7_ledger s v26.2) v28) z hw (lv_sub hl [0] rfl) hf
    · have hf := x_neg q4 hf
      refine lv_iconst (v := (-1)) (pc := 16) E.1 E.2.1 dX7_report_16 (by decide) ?_
      obtain rfl := Option.some.inj hf
      exact x_reti (pc := 17) E hr hk hw dX7_report_17
set_option maxHeartbeats 4000000 in
set_option maxRecDepth 100000 in
theorem c_X7_report (l : Launch) (G : xG) (ad : Nat → Nat) (s : S7) (x1 : Int32) (x2 : Int32) {z : Int32 × S7} (hf : f_X7_report s x1 x2 = some z) : xC l yX7_report cX7_report 3 (some .int) (rm_X7_report) G [.ref (ad 0), .int x1, .int x2] (cells7 G ad s) (some (.int z.1)) (cells7 G ad z.2) :=
  x_met (by decide) rfl (Nat.le_of_ble_eq_true rfl) (fun p e sS m below meth c E hr hk ls hl hw => w_X7_report_p0 E hr hk s x1 x2 z hw hl hf)
set_option maxHeartbeats 4000000 in
set_option maxRecDepth 100000 in
theorem w_X7_spellFleet_p20 {p : Program} {l : Launch} {e : Env} {sS : State} {m : MethodId} {args : Array Value} {below : List Frame} {meth : Method} {c : Code} {G : xG} {W0 : va_W} {ad : Nat → Nat}  {k20 : S7 → Int32 → Int32 → Option (S7)} (E : xE p sS m args c cX7_spellFleet 3 RX7 G (x_in W0)) (hr : meth.sig.returnType = none) (hk : meth.locks = false) (hk20 : ∀ (s' : S7) (x1' : Int32) (x2' : Int32) (z : S7) {H : Heap} {locs : List Loc} {ls : Array Slot}, xW G (x_in W0) sS.heap (cells7 G ad s') H locs → lv_has ls 3 [(0, .ref (ad 0)), (1, .int x1'), (2, .int x2')] → k20  s' x1' x2' = some z → W p l e (rm_X7_spellFleet) sS m args below meth c H locs 0 0 (MQ below (xQ G W0 (cells7 G ad z) none) args sS 0 0 (x_in W0)) (F0 m 20 ls [])) : ∀ (s' : S7) (x1' : Int32) (x2' : Int32) (z : S7) {H : Heap} {locs : List Loc} {ls : Array Slot}, xW G (x_in W0) sS.heap (cells7 G ad s') H locs → lv_has ls 3 [(0, .ref (ad 0)), (1, .int x1'), (2, .int x2')] → f_X7_spellFleet_p20 k20 s' x1' x2' = some z → W p l e (rm_X7_spellFleet) sS m args below meth c H locs 0 0 (MQ below (xQ G W0 (cells7 G ad z) none) args sS 0 0 (x_in W0)) (F0 m 20 ls []) := by
  intro s x1 x2 z H locs ls hw hl hf
  unfold f_X7_spellFleet_p20 at hf
  refine lv_iload_n (pc := 20) E.1 E.2.1 dX7_spellFleet_20 rfl (lv_at hl 2 rfl) ?_
  refine lv_iconst (v := 5) (pc := 21) E.1 E.2.1 dX7_spellFleet_21 (by decide) ?_
  refine lv_icmp_ge (tgt := 51) (pc := 22) E.1 E.2.1 dX7_spellFleet_22 (by decide) (fun q1 => ?_) (fun q1 => ?_)
  · have hf := x_pos q1 hf
    refine lv_aload_n (pc := 51) E.1 E.2.1 dX7_spellFleet_51 rfl (lv_at hl 0 rfl) ?_
    refine xg_X7_43 (pc := 52) (v := .ref (ad 28)) E hw 0 rfl rfl dX7_spellFleet_52 ?_
    obtain ⟨v2, g3, hf⟩ := x_bind hf
    refine x_callV (pc := 55) (As := []) (rest := []) (st1 := []) (ws' := (cells7c G ad (g7_tape s) (g7_book s) (g7_trial s) (g7_past s) (g7_ledger s) v2 (g7_told s) (g7_ratesNow s))) E hw hl (c_X3_writeEnd l G (fun k => ad (k + 28)) (g7_pen s) g3) xv_X7_315 xd_X3_writeEnd rfl rfl ⟨Nat.le_of_ble_eq_true rfl, Nat.le_of_ble_eq_true rfl⟩ [28] [0, 1, 2, 3, 4, 5, 6, 7, 8, 9, 10, 11, 12, 13, 14, 15, 16, 17, 18, 19, 20, 21, 22, 23, 24, 25, 26, 27, 29, 30] (by decide) ⟨rfl, trivial⟩ (q0 := 28) rfl rfl rfl rfl (Nat.le_of_ble_eq_true rfl) (nw := 31) ⟨rfl, trivial⟩ ⟨⟨_, rfl, rfl⟩, ⟨_, rfl, rfl⟩, ⟨_, rfl, rfl⟩, ⟨_, rfl, rfl⟩, ⟨_, rfl, rfl⟩, ⟨_, rfl, rfl⟩, ⟨_, rfl, rfl⟩, ⟨_, rfl, rfl⟩, ⟨_, rfl, rfl⟩, ⟨_, rfl, rfl⟩, ⟨_, rfl, rfl⟩, ⟨_, rfl, rfl⟩, ⟨_, rfl, rfl⟩, ⟨_, rfl, rfl⟩, ⟨_, rfl, rfl⟩, ⟨_, rfl, rfl⟩, ⟨_, rfl, rfl⟩, ⟨_, rfl, rfl⟩, ⟨_, rfl, rfl⟩, ⟨_, rfl, rfl⟩, ⟨_, rfl, rfl⟩, ⟨_, rfl, rfl⟩, ⟨_, rfl, rfl⟩, ⟨_, rfl, rfl⟩, ⟨_, rfl, rfl⟩, ⟨_, rfl, rfl⟩, ⟨_, rfl, rfl⟩, ⟨_, rfl, rfl⟩, ⟨_, rfl, rfl⟩, ⟨_, rfl, rfl⟩, trivial⟩ rfl rfl (by decide) (by decide) rfl dX7_spellFleet_55 (fun H locs hw => ?_)
    obtain rfl := Option.some.inj hf
    exact x_retv (pc := 58) E hr hk hw dX7_spellFleet_58
  · have hf := x_neg q1 hf
    refine lv_aload_n (pc := 25) E.1 E.2.1 dX7_spellFleet_25 rfl (lv_at hl 0 rfl) ?_
    refine xg_X7_19 (pc := 26) (v := .ref (ad 3)) E hw 0 rfl rfl dX7_spellFleet_26 ?_
    refine lv_iload_n (pc := 29) E.1 E.2.1 dX7_spellFleet_29 rfl (lv_at hl 1 rfl) ?_
    refine lv_iload_n (pc := 30) E.1 E.2.1 dX7_spellFleet_30 rfl (lv_at hl 2 rfl) ?_
    obtain ⟨v4, g5, hf⟩ := x_bind hf
    refine x_callV (pc := 31) (As := [.int x1, .int x2]) (rest := []) (st1 := [.int v4]) (ws' := (cells7 G ad s)) E hw hl (c_X0_isInsured l G (fun k => ad (k + 3)) (g7_book s) x1 x2 g5) xv_X7_112 xd_X0_isInsured rfl rfl ⟨Nat.le_of_ble_eq_true rfl, Nat.le_of_ble_eq_true rfl⟩ [3, 4, 5, 6] [0, 1, 2, 7, 8, 9, 10, 11, 12, 13, 14, 15, 16, 17, 18, 19, 20, 21, 22, 23, 24, 25, 26, 27, 28, 29, 30] (by decide) ⟨rfl, rfl, rfl, rfl, trivial⟩ (q0 := 3) rfl rfl rfl rfl (Nat.le_of_ble_eq_true rfl) (nw := 31) ⟨rfl, rfl, rfl, rfl, trivial⟩ ⟨⟨_, rfl, rfl⟩, ⟨_, rfl, rfl⟩, ⟨_, rfl, rfl⟩, ⟨_, rfl, rfl⟩, ⟨_, rfl, rfl⟩, ⟨_, rfl, rfl⟩, ⟨_, rfl, rfl⟩, ⟨_, rfl, rfl⟩, ⟨_, rfl, rfl⟩, ⟨_, rfl, rfl⟩, ⟨_, rfl, rfl⟩, ⟨_, rfl, rfl⟩, ⟨_, rfl, rfl⟩, ⟨_, rfl, rfl⟩, ⟨_, rfl, rfl⟩, ⟨_, rfl, rfl⟩, ⟨_, rfl, rfl⟩, ⟨_, rfl, rfl⟩, ⟨_, rfl, rfl⟩, ⟨_, rfl, rfl⟩, ⟨_, rfl, rfl⟩, ⟨_, rfl, rfl⟩, ⟨_, rfl, rfl⟩, ⟨_, rfl, rfl⟩, ⟨_, rfl, rfl⟩, ⟨_, rfl, rfl⟩, ⟨_, rfl, rfl⟩, trivial⟩ rfl rfl (by decide) (by decide) rfl dX7_spellFleet_31 (fun H locs hw => ?_)
    refine lv_if_eq (tgt := 45) (pc := 34) E.1 E.2.1 dX7_spellFleet_34 (by decide) (fun q6 => ?_) (fun q6 => ?_)
    · have hf := x_pos q6 hf
      refine lv_iinc (v := (x2 + 1)) (lv' := [(2, .int (x2 + 1)), (0, .ref (ad 0)), (1, .int x1)]) (pc := 45) E.1 E.2.1 dX7_spellFleet_45 hl (k := 2) rfl rfl (by decide) rfl (fun ls hl => ?_)
      refine lv_goto (tgt := 20) (pc := 48) E.1 E.2.1 dX7_spellFleet_48 (by decide) ?_
      exact hk20 s x1 (x2 + 1) z hw (lv_sub hl [1, 2, 0] rfl) hf
    · have hf := x_neg q6 hf
      refine lv_aload_n (pc := 37) E.1 E.2.1 dX7_spellFleet_37 rfl (lv_at hl 0 rfl) ?_
      refine xg_X7_43 (pc := 38) (v := .ref (ad 28)) E hw 0 rfl rfl dX7_spellFleet_38 ?_
      refine lv_iload_n (pc := 41) E.1 E.2.1 dX7_spellFleet_41 rfl (lv_at hl 2 rfl) ?_
      obtain ⟨v7, g8, hf⟩ := x_bind hf
      refine x_callV (pc := 42) (As := [.int x2]) (rest := []) (st1 := []) (ws' := (cells7c G ad (g7_tape s) (g7_book s) (g7_trial s) (g7_past s) (g7_ledger s) v7 (g7_told s) (g7_ratesNow s))) E hw hl (c_X3_writeBehind l G (fun k => ad (k + 28)) (g7_pen s) x2 g8) xv_X7_342 xd_X3_writeBehind rfl rfl ⟨Nat.le_of_ble_eq_true rfl, Nat.le_of_ble_eq_true rfl⟩ [28] [0, 1, 2, 3, 4, 5, 6, 7, 8, 9, 10, 11, 12, 13, 14, 15, 16, 17, 18, 19, 20, 21, 22, 23, 24, 25, 26, 27, 29, 30] (by decide) ⟨rfl, trivial⟩ (q0 := 28) rfl rfl rfl rfl (Nat.le_of_ble_eq_true rfl) (nw := 31) ⟨rfl, trivial⟩ ⟨⟨_, rfl, rfl⟩, ⟨_, rfl, rfl⟩, ⟨_, rfl, rfl⟩, ⟨_, rfl, rfl⟩, ⟨_, rfl, rfl⟩, ⟨_, rfl, rfl⟩, ⟨_, rfl, rfl⟩, ⟨_, rfl, rfl⟩, ⟨_, rfl, rfl⟩, ⟨_, rfl, rfl⟩, ⟨_, rfl, rfl⟩, ⟨_, rfl, rfl⟩, ⟨_, rfl, rfl⟩, ⟨_, rfl, rfl⟩, ⟨_, rfl, rfl⟩, ⟨_, rfl, rfl⟩, ⟨_, rfl, rfl⟩, ⟨_, rfl, rfl⟩, ⟨_, rfl, rfl⟩, ⟨_, rfl, rfl⟩, ⟨_, rfl, rfl⟩, ⟨_, rfl, rfl⟩, ⟨_, rfl, rfl⟩, ⟨_, rfl, rfl⟩, ⟨_, rfl, rfl⟩, ⟨_, rfl, rfl⟩, ⟨_, rfl, rfl⟩, ⟨_, rfl, rfl⟩, ⟨_, rfl, rfl⟩, ⟨_, rfl, rfl⟩, trivial⟩ rfl rfl (by decide) (by decide) rfl dX7_spellFleet_42 (fun H locs hw => ?_)
      refine lv_iinc (v := (x2 + 1)) (lv' := [(2, .int (x2 + 1)), (0, .ref (ad 0)), (1, .int x1)]) (pc := 45) E.1 E.2.1 dX7_spellFleet_45 hl (k := 2) rfl rfl (by decide) rfl (fun ls hl => ?_)
      refine lv_goto (tgt := 20) (pc := 48) E.1 E.2.1 dX7_spellFleet_48 (by decide) ?_
      exact hk20 (u7_pen s v7) x1 (x2 + 1) z hw (lv_sub hl [1, 2, 0] rfl) hf
set_option maxHeartbeats 4000000 in
set_option maxRecDepth 100000 in
theorem wl_X7_spellFleet_p20 {p : Program} {l : Launch} {e : Env} {sS : State} {m : MethodId} {args : Array Value} {below : List Frame} {meth : Method} {c : Code} {G : xG} {W0 : va_W} {ad : Nat → Nat}   (E : xE p sS m args c cX7_spellFleet 3 RX7 G (x_in W0)) (hr : meth.sig.returnType = none) (hk : meth.locks = false)  : ∀ (s' : S7) (x1' : Int32) (x2' : Int32) (z : S7) {H : Heap} {locs : List Loc} {ls : Array Slot}, xW G (x_in W0) sS.heap (cells7 G ad s') H locs → lv_has ls 3 [(0, .ref (ad 0)), (1, .int x1'), (2, .int x2')] → lp_X7_spellFleet_p20  s' x1' x2' = some z → W p l e (rm_X7_spellFleet) sS m args below meth c H locs 0 0 (MQ below (xQ G W0 (cells7 G ad z) none) args sS 0 0 (x_in W0)) (F0 m 20 ls []) := by
  intro s x1 x2 z H locs ls hw hl hf
  exact x_loop_W (P := fun (q : S7 × Int32 × Int32) (z : S7) => ∀ {H : Heap} {locs : List Loc} {ls : Array Slot}, xW G (x_in W0) sS.heap (cells7 G ad q.1) H locs → lv_has ls 3 [(0, .ref (ad 0)), (1, .int q.2.1), (2, .int q.2.2)] → W p l e (rm_X7_spellFleet) sS m args below meth c H locs 0 0 (MQ below (xQ G W0 (cells7 G ad z) none) args sS 0 0 (x_in W0)) (F0 m 20 ls [])) (fun k hkk q z hf H locs ls hw hl => w_X7_spellFleet_p20 E hr hk  (fun s x1 x2 z H locs ls hw hl hf => hkk (s, x1, x2) z hf hw hl) q.1 q.2.1 q.2.2 z hw hl hf) FU (s, x1, x2) z hf hw hl
set_option maxHeartbeats 4000000 in
set_option maxRecDepth 100000 in
theorem w_X7_spellFleet_p0 {p : Program} {l : Launch} {e : Env} {sS : State} {m : MethodId} {args : Array Value} {below : List Frame} {meth : Method} {c : Code} {G : xG} {W0 : va_W} {ad : Nat → Nat}   (E : xE p sS m args c cX7_spellFleet 3 RX7 G (x_in W0)) (hr : meth.sig.returnType = none) (hk : meth.locks = false)  : ∀ (s' : S7) (x1' : Int32) (z : S7) {H : Heap} {locs : List Loc} {ls : Array Slot}, xW G (x_in W0) sS.heap (cells7 G ad s') H locs → lv_has ls 3 [(0, .ref (ad 0)), (1, .int x1')] → f_X7_spellFleet  s' x1' = some z → W p l e (rm_X7_spellFleet) sS m args below meth c H locs 0 0 (MQ below (xQ G W0 (cells7 G ad z) none) args sS 0 0 (x_in W0)) (F0 m 0 ls []) := by
  intro s x1 z H locs ls hw hl hf
  unfold f_X7_spellFleet at hf
  refine lv_aload_n (pc := 0) E.1 E.2.1 dX7_spellFleet_0 rfl (lv_at hl 0 rfl) ?_
  refine xg_X7_43 (pc := 1) (v := .ref (ad 28)) E hw 0 rfl rfl dX7_spellFleet_1 ?_
  refine x_ldcWg (pc := 4) E E.2.2.2.2.2.2.2.1.1 dX7_spellFleet_4 ?_
  refine lv_aload_n (pc := 7) E.1 E.2.1 dX7_spellFleet_7 rfl (lv_at hl 0 rfl) ?_
  refine xg_X7_19 (pc := 8) (v := .ref (ad 3)) E hw 0 rfl rfl dX7_spellFleet_8 ?_
  refine lv_iload_n (pc := 11) E.1 E.2.1 dX7_spellFleet_11 rfl (lv_at hl 1 rfl) ?_
  obtain ⟨v1, g2, hf⟩ := x_bind hf
  refine x_callV (pc := 12) (As := [.int x1]) (rest := [.ref (G.2.2.1 0), .ref (ad 28)]) (st1 := [.int v1, .ref (G.2.2.1 0), .ref (ad 28)]) (ws' := (cells7 G ad s)) E hw hl (c_X0_classOf l G (fun k => ad (k + 3)) (g7_book s) x1 g2) xv_X7_101 xd_X0_classOf rfl rfl ⟨Nat.le_of_ble_eq_true rfl, Nat.le_of_ble_eq_true rfl⟩ [3, 4, 5, 6] [0, 1, 2, 7, 8, 9, 10, 11, 12, 13, 14, 15, 16, 17, 18, 19, 20, 21, 22, 23, 24, 25, 26, 27, 28, 29, 30] (by decide) ⟨rfl, rfl, rfl, rfl, trivial⟩ (q0 := 3) rfl rfl rfl rfl (Nat.le_of_ble_eq_true rfl) (nw := 31) ⟨rfl, rfl, rfl, rfl, trivial⟩ ⟨⟨_, rfl, rfl⟩, ⟨_, rfl, rfl⟩, ⟨_, rfl, rfl⟩, ⟨_, rfl, rfl⟩, ⟨_, rfl, rfl⟩, ⟨_, rfl, rfl⟩, ⟨_, rfl, rfl⟩, ⟨_, rfl, rfl⟩, ⟨_, rfl, rfl⟩, ⟨_, rfl, rfl⟩, ⟨_, rfl, rfl⟩, ⟨_, rfl, rfl⟩, ⟨_, rfl, rfl⟩, ⟨_, rfl, rfl⟩, ⟨_, rfl, rfl⟩, ⟨_, rfl, rfl⟩, ⟨_, rfl, rfl⟩, ⟨_, rfl, rfl⟩, ⟨_, rfl, rfl⟩, ⟨_, rfl, rfl⟩, ⟨_, rfl, rfl⟩, ⟨_, rfl, rfl⟩, ⟨_, rfl, rfl⟩, ⟨_, rfl, rfl⟩, ⟨_, rfl, rfl⟩, ⟨_, rfl, rfl⟩, ⟨_, rfl, rfl⟩, trivial⟩ rfl rfl (by decide) (by decide) rfl dX7_spellFleet_12 (fun H locs hw => ?_)
  obtain ⟨v3, g4, hf⟩ := x_bind hf
  refine x_callV (pc := 15) (As := [.ref (G.2.2.1 0), .int v1]) (rest := []) (st1 := []) (ws' := (cells7c G ad (g7_tape s) (g7_book s) (g7_trial s) (g7_past s) (g7_ledger s) v3 (g7_told s) (g7_ratesNow s))) E hw hl (c_X3_writeNamed l G (fun k => ad (k + 28)) (g7_pen s) 0 v1 g4) xv_X7_300 xd_X3_writeNamed rfl rfl ⟨Nat.le_of_ble_eq_true rfl, Nat.le_of_ble_eq_true rfl⟩ [28] [0, 1, 2, 3, 4, 5, 6, 7, 8, 9, 10, 11, 12, 13, 14, 15, 16, 17, 18, 19, 20, 21, 22, 23, 24, 25, 26, 27, 29, 30] (by decide) ⟨rfl, trivial⟩ (q0 := 28) rfl rfl rfl rfl (Nat.le_of_ble_eq_true rfl) (nw := 31) ⟨rfl, trivial⟩ ⟨⟨_, rfl, rfl⟩, ⟨_, rfl, rfl⟩, ⟨_, rfl, rfl⟩, ⟨_, rfl, rfl⟩, ⟨_, rfl, rfl⟩, ⟨_, rfl, rfl⟩, ⟨_, rfl, rfl⟩, ⟨_, rfl, rfl⟩, ⟨_, rfl, rfl⟩, ⟨_, rfl, rfl⟩, ⟨_, rfl, rfl⟩, ⟨_, rfl, rfl⟩, ⟨_, rfl, rfl⟩, ⟨_, rfl, rfl⟩, ⟨_, rfl, rfl⟩, ⟨_, rfl, rfl⟩, ⟨_, rfl, rfl⟩, ⟨_, rfl, rfl⟩, ⟨_, rfl, rfl⟩, ⟨_, rfl, rfl⟩, ⟨_, rfl, rfl⟩, ⟨_, rfl, rfl⟩, ⟨_, rfl, rfl⟩, ⟨_, rfl, rfl⟩, ⟨_, rfl, rfl⟩, ⟨_, rfl, rfl⟩, ⟨_, rfl, rfl⟩, ⟨_, rfl, rfl⟩, ⟨_, rfl, rfl⟩, ⟨_, rfl, rfl⟩, trivial⟩ rfl rfl (by decide) (by decide) rfl dX7_spellFleet_15 (fun H locs hw => ?_)
  refine lv_iconst (v := 0) (pc := 18) E.1 E.2.1 dX7_spellFleet_18 (by decide) ?_
  refine lv_istore_n (lv' := [(2, .int 0), (0, .ref (ad 0)), (1, .int x1)]) (pc := 19) E.1 E.2.1 dX7_spellFleet_19 rfl hl (by decide) rfl (fun ls hl => ?_)
  exact wl_X7_spellFleet_p20 E hr hk  (u7_pen s v3) x1 0 z hw (lv_sub hl [1, 2, 0] rfl) hf
set_option maxHeartbeats 4000000 in
set_option maxRecDepth 100000 in
theorem c_X7_spellFleet (l : Launch) (G : xG) (ad : Nat → Nat) (s : S7) (x1 : Int32) {z : S7} (hf : f_X7_spellFleet s x1 = some z) : xC l yX7_spellFleet cX7_spellFleet 3 none (rm_X7_spellFleet) G [.ref (ad 0), .int x1] (cells7 G ad s) none (cells7 G ad z) :=
  x_met (by decide) rfl (Nat.le_of_ble_eq_true rfl) (fun p e sS m below meth c E hr hk ls hl hw => w_X7_spellFleet_p0 E hr hk s x1 z hw hl hf)
set_option maxHeartbeats 4000000 in
set_option maxRecDepth 100000 in
theorem w_X7_spellClaim_p0 {p : Program} {l : Launch} {e : Env} {sS : State} {m : MethodId} {args : Array Value} {below : List Frame} {meth : Method} {c : Code} {G : xG} {W0 : va_W} {ad : Nat → Nat}   (E : xE p sS m args c cX7_spellClaim 2 RX7 G (x_in W0)) (hr : meth.sig.returnType = none) (hk : meth.locks = false)  : ∀ (s' : S7) (x1' : Int32) (z : S7) {H : Heap} {locs : List Loc} {ls : Array Slot}, xW G (x_in W0) sS.heap (cells7 G ad s') H locs → lv_has ls 2 [(0, .ref (ad 0)), (1, .int x1')] → f_X7_spellClaim  s' x1' = some z → W p l e (rm_X7_spellClaim) sS m args below meth c H locs 0 0 (MQ below (xQ G W0 (cells7 G ad z) none) args sS 0 0 (x_in W0)) (F0 m 0 ls []) := by
  intro s x1 z H locs ls hw hl hf
  unfold f_X7_spellClaim at hf
  refine lv_aload_n (pc := 0) E.1 E.2.1 dX7_spellClaim_0 rfl (lv_at hl 0 rfl) ?_
  refine xg_X7_43 (pc := 1) (v := .ref (ad 28)) E hw 0 rfl rfl dX7_spellClaim_1 ?_
  refine x_ldcWg (pc := 4) E E.2.2.2.2.2.2.2.1.2.2.2.2.2.2.2.1 dX7_spellClaim_4 ?_
  refine lv_aload_n (pc := 7) E.1 E.2.1 dX7_spellClaim_7 rfl (lv_at hl 0 rfl) ?_
  refine xg_X7_19 (pc := 8) (v := .ref (ad 3)) E hw 0 rfl rfl dX7_spellClaim_8 ?_
  refine lv_iload_n (pc := 11) E.1 E.2.1 dX7_spellClaim_11 rfl (lv_at hl 1 rfl) ?_
  obtain ⟨v1, g2, hf⟩ := x_bind hf
  refine x_callV (pc := 12) (As := [.int x1]) (rest := [.ref (G.2.2.1 7), .ref (ad 28)]) (st1 := [.int v1, .ref (G.2.2.1 7), .ref (ad 28)]) (ws' := (cells7 G ad s)) E hw hl (c_X0_fleetOf l G (fun k => ad (k + 3)) (g7_book s) x1 g2) xv_X7_210 xd_X0_fleetOf rfl rfl ⟨Nat.le_of_ble_eq_true rfl, Nat.le_of_ble_eq_true rfl⟩ [3, 4, 5, 6] [0, 1, 2, 7, 8, 9, 10, 11, 12, 13, 14, 15, 16, 17, 18, 19, 20, 21, 22, 23, 24, 25, 26, 27, 28, 29, 30] (by decide) ⟨rfl, rfl, rfl, rfl, trivial⟩ (q0 := 3) rfl rfl rfl rfl (Nat.le_of_ble_eq_true rfl) (nw := 31) ⟨rfl, rfl, rfl, rfl, trivial⟩ ⟨⟨_, rfl, rfl⟩, ⟨_, rfl, rfl⟩, ⟨_, rfl, rfl⟩, ⟨_, rfl, rfl⟩, ⟨_, rfl, rfl⟩, ⟨_, rfl, rfl⟩, ⟨_, rfl, rfl⟩, ⟨_, rfl, rfl⟩, ⟨_, rfl, rfl⟩, ⟨_, rfl, rfl⟩, ⟨_, rfl, rfl⟩, ⟨_, rfl, rfl⟩, ⟨_, rfl, rfl⟩, ⟨_, rfl, rfl⟩, ⟨_, rfl, rfl⟩, ⟨_, rfl, rfl⟩, ⟨_, rfl, rfl⟩, ⟨_, rfl, rfl⟩, ⟨_, rfl, rfl⟩, ⟨_, rfl, rfl⟩, ⟨_, rfl, rfl⟩, ⟨_, rfl, rfl⟩, ⟨_, rfl, rfl⟩, ⟨_, rfl, rfl⟩, ⟨_, rfl, rfl⟩, ⟨_, rfl, rfl⟩, ⟨_, rfl, rfl⟩, trivial⟩ rfl rfl (by decide) (by decide) rfl dX7_spellClaim_12 (fun H locs hw => ?_)
  obtain ⟨v3, g4, hf⟩ := x_bind hf
  refine x_callV (pc := 15) (As := [.ref (G.2.2.1 7), .int v1]) (rest := []) (st1 := []) (ws' := (cells7c G ad (g7_tape s) (g7_book s) (g7_trial s) (g7_past s) (g7_ledger s) v3 (g7_told s) (g7_ratesNow s))) E hw hl (c_X3_writeNamed l G (fun k => ad (k + 28)) (g7_pen s) 7 v1 g4) xv_X7_300 xd_X3_writeNamed rfl rfl ⟨Nat.le_of_ble_eq_true rfl, Nat.le_of_ble_eq_true rfl⟩ [28] [0, 1, 2, 3, 4, 5, 6, 7, 8, 9, 10, 11, 12, 13, 14, 15, 16, 17, 18, 19, 20, 21, 22, 23, 24, 25, 26, 27, 29, 30] (by decide) ⟨rfl, trivial⟩ (q0 := 28) rfl rfl rfl rfl (Nat.le_of_ble_eq_true rfl) (nw := 31) ⟨rfl, trivial⟩ ⟨⟨_, rfl, rfl⟩, ⟨_, rfl, rfl⟩, ⟨_, rfl, rfl⟩, ⟨_, rfl, rfl⟩, ⟨_, rfl, rfl⟩, ⟨_, rfl, rfl⟩, ⟨_, rfl, rfl⟩, ⟨_, rfl, rfl⟩, ⟨_, rfl, rfl⟩, ⟨_, rfl, rfl⟩, ⟨_, rfl, rfl⟩, ⟨_, rfl, rfl⟩, ⟨_, rfl, rfl⟩, ⟨_, rfl, rfl⟩, ⟨_, rfl, rfl⟩, ⟨_, rfl, rfl⟩, ⟨_, rfl, rfl⟩, ⟨_, rfl, rfl⟩, ⟨_, rfl, rfl⟩, ⟨_, rfl, rfl⟩, ⟨_, rfl, rfl⟩, ⟨_, rfl, rfl⟩, ⟨_, rfl, rfl⟩, ⟨_, rfl, rfl⟩, ⟨_, rfl, rfl⟩, ⟨_, rfl, rfl⟩, ⟨_, rfl, rfl⟩, ⟨_, rfl, rfl⟩, ⟨_, rfl, rfl⟩, ⟨_, rfl, rfl⟩, trivial⟩ rfl rfl (by decide) (by decide) rfl dX7_spellClaim_15 (fun H locs hw => ?_)
  refine lv_aload_n (pc := 18) E.1 E.2.1 dX7_spellClaim_18 rfl (lv_at hl 0 rfl) ?_
  refine xg_X7_43 (pc := 19) (v := .ref (ad 28)) E hw 0 rfl rfl dX7_spellClaim_19 ?_
  refine lv_aload_n (pc := 22) E.1 E.2.1 dX7_spellClaim_22 rfl (lv_at hl 0 rfl) ?_
  refine xg_X7_19 (pc := 23) (v := .ref (ad 3)) E hw 0 rfl rfl dX7_spellClaim_23 ?_
  refine lv_iload_n (pc := 26) E.1 E.2.1 dX7_spellClaim_26 rfl (lv_at hl 1 rfl) ?_
  obtain ⟨v5, g6, hf⟩ := x_bind hf
  refine x_callV (pc := 27) (As := [.int x1]) (rest := [.ref (ad 28)]) (st1 := [.int v5, .ref (ad 28)]) (ws' := (cells7c G ad (g7_tape s) (g7_book s) (g7_trial s) (g7_past s) (g7_ledger s) v3 (g7_told s) (g7_ratesNow s))) E hw hl (c_X0_yearOf l G (fun k => ad (k + 3)) (g7_book s) x1 g6) xv_X7_213 xd_X0_yearOf rfl rfl ⟨Nat.le_of_ble_eq_true rfl, Nat.le_of_ble_eq_true rfl⟩ [3, 4, 5, 6] [0, 1, 2, 7, 8, 9, 10, 11, 12, 13, 14, 15, 16, 17, 18, 19, 20, 21, 22, 23, 24, 25, 26, 27, 28, 29, 30] (by decide) ⟨rfl, rfl, rfl, rfl, trivial⟩ (q0 := 3) rfl rfl rfl rfl (Nat.le_of_ble_eq_true rfl) (nw := 31) ⟨rfl, rfl, rfl, rfl, trivial⟩ ⟨⟨_, rfl, rfl⟩, ⟨_, rfl, rfl⟩, ⟨_, rfl, rfl⟩, ⟨_, rfl, rfl⟩, ⟨_, rfl, rfl⟩, ⟨_, rfl, rfl⟩, ⟨_, rfl, rfl⟩, ⟨_, rfl, rfl⟩, ⟨_, rfl, rfl⟩, ⟨_, rfl, rfl⟩, ⟨_, rfl, rfl⟩, ⟨_, rfl, rfl⟩, ⟨_, rfl, rfl⟩, ⟨_, rfl, rfl⟩, ⟨_, rfl, rfl⟩, ⟨_, rfl, rfl⟩, ⟨_, rfl, rfl⟩, ⟨_, rfl, rfl⟩, ⟨_, rfl, rfl⟩, ⟨_, rfl, rfl⟩, ⟨_, rfl, rfl⟩, ⟨_, rfl, rfl⟩, ⟨_, rfl, rfl⟩, ⟨_, rfl, rfl⟩, ⟨_, rfl, rfl⟩, ⟨_, rfl, rfl⟩, ⟨_, rfl, rfl⟩, trivial⟩ rfl rfl (by decide) (by decide) rfl dX7_spellClaim_27 (fun H locs hw => ?_)
  obtain ⟨v7, g8, hf⟩ := x_bind hf
  refine x_callV (pc := 30) (As := [.int v5]) (rest := []) (st1 := []) (ws' := (cells7c G ad (g7_tape s) (g7_book s) (g7_trial s) (g7_past s) (g7_ledger s) v7 (g7_told s) (g7_ratesNow s))) E hw hl (c_X3_writeBehind l G (fun k => ad (k + 28)) v3 v5 g8) xv_X7_342 xd_X3_writeBehind rfl rfl ⟨Nat.le_of_ble_eq_true rfl, Nat.le_of_ble_eq_true rfl⟩ [28] [0, 1, 2, 3, 4, 5, 6, 7, 8, 9, 10, 11, 12, 13, 14, 15, 16, 17, 18, 19, 20, 21, 22, 23, 24, 25, 26, 27, 29, 30] (by decide) ⟨rfl, trivial⟩ (q0 := 28) rfl rfl rfl rfl (Nat.le_of_ble_eq_true rfl) (nw := 31) ⟨rfl, trivial⟩ ⟨⟨_, rfl, rfl⟩, ⟨_, rfl, rfl⟩, ⟨_, rfl, rfl⟩, ⟨_, rfl, rfl⟩, ⟨_, rfl, rfl⟩, ⟨_, rfl, rfl⟩, ⟨_, rfl, rfl⟩, ⟨_, rfl, rfl⟩, ⟨_, rfl, rfl⟩, ⟨_, rfl, rfl⟩, ⟨_, rfl, rfl⟩, ⟨_, rfl, rfl⟩, ⟨_, rfl, rfl⟩, ⟨_, rfl, rfl⟩, ⟨_, rfl, rfl⟩, ⟨_, rfl, rfl⟩, ⟨_, rfl, rfl⟩, ⟨_, rfl, rfl⟩, ⟨_, rfl, rfl⟩, ⟨_, rfl, rfl⟩, ⟨_, rfl, rfl⟩, ⟨_, rfl, rfl⟩, ⟨_, rfl, rfl⟩, ⟨_, rfl, rfl⟩, ⟨_, rfl, rfl⟩, ⟨_, rfl, rfl⟩, ⟨_, rfl, rfl⟩, ⟨_, rfl, rfl⟩, ⟨_, rfl, rfl⟩, ⟨_, rfl, rfl⟩, trivial⟩ rfl rfl (by decide) (by decide) rfl dX7_spellClaim_30 (fun H locs hw => ?_)
  refine lv_aload_n (pc := 33) E.1 E.2.1 dX7_spellClaim_33 rfl (lv_at hl 0 rfl) ?_
  refine xg_X7_43 (pc := 34) (v := .ref (ad 28)) E hw 0 rfl rfl dX7_spellClaim_34 ?_
  refine lv_aload_n (pc := 37) E.1 E.2.1 dX7_spellClaim_37 rfl (lv_at hl 0 rfl) ?_
  refine xg_X7_19 (pc := 38) (v := .ref (ad 3)) E hw 0 rfl rfl dX7_spellClaim_38 ?_
  refine lv_iload_n (pc := 41) E.1 E.2.1 dX7_spellClaim_41 rfl (lv_at hl 1 rfl) ?_
  obtain ⟨v9, g10, hf⟩ := x_bind hf
  refine x_callV (pc := 42) (As := [.int x1]) (rest := [.ref (ad 28)]) (st1 := [.int v9, .ref (ad 28)]) (ws' := (cells7c G ad (g7_tape s) (g7_book s) (g7_trial s) (g7_past s) (g7_ledger s) v7 (g7_told s) (g7_ratesNow s))) E hw hl (c_X0_amountOf l G (fun k => ad (k + 3)) (g7_book s) x1 g10) xv_X7_152 xd_X0_amountOf rfl rfl ⟨Nat.le_of_ble_eq_true rfl, Nat.le_of_ble_eq_true rfl⟩ [3, 4, 5, 6] [0, 1, 2, 7, 8, 9, 10, 11, 12, 13, 14, 15, 16, 17, 18, 19, 20, 21, 22, 23, 24, 25, 26, 27, 28, 29, 30] (by decide) ⟨rfl, rfl, rfl, rfl, trivial⟩ (q0 := 3) rfl rfl rfl rfl (Nat.le_of_ble_eq_true rfl) (nw := 31) ⟨rfl, rfl, rfl, rfl, trivial⟩ ⟨⟨_, rfl, rfl⟩, ⟨_, rfl, rfl⟩, ⟨_, rfl, rfl⟩, ⟨_, rfl, rfl⟩, ⟨_, rfl, rfl⟩, ⟨_, rfl, rfl⟩, ⟨_, rfl, rfl⟩, ⟨_, rfl, rfl⟩, ⟨_, rfl, rfl⟩, ⟨_, rfl, rfl⟩, ⟨_, rfl, rfl⟩, ⟨_, rfl, rfl⟩, ⟨_, rfl, rfl⟩, ⟨_, rfl, rfl⟩, ⟨_, rfl, rfl⟩, ⟨_, rfl, rfl⟩, ⟨_, rfl, rfl⟩, ⟨_, rfl, rfl⟩, ⟨_, rfl, rfl⟩, ⟨_, rfl, rfl⟩, ⟨_, rfl, rfl⟩, ⟨_, rfl, rfl⟩, ⟨_, rfl, rfl⟩, ⟨_, rfl, rfl⟩, ⟨_, rfl, rfl⟩, ⟨_, rfl, rfl⟩, ⟨_, rfl, rfl⟩, trivial⟩ rfl rfl (by decide) (by decide) rfl dX7_spellClaim_42 (fun H locs hw => ?_)
  obtain ⟨v11, g12, hf⟩ := x_bind hf
  refine x_callV (pc := 45) (As := [.int v9]) (rest := []) (st1 := []) (ws' := (cells7c G ad (g7_tape s) (g7_book s) (g7_trial s) (g7_past s) (g7_ledger s) v11 (g7_told s) (g7_ratesNow s))) E hw hl (c_X3_writeBehind l G (fun k => ad (k + 28)) v7 v9 g12) xv_X7_342 xd_X3_writeBehind rfl rfl ⟨Nat.le_of_ble_eq_true rfl, Nat.le_of_ble_eq_true rfl⟩ [28] [0, 1, 2, 3, 4, 5, 6, 7, 8, 9, 10, 11, 12, 13, 14, 15, 16, 17, 18, 19, 20, 21, 22, 23, 24, 25, 26, 27, 29, 30] (by decide) ⟨rfl, trivial⟩ (q0 := 28) rfl rfl rfl rfl (Nat.le_of_ble_eq_true rfl) (nw := 31) ⟨rfl, trivial⟩ ⟨⟨_, rfl, rfl⟩, ⟨_, rfl, rfl⟩, ⟨_, rfl, rfl⟩, ⟨_, rfl, rfl⟩, ⟨_, rfl, rfl⟩, ⟨_, rfl, rfl⟩, ⟨_, rfl, rfl⟩, ⟨_, rfl, rfl⟩, ⟨_, rfl, rfl⟩, ⟨_, rfl, rfl⟩, ⟨_, rfl, rfl⟩, ⟨_, rfl, rfl⟩, ⟨_, rfl, rfl⟩, ⟨_, rfl, rfl⟩, ⟨_, rfl, rfl⟩, ⟨_, rfl, rfl⟩, ⟨_, rfl, rfl⟩, ⟨_, rfl, rfl⟩, ⟨_, rfl, rfl⟩, ⟨_, rfl, rfl⟩, ⟨_, rfl, rfl⟩, ⟨_, rfl, rfl⟩, ⟨_, rfl, rfl⟩, ⟨_, rfl, rfl⟩, ⟨_, rfl, rfl⟩, ⟨_, rfl, rfl⟩, ⟨_, rfl, rfl⟩, ⟨_, rfl, rfl⟩, ⟨_, rfl, rfl⟩, ⟨_, rfl, rfl⟩, trivial⟩ rfl rfl (by decide) (by decide) rfl dX7_spellClaim_45 (fun H locs hw => ?_)
  refine lv_aload_n (pc := 48) E.1 E.2.1 dX7_spellClaim_48 rfl (lv_at hl 0 rfl) ?_
  refine xg_X7_43 (pc := 49) (v := .ref (ad 28)) E hw 0 rfl rfl dX7_spellClaim_49 ?_
  obtain ⟨v13, g14, hf⟩ := x_bind hf
  refine x_callV (pc := 52) (As := []) (rest := []) (st1 := []) (ws' := (cells7c G ad (g7_tape s) (g7_book s) (g7_trial s) (g7_past s) (g7_ledger s) v13 (g7_told s) (g7_ratesNow s))) E hw hl (c_X3_writeEnd l G (fun k => ad (k + 28)) v11 g14) xv_X7_315 xd_X3_writeEnd rfl rfl ⟨Nat.le_of_ble_eq_true rfl, Nat.le_of_ble_eq_true rfl⟩ [28] [0, 1, 2, 3, 4, 5, 6, 7, 8, 9, 10, 11, 12, 13, 14, 15, 16, 17, 18, 19, 20, 21, 22, 23, 24, 25, 26, 27, 29, 30] (by decide) ⟨rfl, trivial⟩ (q0 := 28) rfl rfl rfl rfl (Nat.le_of_ble_eq_true rfl) (nw := 31) ⟨rfl, trivial⟩ ⟨⟨_, rfl, rfl⟩, ⟨_, rfl, rfl⟩, ⟨_, rfl, rfl⟩, ⟨_, rfl, rfl⟩, ⟨_, rfl, rfl⟩, ⟨_, rfl, rfl⟩, ⟨_, rfl, rfl⟩, ⟨_, rfl, rfl⟩, ⟨_, rfl, rfl⟩, ⟨_, rfl, rfl⟩, ⟨_, rfl, rfl⟩, ⟨_, rfl, rfl⟩, ⟨_, rfl, rfl⟩, ⟨_, rfl, rfl⟩, ⟨_, rfl, rfl⟩, ⟨_, rfl, rfl⟩, ⟨_, rfl, rfl⟩, ⟨_, rfl, rfl⟩, ⟨_, rfl, rfl⟩, ⟨_, rfl, rfl⟩, ⟨_, rfl, rfl⟩, ⟨_, rfl, rfl⟩, ⟨_, rfl, rfl⟩, ⟨_, rfl, rfl⟩, ⟨_, rfl, rfl⟩, ⟨_, rfl, rfl⟩, ⟨_, rfl, rfl⟩, ⟨_, rfl, rfl⟩, ⟨_, rfl, rfl⟩, ⟨_, rfl, rfl⟩, trivial⟩ rfl rfl (by decide) (by decide) rfl dX7_spellClaim_52 (fun H locs hw => ?_)
  obtain rfl := Option.some.inj hf
  exact x_retv (pc := 55) E hr hk hw dX7_spellClaim_55
set_option maxHeartbeats 4000000 in
set_option maxRecDepth 100000 in
theorem c_X7_spellClaim (l : Launch) (G : xG) (ad : Nat → Nat) (s : S7) (x1 : Int32) {z : S7} (hf : f_X7_spellClaim s x1 = some z) : xC l yX7_spellClaim cX7_spellClaim 2 none (rm_X7_spellClaim) G [.ref (ad 0), .int x1] (cells7 G ad s) none (cells7 G ad z) :=
  x_met (by decide) rfl (Nat.le_of_ble_eq_true rfl) (fun p e sS m below meth c E hr hk ls hl hw => w_X7_spellClaim_p0 E hr hk s x1 z hw hl hf)
set_option maxHeartbeats 4000000 in
set_option maxRecDepth 100000 in
theorem w_X7_spell_p89 {p : Program} {l : Launch} {e : Env} {sS : State} {m : MethodId} {args : Array Value} {below : List Frame} {meth : Method} {c : Code} {G : xG} {W0 : va_W} {ad : Nat → Nat}  {k89 : S7 → Int32 → Option (Int32 × S7)} (E : xE p sS m args c cX7_spell 3 RX7 G (x_in W0)) (hr : meth.sig.returnType = (some .int)) (hk : meth.locks = false) (hk89 : ∀ (s' : S7) (x2' : Int32) (z : Int32 × S7) {H : Heap} {locs : List Loc} {ls : Array Slot}, xW G (x_in W0) sS.heap (cells7 G ad s') H locs → lv_has ls 3 [(0, .ref (ad 0)), (2, .int x2')] → k89  s' x2' = some z → W p l e (rm_X7_spell) sS m args below meth c H locs 0 0 (MQ below (xQ G W0 (cells7 G ad z.2) (some (.int z.1))) args sS 0 0 (x_in W0)) (F0 m 89 ls [])) : ∀ (s' : S7) (x2' : Int32) (z : Int32 × S7) {H : Heap} {locs : List Loc} {ls : Array Slot}, xW G (x_in W0) sS.heap (cells7 G ad s') H locs → lv_has ls 3 [(0, .ref (ad 0)), (2, .int x2')] → f_X7_spell_p89 k89 s' x2' = some z → W p l e (rm_X7_spell) sS m args below meth c H locs 0 0 (MQ below (xQ G W0 (cells7 G ad z.2) (some (.int z.1))) args sS 0 0 (x_in W0)) (F0 m 89 ls []) := by
  intro s x2 z H locs ls hw hl hf
  unfold f_X7_spell_p89 at hf
  refine lv_iload_n (pc := 89) E.1 E.2.1 dX7_spell_89 rfl (lv_at hl 1 rfl) ?_
  refine lv_aload_n (pc := 90) E.1 E.2.1 dX7_spell_90 rfl (lv_at hl 0 rfl) ?_
  refine xg_X7_19 (pc := 91) (v := .ref (ad 3)) E hw 0 rfl rfl dX7_spell_91 ?_
  refine xg_X7_266 (pc := 94) (v := .int (g0_claims (g7_book s))) E hw 3 rfl rfl dX7_spell_94 ?_
  refine lv_icmp_ge (tgt := 111) (pc := 97) E.1 E.2.1 dX7_spell_97 (by decide) (fun q1 => ?_) (fun q1 => ?_)
  · have hf := x_pos q1 hf
    refine lv_aload_n (pc := 111) E.1 E.2.1 dX7_spell_111 rfl (lv_at hl 0 rfl) ?_
    refine xg_X7_43 (pc := 112) (v := .ref (ad 28)) E hw 0 rfl rfl dX7_spell_112 ?_
    obtain ⟨v2, g3, hf⟩ := x_bind hf
    refine x_callV (pc := 115) (As := []) (rest := []) (st1 := [.int v2]) (ws' := (cells7 G ad s)) E hw hl (c_X3_answer l G (fun k => ad (k + 28)) (g7_pen s) g3) xv_X7_318 xd_X3_answer rfl rfl ⟨Nat.le_of_ble_eq_true rfl, Nat.le_of_ble_eq_true rfl⟩ [28] [0, 1, 2, 3, 4, 5, 6, 7, 8, 9, 10, 11, 12, 13, 14, 15, 16, 17, 18, 19, 20, 21, 22, 23, 24, 25, 26, 27, 29, 30] (by decide) ⟨rfl, trivial⟩ (q0 := 28) rfl rfl rfl rfl (Nat.le_of_ble_eq_true rfl) (nw := 31) ⟨rfl, trivial⟩ ⟨⟨_, rfl, rfl⟩, ⟨_, rfl, rfl⟩, ⟨_, rfl, rfl⟩, ⟨_, rfl, rfl⟩, ⟨_, rfl, rfl⟩, ⟨_, rfl, rfl⟩, ⟨_, rfl, rfl⟩, ⟨_, rfl, rfl⟩, ⟨_, rfl, rfl⟩, ⟨_, rfl, rfl⟩, ⟨_, rfl, rfl⟩, ⟨_, rfl, rfl⟩, ⟨_, rfl, rfl⟩, ⟨_, rfl, rfl⟩, ⟨_, rfl, rfl⟩, ⟨_, rfl, rfl⟩, ⟨_, rfl, rfl⟩, ⟨_, rfl, rfl⟩, ⟨_, rfl, rfl⟩, ⟨_, rfl, rfl⟩, ⟨_, rfl, rfl⟩, ⟨_, rfl, rfl⟩, ⟨_, rfl, rfl⟩, ⟨_, rfl, rfl⟩, ⟨_, rfl, rfl⟩, ⟨_, rfl, rfl⟩, ⟨_, rfl, rfl⟩, ⟨_, rfl, rfl⟩, ⟨_, rfl, rfl⟩, ⟨_, rfl, rfl⟩, trivial⟩ rfl rfl (by decide) (by decide) rfl dX7_spell_115 (fun H locs hw => ?_)
    obtain rfl := Option.some.inj hf
    exact x_reti (pc := 118) E hr hk hw dX7_spell_118
  · have hf := x_neg q1 hf
    refine lv_aload_n (pc := 100) E.1 E.2.1 dX7_spell_100 rfl (lv_at hl 0 rfl) ?_
    refine lv_iload_n (pc := 101) E.1 E.2.1 dX7_spell_101 rfl (lv_at hl 1 rfl) ?_
    obtain ⟨v4, g5, hf⟩ := x_bind hf
    refine x_callVA (pc := 102) (As := [.int x2]) (rest := []) (st1 := []) (ws' := (cells7 G ad v4)) E hw hl (c_X7_spellClaim l G ad s x2 g5) xv_X7_326 xd_X7_spellClaim rfl rfl ⟨Nat.le_of_ble_eq_true rfl, Nat.le_of_ble_eq_true rfl⟩ (q0 := 0) rfl rfl rfl rfl (Nat.le_of_ble_eq_true rfl) rfl dX7_spell_102 (fun H locs hw => ?_)
    refine lv_iinc (v := (x2 + 1)) (lv' := [(2, .int (x2 + 1)), (0, .ref (ad 0))]) (pc := 105) E.1 E.2.1 dX7_spell_105 hl (k := 1) rfl rfl (by decide) rfl (fun ls hl => ?_)
    refine lv_goto (tgt := 89) (pc := 108) E.1 E.2.1 dX7_spell_108 (by decide) ?_
    exact hk89 v4 (x2 + 1) z hw (lv_sub hl [1, 0] rfl) hf
set_option maxHeartbeats 4000000 in
set_option maxRecDepth 100000 in
theorem wl_X7_spell_p89 {p : Program} {l : Launch} {e : Env} {sS : State} {m : MethodId} {args : Array Value} {below : List Frame} {meth : Method} {c : Code} {G : xG} {W0 : va_W} {ad : Nat → Nat}   (E : xE p sS m args c cX7_spell 3 RX7 G (x_in W0)) (hr : meth.sig.returnType = (some .int)) (hk : meth.locks = false)  : ∀ (s' : S7) (x2' : Int32) (z : Int32 × S7) {H : Heap} {locs : List Loc} {ls : Array Slot}, xW G (x_in W0) sS.heap (cells7 G ad s') H locs → lv_has ls 3 [(0, .ref (ad 0)), (2, .int x2')] → lp_X7_spell_p89  s' x2' = some z → W p l e (rm_X7_spell) sS m args below meth c H locs 0 0 (MQ below (xQ G W0 (cells7 G ad z.2) (some (.int z.1))) args sS 0 0 (x_in W0)) (F0 m 89 ls []) := by
  intro s x2 z H locs ls hw hl hf
  exact x_loop_W (P := fun (q : S7 × Int32) (z : Int32 × S7) => ∀ {H : Heap} {locs : List Loc} {ls : Array Slot}, xW G (x_in W0) sS.heap (cells7 G ad q.1) H locs → lv_has ls 3 [(0, .ref (ad 0)), (2, .int q.2)] → W p l e (rm_X7_spell) sS m args below meth c H locs 0 0 (MQ below (xQ G W0 (cells7 G ad z.2) (some (.int z.1))) args sS 0 0 (x_in W0)) (F0 m 89 ls [])) (fun k hkk q z hf H locs ls hw hl => w_X7_spell_p89 E hr hk  (fun s x2 z H locs ls hw hl hf => hkk (s, x2) z hf hw hl) q.1 q.2 z hw hl hf) FU (s, x2) z hf hw hl
set_option maxHeartbeats 4000000 in
set_option maxRecDepth 100000 in
theorem w_X7_spell_p65 {p : Program} {l : Launch} {e : Env} {sS : State} {m : MethodId} {args : Array Value} {below : List Frame} {meth : Method} {c : Code} {G : xG} {W0 : va_W} {ad : Nat → Nat}  {k65 : S7 → Int32 → Option (Int32 × S7)} (E : xE p sS m args c cX7_spell 3 RX7 G (x_in W0)) (hr : meth.sig.returnType = (some .int)) (hk : meth.locks = false) (hk65 : ∀ (s' : S7) (x2' : Int32) (z : Int32 × S7) {H : Heap} {locs : List Loc} {ls : Array Slot}, xW G (x_in W0) sS.heap (cells7 G ad s') H locs → lv_has ls 3 [(0, .ref (ad 0)), (2, .int x2')] → k65  s' x2' = some z → W p l e (rm_X7_spell) sS m args below meth c H locs 0 0 (MQ below (xQ G W0 (cells7 G ad z.2) (some (.int z.1))) args sS 0 0 (x_in W0)) (F0 m 65 ls [])) : ∀ (s' : S7) (x2' : Int32) (z : Int32 × S7) {H : Heap} {locs : List Loc} {ls : Array Slot}, xW G (x_in W0) sS.heap (cells7 G ad s') H locs → lv_has ls 3 [(0, .ref (ad 0)), (2, .int x2')] → f_X7_spell_p65 k65 s' x2' = some z → W p l e (rm_X7_spell) sS m args below meth c H locs 0 0 (MQ below (xQ G W0 (cells7 G ad z.2) (some (.int z.1))) args sS 0 0 (x_in W0)) (F0 m 65 ls []) := by
  intro s x2 z H locs ls hw hl hf
  unfold f_X7_spell_p65 at hf
  refine lv_iload_n (pc := 65) E.1 E.2.1 dX7_spell_65 rfl (lv_at hl 1 rfl) ?_
  refine lv_aload_n (pc := 66) E.1 E.2.1 dX7_spell_66 rfl (lv_at hl 0 rfl) ?_
  refine xg_X7_19 (pc := 67) (v := .ref (ad 3)) E hw 0 rfl rfl dX7_spell_67 ?_
  refine xg_X7_80 (pc := 70) (v := .int (g0_fleets (g7_book s))) E hw 3 rfl rfl dX7_spell_70 ?_
  refine lv_icmp_ge (tgt := 87) (pc := 73) E.1 E.2.1 dX7_spell_73 (by decide) (fun q1 => ?_) (fun q1 => ?_)
  · have hf := x_pos q1 hf
    refine lv_iconst (v := 0) (pc := 87) E.1 E.2.1 dX7_spell_87 (by decide) ?_
    refine lv_istore_n (lv' := [(2, .int 0), (0, .ref (ad 0))]) (pc := 88) E.1 E.2.1 dX7_spell_88 rfl hl (by decide) rfl (fun ls hl => ?_)
    exact wl_X7_spell_p89 E hr hk  s 0 z hw (lv_sub hl [1, 0] rfl) hf
  · have hf := x_neg q1 hf
    refine lv_aload_n (pc := 76) E.1 E.2.1 dX7_spell_76 rfl (lv_at hl 0 rfl) ?_
    refine lv_iload_n (pc := 77) E.1 E.2.1 dX7_spell_77 rfl (lv_at hl 1 rfl) ?_
    obtain ⟨v2, g3, hf⟩ := x_bind hf
    refine x_callVA (pc := 78) (As := [.int x2]) (rest := []) (st1 := []) (ws' := (cells7 G ad v2)) E hw hl (c_X7_spellFleet l G ad s x2 g3) xv_X7_323 xd_X7_spellFleet rfl rfl ⟨Nat.le_of_ble_eq_true rfl, Nat.le_of_ble_eq_true rfl⟩ (q0 := 0) rfl rfl rfl rfl (Nat.le_of_ble_eq_true rfl) rfl dX7_spell_78 (fun H locs hw => ?_)
    refine lv_iinc (v := (x2 + 1)) (lv' := [(2, .int (x2 + 1)), (0, .ref (ad 0))]) (pc := 81) E.1 E.2.1 dX7_spell_81 hl (k := 1) rfl rfl (by decide) rfl (fun ls hl => ?_)
    refine lv_goto (tgt := 65) (pc := 84) E.1 E.2.1 dX7_spell_84 (by decide) ?_
    exact hk65 v2 (x2 + 1) z hw (lv_sub hl [1, 0] rfl) hf
set_option maxHeartbeats 4000000 in
set_option maxRecDepth 100000 in
theorem wl_X7_spell_p65 {p : Program} {l : Launch} {e : Env} {sS : State} {m : MethodId} {args : Array Value} {below : List Frame} {meth : Method} {c : Code} {G : xG} {W0 : va_W} {ad : Nat → Nat}   (E : xE p sS m args c cX7_spell 3 RX7 G (x_in W0)) (hr : meth.sig.returnType = (some .int)) (hk : meth.locks = false)  : ∀ (s' : S7) (x2' : Int32) (z : Int32 × S7) {H : Heap} {locs : List Loc} {ls : Array Slot}, xW G (x_in W0) sS.heap (cells7 G ad s') H locs → lv_has ls 3 [(0, .ref (ad 0)), (2, .int x2')] → lp_X7_spell_p65  s' x2' = some z → W p l e (rm_X7_spell) sS m args below meth c H locs 0 0 (MQ below (xQ G W0 (cells7 G ad z.2) (some (.int z.1))) args sS 0 0 (x_in W0)) (F0 m 65 ls []) := by
  intro s x2 z H locs ls hw hl hf
  exact x_loop_W (P := fun (q : S7 × Int32) (z : Int32 × S7) => ∀ {H : Heap} {locs : List Loc} {ls : Array Slot}, xW G (x_in W0) sS.heap (cells7 G ad q.1) H locs → lv_has ls 3 [(0, .ref (ad 0)), (2, .int q.2)] → W p l e (rm_X7_spell) sS m args below meth c H locs 0 0 (MQ below (xQ G W0 (cells7 G ad z.2) (some (.int z.1))) args sS 0 0 (x_in W0)) (F0 m 65 ls [])) (fun k hkk q z hf H locs ls hw hl => w_X7_spell_p65 E hr hk  (fun s x2 z H locs ls hw hl hf => hkk (s, x2) z hf hw hl) q.1 q.2 z hw hl hf) FU (s, x2) z hf hw hl
set_option maxHeartbeats 4000000 in
set_option maxRecDepth 100000 in
theorem w_X7_spell_p0 {p : Program} {l : Launch} {e : Env} {sS : State} {m : MethodId} {args : Array Value} {below : List Frame} {meth : Method} {c : Code} {G : xG} {W0 : va_W} {ad : Nat → Nat}   (E : xE p sS m args c cX7_spell 3 RX7 G (x_in W0)) (hr : meth.sig.returnType = (some .int)) (hk : meth.locks = false)  : ∀ (s' : S7) (x1' : Int32) (z : Int32 × S7) {H : Heap} {locs : List Loc} {ls : Array Slot}, xW G (x_in W0) sS.heap (cells7 G ad s') H locs → lv_has ls 3 [(0, .ref (ad 0)), (1, .int x1')] → f_X7_spell  s' x1' = some z → W p l e (rm_X7_spell) sS m args below meth c H locs 0 0 (MQ below (xQ G W0 (cells7 G ad z.2) (some (.int z.1))) args sS 0 0 (x_in W0)) (F0 m 0 ls []) := by
  intro s x1 z H locs ls hw hl hf
  unfold f_X7_spell at hf
  refine lv_iload_n (pc := 0) E.1 E.2.1 dX7_spell_0 rfl (lv_at hl 1 rfl) ?_
  refine lv_iconst (v := (-1)) (pc := 1) E.1 E.2.1 dX7_spell_1 (by decide) ?_
  refine lv_icmp_ge (tgt := 7) (pc := 2) E.1 E.2.1 dX7_spell_2 (by decide) (fun q1 => ?_) (fun q1 => ?_)
  · have hf := x_pos q1 hf
    refine lv_aload_n (pc := 7) E.1 E.2.1 dX7_spell_7 rfl (lv_at hl 0 rfl) ?_
    refine xg_X7_43 (pc := 8) (v := .ref (ad 28)) E hw 0 rfl rfl dX7_spell_8 ?_
    refine lv_iload_n (pc := 11) E.1 E.2.1 dX7_spell_11 rfl (lv_at hl 1 rfl) ?_
    obtain ⟨v2, g3, hf⟩ := x_bind hf
    refine x_callV (pc := 12) (As := [.int x1]) (rest := []) (st1 := []) (ws' := (cells7c G ad (g7_tape s) (g7_book s) (g7_trial s) (g7_past s) (g7_ledger s) v2 (g7_told s) (g7_ratesNow s))) E hw hl (c_X3_begin l G (fun k => ad (k + 28)) (g7_pen s) x1 g3) xv_X7_295 xd_X3_begin rfl rfl ⟨Nat.le_of_ble_eq_true rfl, Nat.le_of_ble_eq_true rfl⟩ [28] [0, 1, 2, 3, 4, 5, 6, 7, 8, 9, 10, 11, 12, 13, 14, 15, 16, 17, 18, 19, 20, 21, 22, 23, 24, 25, 26, 27, 29, 30] (by decide) ⟨rfl, trivial⟩ (q0 := 28) rfl rfl rfl rfl (Nat.le_of_ble_eq_true rfl) (nw := 31) ⟨rfl, trivial⟩ ⟨⟨_, rfl, rfl⟩, ⟨_, rfl, rfl⟩, ⟨_, rfl, rfl⟩, ⟨_, rfl, rfl⟩, ⟨_, rfl, rfl⟩, ⟨_, rfl, rfl⟩, ⟨_, rfl, rfl⟩, ⟨_, rfl, rfl⟩, ⟨_, rfl, rfl⟩, ⟨_, rfl, rfl⟩, ⟨_, rfl, rfl⟩, ⟨_, rfl, rfl⟩, ⟨_, rfl, rfl⟩, ⟨_, rfl, rfl⟩, ⟨_, rfl, rfl⟩, ⟨_, rfl, rfl⟩, ⟨_, rfl, rfl⟩, ⟨_, rfl, rfl⟩, ⟨_, rfl, rfl⟩, ⟨_, rfl, rfl⟩, ⟨_, rfl, rfl⟩, ⟨_, rfl, rfl⟩, ⟨_, rfl, rfl⟩, ⟨_, rfl, rfl⟩, ⟨_, rfl, rfl⟩, ⟨_, rfl, rfl⟩, ⟨_, rfl, rfl⟩, ⟨_, rfl, rfl⟩, ⟨_, rfl, rfl⟩, ⟨_, rfl, rfl⟩, trivial⟩ rfl rfl (by decide) (by decide) rfl dX7_spell_12 (fun H locs hw => ?_)
    refine lv_aload_n (pc := 15) E.1 E.2.1 dX7_spell_15 rfl (lv_at hl 0 rfl) ?_
    refine xg_X7_43 (pc := 16) (v := .ref (ad 28)) E hw 0 rfl rfl dX7_spell_16 ?_
    refine x_ldcWg (pc := 19) E E.2.2.2.2.2.2.2.1.2.2.2.2.2.1 dX7_spell_19 ?_
    refine lv_aload_n (pc := 22) E.1 E.2.1 dX7_spell_22 rfl (lv_at hl 0 rfl) ?_
    refine xg_X7_19 (pc := 23) (v := .ref (ad 3)) E hw 0 rfl rfl dX7_spell_23 ?_
    refine xg_X7_176 (pc := 26) (v := .int (g0_cap (g7_book s))) E hw 3 rfl rfl dX7_spell_26 ?_
    obtain ⟨v4, g5, hf⟩ := x_bind hf
    refine x_callV (pc := 29) (As := [.ref (G.2.2.1 5), .int (g0_cap (g7_book s))]) (rest := []) (st1 := []) (ws' := (cells7c G ad (g7_tape s) (g7_book s) (g7_trial s) (g7_past s) (g7_ledger s) v4 (g7_told s) (g7_ratesNow s))) E hw hl (c_X3_writeNamed l G (fun k => ad (k + 28)) v2 5 (g0_cap (g7_book s)) g5) xv_X7_300 xd_X3_writeNamed rfl rfl ⟨Nat.le_of_ble_eq_true rfl, Nat.le_of_ble_eq_true rfl⟩ [28] [0, 1, 2, 3, 4, 5, 6, 7, 8, 9, 10, 11, 12, 13, 14, 15, 16, 17, 18, 19, 20, 21, 22, 23, 24, 25, 26, 27, 29, 30] (by decide) ⟨rfl, trivial⟩ (q0 := 28) rfl rfl rfl rfl (Nat.le_of_ble_eq_true rfl) (nw := 31) ⟨rfl, trivial⟩ ⟨⟨_, rfl, rfl⟩, ⟨_, rfl, rfl⟩, ⟨_, rfl, rfl⟩, ⟨_, rfl, rfl⟩, ⟨_, rfl, rfl⟩, ⟨_, rfl, rfl⟩, ⟨_, rfl, rfl⟩, ⟨_, rfl, rfl⟩, ⟨_, rfl, rfl⟩, ⟨_, rfl, rfl⟩, ⟨_, rfl, rfl⟩, ⟨_, rfl, rfl⟩, ⟨_, rfl, rfl⟩, ⟨_, rfl, rfl⟩, ⟨_, rfl, rfl⟩, ⟨_, rfl, rfl⟩, ⟨_, rfl, rfl⟩, ⟨_, rfl, rfl⟩, ⟨_, rfl, rfl⟩, ⟨_, rfl, rfl⟩, ⟨_, rfl, rfl⟩, ⟨_, rfl, rfl⟩, ⟨_, rfl, rfl⟩, ⟨_, rfl, rfl⟩, ⟨_, rfl, rfl⟩, ⟨_, rfl, rfl⟩, ⟨_, rfl, rfl⟩, ⟨_, rfl, rfl⟩, ⟨_, rfl, rfl⟩, ⟨_, rfl, rfl⟩, trivial⟩ rfl rfl (by decide) (by decide) rfl dX7_spell_29 (fun H locs hw => ?_)
    refine lv_aload_n (pc := 32) E.1 E.2.1 dX7_spell_32 rfl (lv_at hl 0 rfl) ?_
    refine xg_X7_43 (pc := 33) (v := .ref (ad 28)) E hw 0 rfl rfl dX7_spell_33 ?_
    obtain ⟨v6, g7, hf⟩ := x_bind hf
    refine x_callV (pc := 36) (As := []) (rest := []) (st1 := []) (ws' := (cells7c G ad (g7_tape s) (g7_book s) (g7_trial s) (g7_past s) (g7_ledger s) v6 (g7_told s) (g7_ratesNow s))) E hw hl (c_X3_writeEnd l G (fun k => ad (k + 28)) v4 g7) xv_X7_315 xd_X3_writeEnd rfl rfl ⟨Nat.le_of_ble_eq_true rfl, Nat.le_of_ble_eq_true rfl⟩ [28] [0, 1, 2, 3, 4, 5, 6, 7, 8, 9, 10, 11, 12, 13, 14, 15, 16, 17, 18, 19, 20, 21, 22, 23, 24, 25, 26, 27, 29, 30] (by decide) ⟨rfl, trivial⟩ (q0 := 28) rfl rfl rfl rfl (Nat.le_of_ble_eq_true rfl) (nw := 31) ⟨rfl, trivial⟩ ⟨⟨_, rfl, rfl⟩, ⟨_, rfl, rfl⟩, ⟨_, rfl, rfl⟩, ⟨_, rfl, rfl⟩, ⟨_, rfl, rfl⟩, ⟨_, rfl, rfl⟩, ⟨_, rfl, rfl⟩, ⟨_, rfl, rfl⟩, ⟨_, rfl, rfl⟩, ⟨_, rfl, rfl⟩, ⟨_, rfl, rfl⟩, ⟨_, rfl, rfl⟩, ⟨_, rfl, rfl⟩, ⟨_, rfl, rfl⟩, ⟨_, rfl, rfl⟩, ⟨_, rfl, rfl⟩, ⟨_, rfl, rfl⟩, ⟨_, rfl, rfl⟩, ⟨_, rfl, rfl⟩, ⟨_, rfl, rfl⟩, ⟨_, rfl, rfl⟩, ⟨_, rfl, rfl⟩, ⟨_, rfl, rfl⟩, ⟨_, rfl, rfl⟩, ⟨_, rfl, rfl⟩, ⟨_, rfl, rfl⟩, ⟨_, rfl, rfl⟩, ⟨_, rfl, rfl⟩, ⟨_, rfl, rfl⟩, ⟨_, rfl, rfl⟩, trivial⟩ rfl rfl (by decide) (by decide) rfl dX7_spell_36 (fun H locs hw => ?_)
    refine lv_aload_n (pc := 39) E.1 E.2.1 dX7_spell_39 rfl (lv_at hl 0 rfl) ?_
    refine xg_X7_43 (pc := 40) (v := .ref (ad 28)) E hw 0 rfl rfl dX7_spell_40 ?_
    refine x_ldcWg (pc := 43) E E.2.2.2.2.2.2.2.1.2.2.2.2.2.2.1 dX7_spell_43 ?_
    refine lv_aload_n (pc := 46) E.1 E.2.1 dX7_spell_46 rfl (lv_at hl 0 rfl) ?_
    refine xg_X7_19 (pc := 47) (v := .ref (ad 3)) E hw 0 rfl rfl dX7_spell_47 ?_
    refine xg_X7_179 (pc := 50) (v := .int (g0_steady (g7_book s))) E hw 3 rfl rfl dX7_spell_50 ?_
    obtain ⟨v8, g9, hf⟩ := x_bind hf
    refine x_callV (pc := 53) (As := [.ref (G.2.2.1 6), .int (g0_steady (g7_book s))]) (rest := []) (st1 := []) (ws' := (cells7c G ad (g7_tape s) (g7_book s) (g7_trial s) (g7_past s) (g7_ledger s) v8 (g7_told s) (g7_ratesNow s))) E hw hl (c_X3_writeNamed l G (fun k => ad (k + 28)) v6 6 (g0_steady (g7_book s)) g9) xv_X7_300 xd_X3_writeNamed rfl rfl ⟨Nat.le_of_ble_eq_true rfl, Nat.le_of_ble_eq_true rfl⟩ [28] [0, 1, 2, 3, 4, 5, 6, 7, 8, 9, 10, 11, 12, 13, 14, 15, 16, 17, 18, 19, 20, 21, 22, 23, 24, 25, 26, 27, 29, 30] (by decide) ⟨rfl, trivial⟩ (q0 := 28) rfl rfl rfl rfl (Nat.le_of_ble_eq_true rfl) (nw := 31) ⟨rfl, trivial⟩ ⟨⟨_, rfl, rfl⟩, ⟨_, rfl, rfl⟩, ⟨_, rfl, rfl⟩, ⟨_, rfl, rfl⟩, ⟨_, rfl, rfl⟩, ⟨_, rfl, rfl⟩, ⟨_, rfl, rfl⟩, ⟨_, rfl, rfl⟩, ⟨_, rfl, rfl⟩, ⟨_, rfl, rfl⟩, ⟨_, rfl, rfl⟩, ⟨_, rfl, rfl⟩, ⟨_, rfl, rfl⟩, ⟨_, rfl, rfl⟩, ⟨_, rfl, rfl⟩, ⟨_, rfl, rfl⟩, ⟨_, rfl, rfl⟩, ⟨_, rfl, rfl⟩, ⟨_, rfl, rfl⟩, ⟨_, rfl, rfl⟩, ⟨_, rfl, rfl⟩, ⟨_, rfl, rfl⟩, ⟨_, rfl, rfl⟩, ⟨_, rfl, rfl⟩, ⟨_, rfl, rfl⟩, ⟨_, rfl, rfl⟩, ⟨_, rfl, rfl⟩, ⟨_, rfl, rfl⟩, ⟨_, rfl, rfl⟩, ⟨_, rfl, rfl⟩, trivial⟩ rfl rfl (by decide) (by decide) rfl dX7_spell_53 (fun H locs hw => ?_)
    refine lv_aload_n (pc := 56) E.1 E.2.1 dX7_spell_56 rfl (lv_at hl 0 rfl) ?_
    refine xg_X7_43 (pc := 57) (v := .ref (ad 28)) E hw 0 rfl rfl dX7_spell_57 ?_
    obtain ⟨v10, g11, hf⟩ := x_bind hf
    refine x_callV (pc := 60) (As := []) (rest := []) (st1 := []) (ws' := (cells7c G ad (g7_tape s) (g7_book s) (g7_trial s) (g7_past s) (g7_ledger s) v10 (g7_told s) (g7_ratesNow s))) E hw hl (c_X3_writeEnd l G (fun k => ad (k + 28)) v8 g11) xv_X7_315 xd_X3_writeEnd rfl rfl ⟨Nat.le_of_ble_eq_true rfl, Nat.le_of_ble_eq_true rfl⟩ [28] [0, 1, 2, 3, 4, 5, 6, 7, 8, 9, 10, 11, 12, 13, 14, 15, 16, 17, 18, 19, 20, 21, 22, 23, 24, 25, 26, 27, 29, 30] (by decide) ⟨rfl, trivial⟩ (q0 := 28) rfl rfl rfl rfl (Nat.le_of_ble_eq_true rfl) (nw := 31) ⟨rfl, trivial⟩ ⟨⟨_, rfl, rfl⟩, ⟨_, rfl, rfl⟩, ⟨_, rfl, rfl⟩, ⟨_, rfl, rfl⟩, ⟨_, rfl, rfl⟩, ⟨_, rfl, rfl⟩, ⟨_, rfl, rfl⟩, ⟨_, rfl, rfl⟩, ⟨_, rfl, rfl⟩, ⟨_, rfl, rfl⟩, ⟨_, rfl, rfl⟩, ⟨_, rfl, rfl⟩, ⟨_, rfl, rfl⟩, ⟨_, rfl, rfl⟩, ⟨_, rfl, rfl⟩, ⟨_, rfl, rfl⟩, ⟨_, rfl, rfl⟩, ⟨_, rfl, rfl⟩, ⟨_, rfl, rfl⟩, ⟨_, rfl, rfl⟩, ⟨_, rfl, rfl⟩, ⟨_, rfl, rfl⟩, ⟨_, rfl, rfl⟩, ⟨_, rfl, rfl⟩, ⟨_, rfl, rfl⟩, ⟨_, rfl, rfl⟩, ⟨_, rfl, rfl⟩, ⟨_, rfl, rfl⟩, ⟨_, rfl, rfl⟩, ⟨_, rfl, rfl⟩, trivial⟩ rfl rfl (by decide) (by decide) rfl dX7_spell_60 (fun H locs hw => ?_)
    refine lv_iconst (v := 0) (pc := 63) E.1 E.2.1 dX7_spell_63 (by decide) ?_
    refine lv_istore_n (lv' := [(2, .int 0), (0, .ref (ad 0)), (1, .int x1)]) (pc := 64) E.1 E.2.1 dX7_spell_64 rfl hl (by decide) rfl (fun ls hl => ?_)
    exact wl_X7_spell_p65 E hr hk  (u7_pen s v10) 0 z hw (lv_sub hl [1, 0] rfl) hf
  · have hf := x_neg q1 hf
    refine lv_iconst (v := (-1)) (pc := 5) E.1 E.2.1 dX7_spell_5 (by decide) ?_
    obtain rfl := Option.some.inj hf
    exact x_reti (pc := 6) E hr hk hw dX7_spell_6
set_option maxHeartbeats 4000000 in
set_option maxRecDepth 100000 in
theorem c_X7_spell (l : Launch) (G : xG) (ad : Nat → Nat) (s : S7) (x1 : Int32) {z : Int32 × S7} (hf : f_X7_spell s x1 = some z) : xC l yX7_spell cX7_spell 3 (some .int) (rm_X7_spell) G [.ref (ad 0), .int x1] (cells7 G ad s) (some (.int z.1)) (cells7 G ad z.2) :=
  x_met (by decide) rfl (Nat.le_of_ble_eq_true rfl) (fun p e sS m below meth c E hr hk ls hl hw => w_X7_spell_p0 E hr hk s x1 z hw hl hf)
set_option maxHeartbeats 4000000 in
set_option maxRecDepth 100000 in
theorem w_X7_count_p0 {p : Program} {l : Launch} {e : Env} {sS : State} {m : MethodId} {args : Array Value} {below : List Frame} {meth : Method} {c : Code} {G : xG} {W0 : va_W} {ad : Nat → Nat}   (E : xE p sS m args c cX7_count 2 RX7 G (x_in W0)) (hr : meth.sig.returnType = (some .int)) (hk : meth.locks = false)  : ∀ (s' : S7) (x1' : Int32) (z : Int32) {H : Heap} {locs : List Loc} {ls : Array Slot}, xW G (x_in W0) sS.heap (cells7 G ad s') H locs → lv_has ls 2 [(0, .ref (ad 0)), (1, .int x1')] → f_X7_count  s' x1' = some z → W p l e (rm_X7_count) sS m args below meth c H locs 0 0 (MQ below (xQ G W0 (cells7 G ad s') (some (.int z))) args sS 0 0 (x_in W0)) (F0 m 0 ls []) := by
  intro s x1 z H locs ls hw hl hf
  unfold f_X7_count at hf
  refine lv_iload_n (pc := 0) E.1 E.2.1 dX7_count_0 rfl (lv_at hl 1 rfl) ?_
  by_cases q1 : x1 = 0
  · have hf := x_pos q1 hf
    refine x_swi (pc := 1) (v := 0) (tgt := 52) E q1 dX7_count_1 (by decide) (by decide) rfl (by decide) ?_
    refine lv_aload_n (pc := 52) E.1 E.2.1 dX7_count_52 rfl (lv_at hl 0 rfl) ?_
    refine xg_X7_19 (pc := 53) (v := .ref (ad 3)) E hw 0 rfl rfl dX7_count_53 ?_
    refine xg_X7_80 (pc := 56) (v := .int (g0_fleets (g7_book s))) E hw 3 rfl rfl dX7_count_56 ?_
    obtain rfl := Option.some.inj hf
    exact x_reti (pc := 59) E hr hk hw dX7_count_59
  · have hf := x_neg q1 hf
    by_cases q2 : x1 = 1
    · have hf := x_pos q2 hf
      refine x_swi (pc := 1) (v := 1) (tgt := 60) E q2 dX7_count_1 (by decide) (by decide) rfl (by decide) ?_
      refine lv_aload_n (pc := 60) E.1 E.2.1 dX7_count_60 rfl (lv_at hl 0 rfl) ?_
      refine xg_X7_19 (pc := 61) (v := .ref (ad 3)) E hw 0 rfl rfl dX7_count_61 ?_
      refine xg_X7_266 (pc := 64) (v := .int (g0_claims (g7_book s))) E hw 3 rfl rfl dX7_count_64 ?_
      obtain rfl := Option.some.inj hf
      exact x_reti (pc := 67) E hr hk hw dX7_count_67
    · have hf := x_neg q2 hf
      by_cases q3 : x1 = 2
      · have hf := x_pos q3 hf
        refine x_swi (pc := 1) (v := 2) (tgt := 68) E q3 dX7_count_1 (by decide) (by decide) rfl (by decide) ?_
        refine lv_aload_n (pc := 68) E.1 E.2.1 dX7_count_68 rfl (lv_at hl 0 rfl) ?_
        refine xg_X7_19 (pc := 69) (v := .ref (ad 3)) E hw 0 rfl rfl dX7_count_69 ?_
        refine xg_X7_176 (pc := 72) (v := .int (g0_cap (g7_book s))) E hw 3 rfl rfl dX7_count_72 ?_
        obtain rfl := Option.some.inj hf
        exact x_reti (pc := 75) E hr hk hw dX7_count_75
      · have hf := x_neg q3 hf
        by_cases q4 : x1 = 3
        · have hf := x_pos q4 hf
          refine x_swi (pc := 1) (v := 3) (tgt := 76) E q4 dX7_count_1 (by decide) (by decide) rfl (by decide) ?_
          refine lv_aload_n (pc := 76) E.1 E.2.1 dX7_count_76 rfl (lv_at hl 0 rfl) ?_
          refine xg_X7_19 (pc := 77) (v := .ref (ad 3)) E hw 0 rfl rfl dX7_count_77 ?_
          refine xg_X7_179 (pc := 80) (v := .int (g0_steady (g7_book s))) E hw 3 rfl rfl dX7_count_80 ?_
          obtain rfl := Option.some.inj hf
          exact x_reti (pc := 83) E hr hk hw dX7_count_83
        · have hf := x_neg q4 hf
          by_cases q5 : x1 = 4
          · have hf := x_pos q5 hf
            refine x_swi (pc := 1) (v := 4) (tgt := 84) E q5 dX7_count_1 (by decide) (by decide) rfl (by decide) ?_
            refine lv_aload_n (pc := 84) E.1 E.2.1 dX7_count_84 rfl (lv_at hl 0 rfl) ?_
            refine xg_X7_29 (pc := 85) (v := .ref (ad 11)) E hw 0 rfl rfl dX7_count_85 ?_
            obtain ⟨v6, g7, hf⟩ := x_bind hf
            refine x_callV (pc := 88) (As := []) (rest := []) (st1 := [.int v6]) (ws' := (cells7 G ad s)) E hw hl (c_X2_size l G (fun k => ad (k + 11)) (g7_past s) g7) xv_X7_182 xd_X2_size rfl rfl ⟨Nat.le_of_ble_eq_true rfl, Nat.le_of_ble_eq_true rfl⟩ [11, 12] [0, 1, 2, 3, 4, 5, 6, 7, 8, 9, 10, 13, 14, 15, 16, 17, 18, 19, 20, 21, 22, 23, 24, 25, 26, 27, 28, 29, 30] (by decide) ⟨rfl, rfl, trivial⟩ (q0 := 11) rfl rfl rfl rfl (Nat.le_of_ble_eq_true rfl) (nw := 31) ⟨rfl, rfl, trivial⟩ ⟨⟨_, rfl, rfl⟩, ⟨_, rfl, rfl⟩, ⟨_, rfl, rfl⟩, ⟨_, rfl, rfl⟩, ⟨_, rfl, rfl⟩, ⟨_, rfl, rfl⟩, ⟨_, rfl, rfl⟩, ⟨_, rfl, rfl⟩, ⟨_, rfl, rfl⟩, ⟨_, rfl, rfl⟩, ⟨_, rfl, rfl⟩, ⟨_, rfl, rfl⟩, ⟨_, rfl, rfl⟩, ⟨_, rfl, rfl⟩, ⟨_, rfl, rfl⟩, ⟨_, rfl, rfl⟩, ⟨_, rfl, rfl⟩, ⟨_, rfl, rfl⟩, ⟨_, rfl, rfl⟩, ⟨_, rfl, rfl⟩, ⟨_, rfl, rfl⟩, ⟨_, rfl, rfl⟩, ⟨_, rfl, rfl⟩, ⟨_, rfl, rfl⟩, ⟨_, rfl, rfl⟩, ⟨_, rfl, rfl⟩, ⟨_, rfl, rfl⟩, ⟨_, rfl, rfl⟩, ⟨_, rfl, rfl⟩, trivial⟩ rfl rfl (by decide) (by decide) rfl dX7_count_88 (fun H locs hw => ?_)
            obtain rfl := Option.some.inj hf
            exact x_reti (pc := 91) E hr hk hw dX7_count_91
          · have hf := x_neg q5 hf
            by_cases q8 : x1 = 5
            · have hf := x_pos q8 hf
              refine x_swi (pc := 1) (v := 5) (tgt := 92) E q8 dX7_count_1 (by decide) (by decide) rfl (by decide) ?_
              refine lv_aload_n (pc := 92) E.1 E.2.1 dX7_count_92 rfl (lv_at hl 0 rfl) ?_
              refine xg_X7_10 (pc := 93) (v := .ref (ad 1)) E hw 0 rfl rfl dX7_count_93 ?_
              obtain ⟨v9, g10, hf⟩ := x_bind hf
              refine x_callV (pc := 96) (As := []) (rest := []) (st1 := [.int v9]) (ws' := (cells7 G ad s)) E hw hl (c_X6_size l G (fun k => ad (k + 1)) (g7_tape s) g10) xv_X7_58 xd_X6_size rfl rfl ⟨Nat.le_of_ble_eq_true rfl, Nat.le_of_ble_eq_true rfl⟩ [1, 2] [0, 3, 4, 5, 6, 7, 8, 9, 10, 11, 12, 13, 14, 15, 16, 17, 18, 19, 20, 21, 22, 23, 24, 25, 26, 27, 28, 29, 30] (by decide) ⟨rfl, rfl, trivial⟩ (q0 := 1) rfl rfl rfl rfl (Nat.le_of_ble_eq_true rfl) (nw := 31) ⟨rfl, rfl, trivial⟩ ⟨⟨_, rfl, rfl⟩, ⟨_, rfl, rfl⟩, ⟨_, rfl, rfl⟩, ⟨_, rfl, rfl⟩, ⟨_, rfl, rfl⟩, ⟨_, rfl, rfl⟩, ⟨_, rfl, rfl⟩, ⟨_, rfl, rfl⟩, ⟨_, rfl, rfl⟩, ⟨_, rfl, rfl⟩, ⟨_, rfl, rfl⟩, ⟨_, rfl, rfl⟩, ⟨_, rfl, rfl⟩, ⟨_, rfl, rfl⟩, ⟨_, rfl, rfl⟩, ⟨_, rfl, rfl⟩, ⟨_, rfl, rfl⟩, ⟨_, rfl, rfl⟩, ⟨_, rfl, rfl⟩, ⟨_, rfl, rfl⟩, ⟨_, rfl, rfl⟩, ⟨_, rfl, rfl⟩, ⟨_, rfl, rfl⟩, ⟨_, rfl, rfl⟩, ⟨_, rfl, rfl⟩, ⟨_, rfl, rfl⟩, ⟨_, rfl, rfl⟩, ⟨_, rfl, rfl⟩, ⟨_, rfl, rfl⟩, trivial⟩ rfl rfl (by decide) (by decide) rfl dX7_count_96 (fun H locs hw => ?_)
              obtain rfl := Option.some.inj hf
              exact x_reti (pc := 99) E hr hk hw dX7_count_99
            · have hf := x_neg q8 hf
              by_cases q11 : x1 = 6
              · have hf := x_pos q11 hf
                refine x_swi (pc := 1) (v := 6) (tgt := 100) E q11 dX7_count_1 (by decide) (by decide) rfl (by decide) ?_
                refine lv_aload_n (pc := 100) E.1 E.2.1 dX7_count_100 rfl (lv_at hl 0 rfl) ?_
                refine xg_X7_19 (pc := 101) (v := .ref (ad 3)) E hw 0 rfl rfl dX7_count_101 ?_
                obtain ⟨v12, g13, hf⟩ := x_bind hf
                refine x_callV (pc := 104) (As := []) (rest := []) (st1 := [.int v12]) (ws' := (cells7 G ad s)) E hw hl (c_X0_allClaimsAboveCap l G (fun k => ad (k + 3)) (g7_book s) g13) xv_X7_329 xd_X0_allClaimsAboveCap rfl rfl ⟨Nat.le_of_ble_eq_true rfl, Nat.le_of_ble_eq_true rfl⟩ [3, 4, 5, 6] [0, 1, 2, 7, 8, 9, 10, 11, 12, 13, 14, 15, 16, 17, 18, 19, 20, 21, 22, 23, 24, 25, 26, 27, 28, 29, 30] (by decide) ⟨rfl, rfl, rfl, rfl, trivial⟩ (q0 := 3) rfl rfl rfl rfl (Nat.le_of_ble_eq_true rfl) (nw := 31) ⟨rfl, rfl, rfl, rfl, trivial⟩ ⟨⟨_, rfl, rfl⟩, ⟨_, rfl, rfl⟩, ⟨_, rfl, rfl⟩, ⟨_, rfl, rfl⟩, ⟨_, rfl, rfl⟩, ⟨_, rfl, rfl⟩, ⟨_, rfl, rfl⟩, ⟨_, rfl, rfl⟩, ⟨_, rfl, rfl⟩, ⟨_, rfl, rfl⟩, ⟨_, rfl, rfl⟩, ⟨_, rfl, rfl⟩, ⟨_, rfl, rfl⟩, ⟨_, rfl, rfl⟩, ⟨_, rfl, rfl⟩, ⟨_, rfl, rfl⟩, ⟨_, rfl, rfl⟩, ⟨_, rfl, rfl⟩, ⟨_, rfl, rfl⟩, ⟨_, rfl, rfl⟩, ⟨_, rfl, rfl⟩, ⟨_, rfl, rfl⟩, ⟨_, rfl, rfl⟩, ⟨_, rfl, rfl⟩, ⟨_, rfl, rfl⟩, ⟨_, rfl, rfl⟩, ⟨_, rfl, rfl⟩, trivial⟩ rfl rfl (by decide) (by decide) rfl dX7_count_104 (fun H locs hw => ?_)
                obtain rfl := Option.some.inj hf
                exact x_reti (pc := 107) E hr hk hw dX7_count_107
              · have hf := x_neg q11 hf
                by_cases q14 : x1 = 7
                · have hf := x_pos q14 hf
                  refine x_swi (pc := 1) (v := 7) (tgt := 108) E q14 dX7_count_1 (by decide) (by decide) rfl (by decide) ?_
                  refine lv_aload_n (pc := 108) E.1 E.2.1 dX7_count_108 rfl (lv_at hl 0 rfl) ?_
                  refine xg_X7_19 (pc := 109) (v := .ref (ad 3)) E hw 0 rfl rfl dX7_count_109 ?_
                  obtain ⟨v15, g16, hf⟩ := x_bind hf
                  refine x_callV (pc := 112) (As := []) (rest := []) (st1 := [.int v15]) (ws' := (cells7 G ad s)) E hw hl (c_X0_fleetsWithoutYears l G (fun k => ad (k + 3)) (g7_book s) g16) xv_X7_332 xd_X0_fleetsWithoutYears rfl rfl ⟨Nat.le_of_ble_eq_true rfl, Nat.le_of_ble_eq_true rfl⟩ [3, 4, 5, 6] [0, 1, 2, 7, 8, 9, 10, 11, 12, 13, 14, 15, 16, 17, 18, 19, 20, 21, 22, 23, 24, 25, 26, 27, 28, 29, 30] (by decide) ⟨rfl, rfl, rfl, rfl, trivial⟩ (q0 := 3) rfl rfl rfl rfl (Nat.le_of_ble_eq_true rfl) (nw := 31) ⟨rfl, rfl, rfl, rfl, trivial⟩ ⟨⟨_, rfl, rfl⟩, ⟨_, rfl, rfl⟩, ⟨_, rfl, rfl⟩, ⟨_, rfl, rfl⟩, ⟨_, rfl, rfl⟩, ⟨_, rfl, rfl⟩, ⟨_, rfl, rfl⟩, ⟨_, rfl, rfl⟩, ⟨_, rfl, rfl⟩, ⟨_, rfl, rfl⟩, ⟨_, rfl, rfl⟩, ⟨_, rfl, rfl⟩, ⟨_, rfl, rfl⟩, ⟨_, rfl, rfl⟩, ⟨_, rfl, rfl⟩, ⟨_, rfl, rfl⟩, ⟨_, rfl, rfl⟩, ⟨_, rfl, rfl⟩, ⟨_, rfl, rfl⟩, ⟨_, rfl, rfl⟩, ⟨_, rfl, rfl⟩, ⟨_, rfl, rfl⟩, ⟨_, rfl, rfl⟩, ⟨_, rfl, rfl⟩, ⟨_, rfl, rfl⟩, ⟨_, rfl, rfl⟩, ⟨_, rfl, rfl⟩, trivial⟩ rfl rfl (by decide) (by decide) rfl dX7_count_112 (fun H locs hw => ?_)
                  obtain rfl := Option.some.inj hf
                  exact x_reti (pc := 115) E hr hk hw dX7_count_115
                · have hf := x_neg q14 hf
                  by_cases q17 : x1 = 8
                  · have hf := x_pos q17 hf
                    refine x_swi (pc := 1) (v := 8) (tgt := 116) E q17 dX7_count_1 (by decide) (by decide) rfl (by decide) ?_
                    refine lv_aload_n (pc := 116) E.1 E.2.1 dX7_count_116 rfl (lv_at hl 0 rfl) ?_
                    refine xg_X7_19 (pc := 117) (v := .ref (ad 3)) E hw 0 rfl rfl dX7_count_117 ?_
                    obtain ⟨v18, g19, hf⟩ := x_bind hf
                    refine x_callV (pc := 120) (As := []) (rest := []) (st1 := [.int v18]) (ws' := (cells7 G ad s)) E hw hl (c_X0_yearsOfAll l G (fun k => ad (k + 3)) (g7_book s) g19) xv_X7_335 xd_X0_yearsOfAll rfl rfl ⟨Nat.le_of_ble_eq_true rfl, Nat.le_of_ble_eq_true rfl⟩ [3, 4, 5, 6] [0, 1, 2, 7, 8, 9, 10, 11, 12, 13, 14, 15, 16, 17, 18, 19, 20, 21, 22, 23, 24, 25, 26, 27, 28, 29, 30] (by decide) ⟨rfl, rfl, rfl, rfl, trivial⟩ (q0 := 3) rfl rfl rfl rfl (Nat.le_of_ble_eq_true rfl) (nw := 31) ⟨rfl, rfl, rfl, rfl, trivial⟩ ⟨⟨_, rfl, rfl⟩, ⟨_, rfl, rfl⟩, ⟨_, rfl, rfl⟩, ⟨_, rfl, rfl⟩, ⟨_, rfl, rfl⟩, ⟨_, rfl, rfl⟩, ⟨_, rfl, rfl⟩, ⟨_, rfl, rfl⟩, ⟨_, rfl, rfl⟩, ⟨_, rfl, rfl⟩, ⟨_, rfl, rfl⟩, ⟨_, rfl, rfl⟩, ⟨_, rfl, rfl⟩, ⟨_, rfl, rfl⟩, ⟨_, rfl, rfl⟩, ⟨_, rfl, rfl⟩, ⟨_, rfl, rfl⟩, ⟨_, rfl, rfl⟩, ⟨_, rfl, rfl⟩, ⟨_, rfl, rfl⟩, ⟨_, rfl, rfl⟩, ⟨_, rfl, rfl⟩, ⟨_, rfl, rfl⟩, ⟨_, rfl, rfl⟩, ⟨_, rfl, rfl⟩, ⟨_, rfl, rfl⟩, ⟨_, rfl, rfl⟩, trivial⟩ rfl rfl (by decide) (by decide) rfl dX7_count_120 (fun H locs hw => ?_)
                    obtain rfl := Option.some.inj hf
                    exact x_reti (pc := 123) E hr hk hw dX7_count_123
                  · have hf := x_neg q17 hf
                    refine x_swo (pc := 1) (n := 9) (tgt := 124) E (lt_s (lt_s (lt_s (lt_s (lt_s (lt_s (lt_s (lt_s (lt_s lt_0 q1) q2) q3) q4) q5) q8) q11) q14) q17) (by decide) dX7_count_1 (by decide) ?_
                    refine lv_iconst (v := (-1)) (pc := 124) E.1 E.2.1 dX7_count_124 (by decide) ?_
                    obtain rfl := Option.some.inj hf
                    exact x_reti (pc := 125) E hr hk hw dX7_count_125
set_option maxHeartbeats 4000000 in
set_option maxRecDepth 100000 in
theorem c_X7_count (l : Launch) (G : xG) (ad : Nat → Nat) (s : S7) (x1 : Int32) {z : Int32} (hf : f_X7_count s x1 = some z) : xC l yX7_count cX7_count 2 (some .int) (rm_X7_count) G [.ref (ad 0), .int x1] (cells7 G ad s) (some (.int z)) (cells7 G ad s) :=
  x_met (by decide) rfl (Nat.le_of_ble_eq_true rfl) (fun p e sS m below meth c E hr hk ls hl hw => w_X7_count_p0 E hr hk s x1 z hw hl hf)
